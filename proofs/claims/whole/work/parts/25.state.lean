/-! HISTORY, STATE -/
/-- a moment: letters, sources, which rules are on -/
abbrev aM : Type := List Int32 × List Int32 × Nat
def isHist (sh : pmS) (k : Nat) : Prop := pmOb sh k 1 [some (some (k + 1)), none, none] ∧ pmAy sh (k + 1) 4 8 ((List.range 8).map fun i => some (k + 2 + 6 * i)) ∧ ∀ i, i < 8 → isMom sh (k + 2 + 6 * i)
def mIs (M : pmM) (k : Nat) (m : aM) : Prop := momIs M k m.1 m.2.1 m.2.2
/-- the latest first -/
def histAt (M : pmM) (k : Nat) (hs : List aM) (nx : Nat) : Prop := nx < 8 ∧ M k 1 = nI hs.length ∧ M k 2 = nI nx ∧ hs.length ≤ 8 ∧ ∀ i m, hs[i]? = some m → mIs M (k + 2 + 6 * ((nx + 15 - i) % 8)) m
def histIs (M : pmM) (k : Nat) (hs : List aM) : Prop := ∃ nx, histAt M k hs nx
theorem histAt.mv {M M' : pmM} {k a b nx : Nat} {hs : List aM} (h : histAt M k hs nx) (hf : fr a b M M') (hk : k + 50 ≤ a ∨ b ≤ k) : histAt M' k hs nx := by
  obtain ⟨h0, h1, h2, h3, h4⟩ := h
  refine ⟨h0, by rw [hf k (by omega)]; exact h1, by rw [hf k (by omega)]; exact h2, h3, fun i m hi => momIs.mv (h4 i m hi) hf (by omega)⟩
theorem histIs.mv {M M' : pmM} {k a b : Nat} {hs : List aM} (h : histIs M k hs) (hf : fr a b M M') (hk : k + 50 ≤ a ∨ b ≤ k) : histIs M' k hs := by
  obtain ⟨nx, h⟩ := h
  exact ⟨nx, h.mv hf hk⟩
theorem ruleIs.ag {M M' : pmM} {k : Nat} {r : aR} (h : ruleIs M k r) (ha : ∀ x, k ≤ x → x < k + 5 → M' x = M x) : ruleIs M' k r := ⟨by rw [ha k (by omega) (by omega)]; exact h.1, h.2.1.eq (ha _ (by omega) (by omega)) (ha _ (by omega) (by omega)), h.2.2.eq (ha _ (by omega) (by omega)) (ha _ (by omega) (by omega))⟩
theorem bookIs.ag {M M' : pmM} {k : Nat} {rs : List aR} (h : bookIs M k rs) (ha : ∀ x, k ≤ x → x < k + 57 → M' x = M x) : bookIs M' k rs := by
  refine ⟨by rw [ha k (by omega) (by omega)]; exact h.1, h.2.1, fun i r hi => ⟨(h.2.2 i r hi).1.ag (fun x h1 h2 => ha x (by omega) ?_), (h.2.2 i r hi).2⟩⟩
  have := (List.getElem?_eq_some_iff.mp hi).1
  have := h.2.1
  omega
section HST
variable {sh : pmS} {M : pmM} {N : pmN} {Q : pmPost} {k : Nat} {hs : List aM}
theorem c_Hist_size (hb : isHist sh k) (hx : histIs M k hs) (kk : Q (some (.int (nI hs.length))) sh M N) : PW mX1_size 0 [.ref k] [] sh M N Q := by
  obtain ⟨h1, h2, h3⟩ := hb
  obtain ⟨nx, x0, x1, x2, x3, x4⟩ := hx
  refine pw_aload_n 1 rfl rfl rfl ?_
  refine pw_getI 4 rfl rfl (by first | assumption | exact ⟨by decide, rfl⟩) rfl ?_
  rw [x1]
  exact pw_iret rfl rfl (kk)
theorem c_Hist_clear (hb : isHist sh k) (hx : histIs M k hs) (kk : ∀ M', fr k (k + 1) M M' → histIs M' k [] → Q none sh M' N) : PW mX1_clear 0 [.ref k] [] sh M N Q := by
  obtain ⟨h1, h2, h3⟩ := hb
  obtain ⟨nx, x0, x1, x2, x3, x4⟩ := hx
  refine pw_aload_n 1 rfl rfl rfl ?_
  refine pw_iconst (v := nI 0) 2 rfl rfl (by decide) ?_
  refine pw_putI 5 rfl rfl (by first | assumption | exact ⟨by decide, rfl⟩) rfl (by decide) ?_
  exact pw_vret rfl (kk _ (fr_st M 1 _ (Nat.le_refl k) (Nat.lt_succ_self k)) ⟨nx, x0, st_same _ _ _ _, by rw [st_row _ _ _ _ (by decide)]; exact x2, Nat.zero_le _, fun i r hi => by simp at hi⟩)
theorem c_Hist_moment (hb : isHist sh k) {z : Int32} {i : Nat} (hz : fmd8 z = nI i) (hi : i < 8) (kk : Q (some (.ref (k + 2 + 6 * i))) sh M N) : PW mX1_moment 0 [.ref k, .int z] [] sh M N Q := by
  obtain ⟨h1, h2, h3⟩ := hb
  refine pw_aload_n 1 rfl rfl rfl ?_
  refine pw_getR 4 rfl rfl (by first | assumption | exact ⟨by decide, rfl⟩) rfl ?_
  refine pw_iload_n 5 rfl rfl rfl ?_
  refine pw_bipush (v := nI 8) 7 rfl rfl (by decide) ?_
  refine pw_cS2 10 rfl rfl rfl (Nat.le_of_ble_eq_true rfl) rfl rfl (Nat.le_of_ble_eq_true rfl) (c_floorMod8 ?_)
  rw [hz]
  refine pw_pI ?_
  have hg : ((List.range 8).map fun i => some (k + 2 + 6 * i))[i]? = some (some (k + 2 + 6 * i)) := by
    rw [List.getElem?_map, List.getElem?_range hi]; rfl
  refine pw_aald _ 11 rfl rfl (by first | assumption | exact ⟨by decide, rfl, by decide⟩) (by decide) (by with_reducible rfl) (by first | assumption | omega) (by first | assumption | rfl) ?_
  exact pw_aret rfl (kk)
theorem c_Hist_add {k2 : Nat} {m : aM} (hb : isHist sh k) (hx : histIs M k hs) (hm : isMom sh k2) (hy : mIs M k2 m) (hd : k2 + 6 ≤ k ∨ k + 50 ≤ k2) (kk : ∀ M', fr k (k + 50) M M' → histIs M' k ((m :: hs).take 8) → Q none sh M' N) : PW mX1_add 0 [.ref k, .ref k2] [] sh M N Q := by
  have hb0 := hb
  obtain ⟨h1, h2, h3⟩ := hb
  obtain ⟨nx, x0, x1, x2, x3, x4⟩ := hx
  refine pw_aload_n 1 rfl rfl rfl ?_
  refine pw_aload_n 2 rfl rfl rfl ?_
  refine pw_getI 5 rfl rfl (by first | assumption | exact ⟨by decide, rfl⟩) rfl ?_
  rw [x2]
  refine pw_cV1 8 rfl rfl (by first | assumption | exact ⟨by decide, rfl⟩) rfl (Nat.le_of_ble_eq_true rfl) rfl rfl (Nat.le_of_ble_eq_true rfl) (c_Hist_moment hb0 (i := nx) (by rw [fmd8_n nx (by omega), Nat.mod_eq_of_lt x0]) x0 ?_)
  refine pw_pR ?_
  have o1 := (h3 nx x0).1
  refine pw_aload_n 9 rfl rfl rfl ?_
  refine pw_cV1 12 rfl rfl (by first | assumption | exact ⟨by decide, rfl⟩) rfl (Nat.le_of_ble_eq_true rfl) rfl rfl (Nat.le_of_ble_eq_true rfl) (c_Mom_takeFrom (h3 nx x0) hm hy (by omega) (fun M1 f1 r1 => ?_))
  refine pw_pV ?_
  refine pw_aload_n 13 rfl rfl rfl ?_
  refine pw_aload_n 14 rfl rfl rfl ?_
  refine pw_getI 17 rfl rfl (by first | assumption | exact ⟨by decide, rfl⟩) rfl ?_
  refine pw_iconst (v := nI 1) 18 rfl rfl (by decide) ?_
  rw [f1 k (by omega), x2]
  first | refine pw_iaddN 19 rfl rfl (by with_reducible rfl) (by with_reducible rfl) ?_ | refine pw_iadd 19 rfl rfl ?_
  refine pw_bipush (v := nI 8) 21 rfl rfl (by decide) ?_
  refine pw_cS2 24 rfl rfl rfl (Nat.le_of_ble_eq_true rfl) rfl rfl (Nat.le_of_ble_eq_true rfl) (c_floorMod8 ?_)
  rw [fmd8_n (nx + 1) (by omega)]
  refine pw_pI ?_
  refine pw_putI 27 rfl rfl (by first | assumption | exact ⟨by decide, rfl⟩) rfl (by decide) ?_
  refine pw_aload_n 28 rfl rfl rfl ?_
  refine pw_aload_n 29 rfl rfl rfl ?_
  refine pw_getI 32 rfl rfl (by first | assumption | exact ⟨by decide, rfl⟩) rfl ?_
  refine pw_iconst (v := nI 1) 33 rfl rfl (by decide) ?_
  rw [st_row _ _ _ _ (by decide), f1 k (by omega), x1]
  first | refine pw_iaddN 34 rfl rfl (by with_reducible rfl) (by with_reducible rfl) ?_ | refine pw_iadd 34 rfl rfl ?_
  refine pw_bipush (v := nI 8) 36 rfl rfl (by decide) ?_
  refine pw_cS2 39 rfl rfl rfl (Nat.le_of_ble_eq_true rfl) rfl rfl (Nat.le_of_ble_eq_true rfl) (c_min (by omega) (by decide) ?_)
  refine pw_pI ?_
  refine pw_putI 42 rfl rfl (by first | assumption | exact ⟨by decide, rfl⟩) rfl (by decide) ?_
  refine pw_vret rfl (kk _ (fun x h => ?_) ⟨(nx + 1) % 8, Nat.mod_lt _ (by decide), ?_, ?_, ?_, fun i m' hi => ?_⟩)
  · rw [st_ne _ _ _ _ (by omega), st_ne _ _ _ _ (by omega)]; exact f1 x (by omega)
  · rw [st_same, List.length_take, List.length_cons, Nat.min_comm]
  · rw [st_row _ _ _ _ (by decide), st_same]
  · rw [List.length_take]; omega
  · have hi8 : i < 8 := by
      have := (List.getElem?_eq_some_iff.mp hi).1
      rw [List.length_take] at this; omega
    rw [List.getElem?_take] at hi
    rw [if_pos hi8] at hi
    have f9 : fr k (k + 1) M1 (pmSt (pmSt M1 k 2 (nI ((nx + 1) % 8))) k 1 (nI (min (hs.length + 1) 8))) := fun x h => by rw [st_ne _ _ _ _ (by omega), st_ne _ _ _ _ (by omega)]
    cases i with
    | zero =>
      cases hi
      have e : ((nx + 1) % 8 + 15 - 0) % 8 = nx := by omega
      rw [e]
      exact momIs.mv r1 f9 (by omega)
    | succ i =>
      rw [List.getElem?_cons_succ] at hi
      have e : ((nx + 1) % 8 + 15 - (i + 1)) % 8 = (nx + 15 - i) % 8 := by omega
      rw [e]
      exact momIs.mv (momIs.mv (x4 i m' hi) f1 (by omega)) f9 (by omega)
theorem c_Hist_giveBack {k2 : Nat} (hb : isHist sh k) (hx : histIs M k hs) (hm : isMom sh k2) (hd : k2 + 6 ≤ k ∨ k + 50 ≤ k2) (k0 : hs = [] → Q (some (.int (nI 0))) sh M N)
    (kk : ∀ m t M', hs = m :: t → (∀ x, (x < k ∨ k + 1 ≤ x) → (x < k2 ∨ k2 + 6 ≤ x) → M' x = M x) → histIs M' k t → mIs M' k2 m → Q (some (.int (nI 1))) sh M' N) : PW mX1_giveBack 0 [.ref k, .ref k2] [] sh M N Q := by
  have hb0 := hb
  obtain ⟨h1, h2, h3⟩ := hb
  obtain ⟨nx, x0, x1, x2, x3, x4⟩ := hx
  refine pw_aload_n 1 rfl rfl rfl ?_
  refine pw_getI 4 rfl rfl (by first | assumption | exact ⟨by decide, rfl⟩) rfl ?_
  rw [x1]
  cases hs with
  | nil =>
    refine pw_if_gt_f 7 rfl rfl (by decide) ?_
    refine pw_iconst (v := nI 0) 8 rfl rfl (by decide) ?_
    exact pw_zret rfl rfl (by first | exact Or.inl rfl | exact Or.inr rfl | assumption) (k0 rfl)
  | cons m t =>
    skip
    refine pw_if_gt_t 9 rfl rfl (by have := (nI_ltI (a := 0) (b := (m :: t).length) (by decide) (by omega)).mpr (by simp); exact this) ?_
    refine pw_aload_n 10 rfl rfl rfl ?_
    refine pw_dup 11 rfl rfl rfl ?_
    refine pw_getI 14 rfl rfl (by first | assumption | exact ⟨by decide, rfl⟩) rfl ?_
    refine pw_iconst (v := nI 1) 15 rfl rfl (by decide) ?_
    rw [x1]
    have x3' : t.length + 1 ≤ 8 := x3
    rw [List.length_cons]
    first | refine pw_isubN 16 rfl rfl (by with_reducible rfl) (by with_reducible rfl) (by omega) ?_ | refine pw_isub 16 rfl rfl ?_
    refine pw_putI 19 rfl rfl (by first | assumption | exact ⟨by decide, rfl⟩) rfl (by decide) ?_
    refine pw_aload_n 20 rfl rfl rfl ?_
    refine pw_aload_n 21 rfl rfl rfl ?_
    refine pw_getI 24 rfl rfl (by first | assumption | exact ⟨by decide, rfl⟩) rfl ?_
    refine pw_iconst (v := nI 1) 25 rfl rfl (by decide) ?_
    rw [st_row _ _ _ _ (by decide), x2]
    refine pw_isub 26 rfl rfl ?_
    refine pw_bipush (v := nI 8) 28 rfl rfl (by decide) ?_
    refine pw_cS2 31 rfl rfl rfl (Nat.le_of_ble_eq_true rfl) rfl rfl (Nat.le_of_ble_eq_true rfl) (c_floorMod8 ?_)
    rw [fmd8_sub nx (by omega) 1 (by decide)]
    refine pw_pI ?_
    refine pw_putI 34 rfl rfl (by first | assumption | exact ⟨by decide, rfl⟩) rfl (by decide) ?_
    refine pw_aload_n 35 rfl rfl rfl ?_
    refine pw_aload_n 36 rfl rfl rfl ?_
    refine pw_aload_n 37 rfl rfl rfl ?_
    refine pw_getI 40 rfl rfl (by first | assumption | exact ⟨by decide, rfl⟩) rfl ?_
    rw [st_same]
    have hq : (nx + 16 - 1) % 8 < 8 := Nat.mod_lt _ (by decide)
    skip
    refine pw_cV1 43 rfl rfl (by first | assumption | exact ⟨by decide, rfl⟩) rfl (Nat.le_of_ble_eq_true rfl) rfl rfl (Nat.le_of_ble_eq_true rfl) (c_Hist_moment hb0 (i := (nx + 16 - 1) % 8) (by rw [fmd8_n _ (by omega), Nat.mod_eq_of_lt hq]) hq ?_)
    refine pw_pR ?_
    have o2 := hm.1
    have hm0 : mIs M (k + 2 + 6 * ((nx + 16 - 1) % 8)) m := by
      have := x4 0 m rfl
      rwa [show nx + 15 - 0 = nx + 16 - 1 by omega] at this
    have f9 : fr k (k + 1) M (pmSt (pmSt M k 1 (nI (t.length + 1 - 1))) k 2 (nI ((nx + 16 - 1) % 8))) := fun x h => by rw [st_ne _ _ _ _ (by omega), st_ne _ _ _ _ (by omega)]
    skip
    refine pw_cV1 46 rfl rfl (by first | assumption | exact ⟨by decide, rfl⟩) rfl (Nat.le_of_ble_eq_true rfl) rfl rfl (Nat.le_of_ble_eq_true rfl) (c_Mom_takeFrom hm (h3 _ hq) (momIs.mv hm0 f9 (by omega)) (by omega) (fun M1 f1 r1 => ?_))
    refine pw_pV ?_
    refine pw_iconst (v := nI 1) 47 rfl rfl (by decide) ?_
    refine pw_zret rfl rfl (Or.inr rfl) (kk m t M1 rfl (fun x ha hb => ?_) ⟨(nx + 16 - 1) % 8, hq, ?_, ?_, ?_, fun i m' hi => ?_⟩ r1)
    · rw [f1 x hb]; exact f9 x ha
    · rw [f1 k (by omega), st_row _ _ _ _ (by decide), st_same]; rfl
    · rw [f1 k (by omega), st_same]
    · omega
    · have hi8 : i < t.length := (List.getElem?_eq_some_iff.mp hi).1
      have e : ((nx + 16 - 1) % 8 + 15 - i) % 8 = (nx + 15 - (i + 1)) % 8 := by omega
      rw [e]
      refine momIs.mv (momIs.mv (x4 (i + 1) m' (by rw [List.getElem?_cons_succ]; exact hi)) f9 (by omega)) f1 (by omega)
theorem htake_loop {k2 nx : Nat} (hb : isHist sh k) (hb2 : isHist sh k2) (hx : histAt M k2 hs nx) (hd : k + 50 ≤ k2 ∨ k2 + 50 ≤ k) (kk : ∀ M', fr k (k + 50) M M' → histIs M' k hs → Q none sh M' N) :
    ∀ (d i : Nat) (M1 : pmM), i + d = hs.length → fr k (k + 50) M M1 → M1 k 1 = nI hs.length → M1 k 2 = nI nx → (∀ j m, j < i → hs[j]? = some m → mIs M1 (k + 2 + 6 * ((nx + 15 - j) % 8)) m) → PW mX1_takeFrom 18 [.ref k, .ref k2, .int (nI (i + 1))] [] sh M1 N Q := by
  have hb0 := hb
  have hb02 := hb2
  obtain ⟨h1, h2, h3⟩ := hb
  obtain ⟨g1, g2, g3⟩ := hb2
  obtain ⟨x0, x1, x2, x3, x4⟩ := hx
  intro d
  induction d with
  | zero =>
    intro i M1 hi hf e1 e2 hr
    refine pw_iload_n 19 rfl rfl rfl ?_
    refine pw_aload_n 20 rfl rfl rfl ?_
    refine pw_getI 23 rfl rfl (by first | assumption | exact ⟨by decide, rfl⟩) rfl ?_
    rw [e1]
    refine pw_icmp_gt_t 55 rfl rfl (nI_lt (by omega) (by omega)) ?_
    skip
    exact pw_vret rfl (kk M1 hf ⟨nx, x0, e1, e2, x3, fun j m hj => hr j m (by have := (List.getElem?_eq_some_iff.mp hj).1; omega) hj⟩)
  | succ d ih =>
    intro i M1 hi hf e1 e2 hr
    refine pw_iload_n 19 rfl rfl rfl ?_
    refine pw_aload_n 20 rfl rfl rfl ?_
    refine pw_getI 23 rfl rfl (by first | assumption | exact ⟨by decide, rfl⟩) rfl ?_
    rw [e1]
    refine pw_icmp_gt_f 26 rfl rfl (nI_nlt (by omega) (by omega)) ?_
    refine pw_aload_n 27 rfl rfl rfl ?_
    refine pw_aload_n 28 rfl rfl rfl ?_
    refine pw_getI 31 rfl rfl (by first | assumption | exact ⟨by decide, rfl⟩) rfl ?_
    refine pw_iload_n 32 rfl rfl rfl ?_
    rw [e2]
    refine pw_isub 33 rfl rfl ?_
    have hq : (nx + 16 - (i + 1)) % 8 < 8 := Nat.mod_lt _ (by decide)
    skip
    refine pw_cV1 36 rfl rfl (by first | assumption | exact ⟨by decide, rfl⟩) rfl (Nat.le_of_ble_eq_true rfl) rfl rfl (Nat.le_of_ble_eq_true rfl) (c_Hist_moment hb0 (i := (nx + 16 - (i + 1)) % 8) (fmd8_sub nx (by omega) (i + 1) (by omega)) hq ?_)
    refine pw_pR ?_
    refine pw_aload_n 37 rfl rfl rfl ?_
    refine pw_aload_n 38 rfl rfl rfl ?_
    refine pw_getI 41 rfl rfl (by first | assumption | exact ⟨by decide, rfl⟩) rfl ?_
    refine pw_iload_n 42 rfl rfl rfl ?_
    rw [e2]
    refine pw_isub 43 rfl rfl ?_
    skip
    refine pw_cV1 46 rfl rfl (by first | assumption | exact ⟨by decide, rfl⟩) rfl (Nat.le_of_ble_eq_true rfl) rfl rfl (Nat.le_of_ble_eq_true rfl) (c_Hist_moment hb02 (i := (nx + 16 - (i + 1)) % 8) (fmd8_sub nx (by omega) (i + 1) (by omega)) hq ?_)
    refine pw_pR ?_
    have hlt : i < hs.length := by omega
    obtain ⟨m, hmi⟩ : ∃ m, hs[i]? = some m := ⟨_, List.getElem?_eq_getElem hlt⟩
    have hm0 := x4 i m hmi
    rw [show nx + 15 - i = nx + 16 - (i + 1) by omega] at hm0
    have o1 := (h3 _ hq).1
    skip
    refine pw_cV1 49 rfl rfl (by first | assumption | exact ⟨by decide, rfl⟩) rfl (Nat.le_of_ble_eq_true rfl) rfl rfl (Nat.le_of_ble_eq_true rfl) (c_Mom_takeFrom (h3 _ hq) (g3 _ hq) (momIs.mv hm0 hf (by omega)) (by omega) (fun M2 f2 r2 => ?_))
    refine pw_pV ?_
    first | refine pw_iincN2 52 rfl rfl rfl (by with_reducible rfl) ?_ | refine pw_iinc2 (w := _) 52 rfl rfl rfl rfl ?_
    refine pw_goto rfl 18 rfl ?_
    refine ih (i + 1) M2 (by omega) (hf.tr (f2.wk (by omega) (by omega))) (by rw [f2 k (by omega)]; exact e1) (by rw [f2 k (by omega)]; exact e2) (fun j m' hj hm' => ?_)
    by_cases q : j = i
    · subst q
      rw [hmi] at hm'
      cases hm'
      rw [show nx + 15 - j = nx + 16 - (j + 1) by omega]
      exact r2
    · exact momIs.mv (hr j m' (by omega) hm') f2 (by omega)
theorem c_Hist_takeFrom {k2 : Nat} (hb : isHist sh k) (hb2 : isHist sh k2) (hx : histIs M k2 hs) (hd : k + 50 ≤ k2 ∨ k2 + 50 ≤ k) (kk : ∀ M', fr k (k + 50) M M' → histIs M' k hs → Q none sh M' N) : PW mX1_takeFrom 0 [.ref k, .ref k2, .null] [] sh M N Q := by
  have hb0 := hb
  have hb02 := hb2
  obtain ⟨h1, h2, h3⟩ := hb
  obtain ⟨g1, g2, g3⟩ := hb2
  obtain ⟨nx, hx⟩ := hx
  have hx0 := hx
  obtain ⟨x0, x1, x2, x3, x4⟩ := hx
  refine pw_aload_n 1 rfl rfl rfl ?_
  refine pw_aload_n 2 rfl rfl rfl ?_
  refine pw_getI 5 rfl rfl (by first | assumption | exact ⟨by decide, rfl⟩) rfl ?_
  refine pw_putI 8 rfl rfl (by first | assumption | exact ⟨by decide, rfl⟩) rfl (by decide) ?_
  refine pw_aload_n 9 rfl rfl rfl ?_
  refine pw_aload_n 10 rfl rfl rfl ?_
  refine pw_getI 13 rfl rfl (by first | assumption | exact ⟨by decide, rfl⟩) rfl ?_
  refine pw_putI 16 rfl rfl (by first | assumption | exact ⟨by decide, rfl⟩) rfl (by decide) ?_
  refine pw_iconst (v := nI 1) 17 rfl rfl (by decide) ?_
  refine pw_istore2 18 rfl rfl rfl ?_
  rw [x1, st_ne _ _ _ _ (show k2 ≠ k by omega), x2]
  exact htake_loop hb0 hb02 hx0 hd kk hs.length 0 _ (by omega) (fun x h => by rw [st_ne _ _ _ _ (by omega), st_ne _ _ _ _ (by omega)]) (by rw [st_row _ _ _ _ (by decide), st_same]) (st_same _ _ _ _) (fun j m hj => absurd hj (Nat.not_lt_zero j))
end HST
/-- all that an image keeps -/
abbrev aS : Type := aM × List aR × List aM
def isState (sh : pmS) (k : Nat) : Prop := pmOb sh k 7 [some (some (k + 1)), some (some (k + 7)), some (some (k + 64))] ∧ isMom sh (k + 1) ∧ isBook sh (k + 7) ∧ isHist sh (k + 64)
def wfS (a : aS) : Prop := a.1.2.2 < 2 ^ a.2.1.length ∧ ∀ m ∈ a.2.2, m.2.2 < 2 ^ a.2.1.length
def stIs (M : pmM) (k : Nat) (a : aS) : Prop := mIs M (k + 1) a.1 ∧ bookIs M (k + 7) a.2.1 ∧ histIs M (k + 64) a.2.2
theorem stIs.mv {M M' : pmM} {k u v : Nat} {a : aS} (h : stIs M k a) (hf : fr u v M M') (hk : k + 114 ≤ u ∨ v ≤ k + 1) : stIs M' k a := ⟨momIs.mv h.1 hf (by omega), h.2.1.mv hf (by omega), h.2.2.mv hf (by omega)⟩
section STT
variable {sh : pmS} {M : pmM} {N : pmN} {Q : pmPost} {k : Nat} {a : aS}
theorem c_State_remember (hb : isState sh k) (hx : stIs M k a) (kk : ∀ M', fr (k + 64) (k + 114) M M' → stIs M' k (a.1, a.2.1, (a.1 :: a.2.2).take 8) → Q none sh M' N) : PW mX7_remember 0 [.ref k] [] sh M N Q := by
  obtain ⟨h1, h2, h3, h4⟩ := hb
  have h4' := h4.1
  refine pw_aload_n 1 rfl rfl rfl ?_
  refine pw_getR 4 rfl rfl (by first | assumption | exact ⟨by decide, rfl⟩) rfl ?_
  refine pw_aload_n 5 rfl rfl rfl ?_
  refine pw_getR 8 rfl rfl (by first | assumption | exact ⟨by decide, rfl⟩) rfl ?_
  refine pw_cV1 11 rfl rfl (by first | assumption | exact ⟨by decide, rfl⟩) rfl (Nat.le_of_ble_eq_true rfl) rfl rfl (Nat.le_of_ble_eq_true rfl) (c_Hist_add h4 hx.2.2 h2 hx.1 (by omega) (fun M1 f1 r1 => ?_))
  refine pw_pV ?_
  skip
  exact pw_vret rfl (kk M1 f1 ⟨momIs.mv hx.1 f1 (by omega), hx.2.1.mv f1 (by omega), r1⟩)
theorem c_State_goBack (hb : isState sh k) (hx : stIs M k a) (k0 : a.2.2 = [] → Q (some (.int (nI 0))) sh M N) (kk : ∀ m t M', a.2.2 = m :: t → fr (k + 1) (k + 114) M M' → stIs M' k (m, a.2.1, t) → Q (some (.int (nI 1))) sh M' N) : PW mX7_goBack 0 [.ref k] [] sh M N Q := by
  obtain ⟨h1, h2, h3, h4⟩ := hb
  have h4' := h4.1
  refine pw_aload_n 1 rfl rfl rfl ?_
  refine pw_getR 4 rfl rfl (by first | assumption | exact ⟨by decide, rfl⟩) rfl ?_
  refine pw_aload_n 5 rfl rfl rfl ?_
  refine pw_getR 8 rfl rfl (by first | assumption | exact ⟨by decide, rfl⟩) rfl ?_
  refine pw_cV1 11 rfl rfl (by first | assumption | exact ⟨by decide, rfl⟩) rfl (Nat.le_of_ble_eq_true rfl) rfl rfl (Nat.le_of_ble_eq_true rfl) (c_Hist_giveBack h4 hx.2.2 h2 (by omega) (fun h => ?_) (fun m t M1 e f1 r1 r2 => ?_))
  · refine pw_pI ?_
    skip
    exact pw_zret rfl rfl (by first | exact Or.inl rfl | exact Or.inr rfl | assumption) (k0 h)
  · refine pw_pI ?_
    skip
    refine pw_zret rfl rfl (Or.inr rfl) (kk m t M1 e (fun x h => f1 x (by omega) (by omega)) ⟨r2, ?_, r1⟩)
    exact hx.2.1.ag (fun x h1 h2 => f1 x (by omega) (by omega))
theorem c_State_takeFrom {k2 : Nat} (hb : isState sh k) (hb2 : isState sh k2) (hx : stIs M k2 a) (hd : k + 114 ≤ k2 ∨ k2 + 114 ≤ k) (kk : ∀ M', fr k (k + 114) M M' → stIs M' k a → Q none sh M' N) : PW mX7_takeFrom 0 [.ref k, .ref k2] [] sh M N Q := by
  obtain ⟨h1, h2, h3, h4⟩ := hb
  obtain ⟨g1, g2, g3, g4⟩ := hb2
  have h2' := h2.1
  have h3' := h3.1
  have h4' := h4.1
  obtain ⟨x1, x2, x3⟩ := hx
  refine pw_aload_n 1 rfl rfl rfl ?_
  refine pw_getR 4 rfl rfl (by first | assumption | exact ⟨by decide, rfl⟩) rfl ?_
  refine pw_aload_n 5 rfl rfl rfl ?_
  refine pw_getR 8 rfl rfl (by first | assumption | exact ⟨by decide, rfl⟩) rfl ?_
  refine pw_cV1 11 rfl rfl (by first | assumption | exact ⟨by decide, rfl⟩) rfl (Nat.le_of_ble_eq_true rfl) rfl rfl (Nat.le_of_ble_eq_true rfl) (c_Mom_takeFrom h2 g2 x1 (by omega) (fun M1 f1 r1 => ?_))
  refine pw_pV ?_
  refine pw_aload_n 12 rfl rfl rfl ?_
  refine pw_getR 15 rfl rfl (by first | assumption | exact ⟨by decide, rfl⟩) rfl ?_
  refine pw_aload_n 16 rfl rfl rfl ?_
  refine pw_getR 19 rfl rfl (by first | assumption | exact ⟨by decide, rfl⟩) rfl ?_
  refine pw_cV1 22 rfl rfl (by first | assumption | exact ⟨by decide, rfl⟩) rfl (Nat.le_of_ble_eq_true rfl) rfl rfl (Nat.le_of_ble_eq_true rfl) (c_Book_takeFrom h3 g3 (x2.mv f1 (by omega)) (by omega) (fun M2 f2 r2 => ?_))
  refine pw_pV ?_
  refine pw_aload_n 23 rfl rfl rfl ?_
  refine pw_getR 26 rfl rfl (by first | assumption | exact ⟨by decide, rfl⟩) rfl ?_
  refine pw_aload_n 27 rfl rfl rfl ?_
  refine pw_getR 30 rfl rfl (by first | assumption | exact ⟨by decide, rfl⟩) rfl ?_
  refine pw_cV1 33 rfl rfl (by first | assumption | exact ⟨by decide, rfl⟩) rfl (Nat.le_of_ble_eq_true rfl) rfl rfl (Nat.le_of_ble_eq_true rfl) (c_Hist_takeFrom h4 g4 ((x3.mv f1 (by omega)).mv f2 (by omega)) (by omega) (fun M3 f3 r3 => ?_))
  refine pw_pV ?_
  skip
  exact pw_vret rfl (kk M3 (((f1.wk (by omega) (by omega)).tr (f2.wk (by omega) (by omega))).tr (f3.wk (by omega) (by omega))) ⟨momIs.mv (momIs.mv r1 f2 (by omega)) f3 (by omega), r2.mv f3 (by omega), r3⟩)
end STT
