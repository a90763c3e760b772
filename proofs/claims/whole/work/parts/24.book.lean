/-! RULE, BOOK -/
/-- a rule: its kind, its phrase, its gift -/
abbrev aR : Type := Nat × List Int32 × List Int32
def wfR (r : aR) : Prop := r.1 < 5 ∧ 1 ≤ r.2.1.length ∧ r.2.1.length ≤ 6 ∧ r.2.2.length ≤ 6
def isRule (sh : pmS) (k : Nat) : Prop := pmOb sh k 5 [none, some (some (k + 1)), some (some (k + 3))] ∧ isRow sh (k + 1) 6 ∧ isRow sh (k + 3) 6
def ruleIs (M : pmM) (k : Nat) (r : aR) : Prop := M k 0 = nI r.1 ∧ rowIs M (k + 1) r.2.1 ∧ rowIs M (k + 3) r.2.2
theorem ruleIs.mv {M M' : pmM} {k a b : Nat} {r : aR} (h : ruleIs M k r) (hf : fr a b M M') (hk : k + 5 ≤ a ∨ b ≤ k) : ruleIs M' k r := ⟨by rw [hf k (by omega)]; exact h.1, h.2.1.mv hf (by omega), h.2.2.mv hf (by omega)⟩
/-- what a rule of a kind gives -/
def giv (kd : Nat) (g : List Int32) : List Int32 := if kd = 3 then g.reverse else g
theorem giv_len (kd : Nat) (g : List Int32) : (giv kd g).length = g.length := by unfold giv; split <;> simp
/-- the phrase, as far as it is seen -/
def mtc (ph ls : List Int32) (p m : Nat) : Prop := ∀ j, j < m → ph.getD j 0 = ls.getD (p + j) 0
/-- a letter a .. z ahead -/
def ahd (ls : List Int32) (p : Nat) : Bool := decide (0 < p) && wl (ls.getD (p - 1) 0)
/-- 1 it stands, 0 it does not, 2 that is still to come -/
def stA (kd : Nat) (ph ls : List Int32) (p kn : Nat) (op : Bool) (d : Nat) : Prop :=
  (d = 0 ∧ kd ≠ 0 ∧ ahd ls p = true) ∨ (¬ (kd ≠ 0 ∧ ahd ls p = true) ∧
    ((d = 0 ∧ ¬ mtc ph ls p (min (p + ph.length) kn - p)) ∨ (mtc ph ls p (min (p + ph.length) kn - p) ∧
      ((kn < p + ph.length ∧ d = if op then 2 else 0) ∨ (p + ph.length ≤ kn ∧
        ((¬ (kd = 1 ∨ kd = 3) ∧ d = 1) ∨ ((kd = 1 ∨ kd = 3) ∧
          ((p + ph.length = kn ∧ d = if op then 2 else 1) ∨ (p + ph.length < kn ∧ d = if wl (ls.getD (p + ph.length) 0) then 0 else 1)))))))))
section BOK
variable {sh : pmS} {M : pmM} {N : pmN} {Q : pmPost} {k : Nat} {r : aR}
theorem c_Rule_takeFrom {k2 : Nat} (hr : isRule sh k) (hr2 : isRule sh k2) (hx : ruleIs M k2 r) (w1 : r.2.1.length ≤ 6) (w2 : r.2.2.length ≤ 6) (hd : k + 5 ≤ k2 ∨ k2 + 5 ≤ k) (kk : ∀ M', fr k (k + 5) M M' → ruleIs M' k r → Q none sh M' N) : PW mX5_takeFrom 0 [.ref k, .ref k2] [] sh M N Q := by
  obtain ⟨h1, h2, h3⟩ := hr
  obtain ⟨g1, g2, g3⟩ := hr2
  obtain ⟨x1, x2, x3⟩ := hx
  have h2' := h2.1
  have h3' := h3.1
  refine pw_aload_n 1 rfl rfl rfl ?_
  refine pw_aload_n 2 rfl rfl rfl ?_
  refine pw_getI 5 rfl rfl (by first | assumption | exact ⟨by decide, rfl⟩) rfl ?_
  refine pw_putI 8 rfl rfl (by first | assumption | exact ⟨by decide, rfl⟩) rfl (by decide) ?_
  refine pw_aload_n 9 rfl rfl rfl ?_
  refine pw_getR 12 rfl rfl (by first | assumption | exact ⟨by decide, rfl⟩) rfl ?_
  refine pw_aload_n 13 rfl rfl rfl ?_
  refine pw_getR 16 rfl rfl (by first | assumption | exact ⟨by decide, rfl⟩) rfl ?_
  rw [x1]
  have f0 : fr k (k + 1) M (pmSt M k 0 (nI r.1)) := fr_st M 0 _ (Nat.le_refl k) (Nat.lt_succ_self k)
  refine pw_cV1 19 rfl rfl (by first | assumption | exact ⟨by decide, rfl⟩) rfl (Nat.le_of_ble_eq_true rfl) rfl rfl (Nat.le_of_ble_eq_true rfl) (c_Row_takeFrom h2 g2 (x2.mv f0 (by omega)) w1 w1 (fun M1 f1 r1 => ?_))
  refine pw_pV ?_
  refine pw_aload_n 20 rfl rfl rfl ?_
  refine pw_getR 23 rfl rfl (by first | assumption | exact ⟨by decide, rfl⟩) rfl ?_
  refine pw_aload_n 24 rfl rfl rfl ?_
  refine pw_getR 27 rfl rfl (by first | assumption | exact ⟨by decide, rfl⟩) rfl ?_
  refine pw_cV1 30 rfl rfl (by first | assumption | exact ⟨by decide, rfl⟩) rfl (Nat.le_of_ble_eq_true rfl) rfl rfl (Nat.le_of_ble_eq_true rfl) (c_Row_takeFrom h3 g3 ((x3.mv f0 (by omega)).mv f1 (by omega)) w2 w2 (fun M2 f2 r2 => ?_))
  refine pw_pV ?_
  skip
  refine pw_vret rfl (kk M2 (((f0.wk (by omega) (by omega)).tr (f1.wk (by omega) (by omega))).tr (f2.wk (by omega) (by omega))) ⟨?_, r1.mv f2 (by omega), r2⟩)
  rw [f2 k (by omega), f1 k (by omega), st_same]
theorem c_Rule_given (hr : isRule sh k) (hx : ruleIs M k r) (w2 : r.2.2.length ≤ 6) {j kd : Nat} (hj : j < r.2.2.length) (hk : kd < 5) (kk : Q (some (.int ((giv kd r.2.2).getD j 0))) sh M N) : PW mX5_given 0 [.ref k, .int (nI j), .int (nI kd)] [] sh M N Q := by
  obtain ⟨h1, h2, h3⟩ := hr
  obtain ⟨x1, x2, x3⟩ := hx
  have h3' := h3.1
  refine pw_aload_n 1 rfl rfl rfl ?_
  refine pw_getR 4 rfl rfl (by first | assumption | exact ⟨by decide, rfl⟩) rfl ?_
  refine pw_iload_n 5 rfl rfl rfl ?_
  refine pw_iconst (v := nI 3) 6 rfl rfl (by decide) ?_
  refine pw_icmp_ne 23 9 rfl rfl rfl (fun h => ?_) (fun h => ?_)
  · have h : ¬ kd = 3 := fun q => h (by rw [q])
    unfold giv at kk
    rw [if_neg h] at kk
    refine pw_iload_n 24 rfl rfl rfl ?_
    refine pw_cV1 27 rfl rfl (by first | assumption | exact ⟨by decide, rfl⟩) rfl (Nat.le_of_ble_eq_true rfl) rfl rfl (Nat.le_of_ble_eq_true rfl) (c_Row_get h3 x3 w2 (nI j) ?_)
    rw [gI_n (by omega)]
    refine pw_pI ?_
    skip
    exact pw_iret rfl rfl (kk)
  · have h : kd = 3 := (nI_eq (by omega) (by omega)).mp (Classical.not_not.mp h)
    subst h
    refine pw_aload_n 10 rfl rfl rfl ?_
    refine pw_getR 13 rfl rfl (by first | assumption | exact ⟨by decide, rfl⟩) rfl ?_
    refine pw_cV0 16 rfl rfl (by first | assumption | exact ⟨by decide, rfl⟩) rfl (Nat.le_of_ble_eq_true rfl) rfl rfl (Nat.le_of_ble_eq_true rfl) (c_Row_size h3 x3 ?_)
    refine pw_pI ?_
    refine pw_iconst (v := nI 1) 17 rfl rfl (by decide) ?_
    first | refine pw_isubN 18 rfl rfl (by with_reducible rfl) (by with_reducible rfl) (by omega) ?_ | refine pw_isub 18 rfl rfl ?_
    refine pw_iload_n 19 rfl rfl rfl ?_
    first | refine pw_isubN 20 rfl rfl (by with_reducible rfl) (by with_reducible rfl) (by omega) ?_ | refine pw_isub 20 rfl rfl ?_
    refine pw_goto rfl 24 rfl ?_
    refine pw_cV1 27 rfl rfl (by first | assumption | exact ⟨by decide, rfl⟩) rfl (Nat.le_of_ble_eq_true rfl) rfl rfl (Nat.le_of_ble_eq_true rfl) (c_Row_get h3 x3 w2 _ ?_)
    rw [gI_n (by omega)]
    refine pw_pI ?_
    skip
    refine pw_iret rfl rfl ?_
    have e : (giv 3 r.2.2).getD j 0 = r.2.2.getD (r.2.2.length - 1 - j) 0 := by
      unfold giv
      rw [if_pos rfl, List.getD_eq_getElem?_getD, List.getElem?_reverse hj, ← List.getD_eq_getElem?_getD]
    rw [e] at kk
    exact kk
theorem c_wantsEnd {kd : Nat} (hk : kd < 5) (ky : (kd = 1 ∨ kd = 3) → Q (some (.int (nI 1))) sh M N) (kn : ¬ (kd = 1 ∨ kd = 3) → Q (some (.int (nI 0))) sh M N) : PW mX5_wantsEnd 0 [.int (nI kd)] [] sh M N Q := by
  have cmp : ∀ z, z < 5 → (nI kd = nI z ↔ kd = z) := fun z hz => nI_eq (by omega) (by omega)
  refine pw_iload_n 1 rfl rfl rfl ?_
  refine pw_iconst (v := nI 1) 2 rfl rfl (by decide) ?_
  refine pw_icmp_eq 10 5 rfl rfl rfl (fun h => ?_) (fun h => ?_)
  · rw [cmp 1 (by decide)] at h
    refine pw_iconst (v := nI 1) 11 rfl rfl (by decide) ?_
    refine pw_goto rfl 15 rfl ?_
    exact pw_zret rfl rfl (by first | exact Or.inl rfl | exact Or.inr rfl | assumption) (ky (Or.inl h))
  · rw [cmp 1 (by decide)] at h
    refine pw_iload_n 6 rfl rfl rfl ?_
    refine pw_iconst (v := nI 3) 7 rfl rfl (by decide) ?_
    refine pw_icmp_ne 14 10 rfl rfl rfl (fun h2 => ?_) (fun h2 => ?_)
    · rw [cmp 3 (by decide)] at h2
      refine pw_iconst (v := nI 0) 15 rfl rfl (by decide) ?_
      exact pw_zret rfl rfl (by first | exact Or.inl rfl | exact Or.inr rfl | assumption) (kn (by omega))
    · rw [cmp 3 (by decide)] at h2
      refine pw_iconst (v := nI 1) 11 rfl rfl (by decide) ?_
      refine pw_goto rfl 15 rfl ?_
      exact pw_zret rfl rfl (by first | exact Or.inl rfl | exact Or.inr rfl | assumption) (ky (Or.inr (Classical.not_not.mp h2)))
variable {kl nl : Nat} {ls ss : List Int32}
theorem stands_tail {p kd kn : Nat} {op : Bool} (hr : isRule sh k) (hx : ruleIs M k r) (w1 : r.2.1.length ≤ 6) (hl : isLine sh kl nl) (hy : lineIs M kl ls ss) (wl1 : ls.length ≤ nl) (hk : kd < 5) (hp : p < kn) (hn : kn ≤ ls.length) (kk : ∀ d, stA kd r.2.1 ls p kn op d → Q (some (.int (nI d))) sh M N) (h0 : ¬ (kd ≠ 0 ∧ ahd ls p = true)) (hm : mtc r.2.1 ls p (min (p + r.2.1.length) kn - p)) (v8 : Value) :
    PW mX5_stands 85 [.ref k, .ref kl, .int (nI p), .int (nI kd), .int (nI kn), .int (nI (if op then 1 else 0)), .int (nI (p + r.2.1.length)), .int (nI (min (p + r.2.1.length) kn - p)), v8] [] sh M N Q := by
  obtain ⟨l1, l2, l3⟩ := hl
  have hn1 : nl ≤ 1000 := l2.2.2.2
  have l2' := l2.1
  have kk2 : ∀ d, ((kn < p + r.2.1.length ∧ d = if op then 2 else 0) ∨ (p + r.2.1.length ≤ kn ∧ ((¬ (kd = 1 ∨ kd = 3) ∧ d = 1) ∨ ((kd = 1 ∨ kd = 3) ∧ ((p + r.2.1.length = kn ∧ d = if op then 2 else 1) ∨ (p + r.2.1.length < kn ∧ d = if wl (ls.getD (p + r.2.1.length) 0) then 0 else 1)))))) → Q (some (.int (nI d))) sh M N := fun d h => kk d (Or.inr ⟨h0, Or.inr ⟨hm, h⟩⟩)
  refine pw_iload 87 rfl rfl rfl ?_
  refine pw_iload 89 rfl rfl rfl ?_
  refine pw_icmp_le 103 92 rfl rfl rfl (fun h => ?_) (fun h => ?_)
  · have h := (nI_leI (by omega) (by omega)).mp h
    refine pw_iload_n 104 rfl rfl rfl ?_
    refine pw_cS1 107 rfl rfl rfl (Nat.le_of_ble_eq_true rfl) rfl rfl (Nat.le_of_ble_eq_true rfl) (c_wantsEnd hk (fun hw => ?_) (fun hw => ?_))
    · refine pw_pI ?_
      skip
      refine pw_if_ne_t 112 rfl rfl (by decide) ?_
      refine pw_iload 114 rfl rfl rfl ?_
      refine pw_iload 116 rfl rfl rfl ?_
      refine pw_icmp_ne 130 119 rfl rfl rfl (fun h2 => ?_) (fun h2 => ?_)
      · have h2 : ¬ p + r.2.1.length = kn := fun q => h2 (by rw [q])
        refine pw_aload_n 131 rfl rfl rfl ?_
        refine pw_getR 134 rfl rfl (by first | assumption | exact ⟨by decide, rfl⟩) rfl ?_
        refine pw_iload 136 rfl rfl rfl ?_
        refine pw_cV1 139 rfl rfl (by first | assumption | exact ⟨by decide, rfl⟩) rfl (Nat.le_of_ble_eq_true rfl) rfl rfl (Nat.le_of_ble_eq_true rfl) (c_Row_get l2 hy.1 wl1 _ ?_)
        rw [gI_n (by omega)]
        refine pw_pI ?_
        skip
        refine pw_cS1 142 rfl rfl rfl (Nat.le_of_ble_eq_true rfl) rfl rfl (Nat.le_of_ble_eq_true rfl) (c_isWordLetter (fun hq => ?_) (fun hq => ?_))
        · refine pw_pI ?_
          skip
          refine pw_if_eq_f 145 rfl rfl (by decide) ?_
          refine pw_iconst (v := nI 0) 146 rfl rfl (by decide) ?_
          refine pw_goto rfl 150 rfl ?_
          exact pw_iret rfl rfl (kk2 0 (Or.inr ⟨h, Or.inr ⟨hw, Or.inr ⟨by omega, by rw [hq]; rfl⟩⟩⟩))
        · refine pw_pI ?_
          skip
          refine pw_if_eq_t 149 rfl rfl (by decide) ?_
          refine pw_iconst (v := nI 1) 150 rfl rfl (by decide) ?_
          exact pw_iret rfl rfl (kk2 1 (Or.inr ⟨h, Or.inr ⟨hw, Or.inr ⟨by omega, by rw [hq]; rfl⟩⟩⟩))
      · have h2 : p + r.2.1.length = kn := (nI_eq (by omega) (by omega)).mp (Classical.not_not.mp h2)
        refine pw_iload 121 rfl rfl rfl ?_
        cases op with
        | true =>
          refine pw_if_eq_f 124 rfl rfl (by decide) ?_
          refine pw_iconst (v := nI 2) 125 rfl rfl (by decide) ?_
          refine pw_goto rfl 129 rfl ?_
          exact pw_iret rfl rfl (kk2 2 (Or.inr ⟨h, Or.inr ⟨hw, Or.inl ⟨h2, rfl⟩⟩⟩))
        | false =>
          skip
          refine pw_if_eq_t 128 rfl rfl (by decide) ?_
          refine pw_iconst (v := nI 1) 129 rfl rfl (by decide) ?_
          exact pw_iret rfl rfl (kk2 1 (Or.inr ⟨h, Or.inr ⟨hw, Or.inl ⟨h2, rfl⟩⟩⟩))
    · refine pw_pI ?_
      skip
      refine pw_if_ne_f 110 rfl rfl (by decide) ?_
      refine pw_iconst (v := nI 1) 111 rfl rfl (by decide) ?_
      exact pw_iret rfl rfl (kk2 1 (Or.inr ⟨h, Or.inl ⟨hw, rfl⟩⟩))
  · have h : kn < p + r.2.1.length := by
      rcases Nat.lt_or_ge kn (p + r.2.1.length) with q | q
      · exact q
      · exact absurd (nI_le q (by omega)) h
    refine pw_iload 94 rfl rfl rfl ?_
    cases op with
    | true =>
      refine pw_if_eq_f 97 rfl rfl (by decide) ?_
      refine pw_iconst (v := nI 2) 98 rfl rfl (by decide) ?_
      refine pw_goto rfl 102 rfl ?_
      exact pw_iret rfl rfl (kk2 2 (Or.inl ⟨h, rfl⟩))
    | false =>
      skip
      refine pw_if_eq_t 101 rfl rfl (by decide) ?_
      refine pw_iconst (v := nI 0) 102 rfl rfl (by decide) ?_
      exact pw_iret rfl rfl (kk2 0 (Or.inl ⟨h, rfl⟩))
theorem stands_loop {p kd kn : Nat} {op : Bool} (hr : isRule sh k) (hx : ruleIs M k r) (w1 : r.2.1.length ≤ 6) (hl : isLine sh kl nl) (hy : lineIs M kl ls ss) (wl1 : ls.length ≤ nl) (hk : kd < 5) (hp : p < kn) (hn : kn ≤ ls.length) (kk : ∀ d, stA kd r.2.1 ls p kn op d → Q (some (.int (nI d))) sh M N) (h0 : ¬ (kd ≠ 0 ∧ ahd ls p = true)) :
    ∀ (d i : Nat), i + d = min (p + r.2.1.length) kn - p → mtc r.2.1 ls p i → PW mX5_stands 47 [.ref k, .ref kl, .int (nI p), .int (nI kd), .int (nI kn), .int (nI (if op then 1 else 0)), .int (nI (p + r.2.1.length)), .int (nI (min (p + r.2.1.length) kn - p)), .int (nI i)] [] sh M N Q := by
  have hr0 := hr
  have hl0 := hl
  obtain ⟨h1, h2, h3⟩ := hr
  obtain ⟨l1, l2, l3⟩ := hl
  have hn1 : nl ≤ 1000 := l2.2.2.2
  have l2' := l2.1
  have h2' := h2.1
  intro d
  induction d with
  | zero =>
    intro i hi hm
    have : i = min (p + r.2.1.length) kn - p := by omega
    rw [this] at hm
    refine pw_iload 49 rfl rfl rfl ?_
    refine pw_iload 51 rfl rfl rfl ?_
    refine pw_icmp_ge_t 85 rfl rfl (nI_le (by omega) (by omega)) ?_
    exact stands_tail hr0 hx w1 hl0 hy wl1 hk hp hn kk h0 hm _
  | succ d ih =>
    intro i hi hm
    refine pw_iload 49 rfl rfl rfl ?_
    refine pw_iload 51 rfl rfl rfl ?_
    refine pw_icmp_ge_f 54 rfl rfl (nI_ge (by omega) (by omega)) ?_
    refine pw_aload_n 55 rfl rfl rfl ?_
    refine pw_getR 58 rfl rfl (by first | assumption | exact ⟨by decide, rfl⟩) rfl ?_
    refine pw_iload 60 rfl rfl rfl ?_
    refine pw_cV1 63 rfl rfl (by first | assumption | exact ⟨by decide, rfl⟩) rfl (Nat.le_of_ble_eq_true rfl) rfl rfl (Nat.le_of_ble_eq_true rfl) (c_Row_get h2 hx.2.1 w1 _ ?_)
    rw [gI_n (by omega)]
    refine pw_pI ?_
    refine pw_aload_n 64 rfl rfl rfl ?_
    refine pw_getR 67 rfl rfl (by first | assumption | exact ⟨by decide, rfl⟩) rfl ?_
    refine pw_iload_n 68 rfl rfl rfl ?_
    refine pw_iload 70 rfl rfl rfl ?_
    first | refine pw_iaddN 71 rfl rfl (by with_reducible rfl) (by with_reducible rfl) ?_ | refine pw_iadd 71 rfl rfl ?_
    refine pw_cV1 74 rfl rfl (by first | assumption | exact ⟨by decide, rfl⟩) rfl (Nat.le_of_ble_eq_true rfl) rfl rfl (Nat.le_of_ble_eq_true rfl) (c_Row_get l2 hy.1 wl1 _ ?_)
    rw [gI_n (by omega)]
    refine pw_pI ?_
    skip
    refine pw_icmp_eq 79 77 rfl rfl rfl (fun h => ?_) (fun h => ?_)
    · first | refine pw_iincN8 82 rfl rfl rfl (by with_reducible rfl) ?_ | refine pw_iinc8 (w := _) 82 rfl rfl rfl rfl ?_
      refine pw_goto rfl 47 rfl ?_
      refine ih (i + 1) (by omega) (fun j hj => ?_)
      by_cases q : j = i
      · subst q; exact h
      · exact hm j (by omega)
    · refine pw_iconst (v := nI 0) 78 rfl rfl (by decide) ?_
      exact pw_iret rfl rfl (kk 0 (Or.inr ⟨h0, Or.inl ⟨rfl, fun q => by unfold mtc at q; exact h (q i (by omega))⟩⟩))
theorem c_Rule_stands {p kd kn : Nat} {op : Bool} (hr : isRule sh k) (hx : ruleIs M k r) (w1 : r.2.1.length ≤ 6) (hl : isLine sh kl nl) (hy : lineIs M kl ls ss) (wl1 : ls.length ≤ nl) (hk : kd < 5) (hp : p < kn) (hn : kn ≤ ls.length) (kk : ∀ d, stA kd r.2.1 ls p kn op d → Q (some (.int (nI d))) sh M N) :
    PW mX5_stands 0 [.ref k, .ref kl, .int (nI p), .int (nI kd), .int (nI kn), .int (nI (if op then 1 else 0)), .null, .null, .null] [] sh M N Q := by
  have hr0 := hr
  have hl0 := hl
  obtain ⟨h1, h2, h3⟩ := hr
  obtain ⟨l1, l2, l3⟩ := hl
  have hn1 : nl ≤ 1000 := l2.2.2.2
  have l2' := l2.1
  have h2' := h2.1
  have mid : ¬ (kd ≠ 0 ∧ ahd ls p = true) → PW mX5_stands 22 [.ref k, .ref kl, .int (nI p), .int (nI kd), .int (nI kn), .int (nI (if op then 1 else 0)), .null, .null, .null] [] sh M N Q := by
    intro h0
    refine pw_iload_n 23 rfl rfl rfl ?_
    refine pw_aload_n 24 rfl rfl rfl ?_
    refine pw_getR 27 rfl rfl (by first | assumption | exact ⟨by decide, rfl⟩) rfl ?_
    refine pw_cV0 30 rfl rfl (by first | assumption | exact ⟨by decide, rfl⟩) rfl (Nat.le_of_ble_eq_true rfl) rfl rfl (Nat.le_of_ble_eq_true rfl) (c_Row_size h2 hx.2.1 ?_)
    refine pw_pI ?_
    first | refine pw_iaddN 31 rfl rfl (by with_reducible rfl) (by with_reducible rfl) ?_ | refine pw_iadd 31 rfl rfl ?_
    refine pw_istore6 33 rfl rfl rfl ?_
    refine pw_iload 35 rfl rfl rfl ?_
    refine pw_iload 37 rfl rfl rfl ?_
    refine pw_cS2 40 rfl rfl rfl (Nat.le_of_ble_eq_true rfl) rfl rfl (Nat.le_of_ble_eq_true rfl) (c_min (by omega) (by omega) ?_)
    refine pw_pI ?_
    refine pw_iload_n 41 rfl rfl rfl ?_
    first | refine pw_isubN 42 rfl rfl (by with_reducible rfl) (by with_reducible rfl) (by omega) ?_ | refine pw_isub 42 rfl rfl ?_
    refine pw_istore7 44 rfl rfl rfl ?_
    refine pw_iconst (v := nI 0) 45 rfl rfl (by decide) ?_
    refine pw_istore8 47 rfl rfl rfl ?_
    exact stands_loop hr0 hx w1 hl0 hy wl1 hk hp hn kk h0 (min (p + r.2.1.length) kn - p) 0 (by omega) (fun j hj => absurd hj (Nat.not_lt_zero j))
  refine pw_iload_n 1 rfl rfl rfl ?_
  refine pw_if_eq 22 4 rfl rfl rfl (fun h => ?_) (fun h => ?_)
  · exact mid (fun q => q.1 ((nI_eq (by omega) (by omega)).mp h))
  · have h : kd ≠ 0 := fun q => h (by rw [q]; rfl)
    refine pw_aload_n 5 rfl rfl rfl ?_
    refine pw_getR 8 rfl rfl (by first | assumption | exact ⟨by decide, rfl⟩) rfl ?_
    refine pw_iload_n 9 rfl rfl rfl ?_
    refine pw_iconst (v := nI 1) 10 rfl rfl (by decide) ?_
    by_cases hp0 : p = 0
    · subst hp0
      refine pw_isub 11 rfl rfl ?_
      skip
      refine pw_cV1 14 rfl rfl (by first | assumption | exact ⟨by decide, rfl⟩) rfl (Nat.le_of_ble_eq_true rfl) rfl rfl (Nat.le_of_ble_eq_true rfl) (c_Row_get l2 hy.1 wl1 _ ?_)
      rw [gI_neg (by decide)]
      refine pw_pI ?_
      skip
      refine pw_cS1 17 rfl rfl rfl (Nat.le_of_ble_eq_true rfl) rfl rfl (Nat.le_of_ble_eq_true rfl) (c_isWordLetter (fun hq => absurd hq (by decide)) (fun hq => ?_))
      refine pw_pI ?_
      skip
      refine pw_if_eq_t 22 rfl rfl (by decide) ?_
      exact mid (fun q => by simp [ahd] at q)
    · first | refine pw_isubN 11 rfl rfl (by with_reducible rfl) (by with_reducible rfl) (by omega) ?_ | refine pw_isub 11 rfl rfl ?_
      refine pw_cV1 14 rfl rfl (by first | assumption | exact ⟨by decide, rfl⟩) rfl (Nat.le_of_ble_eq_true rfl) rfl rfl (Nat.le_of_ble_eq_true rfl) (c_Row_get l2 hy.1 wl1 _ ?_)
      rw [gI_n (by omega)]
      refine pw_pI ?_
      skip
      refine pw_cS1 17 rfl rfl rfl (Nat.le_of_ble_eq_true rfl) rfl rfl (Nat.le_of_ble_eq_true rfl) (c_isWordLetter (fun hq => ?_) (fun hq => ?_))
      · refine pw_pI ?_
        skip
        refine pw_if_eq_f 20 rfl rfl (by decide) ?_
        refine pw_iconst (v := nI 0) 21 rfl rfl (by decide) ?_
        exact pw_iret rfl rfl (kk 0 (Or.inl ⟨rfl, h, by unfold ahd; rw [hq, decide_eq_true (show 0 < p by omega)]; rfl⟩))
      · refine pw_pI ?_
        skip
        refine pw_if_eq_t 22 rfl rfl (by decide) ?_
        exact mid (fun q => by unfold ahd at q; rw [hq, Bool.and_false] at q; cases q.2)
def isBook (sh : pmS) (k : Nat) : Prop := pmOb sh k 0 [some (some (k + 1)), some (some (k + 2)), none] ∧ pmAy sh (k + 1) 3 10 ((List.range 10).map fun i => some (k + 7 + 5 * i)) ∧ ∀ i, i < 10 → isRule sh (k + 7 + 5 * i)
def bookIs (M : pmM) (k : Nat) (rs : List aR) : Prop := M k 2 = nI rs.length ∧ rs.length ≤ 10 ∧ ∀ i r, rs[i]? = some r → ruleIs M (k + 7 + 5 * i) r ∧ wfR r
theorem bookIs.mv {M M' : pmM} {k a b : Nat} {rs : List aR} (h : bookIs M k rs) (hf : fr a b M M') (hk : k + 57 ≤ a ∨ b ≤ k) : bookIs M' k rs := by
  refine ⟨by rw [hf k (by omega)]; exact h.1, h.2.1, fun i r hi => ⟨(h.2.2 i r hi).1.mv hf ?_, (h.2.2 i r hi).2⟩⟩
  have := (List.getElem?_eq_some_iff.mp hi).1
  have := h.2.1
  omega
variable {rs : List aR}
theorem c_Book_size (hb : isBook sh k) (hx : bookIs M k rs) (kk : Q (some (.int (nI rs.length))) sh M N) : PW mX0_size 0 [.ref k] [] sh M N Q := by
  obtain ⟨h1, h2, h3⟩ := hb
  refine pw_aload_n 1 rfl rfl rfl ?_
  refine pw_getI 4 rfl rfl (by first | assumption | exact ⟨by decide, rfl⟩) rfl ?_
  rw [hx.1]
  exact pw_iret rfl rfl (kk)
theorem c_Book_has (hb : isBook sh k) (hx : bookIs M k rs) {x : Int32} (ky : ∀ j, j < rs.length → x = nI j → Q (some (.int (nI 1))) sh M N) (kn : (∀ j, j < rs.length → x ≠ nI j) → Q (some (.int (nI 0))) sh M N) : PW mX0_has 0 [.ref k, .int x] [] sh M N Q := by
  obtain ⟨h1, h2, h3⟩ := hb
  have := hx.2.1
  refine pw_iload_n 1 rfl rfl rfl ?_
  refine pw_aload_n 2 rfl rfl rfl ?_
  refine pw_getI 5 rfl rfl (by first | assumption | exact ⟨by decide, rfl⟩) rfl ?_
  rw [hx.1]
  refine pw_cS2 8 rfl rfl rfl (Nat.le_of_ble_eq_true rfl) rfl rfl (Nat.le_of_ble_eq_true rfl) (c_isWithin (by omega) (fun j hj e => ?_) (fun h => ?_))
  · refine pw_pI ?_
    skip
    exact pw_zret rfl rfl (by first | exact Or.inl rfl | exact Or.inr rfl | assumption) (ky j hj e)
  · refine pw_pI ?_
    skip
    exact pw_zret rfl rfl (by first | exact Or.inl rfl | exact Or.inr rfl | assumption) (kn h)
theorem all_v : ∀ n, n < 11 → (nI 1 <<< (nI n &&& 31)) - nI 1 = nI (2 ^ n - 1) := by decide +kernel
theorem c_Book_all (hb : isBook sh k) (hx : bookIs M k rs) (kk : Q (some (.int (nI (2 ^ rs.length - 1)))) sh M N) : PW mX0_all 0 [.ref k] [] sh M N Q := by
  obtain ⟨h1, h2, h3⟩ := hb
  refine pw_iconst (v := nI 1) 1 rfl rfl (by decide) ?_
  refine pw_aload_n 2 rfl rfl rfl ?_
  refine pw_getI 5 rfl rfl (by first | assumption | exact ⟨by decide, rfl⟩) rfl ?_
  refine pw_ishl 6 rfl rfl ?_
  refine pw_iconst (v := nI 1) 7 rfl rfl (by decide) ?_
  rw [hx.1]
  refine pw_isub 8 rfl rfl ?_
  rw [all_v _ (by have := hx.2.1; omega)]
  skip
  exact pw_iret rfl rfl (kk)
theorem c_Book_get (hb : isBook sh k) {i : Nat} (hi : i < 10) (kk : Q (some (.ref (k + 7 + 5 * i))) sh M N) : PW mX0_get 0 [.ref k, .int (nI i)] [] sh M N Q := by
  obtain ⟨h1, h2, h3⟩ := hb
  refine pw_iload_n 1 rfl rfl rfl ?_
  refine pw_aload_n 2 rfl rfl rfl ?_
  refine pw_getR 5 rfl rfl (by first | assumption | exact ⟨by decide, rfl⟩) rfl ?_
  refine pw_alen 6 rfl rfl (by first | assumption | exact ⟨by decide, rfl, by decide⟩) (by decide) ?_
  refine pw_cS2 9 rfl rfl rfl (Nat.le_of_ble_eq_true rfl) rfl rfl (Nat.le_of_ble_eq_true rfl) (c_isWithin (by decide) (fun j hj e => ?_) (fun h => absurd rfl (h i hi)))
  refine pw_pI ?_
  skip
  refine pw_if_eq_f 12 rfl rfl (by decide) ?_
  have hg : ((List.range 10).map fun i => some (k + 7 + 5 * i))[i]? = some (some (k + 7 + 5 * i)) := by
    rw [List.getElem?_map, List.getElem?_range hi]; rfl
  refine pw_aload_n 13 rfl rfl rfl ?_
  refine pw_getR 16 rfl rfl (by first | assumption | exact ⟨by decide, rfl⟩) rfl ?_
  refine pw_iload_n 17 rfl rfl rfl ?_
  refine pw_aald _ 18 rfl rfl (by first | assumption | exact ⟨by decide, rfl, by decide⟩) (by decide) (by with_reducible rfl) (by first | assumption | omega) (by first | assumption | rfl) ?_
  refine pw_goto rfl 25 rfl ?_
  exact pw_aret rfl (kk)
theorem c_Book_clear (hb : isBook sh k) (kk : ∀ M', fr k (k + 1) M M' → bookIs M' k [] → Q none sh M' N) : PW mX0_clear 0 [.ref k] [] sh M N Q := by
  obtain ⟨h1, h2, h3⟩ := hb
  refine pw_aload_n 1 rfl rfl rfl ?_
  refine pw_iconst (v := nI 0) 2 rfl rfl (by decide) ?_
  refine pw_putI 5 rfl rfl (by first | assumption | exact ⟨by decide, rfl⟩) rfl (by decide) ?_
  exact pw_vret rfl (kk _ (fr_st M 2 _ (Nat.le_refl k) (Nat.lt_succ_self k)) ⟨st_same _ _ _ _, Nat.zero_le _, fun i r hi => by simp at hi⟩)
/-- one rule more, which stands behind the others already -/
theorem c_Book_grow (hb : isBook sh k) (hx : bookIs M k rs) (hl : rs.length < 10) {r : aR} (hr : ruleIs M (k + 7 + 5 * rs.length) r) (hw : wfR r) (kk : ∀ M', fr k (k + 1) M M' → bookIs M' k (rs ++ [r]) → Q (some (.int (nI 1))) sh M' N) : PW mX0_grow 0 [.ref k] [] sh M N Q := by
  obtain ⟨h1, h2, h3⟩ := hb
  refine pw_aload_n 1 rfl rfl rfl ?_
  refine pw_getI 4 rfl rfl (by first | assumption | exact ⟨by decide, rfl⟩) rfl ?_
  refine pw_bipush (v := nI 10) 6 rfl rfl (by decide) ?_
  rw [hx.1]
  refine pw_icmp_lt_t 11 rfl rfl ((nI_ltI (by omega) (by decide)).mpr hl) ?_
  refine pw_aload_n 12 rfl rfl rfl ?_
  refine pw_dup 13 rfl rfl rfl ?_
  refine pw_getI 16 rfl rfl (by first | assumption | exact ⟨by decide, rfl⟩) rfl ?_
  refine pw_iconst (v := nI 1) 17 rfl rfl (by decide) ?_
  rw [hx.1]
  first | refine pw_iaddN 18 rfl rfl (by with_reducible rfl) (by with_reducible rfl) ?_ | refine pw_iadd 18 rfl rfl ?_
  refine pw_putI 21 rfl rfl (by first | assumption | exact ⟨by decide, rfl⟩) rfl (by decide) ?_
  refine pw_iconst (v := nI 1) 22 rfl rfl (by decide) ?_
  have f0 : fr k (k + 1) M (pmSt M k 2 (nI (rs.length + 1))) := fr_st M 2 _ (Nat.le_refl k) (Nat.lt_succ_self k)
  refine pw_zret rfl rfl (Or.inr rfl) (kk _ f0 ⟨?_, ?_, fun i r2 hi => ?_⟩)
  · rw [st_same, List.length_append]; rfl
  · rw [List.length_append]; simp; omega
  · by_cases q : i < rs.length
    · rw [List.getElem?_append_left q] at hi
      exact ⟨(hx.2.2 i r2 hi).1.mv f0 (by omega), (hx.2.2 i r2 hi).2⟩
    · have hi2 := (List.getElem?_eq_some_iff.mp hi).1
      rw [List.length_append, List.length_cons, List.length_nil] at hi2
      have : i = rs.length := by omega
      subst this
      rw [List.getElem?_append_right (Nat.le_refl _), Nat.sub_self] at hi
      cases hi
      exact ⟨hr.mv f0 (by omega), hw⟩
theorem c_Book_growFull (hb : isBook sh k) (hx : bookIs M k rs) (hl : rs.length = 10) (kk : Q (some (.int (nI 0))) sh M N) : PW mX0_grow 0 [.ref k] [] sh M N Q := by
  obtain ⟨h1, h2, h3⟩ := hb
  refine pw_aload_n 1 rfl rfl rfl ?_
  refine pw_getI 4 rfl rfl (by first | assumption | exact ⟨by decide, rfl⟩) rfl ?_
  refine pw_bipush (v := nI 10) 6 rfl rfl (by decide) ?_
  rw [hx.1]
  refine pw_icmp_lt_f 9 rfl rfl (nI_nlt (by omega) (by omega)) ?_
  refine pw_iconst (v := nI 0) 10 rfl rfl (by decide) ?_
  exact pw_zret rfl rfl (by first | exact Or.inl rfl | exact Or.inr rfl | assumption) (kk)
theorem btake_loop {k2 : Nat} (hb : isBook sh k) (hb2 : isBook sh k2) (hx : bookIs M k2 rs) (hd : k + 57 ≤ k2 ∨ k2 + 57 ≤ k) (kk : ∀ M', fr k (k + 57) M M' → bookIs M' k rs → Q none sh M' N) :
    ∀ (d i : Nat) (M1 : pmM), i + d = rs.length → fr k (k + 57) M M1 → M1 k 2 = nI rs.length → (∀ j r, j < i → rs[j]? = some r → ruleIs M1 (k + 7 + 5 * j) r) → PW mX0_takeFrom 10 [.ref k, .ref k2, .int (nI i)] [] sh M1 N Q := by
  have hb0 := hb
  have hb02 := hb2
  obtain ⟨h1, h2, h3⟩ := hb
  obtain ⟨g1, g2, g3⟩ := hb2
  have h10 := hx.2.1
  intro d
  induction d with
  | zero =>
    intro i M1 hi hf hs hr
    refine pw_iload_n 11 rfl rfl rfl ?_
    refine pw_aload_n 12 rfl rfl rfl ?_
    refine pw_getI 15 rfl rfl (by first | assumption | exact ⟨by decide, rfl⟩) rfl ?_
    rw [hs]
    refine pw_icmp_ge_t 37 rfl rfl (nI_le (by omega) (by omega)) ?_
    skip
    exact pw_vret rfl (kk M1 hf ⟨hs, h10, fun j r hj => ⟨hr j r (by have := (List.getElem?_eq_some_iff.mp hj).1; omega) hj, (hx.2.2 j r hj).2⟩⟩)
  | succ d ih =>
    intro i M1 hi hf hs hr
    refine pw_iload_n 11 rfl rfl rfl ?_
    refine pw_aload_n 12 rfl rfl rfl ?_
    refine pw_getI 15 rfl rfl (by first | assumption | exact ⟨by decide, rfl⟩) rfl ?_
    rw [hs]
    refine pw_icmp_ge_f 18 rfl rfl (nI_ge (by omega) (by omega)) ?_
    refine pw_aload_n 19 rfl rfl rfl ?_
    refine pw_iload_n 20 rfl rfl rfl ?_
    refine pw_cV1 23 rfl rfl (by first | assumption | exact ⟨by decide, rfl⟩) rfl (Nat.le_of_ble_eq_true rfl) rfl rfl (Nat.le_of_ble_eq_true rfl) (c_Book_get hb0 (i := i) (by omega) ?_)
    refine pw_pR ?_
    refine pw_aload_n 24 rfl rfl rfl ?_
    refine pw_iload_n 25 rfl rfl rfl ?_
    refine pw_cV1 28 rfl rfl (by first | assumption | exact ⟨by decide, rfl⟩) rfl (Nat.le_of_ble_eq_true rfl) rfl rfl (Nat.le_of_ble_eq_true rfl) (c_Book_get hb02 (i := i) (by omega) ?_)
    refine pw_pR ?_
    have hlt : i < rs.length := by omega
    obtain ⟨r, hri⟩ : ∃ r, rs[i]? = some r := ⟨_, List.getElem?_eq_getElem hlt⟩
    obtain ⟨e1, e2⟩ := hx.2.2 i r hri
    have o1 := (h3 i (by omega)).1
    skip
    refine pw_cV1 31 rfl rfl (by first | assumption | exact ⟨by decide, rfl⟩) rfl (Nat.le_of_ble_eq_true rfl) rfl rfl (Nat.le_of_ble_eq_true rfl) (c_Rule_takeFrom (h3 i (by omega)) (g3 i (by omega)) (e1.mv hf (by omega)) e2.2.2.1 e2.2.2.2 (by omega) (fun M2 f2 r2 => ?_))
    refine pw_pV ?_
    first | refine pw_iincN2 34 rfl rfl rfl (by with_reducible rfl) ?_ | refine pw_iinc2 (w := _) 34 rfl rfl rfl rfl ?_
    refine pw_goto rfl 10 rfl ?_
    refine ih (i + 1) M2 (by omega) (hf.tr (f2.wk (by omega) (by omega))) (by rw [f2 k (by omega)]; exact hs) (fun j r' hj hr' => ?_)
    by_cases q : j = i
    · subst q
      rw [hri] at hr'
      cases hr'
      exact r2
    · exact (hr j r' (by omega) hr').mv f2 (by omega)
theorem c_Book_takeFrom {k2 : Nat} (hb : isBook sh k) (hb2 : isBook sh k2) (hx : bookIs M k2 rs) (hd : k + 57 ≤ k2 ∨ k2 + 57 ≤ k) (kk : ∀ M', fr k (k + 57) M M' → bookIs M' k rs → Q none sh M' N) : PW mX0_takeFrom 0 [.ref k, .ref k2, .null] [] sh M N Q := by
  have hb0 := hb
  have hb02 := hb2
  obtain ⟨h1, h2, h3⟩ := hb
  obtain ⟨g1, g2, g3⟩ := hb2
  refine pw_aload_n 1 rfl rfl rfl ?_
  refine pw_aload_n 2 rfl rfl rfl ?_
  refine pw_getI 5 rfl rfl (by first | assumption | exact ⟨by decide, rfl⟩) rfl ?_
  refine pw_putI 8 rfl rfl (by first | assumption | exact ⟨by decide, rfl⟩) rfl (by decide) ?_
  refine pw_iconst (v := nI 0) 9 rfl rfl (by decide) ?_
  refine pw_istore2 10 rfl rfl rfl ?_
  rw [hx.1]
  exact btake_loop hb0 hb02 hx hd kk rs.length 0 _ (by omega) (fr_st M 2 _ (Nat.le_refl k) (by omega)) (st_same _ _ _ _) (fun j r hj => absurd hj (Nat.not_lt_zero j))
end BOK
