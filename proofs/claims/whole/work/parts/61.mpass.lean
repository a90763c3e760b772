/-! THE REFERENCE GOES OVER A LINE -/
theorem gR_wf {rs : List aR} (hw : ∀ r ∈ rs, wfR r) {r : Nat} (hr : r < rs.length) : wfR (gR rs r) := by
  have e : gR rs r = rs[r] := by unfold gR; rw [List.getD_eq_getElem?_getD, List.getElem?_eq_getElem hr]; rfl
  rw [e]; exact hw _ (List.getElem_mem hr)
/-- a line in a row -/
def lnAt (f : Nat → Int32) (ls ss : List Int32) (on : Nat) : Prop := f 0 = nI ls.length ∧ f 1 = nI on ∧ (∀ i, i < ls.length → f (2 + i) = ls.getD i 0) ∧ ∀ i, i < ls.length → f (62 + i) = ss.getD i 0
theorem held.ln {f : Nat → Int32} {m : aM} (h : held f 0 m) : lnAt f m.1 m.2.1 m.2.2 := by
  obtain ⟨h1, h2, h3, h4⟩ := h
  refine ⟨h1, h2, fun i hi => ?_, fun i hi => ?_⟩
  · have := h3 i hi; rw [Nat.zero_add] at this; exact this
  · have := h4 i hi; rw [Nat.zero_add] at this; exact this
theorem lnAt.held {f : Nat → Int32} {ls ss : List Int32} {on : Nat} (h : lnAt f ls ss on) : held f 0 (ls, ss, on) := by
  obtain ⟨h1, h2, h3, h4⟩ := h
  refine ⟨h1, h2, fun i hi => ?_, fun i hi => ?_⟩
  · rw [Nat.zero_add]; exact h3 i hi
  · rw [Nat.zero_add]; exact h4 i hi
theorem stB_eq {kd p : Nat} {ph ls : List Int32} : stB kd ph ls p = (!(decide (kd ≠ 0) && ahd ls p) && (decide (p + ph.length ≤ ls.length) && mtB ph ls p ph.length) && !((decide (kd = 1) || decide (kd = 3)) && (decide (p + ph.length < ls.length) && wl (ls.getD (p + ph.length) 0)))) := by
  unfold stB; simp only [Bool.and_assoc]
section MPA
variable {sh : pmS} {M : pmM} {N : pmN} {Q : pmPost} {k : Nat} {rs : List aR} {kd : List Nat} {ls ss : List Int32} {on : Nat}
theorem mkinds_loop (hb : isMod sh k) (kk : ∀ M', fr (k + 19) (k + 20) M M' → (∀ i, i < 10 → M' (k + 19) i = M (k + 2) (1 + i)) → Q none sh M' N) :
    ∀ (d i : Nat) (M1 : pmM), i + d = 10 → fr (k + 19) (k + 20) M M1 → (∀ j, j < i → M1 (k + 19) j = M (k + 2) (1 + j)) → PW mX11_kindsAsTold 2 [.ref k, .int (nI i)] [] sh M1 N Q := by
  obtain ⟨b0, a1, a2, a3, a4, a5, a6, a7, a8, a9, a10, a11, a12, a13, a14, a15, a16, a17, a18, a19, a20⟩ := hb
  intro d
  induction d with
  | zero =>
    intro i M1 hi hf hv
    have : i = 10 := by omega
    subst this
    refine pw_iload_n 3 rfl rfl rfl ?_
    refine pw_bipush (v := nI 10) 5 rfl rfl (by decide) ?_
    refine pw_icmp_ge_t 28 rfl rfl (by decide) ?_
    skip
    exact pw_vret rfl (kk M1 hf hv)
  | succ d ih =>
    intro i M1 hi hf hv
    refine pw_iload_n 3 rfl rfl rfl ?_
    refine pw_bipush (v := nI 10) 5 rfl rfl (by decide) ?_
    refine pw_icmp_ge_f 8 rfl rfl (nI_ge (by omega) (by omega)) ?_
    refine pw_aload_n 9 rfl rfl rfl ?_
    refine pw_getR 12 rfl rfl (by first | assumption | exact ⟨by decide, rfl⟩) rfl ?_
    refine pw_iload_n 13 rfl rfl rfl ?_
    refine pw_aload_n 14 rfl rfl rfl ?_
    refine pw_getR 17 rfl rfl (by first | assumption | exact ⟨by decide, rfl⟩) rfl ?_
    refine pw_iconst (v := nI 1) 18 rfl rfl (by decide) ?_
    refine pw_iload_n 19 rfl rfl rfl ?_
    first | refine pw_iaddN 20 rfl rfl (by with_reducible rfl) (by with_reducible rfl) ?_ | refine pw_iadd 20 rfl rfl ?_
    refine pw_iald _ 21 rfl rfl (by first | assumption | exact ⟨by decide, rfl, by decide⟩) (by with_reducible rfl) (by first | assumption | omega) ?_
    refine pw_iast _ 22 rfl rfl (by first | assumption | exact ⟨by decide, rfl, by decide⟩) (by with_reducible rfl) (by first | assumption | omega) ?_
    first | refine pw_iincN1 25 rfl rfl rfl (by with_reducible rfl) ?_ | refine pw_iinc1 (w := _) 25 rfl rfl rfl rfl ?_
    refine pw_goto rfl 2 rfl ?_
    refine ih (i + 1) _ (by omega) (hf.tr (fr_st _ _ _ (by omega) (by omega))) (fun j hj => ?_)
    by_cases q : j = i
    · subst q; rw [st_same, hf (k + 2) (by omega)]
    · rw [st_row _ _ _ _ q]; exact hv j (by omega)
theorem c_kindsM (hb : isMod sh k) (hr : ruled (M (k + 2)) rs) (h10 : rs.length ≤ 10) (kk : ∀ M', fr (k + 19) (k + 20) M M' → (∀ r, r < rs.length → M' (k + 19) r = nI ((kds rs).getD r 0)) → Q none sh M' N) : PW mX11_kindsAsTold 0 [.ref k, .null] [] sh M N Q := by
  refine pw_iconst (v := nI 0) 1 rfl rfl (by decide) ?_
  refine pw_istore1 2 rfl rfl rfl ?_
  refine mkinds_loop hb (fun M' f e => kk M' f (fun r hr1 => ?_)) 10 0 M (by decide) fr.rf (fun j hj => absurd hj (Nat.not_lt_zero j))
  rw [e r (by omega), (hr.2 r hr1).1, kds_at hr1]
theorem hp_out {r p kt n i : Nat} (hn : n < 1000) (hi : i < 1000) (kn : Q (some (.int (nI 0))) sh M N) : PW mX11_hasPhrase 31 [.ref k, .ref kt, .int (nI r), .int (nI p), .int (nI n), .int (nI 0), .int (nI i)] [] sh M N Q := by
  refine pw_iload 33 rfl rfl rfl ?_
  refine pw_iload 35 rfl rfl rfl ?_
  refine pw_icmp_ge 82 38 rfl rfl rfl (fun q => ?_) (fun q => ?_)
  · refine pw_iload 84 rfl rfl rfl ?_
    exact pw_zret rfl rfl (by first | exact Or.inl rfl | exact Or.inr rfl | assumption) (kn)
  · refine pw_iload 40 rfl rfl rfl ?_
    refine pw_if_eq_t 82 rfl rfl (rfl) ?_
    refine pw_iload 84 rfl rfl rfl ?_
    exact pw_zret rfl rfl (by first | exact Or.inl rfl | exact Or.inr rfl | assumption) (kn)
theorem hp_loop {r p kt : Nat} (hb : isMod sh k) (ht : pmAy sh kt 0 122 []) (hr : ruled (M (k + 2)) rs) (hw : ∀ r ∈ rs, wfR r) (h10 : rs.length ≤ 10) (hl : lnAt (M kt) ls ss on) (h60 : ls.length ≤ 60) (hr1 : r < rs.length) (hpl : p + (pPh rs r).length ≤ ls.length) (ky : mtB (pPh rs r) ls p (pPh rs r).length = true → Q (some (.int (nI 1))) sh M N) (kn : mtB (pPh rs r) ls p (pPh rs r).length = false → Q (some (.int (nI 0))) sh M N) :
    ∀ (d i : Nat), i + d = (pPh rs r).length → (∀ j, j < i → (pPh rs r).getD j 0 = ls.getD (p + j) 0) → PW mX11_hasPhrase 31 [.ref k, .ref kt, .int (nI r), .int (nI p), .int (nI (pPh rs r).length), .int (nI 1), .int (nI i)] [] sh M N Q := by
  obtain ⟨b0, a1, a2, a3, a4, a5, a6, a7, a8, a9, a10, a11, a12, a13, a14, a15, a16, a17, a18, a19, a20⟩ := hb
  have hwf := gR_wf hw hr1
  have hl6 : (pPh rs r).length ≤ 6 := hwf.2.2.1
  have hru := hr.2 r hr1
  intro d
  induction d with
  | zero =>
    intro i hi hv
    refine pw_iload 33 rfl rfl rfl ?_
    refine pw_iload 35 rfl rfl rfl ?_
    refine pw_icmp_ge_t 82 rfl rfl (nI_le (by omega) (by omega)) ?_
    refine pw_iload 84 rfl rfl rfl ?_
    exact pw_zret rfl rfl (by first | exact Or.inl rfl | exact Or.inr rfl | assumption) (ky (decide_eq_true (fun j hj => hv j (by omega))))
  | succ d ih =>
    intro i hi hv
    have hx1 : 2 + p + i < 122 := by omega
    have hx2 : 31 + 6 * r + i < 151 := by omega
    refine pw_iload 33 rfl rfl rfl ?_
    refine pw_iload 35 rfl rfl rfl ?_
    refine pw_icmp_ge_f 38 rfl rfl (nI_ge (by omega) (by omega)) ?_
    refine pw_iload 40 rfl rfl rfl ?_
    refine pw_if_eq_f 43 rfl rfl (by decide) ?_
    refine pw_aload_n 44 rfl rfl rfl ?_
    refine pw_iconst (v := nI 2) 45 rfl rfl (by decide) ?_
    refine pw_iload_n 46 rfl rfl rfl ?_
    first | refine pw_iaddN 47 rfl rfl (by with_reducible rfl) (by with_reducible rfl) ?_ | refine pw_iadd 47 rfl rfl ?_
    refine pw_iload 49 rfl rfl rfl ?_
    first | refine pw_iaddN 50 rfl rfl (by with_reducible rfl) (by with_reducible rfl) ?_ | refine pw_iadd 50 rfl rfl ?_
    refine pw_iald _ 51 rfl rfl (by first | assumption | exact ⟨by decide, rfl, by decide⟩) (by with_reducible rfl) (by first | assumption | omega) ?_
    rw [Nat.add_assoc 2 p i, hl.2.2.1 (p + i) (by omega)]
    refine pw_aload_n 52 rfl rfl rfl ?_
    refine pw_getR 55 rfl rfl (by first | assumption | exact ⟨by decide, rfl⟩) rfl ?_
    refine pw_bipush (v := nI 31) 57 rfl rfl (by decide) ?_
    refine pw_bipush (v := nI 6) 59 rfl rfl (by decide) ?_
    refine pw_iload_n 60 rfl rfl rfl ?_
    first | refine pw_imulN 61 rfl rfl (by with_reducible rfl) (by with_reducible rfl) ?_ | refine pw_imul 61 rfl rfl ?_
    first | refine pw_iaddN 62 rfl rfl (by with_reducible rfl) (by with_reducible rfl) ?_ | refine pw_iadd 62 rfl rfl ?_
    refine pw_iload 64 rfl rfl rfl ?_
    first | refine pw_iaddN 65 rfl rfl (by with_reducible rfl) (by with_reducible rfl) ?_ | refine pw_iadd 65 rfl rfl ?_
    refine pw_iald _ 66 rfl rfl (by first | assumption | exact ⟨by decide, rfl, by decide⟩) (by with_reducible rfl) (by first | assumption | omega) ?_
    rw [hru.2.2.2.1 i (by omega)]
    refine pw_icmp_ne 73 69 rfl rfl rfl (fun q => ?_) (fun q => ?_)
    · refine pw_iconst (v := nI 0) 74 rfl rfl (by decide) ?_
      refine pw_istore5 76 rfl rfl rfl ?_
      first | refine pw_iincN6 79 rfl rfl rfl (by with_reducible rfl) ?_ | refine pw_iinc6 (w := _) 79 rfl rfl rfl rfl ?_
      refine pw_goto rfl 31 rfl ?_
      refine hp_out (by omega) (by omega) (kn ?_)
      exact decide_eq_false (fun h => q (h i (by omega)).symm)
    · have q := Decidable.not_not.mp q
      refine pw_iconst (v := nI 1) 70 rfl rfl (by decide) ?_
      refine pw_goto rfl 74 rfl ?_
      refine pw_istore5 76 rfl rfl rfl ?_
      first | refine pw_iincN6 79 rfl rfl rfl (by with_reducible rfl) ?_ | refine pw_iinc6 (w := _) 79 rfl rfl rfl rfl ?_
      refine pw_goto rfl 31 rfl ?_
      refine ih (i + 1) (by omega) (fun j hj => ?_)
      by_cases e : j = i
      · subst e; exact q.symm
      · exact hv j (by omega)
theorem c_hasPhrase {r p kt : Nat} (hb : isMod sh k) (ht : pmAy sh kt 0 122 []) (hr : ruled (M (k + 2)) rs) (hw : ∀ r ∈ rs, wfR r) (h10 : rs.length ≤ 10) (hl : lnAt (M kt) ls ss on) (h60 : ls.length ≤ 60) (hr1 : r < rs.length) (hp : p < ls.length) (ky : (decide (p + (pPh rs r).length ≤ ls.length) && mtB (pPh rs r) ls p (pPh rs r).length) = true → Q (some (.int (nI 1))) sh M N) (kn : (decide (p + (pPh rs r).length ≤ ls.length) && mtB (pPh rs r) ls p (pPh rs r).length) = false → Q (some (.int (nI 0))) sh M N) : PW mX11_hasPhrase 0 [.ref k, .ref kt, .int (nI r), .int (nI p), .null, .null, .null] [] sh M N Q := by
  have hb0 := hb
  obtain ⟨b0, a1, a2, a3, a4, a5, a6, a7, a8, a9, a10, a11, a12, a13, a14, a15, a16, a17, a18, a19, a20⟩ := hb
  have hwf := gR_wf hw hr1
  have hl6 : (pPh rs r).length ≤ 6 := hwf.2.2.1
  have hl1 : 1 ≤ (pPh rs r).length := hwf.2.1
  have hx2 : 11 + r < 151 := by omega
  refine pw_aload_n 1 rfl rfl rfl ?_
  refine pw_getR 4 rfl rfl (by first | assumption | exact ⟨by decide, rfl⟩) rfl ?_
  refine pw_bipush (v := nI 11) 6 rfl rfl (by decide) ?_
  refine pw_iload_n 7 rfl rfl rfl ?_
  first | refine pw_iaddN 8 rfl rfl (by with_reducible rfl) (by with_reducible rfl) ?_ | refine pw_iadd 8 rfl rfl ?_
  refine pw_iald _ 9 rfl rfl (by first | assumption | exact ⟨by decide, rfl, by decide⟩) (by with_reducible rfl) (by first | assumption | omega) ?_
  rw [(hr.2 r hr1).2.1]
  refine pw_istore4 11 rfl rfl rfl ?_
  refine pw_iload_n 12 rfl rfl rfl ?_
  refine pw_iload 14 rfl rfl rfl ?_
  first | refine pw_iaddN 15 rfl rfl (by with_reducible rfl) (by with_reducible rfl) ?_ | refine pw_iadd 15 rfl rfl ?_
  refine pw_aload_n 16 rfl rfl rfl ?_
  refine pw_iconst (v := nI 0) 17 rfl rfl (by decide) ?_
  refine pw_iald _ 18 rfl rfl (by first | assumption | exact ⟨by decide, rfl, by decide⟩) (by with_reducible rfl) (by first | assumption | omega) ?_
  rw [hl.1]
  refine pw_icmp_gt 25 21 rfl rfl rfl (fun q => ?_) (fun q => ?_)
  · have q := (nI_ltI (by omega) (by omega)).mp q
    refine pw_iconst (v := nI 0) 26 rfl rfl (by decide) ?_
    refine pw_istore5 28 rfl rfl rfl ?_
    refine pw_iconst (v := nI 0) 29 rfl rfl (by decide) ?_
    refine pw_istore6 31 rfl rfl rfl ?_
    exact hp_out (by omega) (by omega) (kn (by rw [decide_eq_false (by omega)]; rfl))
  · have q : p + (pPh rs r).length ≤ ls.length := Nat.le_of_not_lt (fun h => q ((nI_ltI (by omega) (by omega)).mpr h))
    rw [decide_eq_true q, Bool.true_and] at ky kn
    refine pw_iconst (v := nI 1) 22 rfl rfl (by decide) ?_
    refine pw_goto rfl 26 rfl ?_
    refine pw_istore5 28 rfl rfl rfl ?_
    refine pw_iconst (v := nI 0) 29 rfl rfl (by decide) ?_
    refine pw_istore6 31 rfl rfl rfl ?_
    exact hp_loop hb0 ht hr hw h10 hl h60 hr1 q ky kn _ 0 (Nat.zero_add _) (fun j hj => absurd hj (Nat.not_lt_zero j))
theorem c_isSmallAt {kt : Nat} {x : Int32} (ht : pmAy sh kt 0 122 []) (hl : lnAt (M kt) ls ss on) (h60 : ls.length ≤ 60) (ky : ∀ j, j < ls.length → x = nI j → wl (ls.getD j 0) = true → Q (some (.int (nI 1))) sh M N) (kn : (∀ j, j < ls.length → x = nI j → wl (ls.getD j 0) = false) → Q (some (.int (nI 0))) sh M N) : PW mX11_isSmallAt 0 [.ref kt, .int x] [] sh M N Q := by
  refine pw_iload_n 1 rfl rfl rfl ?_
  refine pw_if_lt 26 4 rfl rfl rfl (fun q => ?_) (fun q => ?_)
  · refine pw_iconst (v := nI 0) 27 rfl rfl (by decide) ?_
    exact pw_zret rfl rfl (by first | exact Or.inl rfl | exact Or.inr rfl | assumption) (kn (fun j hj e => absurd q (by rw [e]; exact nI_pos (by omega))))
  · obtain ⟨j, hj, rfl⟩ := nI_of q
    refine pw_iload_n 5 rfl rfl rfl ?_
    refine pw_aload_n 6 rfl rfl rfl ?_
    refine pw_iconst (v := nI 0) 7 rfl rfl (by decide) ?_
    refine pw_iald _ 8 rfl rfl (by first | assumption | exact ⟨by decide, rfl, by decide⟩) (by with_reducible rfl) (by first | assumption | omega) ?_
    rw [hl.1]
    refine pw_icmp_ge 26 11 rfl rfl rfl (fun q2 => ?_) (fun q2 => ?_)
    · have q2 := (nI_leI (by omega) hj).mp q2
      refine pw_iconst (v := nI 0) 27 rfl rfl (by decide) ?_
      exact pw_zret rfl rfl (by first | exact Or.inl rfl | exact Or.inr rfl | assumption) (kn (fun i hi e => by have := (nI_eq hj (by omega)).mp e; omega))
    · have q2 : j < ls.length := Nat.lt_of_not_le (fun h => q2 ((nI_leI (by omega) hj).mpr h))
      have hx1 : 2 + j < 122 := by omega
      refine pw_aload_n 12 rfl rfl rfl ?_
      refine pw_iconst (v := nI 2) 13 rfl rfl (by decide) ?_
      refine pw_iload_n 14 rfl rfl rfl ?_
      first | refine pw_iaddN 15 rfl rfl (by with_reducible rfl) (by with_reducible rfl) ?_ | refine pw_iadd 15 rfl rfl ?_
      refine pw_iald _ 16 rfl rfl (by first | assumption | exact ⟨by decide, rfl, by decide⟩) (by with_reducible rfl) (by first | assumption | omega) ?_
      rw [hl.2.2.1 j q2]
      refine pw_cS1 19 rfl rfl rfl (Nat.le_of_ble_eq_true rfl) rfl rfl (Nat.le_of_ble_eq_true rfl) (c_isSmall (fun h => ?_) (fun h => ?_))
      · refine pw_pI ?_
        skip
        refine pw_if_eq_f 22 rfl rfl (by decide) ?_
        refine pw_iconst (v := nI 1) 23 rfl rfl (by decide) ?_
        refine pw_goto rfl 27 rfl ?_
        exact pw_zret rfl rfl (by first | exact Or.inl rfl | exact Or.inr rfl | assumption) (ky j q2 rfl h)
      · refine pw_pI ?_
        skip
        refine pw_if_eq_t 26 rfl rfl (by decide) ?_
        refine pw_iconst (v := nI 0) 27 rfl rfl (by decide) ?_
        exact pw_zret rfl rfl (by first | exact Or.inl rfl | exact Or.inr rfl | assumption) (kn (fun i hi e => by have := (nI_eq hj (by omega)).mp e; subst this; exact h))
theorem c_small1 {kt p : Nat} (ht : pmAy sh kt 0 122 []) (hl : lnAt (M kt) ls ss on) (h60 : ls.length ≤ 60) (hp : p < ls.length) (ky : ahd ls p = true → Q (some (.int (nI 1))) sh M N) (kn : ahd ls p = false → Q (some (.int (nI 0))) sh M N) : PW mX11_isSmallAt 0 [.ref kt, .int (nI p - nI 1)] [] sh M N Q := by
  by_cases q : p = 0
  · subst q
    refine c_isSmallAt ht hl h60 (fun j hj e => ?_) (fun _ => kn rfl)
    exact absurd (show nI 0 - nI 1 < 0 by decide) (by rw [e]; exact nI_pos (by omega))
  · have e1 : nI p - nI 1 = nI (p - 1) := by
      obtain ⟨m, rfl⟩ : ∃ m, p = m + 1 := ⟨p - 1, by omega⟩
      exact nI_pred m
    have e2 : ahd ls p = wl (ls.getD (p - 1) 0) := by unfold ahd; rw [decide_eq_true (by omega), Bool.true_and]
    rw [e2] at ky kn
    rw [e1]
    refine c_isSmallAt ht hl h60 (fun j hj e h => ky ?_) (fun h => kn (h (p - 1) (by omega) rfl))
    have := (nI_eq (by omega) (by omega)).mp e
    rw [this]; exact h
theorem c_small2 {kt p : Nat} (ht : pmAy sh kt 0 122 []) (hl : lnAt (M kt) ls ss on) (h60 : ls.length ≤ 60) (hp : p < 1000) (ky : (decide (p < ls.length) && wl (ls.getD p 0)) = true → Q (some (.int (nI 1))) sh M N) (kn : (decide (p < ls.length) && wl (ls.getD p 0)) = false → Q (some (.int (nI 0))) sh M N) : PW mX11_isSmallAt 0 [.ref kt, .int (nI p)] [] sh M N Q := by
  refine c_isSmallAt ht hl h60 (fun j hj e h => ky ?_) (fun h => kn ?_)
  · have := (nI_eq (by omega) (by omega)).mp e
    subst this
    rw [decide_eq_true hj, h]; rfl
  · by_cases q : p < ls.length
    · rw [h p q rfl, Bool.and_false]
    · rw [decide_eq_false q]; rfl
theorem c_standsM {r p kt d u : Nat} (hb : isMod sh k) (ht : pmAy sh kt 0 122 []) (hr : ruled (M (k + 2)) rs) (hw : ∀ r ∈ rs, wfR r) (h10 : rs.length ≤ 10) (hl : lnAt (M kt) ls ss on) (h60 : ls.length ≤ 60) (hr1 : r < rs.length) (hp : p < ls.length) (hd : M (k + 19) r = nI d) (hd5 : d < 5) (hu : M (k + 17) r = nI u) (hu5 : u < 1000)
    (ky : (stB d (pPh rs r) ls p && !(decide (d = 4) && decide (u ≠ 0))) = true → Q (some (.int (nI 1))) sh M N) (kn : (stB d (pPh rs r) ls p && !(decide (d = 4) && decide (u ≠ 0))) = false → Q (some (.int (nI 0))) sh M N) : PW mX11_stands 0 [.ref k, .ref kt, .int (nI r), .int (nI p)] [] sh M N Q := by
  have hb0 := hb
  obtain ⟨b0, a1, a2, a3, a4, a5, a6, a7, a8, a9, a10, a11, a12, a13, a14, a15, a16, a17, a18, a19, a20⟩ := hb
  have hwf := gR_wf hw hr1
  have hl6 : (pPh rs r).length ≤ 6 := hwf.2.2.1
  have hx1 : r < 10 := by omega
  have hx2 : 11 + r < 151 := by omega
  rw [stB_eq] at ky kn
  refine pw_aload_n 1 rfl rfl rfl ?_
  refine pw_aload_n 2 rfl rfl rfl ?_
  refine pw_iload_n 3 rfl rfl rfl ?_
  refine pw_iload_n 4 rfl rfl rfl ?_
  refine pw_cV3 7 rfl rfl (by first | assumption | exact ⟨by decide, rfl⟩) rfl (Nat.le_of_ble_eq_true rfl) rfl rfl (Nat.le_of_ble_eq_true rfl) (c_hasPhrase hb0 ht hr hw h10 hl h60 hr1 hp (fun hq => ?_) (fun hq => ?_))
  · refine pw_pI ?_
    rw [hq] at ky kn
    skip
    refine pw_if_ne_t 12 rfl rfl (by decide) ?_
    refine pw_aload_n 13 rfl rfl rfl ?_
    refine pw_getR 16 rfl rfl (by first | assumption | exact ⟨by decide, rfl⟩) rfl ?_
    refine pw_iload_n 17 rfl rfl rfl ?_
    refine pw_iald _ 18 rfl rfl (by first | assumption | exact ⟨by decide, rfl, by decide⟩) (by with_reducible rfl) (by first | assumption | omega) ?_
    rw [hd]
    have whole : d = 1 ∨ d = 3 → PW mX11_stands 50 [.ref k, .ref kt, .int (nI r), .int (nI p)] [] sh M N Q := by
      intro h13
      have e1 : (decide (d = 1) || decide (d = 3)) = true := by rcases h13 with rfl | rfl <;> rfl
      have e2 : decide (d ≠ 0) = true := decide_eq_true (by omega)
      have e3 : decide (d = 4) = false := decide_eq_false (by omega)
      rw [e1, e2, e3] at ky kn
      refine pw_aload_n 51 rfl rfl rfl ?_
      refine pw_iload_n 52 rfl rfl rfl ?_
      refine pw_iconst (v := nI 1) 53 rfl rfl (by decide) ?_
      first | refine pw_isubN 54 rfl rfl (by with_reducible rfl) (by with_reducible rfl) (by omega) ?_ | refine pw_isub 54 rfl rfl ?_
      refine pw_cS2 57 rfl rfl rfl (Nat.le_of_ble_eq_true rfl) rfl rfl (Nat.le_of_ble_eq_true rfl) (c_small1 ht hl h60 hp (fun h1 => ?_) (fun h1 => ?_))
      · refine pw_pI ?_
        rw [h1] at kn
        skip
        refine pw_if_ne_t 82 rfl rfl (by decide) ?_
        refine pw_iconst (v := nI 0) 83 rfl rfl (by decide) ?_
        exact pw_zret rfl rfl (by first | exact Or.inl rfl | exact Or.inr rfl | assumption) (kn rfl)
      · refine pw_pI ?_
        rw [h1] at ky kn
        skip
        refine pw_if_ne_f 60 rfl rfl (by decide) ?_
        refine pw_aload_n 61 rfl rfl rfl ?_
        refine pw_iload_n 62 rfl rfl rfl ?_
        refine pw_aload_n 63 rfl rfl rfl ?_
        refine pw_getR 66 rfl rfl (by first | assumption | exact ⟨by decide, rfl⟩) rfl ?_
        refine pw_bipush (v := nI 11) 68 rfl rfl (by decide) ?_
        refine pw_iload_n 69 rfl rfl rfl ?_
        first | refine pw_iaddN 70 rfl rfl (by with_reducible rfl) (by with_reducible rfl) ?_ | refine pw_iadd 70 rfl rfl ?_
        refine pw_iald _ 71 rfl rfl (by first | assumption | exact ⟨by decide, rfl, by decide⟩) (by with_reducible rfl) (by first | assumption | omega) ?_
        rw [(hr.2 r hr1).2.1]
        first | refine pw_iaddN 72 rfl rfl (by with_reducible rfl) (by with_reducible rfl) ?_ | refine pw_iadd 72 rfl rfl ?_
        refine pw_cS2 75 rfl rfl rfl (Nat.le_of_ble_eq_true rfl) rfl rfl (Nat.le_of_ble_eq_true rfl) (c_small2 ht hl h60 (by omega) (fun h2 => ?_) (fun h2 => ?_))
        · refine pw_pI ?_
          rw [h2] at kn
          skip
          refine pw_if_ne_t 82 rfl rfl (by decide) ?_
          refine pw_iconst (v := nI 0) 83 rfl rfl (by decide) ?_
          exact pw_zret rfl rfl (by first | exact Or.inl rfl | exact Or.inr rfl | assumption) (kn rfl)
        · refine pw_pI ?_
          rw [h2] at ky
          skip
          refine pw_if_ne_f 78 rfl rfl (by decide) ?_
          refine pw_iconst (v := nI 1) 79 rfl rfl (by decide) ?_
          refine pw_goto rfl 83 rfl ?_
          exact pw_zret rfl rfl (by first | exact Or.inl rfl | exact Or.inr rfl | assumption) (ky rfl)
    rcases (show d = 0 ∨ d = 1 ∨ d = 2 ∨ d = 3 ∨ d = 4 by omega) with rfl | rfl | rfl | rfl | rfl
    · skip
      refine pw_tsw 48 rfl (rfl) ?_
      refine pw_iconst (v := nI 1) 49 rfl rfl (by decide) ?_
      exact pw_zret rfl rfl (by first | exact Or.inl rfl | exact Or.inr rfl | assumption) (ky rfl)
    · skip
      refine pw_tsw 50 rfl (rfl) ?_
      exact whole (Or.inl rfl)
    · skip
      refine pw_tsw 84 rfl (rfl) ?_
      refine pw_aload_n 85 rfl rfl rfl ?_
      refine pw_iload_n 86 rfl rfl rfl ?_
      refine pw_iconst (v := nI 1) 87 rfl rfl (by decide) ?_
      first | refine pw_isubN 88 rfl rfl (by with_reducible rfl) (by with_reducible rfl) (by omega) ?_ | refine pw_isub 88 rfl rfl ?_
      refine pw_cS2 91 rfl rfl rfl (Nat.le_of_ble_eq_true rfl) rfl rfl (Nat.le_of_ble_eq_true rfl) (c_small1 ht hl h60 hp (fun h1 => ?_) (fun h1 => ?_))
      · refine pw_pI ?_
        rw [h1] at kn
        skip
        refine pw_if_ne_t 98 rfl rfl (by decide) ?_
        refine pw_iconst (v := nI 0) 99 rfl rfl (by decide) ?_
        exact pw_zret rfl rfl (by first | exact Or.inl rfl | exact Or.inr rfl | assumption) (kn rfl)
      · refine pw_pI ?_
        rw [h1] at ky
        skip
        refine pw_if_ne_f 94 rfl rfl (by decide) ?_
        refine pw_iconst (v := nI 1) 95 rfl rfl (by decide) ?_
        refine pw_goto rfl 99 rfl ?_
        exact pw_zret rfl rfl (by first | exact Or.inl rfl | exact Or.inr rfl | assumption) (ky rfl)
    · skip
      refine pw_tsw 50 rfl (rfl) ?_
      exact whole (Or.inr rfl)
    · skip
      refine pw_tsw 100 rfl (rfl) ?_
      refine pw_aload_n 101 rfl rfl rfl ?_
      refine pw_iload_n 102 rfl rfl rfl ?_
      refine pw_iconst (v := nI 1) 103 rfl rfl (by decide) ?_
      first | refine pw_isubN 104 rfl rfl (by with_reducible rfl) (by with_reducible rfl) (by omega) ?_ | refine pw_isub 104 rfl rfl ?_
      refine pw_cS2 107 rfl rfl rfl (Nat.le_of_ble_eq_true rfl) rfl rfl (Nat.le_of_ble_eq_true rfl) (c_small1 ht hl h60 hp (fun h1 => ?_) (fun h1 => ?_))
      · refine pw_pI ?_
        rw [h1] at kn
        skip
        refine pw_if_ne_t 123 rfl rfl (by decide) ?_
        refine pw_iconst (v := nI 0) 124 rfl rfl (by decide) ?_
        exact pw_zret rfl rfl (by first | exact Or.inl rfl | exact Or.inr rfl | assumption) (kn rfl)
      · refine pw_pI ?_
        rw [h1] at ky kn
        skip
        refine pw_if_ne_f 110 rfl rfl (by decide) ?_
        refine pw_aload_n 111 rfl rfl rfl ?_
        refine pw_getR 114 rfl rfl (by first | assumption | exact ⟨by decide, rfl⟩) rfl ?_
        refine pw_iload_n 115 rfl rfl rfl ?_
        refine pw_iald _ 116 rfl rfl (by first | assumption | exact ⟨by decide, rfl, by decide⟩) (by with_reducible rfl) (by first | assumption | omega) ?_
        rw [hu]
        by_cases q : u = 0
        · subst q
          skip
          refine pw_if_ne_f 119 rfl rfl (fun e => e rfl) ?_
          refine pw_iconst (v := nI 1) 120 rfl rfl (by decide) ?_
          refine pw_goto rfl 124 rfl ?_
          exact pw_zret rfl rfl (by first | exact Or.inl rfl | exact Or.inr rfl | assumption) (ky rfl)
        · rw [decide_eq_true q] at kn
          skip
          refine pw_if_ne_t 123 rfl rfl (nI_ne0 (by omega) (by omega)) ?_
          refine pw_iconst (v := nI 0) 124 rfl rfl (by decide) ?_
          exact pw_zret rfl rfl (by first | exact Or.inl rfl | exact Or.inr rfl | assumption) (kn rfl)
  · refine pw_pI ?_
    rw [hq, Bool.and_false] at kn
    skip
    refine pw_if_ne_f 10 rfl rfl (by decide) ?_
    refine pw_iconst (v := nI 0) 11 rfl rfl (by decide) ?_
    exact pw_zret rfl rfl (by first | exact Or.inl rfl | exact Or.inr rfl | assumption) (kn rfl)
theorem c_givenBy {r i d : Nat} (hb : isMod sh k) (hr : ruled (M (k + 2)) rs) (hw : ∀ r ∈ rs, wfR r) (h10 : rs.length ≤ 10) (hr1 : r < rs.length) (hi : i < (pGf rs r).length) (hd : M (k + 19) r = nI d) (hd5 : d < 5) (kk : Q (some (.int ((giv d (pGf rs r)).getD i 0))) sh M N) : PW mX11_givenBy 0 [.ref k, .int (nI r), .int (nI i)] [] sh M N Q := by
  obtain ⟨b0, a1, a2, a3, a4, a5, a6, a7, a8, a9, a10, a11, a12, a13, a14, a15, a16, a17, a18, a19, a20⟩ := hb
  have hwf := gR_wf hw hr1
  have hl6 : (pGf rs r).length ≤ 6 := hwf.2.2.2
  have hru := hr.2 r hr1
  have hx1 : r < 10 := by omega
  have hx2 : 21 + r < 151 := by omega
  have hx3 : 91 + 6 * r + i < 151 := by omega
  have hx4 : 91 + 6 * r + ((pGf rs r).length - 1 - i) < 151 := by omega
  refine pw_aload_n 1 rfl rfl rfl ?_
  refine pw_getR 4 rfl rfl (by first | assumption | exact ⟨by decide, rfl⟩) rfl ?_
  refine pw_bipush (v := nI 91) 6 rfl rfl (by decide) ?_
  refine pw_bipush (v := nI 6) 8 rfl rfl (by decide) ?_
  refine pw_iload_n 9 rfl rfl rfl ?_
  first | refine pw_imulN 10 rfl rfl (by with_reducible rfl) (by with_reducible rfl) ?_ | refine pw_imul 10 rfl rfl ?_
  first | refine pw_iaddN 11 rfl rfl (by with_reducible rfl) (by with_reducible rfl) ?_ | refine pw_iadd 11 rfl rfl ?_
  refine pw_aload_n 12 rfl rfl rfl ?_
  refine pw_getR 15 rfl rfl (by first | assumption | exact ⟨by decide, rfl⟩) rfl ?_
  refine pw_iload_n 16 rfl rfl rfl ?_
  refine pw_iald _ 17 rfl rfl (by first | assumption | exact ⟨by decide, rfl, by decide⟩) (by with_reducible rfl) (by first | assumption | omega) ?_
  refine pw_iconst (v := nI 3) 18 rfl rfl (by decide) ?_
  rw [hd]
  refine pw_icmp_ne 37 21 rfl rfl rfl (fun q => ?_) (fun q => ?_)
  · have q : ¬ d = 3 := fun e => q (by rw [e])
    unfold giv at kk
    rw [if_neg q] at kk
    refine pw_iload_n 38 rfl rfl rfl ?_
    first | refine pw_iaddN 39 rfl rfl (by with_reducible rfl) (by with_reducible rfl) ?_ | refine pw_iadd 39 rfl rfl ?_
    refine pw_iald _ 40 rfl rfl (by first | assumption | exact ⟨by decide, rfl, by decide⟩) (by with_reducible rfl) (by first | assumption | omega) ?_
    rw [hru.2.2.2.2 i hi]
    exact pw_iret rfl rfl (kk)
  · have q : d = 3 := (nI_eq (by omega) (by omega)).mp (Decidable.not_not.mp q)
    subst q
    have e : (giv 3 (pGf rs r)).getD i 0 = (pGf rs r).getD ((pGf rs r).length - 1 - i) 0 := by
      unfold giv
      rw [if_pos rfl, List.getD_eq_getElem?_getD, List.getElem?_reverse hi, ← List.getD_eq_getElem?_getD]
    rw [e] at kk
    refine pw_aload_n 22 rfl rfl rfl ?_
    refine pw_getR 25 rfl rfl (by first | assumption | exact ⟨by decide, rfl⟩) rfl ?_
    refine pw_bipush (v := nI 21) 27 rfl rfl (by decide) ?_
    refine pw_iload_n 28 rfl rfl rfl ?_
    first | refine pw_iaddN 29 rfl rfl (by with_reducible rfl) (by with_reducible rfl) ?_ | refine pw_iadd 29 rfl rfl ?_
    refine pw_iald _ 30 rfl rfl (by first | assumption | exact ⟨by decide, rfl, by decide⟩) (by with_reducible rfl) (by first | assumption | omega) ?_
    rw [hru.2.2.1]
    refine pw_iconst (v := nI 1) 31 rfl rfl (by decide) ?_
    first | refine pw_isubN 32 rfl rfl (by with_reducible rfl) (by with_reducible rfl) (by omega) ?_ | refine pw_isub 32 rfl rfl ?_
    refine pw_iload_n 33 rfl rfl rfl ?_
    first | refine pw_isubN 34 rfl rfl (by with_reducible rfl) (by with_reducible rfl) (by omega) ?_ | refine pw_isub 34 rfl rfl ?_
    refine pw_goto rfl 38 rfl ?_
    first | refine pw_iaddN 39 rfl rfl (by with_reducible rfl) (by with_reducible rfl) ?_ | refine pw_iadd 39 rfl rfl ?_
    refine pw_iald _ 40 rfl rfl (by first | assumption | exact ⟨by decide, rfl, by decide⟩) (by with_reducible rfl) (by first | assumption | omega) ?_
    rw [hru.2.2.2.2 _ (by omega)]
    exact pw_iret rfl rfl (kk)
theorem c_comesIn {n : Nat} {v w : Int32} (hb : isMod sh k) (hn : n < 360) (hc : M k 24 = nI n) (kk : ∀ M', (∀ x, x ≠ k → x ≠ k + 15 → x ≠ k + 16 → M' x = M x) → (∀ j, j ≠ 24 → M' k j = M k j) → M' k 24 = nI (n + 1) → M' (k + 15) = upd (M (k + 15)) n v → M' (k + 16) = upd (M (k + 16)) n w → Q none sh M' N) : PW mX11_comesIn 0 [.ref k, .int v, .int w] [] sh M N Q := by
  obtain ⟨b0, a1, a2, a3, a4, a5, a6, a7, a8, a9, a10, a11, a12, a13, a14, a15, a16, a17, a18, a19, a20⟩ := hb
  refine pw_aload_n 1 rfl rfl rfl ?_
  refine pw_getR 4 rfl rfl (by first | assumption | exact ⟨by decide, rfl⟩) rfl ?_
  refine pw_aload_n 5 rfl rfl rfl ?_
  refine pw_getI 8 rfl rfl (by first | assumption | exact ⟨by decide, rfl⟩) rfl ?_
  rw [hc]
  refine pw_iload_n 9 rfl rfl rfl ?_
  refine pw_iast _ 10 rfl rfl (by first | assumption | exact ⟨by decide, rfl, by decide⟩) (by with_reducible rfl) (by first | assumption | omega) ?_
  refine pw_aload_n 11 rfl rfl rfl ?_
  refine pw_getR 14 rfl rfl (by first | assumption | exact ⟨by decide, rfl⟩) rfl ?_
  refine pw_aload_n 15 rfl rfl rfl ?_
  refine pw_getI 18 rfl rfl (by first | assumption | exact ⟨by decide, rfl⟩) rfl ?_
  rw [st_ne _ _ _ _ (by omega), hc]
  refine pw_iload_n 19 rfl rfl rfl ?_
  refine pw_iast _ 20 rfl rfl (by first | assumption | exact ⟨by decide, rfl, by decide⟩) (by with_reducible rfl) (by first | assumption | omega) ?_
  refine pw_aload_n 21 rfl rfl rfl ?_
  refine pw_dup 22 rfl rfl rfl ?_
  refine pw_getI 25 rfl rfl (by first | assumption | exact ⟨by decide, rfl⟩) rfl ?_
  rw [st_ne _ _ _ _ (by omega), st_ne _ _ _ _ (by omega), hc]
  refine pw_iconst (v := nI 1) 26 rfl rfl (by decide) ?_
  first | refine pw_iaddN 27 rfl rfl (by with_reducible rfl) (by with_reducible rfl) ?_ | refine pw_iadd 27 rfl rfl ?_
  refine pw_putI 30 rfl rfl (by first | assumption | exact ⟨by decide, rfl⟩) rfl (by decide) ?_
  refine pw_vret rfl (kk _ (fun x h1 h2 h3 => ?_) (fun j hj => ?_) (st_same _ _ _ _) ?_ ?_)
  · rw [st_ne _ _ _ _ h1, st_ne _ _ _ _ h3, st_ne _ _ _ _ h2]
  · rw [st_row _ _ _ _ hj, st_ne _ _ _ _ (by omega), st_ne _ _ _ _ (by omega)]
  · rw [st_ne _ _ _ _ (by omega), st_ne _ _ _ _ (by omega), pmSt_row]
  · rw [st_ne _ _ _ _ (by omega), pmSt_row, st_ne _ _ _ _ (by omega)]
end MPA
