/-! reading rules; State.begin, addRule -/
theorem lk_kind {x : Int32} (h1 : ¬ x = nI 102) (h2 : ¬ x = nI 111) (h3 : ¬ x = nI 112) (h4 : ¬ x = nI 116) (h5 : ¬ x = nI 119) : pmLk 1 61 #[(102, 55), (111, 59), (112, 51), (116, 57), (119, 53)] x = some 62 := by
  unfold pmLk
  simp only
  rw [lv_osw h1 (by decide), lv_osw h2 (by decide), lv_osw h3 (by decide), lv_osw h4 (by decide), lv_osw h5 (by decide)]
  rfl
theorem nI_m4 {d : Nat} (h : d < 1000) : ¬ nI d = -4 := by
  intro q
  have h9 := congrArg Int32.toInt q
  rw [nI_toInt (by omega)] at h9
  have h8 : (-4 : Int32).toInt = -4 := by decide
  omega
section RDR
variable {sh : pmS} {M : pmM} {N : pmN} {Q : pmPost} {k : Nat} {tp : List Int32}
theorem c_kindOf {x : Int32} (ky : ∀ d, kindC x = some d → d < 5 → Q (some (.int (nI d))) sh M N) (kn : kindC x = none → Q (some (.int (-4))) sh M N) : PW mX8_kindOf 0 [.int x] [] sh M N Q := by
  refine pw_iload_n 1 rfl rfl rfl ?_
  by_cases h3 : x = nI 112
  · subst h3
    skip
    refine pw_lsw 52 rfl (by decide) ?_
    refine pw_iconst (v := nI 0) 53 rfl rfl (by decide) ?_
    exact pw_iret rfl rfl (ky 0 (by decide) (by decide))
  by_cases h5 : x = nI 119
  · subst h5
    skip
    refine pw_lsw 54 rfl (by decide) ?_
    refine pw_iconst (v := nI 1) 55 rfl rfl (by decide) ?_
    exact pw_iret rfl rfl (ky 1 (by decide) (by decide))
  by_cases h1 : x = nI 102
  · subst h1
    skip
    refine pw_lsw 56 rfl (by decide) ?_
    refine pw_iconst (v := nI 2) 57 rfl rfl (by decide) ?_
    exact pw_iret rfl rfl (ky 2 (by decide) (by decide))
  by_cases h4 : x = nI 116
  · subst h4
    skip
    refine pw_lsw 58 rfl (by decide) ?_
    refine pw_iconst (v := nI 3) 59 rfl rfl (by decide) ?_
    exact pw_iret rfl rfl (ky 3 (by decide) (by decide))
  by_cases h2 : x = nI 111
  · subst h2
    skip
    refine pw_lsw 60 rfl (by decide) ?_
    refine pw_iconst (v := nI 4) 61 rfl rfl (by decide) ?_
    exact pw_iret rfl rfl (ky 4 (by decide) (by decide))
  · skip
    refine pw_lsw 62 rfl (lk_kind h1 h2 h3 h4 h5) ?_
    refine pw_bipush (v := (-4)) 64 rfl rfl (by decide) ?_
    exact pw_iret rfl rfl (kn (by unfold kindC; rw [if_neg h3, if_neg h5, if_neg h1, if_neg h4, if_neg h2]))
theorem c_Tape_readRule {kr p : Nat} (hb : isTape sh k) (hl : tp.length ≤ 150) (hx : rowIs M (k + 1) tp) (hp : p ≤ tp.length) (hM : M k 1 = nI p) (hr : isRule sh kr) (hd : kr + 5 ≤ k ∨ k + 3 ≤ kr)
    (kf : ∀ M', (∀ x, x ≠ k → (x < kr ∨ kr + 5 ≤ x) → M' x = M x) → M' k 1 = nI (rdR tp p).2 → (rdR tp p).1 = none → Q (some (.int (nI 0))) sh M' N)
    (ky : ∀ r M', (∀ x, x ≠ k → (x < kr ∨ kr + 5 ≤ x) → M' x = M x) → M' k 1 = nI (rdR tp p).2 → (rdR tp p).1 = some r → ruleIs M' kr r → Q (some (.int (nI 1))) sh M' N) : PW mX8_readRule 0 [.ref k, .ref kr, .null] [] sh M N Q := by
  have hb0 := hb
  obtain ⟨h1, h2⟩ := hb
  obtain ⟨g1, g2, g3⟩ := hr
  have g2' := g2.1
  refine pw_aload_n 1 rfl rfl rfl ?_
  refine pw_cV0 4 rfl rfl (by first | assumption | exact ⟨by decide, rfl⟩) rfl (Nat.le_of_ble_eq_true rfl) rfl rfl (Nat.le_of_ble_eq_true rfl) (c_Tape_next hb0 hl hx hp hM (fun M1 f1 e1 => ?_))
  refine pw_pI ?_
  skip
  refine pw_cS1 7 rfl rfl rfl (Nat.le_of_ble_eq_true rfl) rfl rfl (Nat.le_of_ble_eq_true rfl) (c_kindOf (fun kd hk hk5 => ?_) (fun hk => ?_))
  · refine pw_pI ?_
    rw [cX_kind] at hk
    have hlt : sk tp p < tp.length := by
      cases hc : cur tp p with
      | none => rw [hc] at hk; cases hk
      | some c => exact (cur_lt hc).1
    refine pw_istore2 8 rfl rfl rfl ?_
    refine pw_iload_n 9 rfl rfl rfl ?_
    refine pw_bipush (v := (-4)) 11 rfl rfl (by decide) ?_
    refine pw_icmp_ne_t 16 rfl rfl (nI_m4 (by omega)) ?_
    refine pw_aload_n 17 rfl rfl rfl ?_
    refine pw_dup 18 rfl rfl rfl ?_
    refine pw_getI 21 rfl rfl (by first | assumption | exact ⟨by decide, rfl⟩) rfl ?_
    refine pw_iconst (v := nI 1) 22 rfl rfl (by decide) ?_
    rw [e1]
    first | refine pw_iaddN 23 rfl rfl (by with_reducible rfl) (by with_reducible rfl) ?_ | refine pw_iadd 23 rfl rfl ?_
    refine pw_putI 26 rfl rfl (by first | assumption | exact ⟨by decide, rfl⟩) rfl (by decide) ?_
    refine pw_aload_n 27 rfl rfl rfl ?_
    refine pw_iload_n 28 rfl rfl rfl ?_
    refine pw_putI 31 rfl rfl (by first | assumption | exact ⟨by decide, rfl⟩) rfl (by decide) ?_
    refine pw_aload_n 32 rfl rfl rfl ?_
    refine pw_bipush (v := nI 58) 34 rfl rfl (by decide) ?_
    have f2 : fr k (k + 1) M1 (pmSt M1 k 1 (nI (sk tp p + 1))) := fr_st M1 1 _ (Nat.le_refl k) (Nat.lt_succ_self k)
    have f3 : fr kr (kr + 1) (pmSt M1 k 1 (nI (sk tp p + 1))) (pmSt (pmSt M1 k 1 (nI (sk tp p + 1))) kr 0 (nI kd)) := fr_st _ 0 _ (Nat.le_refl kr) (Nat.lt_succ_self kr)
    have ek : pmSt (pmSt M1 k 1 (nI (sk tp p + 1))) kr 0 (nI kd) kr 0 = nI kd := st_same _ _ _ _
    have ep : pmSt (pmSt M1 k 1 (nI (sk tp p + 1))) kr 0 (nI kd) k 1 = nI (sk tp p + 1) := by rw [st_ne _ _ _ _ (by omega), st_same]
    have hx3 := ((hx.mv f1 (by omega)).mv f2 (by omega)).mv f3 (by omega)
    have ag3 : ∀ x, x ≠ k → (x < kr ∨ kr + 5 ≤ x) → pmSt (pmSt M1 k 1 (nI (sk tp p + 1))) kr 0 (nI kd) x = M x := fun x ha hb => by rw [f3 x (by omega), f2 x (by omega), f1 x (by omega)]
    generalize pmSt (pmSt M1 k 1 (nI (sk tp p + 1))) kr 0 (nI kd) = M3 at ek ep hx3 ag3 ⊢
    refine pw_cV1 37 rfl rfl (by first | assumption | exact ⟨by decide, rfl⟩) rfl (Nat.le_of_ble_eq_true rfl) rfl rfl (Nat.le_of_ble_eq_true rfl) (c_Tape_takes (s := 58) hb0 hl hx3 (by omega) ep (by decide) (fun M4 f4 h4 e4 => ?_) (fun M4 f4 h4 e4 => ?_))
    · refine pw_pI ?_
      have hlt2 := (cur_lt h4).1
      skip
      refine pw_if_ne_t 42 rfl rfl (by decide) ?_
      refine pw_aload_n 43 rfl rfl rfl ?_
      refine pw_aload_n 44 rfl rfl rfl ?_
      refine pw_getR 47 rfl rfl (by first | assumption | exact ⟨by decide, rfl⟩) rfl ?_
      refine pw_cV1 50 rfl rfl (by first | assumption | exact ⟨by decide, rfl⟩) rfl (Nat.le_of_ble_eq_true rfl) rfl rfl (Nat.le_of_ble_eq_true rfl) (c_Tape_readLetters hb0 hl (hx3.mv f4 (by omega)) (by omega) e4 g2 (by omega) (fun M5 f5 r5 e5 => ?_))
      refine pw_pV ?_
      have ag5 : ∀ x, x ≠ k → (x < kr ∨ kr + 5 ≤ x) → M5 x = M x := fun x ha hb => by rw [f5 x ha (by omega), f4 x (by omega)]; exact ag3 x ha hb
      have l5 := rdL_len tp 6 (sk tp (sk tp p + 1) + 1)
      have hx5 : rowIs M5 (k + 1) tp := (hx3.mv f4 (by omega)).eq (f5 _ (by omega) (by omega)) (f5 _ (by omega) (by omega))
      have ek5 : M5 kr 0 = nI kd := by rw [f5 kr (by omega) (by omega), f4 kr (by omega)]; exact ek
      refine pw_aload_n 51 rfl rfl rfl ?_
      refine pw_getR 54 rfl rfl (by first | assumption | exact ⟨by decide, rfl⟩) rfl ?_
      refine pw_cV0 57 rfl rfl (by first | assumption | exact ⟨by decide, rfl⟩) rfl (Nat.le_of_ble_eq_true rfl) rfl rfl (Nat.le_of_ble_eq_true rfl) (c_Row_size g2 r5 ?_)
      refine pw_pI ?_
      skip
      refine pw_if_eq 69 60 rfl rfl rfl (fun h6 => ?_) (fun h6 => ?_)
      · have h6 : (rdL tp 6 (sk tp (sk tp p + 1) + 1)).1 = [] := List.length_eq_zero_iff.mp ((nI_eq (by omega) (by decide)).mp h6)
        have er : rdR tp p = (none, (rdL tp 6 (sk tp (sk tp p + 1) + 1)).2) := by unfold rdR; rw [hk]; simp only; rw [if_pos h4, if_pos h6]
        refine pw_iconst (v := nI 0) 70 rfl rfl (by decide) ?_
        exact pw_zret rfl rfl (by first | exact Or.inl rfl | exact Or.inr rfl | assumption) (kf M5 ag5 (by rw [er]; exact e5) (by rw [er]))
      · have h6 : ¬ (rdL tp 6 (sk tp (sk tp p + 1) + 1)).1 = [] := fun q => h6 (by rw [q]; rfl)
        refine pw_aload_n 61 rfl rfl rfl ?_
        refine pw_bipush (v := nI 61) 63 rfl rfl (by decide) ?_
        refine pw_cV1 66 rfl rfl (by first | assumption | exact ⟨by decide, rfl⟩) rfl (Nat.le_of_ble_eq_true rfl) rfl rfl (Nat.le_of_ble_eq_true rfl) (c_Tape_takes (s := 61) hb0 hl hx5 (l5.2 (by omega)) e5 (by decide) (fun M6 f6 h7 e6 => ?_) (fun M6 f6 h7 e6 => ?_))
        · refine pw_pI ?_
          have hlt3 := (cur_lt h7).1
          skip
          refine pw_if_ne_t 71 rfl rfl (by decide) ?_
          refine pw_aload_n 72 rfl rfl rfl ?_
          refine pw_aload_n 73 rfl rfl rfl ?_
          refine pw_getR 76 rfl rfl (by first | assumption | exact ⟨by decide, rfl⟩) rfl ?_
          refine pw_cV1 79 rfl rfl (by first | assumption | exact ⟨by decide, rfl⟩) rfl (Nat.le_of_ble_eq_true rfl) rfl rfl (Nat.le_of_ble_eq_true rfl) (c_Tape_readLetters hb0 hl (hx5.mv f6 (by omega)) (by omega) e6 g3 (by omega) (fun M7 f7 r7 e7 => ?_))
          refine pw_pV ?_
          have er : rdR tp p = (some (kd, (rdL tp 6 (sk tp (sk tp p + 1) + 1)).1, (rdL tp 6 (sk tp (rdL tp 6 (sk tp (sk tp p + 1) + 1)).2 + 1)).1), (rdL tp 6 (sk tp (rdL tp 6 (sk tp (sk tp p + 1) + 1)).2 + 1)).2) := by unfold rdR; rw [hk]; simp only; rw [if_pos h4, if_neg h6, if_pos h7]
          refine pw_iconst (v := nI 1) 80 rfl rfl (by decide) ?_
          refine pw_zret rfl rfl (Or.inr rfl) (ky _ M7 (fun x ha hb => by rw [f7 x ha (by omega), f6 x (by omega)]; exact ag5 x ha hb) (by rw [er]; exact e7) (by rw [er]) ⟨?_, ?_, r7⟩)
          · rw [f7 kr (by omega) (by omega), f6 kr (by omega)]; exact ek5
          · exact (r5.mv f6 (by omega)).eq (f7 _ (by omega) (by omega)) (f7 _ (by omega) (by omega))
        · refine pw_pI ?_
          have er : rdR tp p = (none, sk tp (rdL tp 6 (sk tp (sk tp p + 1) + 1)).2) := by unfold rdR; rw [hk]; simp only; rw [if_pos h4, if_neg h6, if_neg h7]
          skip
          refine pw_if_ne_f 69 rfl rfl (by decide) ?_
          refine pw_iconst (v := nI 0) 70 rfl rfl (by decide) ?_
          exact pw_zret rfl rfl (by first | exact Or.inl rfl | exact Or.inr rfl | assumption) (kf M6 (fun x ha hb => by rw [f6 x (by omega)]; exact ag5 x ha hb) (by rw [er]; exact e6) (by rw [er]))
    · refine pw_pI ?_
      have er : rdR tp p = (none, sk tp (sk tp p + 1)) := by unfold rdR; rw [hk]; simp only; rw [if_neg h4]
      skip
      refine pw_if_ne_f 40 rfl rfl (by decide) ?_
      refine pw_iconst (v := nI 0) 41 rfl rfl (by decide) ?_
      exact pw_zret rfl rfl (by first | exact Or.inl rfl | exact Or.inr rfl | assumption) (kf M4 (fun x ha hb => by rw [f4 x (by omega)]; exact ag3 x ha hb) (by rw [er]; exact e4) (by rw [er]))
  · refine pw_pI ?_
    rw [cX_kind] at hk
    have er : rdR tp p = (none, sk tp p) := by unfold rdR; rw [hk]
    refine pw_istore2 8 rfl rfl rfl ?_
    refine pw_iload_n 9 rfl rfl rfl ?_
    refine pw_bipush (v := (-4)) 11 rfl rfl (by decide) ?_
    refine pw_icmp_ne_f 14 rfl rfl (fun q => q rfl) ?_
    refine pw_iconst (v := nI 0) 15 rfl rfl (by decide) ?_
    exact pw_zret rfl rfl (by first | exact Or.inl rfl | exact Or.inr rfl | assumption) (kf M1 (fun x ha hb => f1 x (by omega)) (by rw [er]; exact e1) (by rw [er]))
theorem readRules_end {kb i p : Nat} {rs : List aR} (hb : isTape sh k) (hl : tp.length ≤ 150) (ht : ∀ x ∈ tp, ¬ x < 0) (hx : rowIs M (k + 1) tp) (hp : p ≤ tp.length) (hM : M k 1 = nI p)
    (kf : ∀ M', fr k (k + 1) M M' → M' k 1 = nI (sk tp p) → ¬ cur tp p = none → Q (some (.int (nI 0))) sh M' N) (ky : ∀ M', fr k (k + 1) M M' → M' k 1 = nI (sk tp p) → cur tp p = none → Q (some (.int (nI 1))) sh M' N) :
    PW mX8_readRules 48 [.ref k, .ref kb, .int (nI i)] [] sh M N Q := by
  have hb0 := hb
  obtain ⟨h1, h2⟩ := hb
  refine pw_aload_n 49 rfl rfl rfl ?_
  refine pw_cV0 52 rfl rfl (by first | assumption | exact ⟨by decide, rfl⟩) rfl (Nat.le_of_ble_eq_true rfl) rfl rfl (Nat.le_of_ble_eq_true rfl) (c_Tape_next hb0 hl hx hp hM (fun M1 f1 e1 => ?_))
  refine pw_pI ?_
  refine pw_iconst (v := (-1)) 53 rfl rfl (by decide) ?_
  refine pw_icmp_ne 60 56 rfl rfl rfl (fun h => ?_) (fun h => ?_)
  · rw [cX_end ht] at h
    refine pw_iconst (v := nI 0) 61 rfl rfl (by decide) ?_
    exact pw_zret rfl rfl (by first | exact Or.inl rfl | exact Or.inr rfl | assumption) (kf M1 f1 e1 h)
  · have h := (cX_end ht).mp (Classical.not_not.mp h)
    refine pw_iconst (v := nI 1) 57 rfl rfl (by decide) ?_
    refine pw_goto rfl 61 rfl ?_
    exact pw_zret rfl rfl (by first | exact Or.inl rfl | exact Or.inr rfl | assumption) (ky M1 f1 e1 h)
theorem readRules_loop {kb : Nat} (hb : isTape sh k) (hl : tp.length ≤ 150) (ht : ∀ x ∈ tp, ¬ x < 0) (hk : isBook sh kb) (hd : kb + 57 ≤ k ∨ k + 3 ≤ kb) (res : Option (List aR) × Nat)
    (kf : ∀ M', (∀ x, x ≠ k → (x < kb ∨ kb + 57 ≤ x) → M' x = M x) → M' k 1 = nI res.2 → res.1 = none → Q (some (.int (nI 0))) sh M' N)
    (ky : ∀ rs M', (∀ x, x ≠ k → (x < kb ∨ kb + 57 ≤ x) → M' x = M x) → M' k 1 = nI res.2 → res.1 = some rs → bookIs M' kb rs → Q (some (.int (nI 1))) sh M' N) :
    ∀ (d i p : Nat) (rs : List aR) (M1 : pmM), i + d = 10 → rs.length = i → p ≤ tp.length → (∀ x, x ≠ k → (x < kb ∨ kb + 57 ≤ x) → M1 x = M x) → rowIs M1 (k + 1) tp → bookIs M1 kb rs → M1 k 1 = nI p → rdRs tp d p rs = res → PW mX8_readRules 6 [.ref k, .ref kb, .int (nI i)] [] sh M1 N Q := by
  have hb0 := hb
  obtain ⟨h1, h2⟩ := hb
  have hk0 := hk
  obtain ⟨g1, g2, g3⟩ := hk
  intro d
  induction d with
  | zero =>
    intro i p rs M1 hi hlen hp ag hx hbk hM he
    refine pw_iload_n 7 rfl rfl rfl ?_
    refine pw_bipush (v := nI 10) 9 rfl rfl (by decide) ?_
    refine pw_icmp_ge_t 48 rfl rfl (nI_le (by omega) (by omega)) ?_
    rw [rdRs] at he
    subst he
    refine readRules_end (rs := rs) hb0 hl ht hx hp hM (fun M2 f2 e2 h => kf M2 (fun x ha hb => by rw [f2 x (by omega)]; exact ag x ha hb) e2 (by simp only; rw [if_neg h])) (fun M2 f2 e2 h => ky rs M2 (fun x ha hb => by rw [f2 x (by omega)]; exact ag x ha hb) e2 (by simp only; rw [if_pos h]) (hbk.mv f2 (by omega)))
  | succ d ih =>
    intro i p rs M1 hi hlen hp ag hx hbk hM he
    refine pw_iload_n 7 rfl rfl rfl ?_
    refine pw_bipush (v := nI 10) 9 rfl rfl (by decide) ?_
    refine pw_icmp_ge_f 12 rfl rfl (nI_ge (by omega) (by omega)) ?_
    rw [rdRs] at he
    refine pw_aload_n 13 rfl rfl rfl ?_
    refine pw_bipush (v := nI 59) 15 rfl rfl (by decide) ?_
    refine pw_cV1 18 rfl rfl (by first | assumption | exact ⟨by decide, rfl⟩) rfl (Nat.le_of_ble_eq_true rfl) rfl rfl (Nat.le_of_ble_eq_true rfl) (c_Tape_takes (s := 59) hb0 hl hx hp hM (by decide) (fun M2 f2 h2 e2 => ?_) (fun M2 f2 h2 e2 => ?_))
    · refine pw_pI ?_
      rw [if_pos h2] at he
      have hlt := (cur_lt h2).1
      have hok := rdR_ok (tp := tp) (p := sk tp p + 1) (by omega)
      skip
      refine pw_if_eq_f 21 rfl rfl (by decide) ?_
      refine pw_aload_n 22 rfl rfl rfl ?_
      refine pw_aload_n 23 rfl rfl rfl ?_
      refine pw_iload_n 24 rfl rfl rfl ?_
      refine pw_cV1 27 rfl rfl (by first | assumption | exact ⟨by decide, rfl⟩) rfl (Nat.le_of_ble_eq_true rfl) rfl rfl (Nat.le_of_ble_eq_true rfl) (c_Book_get hk0 (i := i) (by omega) ?_)
      refine pw_pR ?_
      skip
      refine pw_cV1 30 rfl rfl (by first | assumption | exact ⟨by decide, rfl⟩) rfl (Nat.le_of_ble_eq_true rfl) rfl rfl (Nat.le_of_ble_eq_true rfl) (c_Tape_readRule hb0 hl (hx.mv f2 (by omega)) (by omega) e2 (g3 i (by omega)) (by omega) (fun M3 ag3 e3 h3 => ?_) (fun r M3 ag3 e3 h3 r3 => ?_))
      · refine pw_pI ?_
        rw [show rdR tp (sk tp p + 1) = ((rdR tp (sk tp p + 1)).1, (rdR tp (sk tp p + 1)).2) from rfl, h3] at he
        simp only at he
        subst he
        skip
        refine pw_if_eq_t 40 rfl rfl (by decide) ?_
        refine pw_iconst (v := nI 0) 41 rfl rfl (by decide) ?_
        exact pw_zret rfl rfl (by first | exact Or.inl rfl | exact Or.inr rfl | assumption) (kf M3 (fun x ha hb => by rw [ag3 x ha (by omega), f2 x (by omega)]; exact ag x ha hb) e3 rfl)
      · refine pw_pI ?_
        rw [show rdR tp (sk tp p + 1) = ((rdR tp (sk tp p + 1)).1, (rdR tp (sk tp p + 1)).2) from rfl, h3] at he
        simp only at he
        have hbk3 : bookIs M3 kb rs := by
          refine ⟨by rw [ag3 kb (by omega) (by omega), f2 kb (by omega)]; exact hbk.1, hbk.2.1, fun j r' hj => ⟨?_, (hbk.2.2 j r' hj).2⟩⟩
          have hjl := (List.getElem?_eq_some_iff.mp hj).1
          exact ((hbk.2.2 j r' hj).1.mv f2 (by omega)).ag (fun x h8 h9 => ag3 x (by omega) (by omega))
        skip
        refine pw_if_eq_f 33 rfl rfl (by decide) ?_
        refine pw_aload_n 34 rfl rfl rfl ?_
        subst hlen
        refine pw_cV0 37 rfl rfl (by first | assumption | exact ⟨by decide, rfl⟩) rfl (Nat.le_of_ble_eq_true rfl) rfl rfl (Nat.le_of_ble_eq_true rfl) (c_Book_grow hk0 hbk3 (by omega) r3 (hok.1 r h3) (fun M4 f4 r4 => ?_))
        refine pw_pI ?_
        skip
        refine pw_if_ne_t 42 rfl rfl (by decide) ?_
        first | refine pw_iincN2 45 rfl rfl rfl (by with_reducible rfl) ?_ | refine pw_iinc2 (w := _) 45 rfl rfl rfl rfl ?_
        refine pw_goto rfl 6 rfl ?_
        refine ih (rs.length + 1) _ (rs ++ [r]) M4 (by omega) (by simp) hok.2 (fun x ha hb => by rw [f4 x (by omega), ag3 x ha (by omega), f2 x (by omega)]; exact ag x ha hb) ?_ r4 (by rw [f4 k (by omega)]; exact e3) he
        refine rowIs.mv ?_ f4 (by omega)
        exact (hx.mv f2 (by omega)).eq (ag3 _ (by omega) (by omega)) (ag3 _ (by omega) (by omega))
    · refine pw_pI ?_
      rw [if_neg h2] at he
      subst he
      skip
      refine pw_if_eq_t 48 rfl rfl (by decide) ?_
      have e5 : cur tp (sk tp p) = cur tp p := by unfold cur; rw [sk_idem]
      refine readRules_end (rs := rs) hb0 hl ht (hx.mv f2 (by omega)) (sk_le hp) e2 (fun M3 f3 e3 h => kf M3 (fun x ha hb => by rw [f3 x (by omega), f2 x (by omega)]; exact ag x ha hb) (by rw [sk_idem] at e3; exact e3) (by simp only; rw [e5] at h; rw [if_neg h])) (fun M3 f3 e3 h => ky rs M3 (fun x ha hb => by rw [f3 x (by omega), f2 x (by omega)]; exact ag x ha hb) (by rw [sk_idem] at e3; exact e3) (by simp only; rw [e5] at h; rw [if_pos h]) ((hbk.mv f2 (by omega)).mv f3 (by omega)))
theorem c_Tape_readRules {kb p : Nat} (hb : isTape sh k) (hl : tp.length ≤ 150) (ht : ∀ x ∈ tp, ¬ x < 0) (hx : rowIs M (k + 1) tp) (hp : p ≤ tp.length) (hM : M k 1 = nI p) (hk : isBook sh kb) (hd : kb + 57 ≤ k ∨ k + 3 ≤ kb)
    (kf : ∀ M', (∀ x, x ≠ k → (x < kb ∨ kb + 57 ≤ x) → M' x = M x) → M' k 1 = nI (rdRs tp 10 p []).2 → (rdRs tp 10 p []).1 = none → Q (some (.int (nI 0))) sh M' N)
    (ky : ∀ rs M', (∀ x, x ≠ k → (x < kb ∨ kb + 57 ≤ x) → M' x = M x) → M' k 1 = nI (rdRs tp 10 p []).2 → (rdRs tp 10 p []).1 = some rs → bookIs M' kb rs → Q (some (.int (nI 1))) sh M' N) : PW mX8_readRules 0 [.ref k, .ref kb, .null] [] sh M N Q := by
  have hk0 := hk
  obtain ⟨g1, g2, g3⟩ := hk
  refine pw_aload_n 1 rfl rfl rfl ?_
  refine pw_cV0 4 rfl rfl (by first | assumption | exact ⟨by decide, rfl⟩) rfl (Nat.le_of_ble_eq_true rfl) rfl rfl (Nat.le_of_ble_eq_true rfl) (c_Book_clear hk0 (fun M1 f1 r1 => ?_))
  refine pw_pV ?_
  refine pw_iconst (v := nI 0) 5 rfl rfl (by decide) ?_
  refine pw_istore2 6 rfl rfl rfl ?_
  exact readRules_loop (M := M) hb hl ht hk0 hd (rdRs tp 10 p []) kf ky 10 0 p [] M1 (by omega) rfl hp (fun x ha hb => f1 x (by omega)) (hx.mv f1 (by omega)) r1 (by rw [f1 k (by omega)]; exact hM) rfl
end RDR
section BGN
variable {sh : pmS} {M : pmM} {N : pmN} {Q : pmPost} {k : Nat} {a : aS}
/-- the places as sources -/
def plc (n : Nat) : List Int32 := (List.range n).map nI
theorem plc_len (n : Nat) : (plc n).length = n := by simp [plc]
theorem plc_succ (n : Nat) : plc (n + 1) = plc n ++ [nI n] := by simp [plc, List.range_succ]
theorem begin_loop {kl kb nl : Nat} {xs : List Int32} (hb : isState sh k) (hl : isRow sh kl nl) (hx : rowIs M kl xs) (h60 : xs.length ≤ 60) (hn : xs.length ≤ nl) (hd : kl + 2 ≤ k ∨ k + 114 ≤ kl)
    (kk : ∀ M', fr (k + 3) (k + 7) M M' → lineIs M' (k + 2) xs (plc xs.length) → PW mX7_begin 42 [.ref k, .ref kl, .ref kb, .int (nI xs.length)] [] sh M' N Q) :
    ∀ (d i : Nat) (M1 : pmM), i + d = xs.length → fr (k + 3) (k + 7) M M1 → lineIs M1 (k + 2) (xs.take i) (plc i) → PW mX7_begin 12 [.ref k, .ref kl, .ref kb, .int (nI i)] [] sh M1 N Q := by
  obtain ⟨h1, h2, h3, h4⟩ := hb
  obtain ⟨m1, m2⟩ := h2
  have m2' := m2.1
  have hl0 := hl
  obtain ⟨l1, l2⟩ := hl
  have hn1 := l2.2.2
  intro d
  induction d with
  | zero =>
    intro i M1 hi hf hy
    refine pw_iload_n 13 rfl rfl rfl ?_
    refine pw_aload_n 14 rfl rfl rfl ?_
    refine pw_cV0 17 rfl rfl (by first | assumption | exact ⟨by decide, rfl⟩) rfl (Nat.le_of_ble_eq_true rfl) rfl rfl (Nat.le_of_ble_eq_true rfl) (c_Row_size hl0 (hx.mv hf (by omega)) ?_)
    refine pw_pI ?_
    skip
    refine pw_icmp_ge_t 42 rfl rfl (nI_le (by omega) (by omega)) ?_
    have : i = xs.length := by omega
    subst this
    rw [List.take_length] at hy
    exact kk M1 hf hy
  | succ d ih =>
    intro i M1 hi hf hy
    refine pw_iload_n 13 rfl rfl rfl ?_
    refine pw_aload_n 14 rfl rfl rfl ?_
    refine pw_cV0 17 rfl rfl (by first | assumption | exact ⟨by decide, rfl⟩) rfl (Nat.le_of_ble_eq_true rfl) rfl rfl (Nat.le_of_ble_eq_true rfl) (c_Row_size hl0 (hx.mv hf (by omega)) ?_)
    refine pw_pI ?_
    skip
    refine pw_icmp_ge_f 20 rfl rfl (nI_ge (by omega) (by omega)) ?_
    refine pw_aload_n 21 rfl rfl rfl ?_
    refine pw_getR 24 rfl rfl (by first | assumption | exact ⟨by decide, rfl⟩) rfl ?_
    refine pw_getR 27 rfl rfl (by first | assumption | exact ⟨by decide, rfl⟩) rfl ?_
    refine pw_aload_n 28 rfl rfl rfl ?_
    refine pw_iload_n 29 rfl rfl rfl ?_
    refine pw_cV1 32 rfl rfl (by first | assumption | exact ⟨by decide, rfl⟩) rfl (Nat.le_of_ble_eq_true rfl) rfl rfl (Nat.le_of_ble_eq_true rfl) (c_Row_get hl0 (hx.mv hf (by omega)) hn _ ?_)
    rw [gI_n (by omega)]
    refine pw_pI ?_
    refine pw_iload_n 33 rfl rfl rfl ?_
    refine pw_cV2 36 rfl rfl (by first | assumption | exact ⟨by decide, rfl⟩) rfl (Nat.le_of_ble_eq_true rfl) rfl rfl (Nat.le_of_ble_eq_true rfl) (c_Line_add m2 hy (by rw [List.length_take]; omega) (by rw [plc_len]; omega) _ _ (fun M2 f2 r2 => ?_))
    refine pw_pV ?_
    first | refine pw_iincN3 39 rfl rfl rfl (by with_reducible rfl) ?_ | refine pw_iinc3 (w := _) 39 rfl rfl rfl rfl ?_
    refine pw_goto rfl 12 rfl ?_
    refine ih (i + 1) M2 (by omega) (hf.tr f2) ?_
    have hlt : i < xs.length := by omega
    rw [plc_succ, List.take_succ, List.getElem?_eq_getElem hlt]
    rw [List.getD_eq_getElem?_getD, List.getElem?_eq_getElem hlt] at r2
    exact r2
theorem c_State_begin {kl kb nl : Nat} {xs : List Int32} {rs : List aR} (hb : isState sh k) (hz : ∃ hs, histIs M (k + 64) hs) (hl : isRow sh kl nl) (hx : rowIs M kl xs) (h60 : xs.length ≤ 60) (hn : xs.length ≤ nl) (hd : kl + 2 ≤ k ∨ k + 114 ≤ kl) (hk : isBook sh kb) (hy : bookIs M kb rs) (hd2 : kb + 57 ≤ k ∨ k + 114 ≤ kb)
    (kk : ∀ M', fr (k + 1) (k + 114) M M' → stIs M' k ((xs, plc xs.length, 2 ^ rs.length - 1), rs, []) → Q none sh M' N) : PW mX7_begin 0 [.ref k, .ref kl, .ref kb, .null] [] sh M N Q := by
  have hb0 := hb
  obtain ⟨h1, h2, h3, h4⟩ := hb
  have m0 := h2.1
  have m2 := h2.2
  have m2' := m2.1
  have h3' := h3.1
  have h4' := h4.1
  obtain ⟨hs, hz⟩ := hz
  refine pw_aload_n 1 rfl rfl rfl ?_
  refine pw_getR 4 rfl rfl (by first | assumption | exact ⟨by decide, rfl⟩) rfl ?_
  refine pw_getR 7 rfl rfl (by first | assumption | exact ⟨by decide, rfl⟩) rfl ?_
  refine pw_cV0 10 rfl rfl (by first | assumption | exact ⟨by decide, rfl⟩) rfl (Nat.le_of_ble_eq_true rfl) rfl rfl (Nat.le_of_ble_eq_true rfl) (c_Line_clear m2 (fun M1 f1 r1 => ?_))
  refine pw_pV ?_
  refine pw_iconst (v := nI 0) 11 rfl rfl (by decide) ?_
  refine pw_istore3 12 rfl rfl rfl ?_
  refine begin_loop hb0 hl (hx.mv f1 (by omega)) h60 hn hd (fun M2 f2 r2 => ?_) xs.length 0 M1 (by omega) fr.rf (by rw [List.take_zero]; exact r1)
  have f12 : fr (k + 3) (k + 7) M M2 := f1.tr f2
  refine pw_aload_n 43 rfl rfl rfl ?_
  refine pw_getR 46 rfl rfl (by first | assumption | exact ⟨by decide, rfl⟩) rfl ?_
  refine pw_aload_n 47 rfl rfl rfl ?_
  refine pw_cV1 50 rfl rfl (by first | assumption | exact ⟨by decide, rfl⟩) rfl (Nat.le_of_ble_eq_true rfl) rfl rfl (Nat.le_of_ble_eq_true rfl) (c_Book_takeFrom h3 hk (hy.mv f12 (by omega)) (by omega) (fun M3 f3 r3 => ?_))
  refine pw_pV ?_
  refine pw_aload_n 51 rfl rfl rfl ?_
  refine pw_getR 54 rfl rfl (by first | assumption | exact ⟨by decide, rfl⟩) rfl ?_
  refine pw_aload_n 55 rfl rfl rfl ?_
  refine pw_getR 58 rfl rfl (by first | assumption | exact ⟨by decide, rfl⟩) rfl ?_
  refine pw_cV0 61 rfl rfl (by first | assumption | exact ⟨by decide, rfl⟩) rfl (Nat.le_of_ble_eq_true rfl) rfl rfl (Nat.le_of_ble_eq_true rfl) (c_Book_all h3 r3 ?_)
  refine pw_pI ?_
  refine pw_putI 64 rfl rfl (by first | assumption | exact ⟨by decide, rfl⟩) rfl (by decide) ?_
  refine pw_aload_n 65 rfl rfl rfl ?_
  refine pw_getR 68 rfl rfl (by first | assumption | exact ⟨by decide, rfl⟩) rfl ?_
  have f4 : fr (k + 1) (k + 2) M3 (pmSt M3 (k + 1) 1 (nI (2 ^ rs.length - 1))) := fr_st _ 1 _ (Nat.le_refl _) (Nat.lt_succ_self _)
  refine pw_cV0 71 rfl rfl (by first | assumption | exact ⟨by decide, rfl⟩) rfl (Nat.le_of_ble_eq_true rfl) rfl rfl (Nat.le_of_ble_eq_true rfl) (c_Hist_clear h4 (((hz.mv f12 (by omega)).mv f3 (by omega)).mv f4 (by omega)) (fun M5 f5 r5 => ?_))
  refine pw_pV ?_
  skip
  refine pw_vret rfl (kk M5 (fun x h => ?_) ⟨⟨((r2.mv f3 (by omega)).mv f4 (by omega)).mv f5 (by omega), ?_, h60, plc_len _⟩, (r3.mv f4 (by omega)).mv f5 (by omega), r5⟩)
  · rw [f5 x (by omega), f4 x (by omega), f3 x (by omega), f12 x (by omega)]
  · rw [f5 (k + 1) (by omega), st_same]
theorem or_bit : ∀ n, n < 10 → ∀ s, s < 1024 → s < 2 ^ n → nI s ||| (nI 1 <<< (nI n &&& 31)) = nI (s + 2 ^ n) := by decide +kernel
theorem c_State_addRule {kr : Nat} {r : aR} (hb : isState sh k) (hx : stIs M k a) (hw : wfS a) (hr : isRule sh kr) (hy : ruleIs M kr r) (hwr : wfR r) (hd : kr + 5 ≤ k ∨ k + 114 ≤ kr)
    (kf : a.2.1.length = 10 → Q (some (.int (nI 0))) sh M N) (kk : ∀ M', a.2.1.length < 10 → fr (k + 1) (k + 114) M M' → stIs M' k ((a.1.1, a.1.2.1, a.1.2.2 + 2 ^ a.2.1.length), a.2.1 ++ [r], []) → Q (some (.int (nI 1))) sh M' N) : PW mX7_addRule 0 [.ref k, .ref kr, .null] [] sh M N Q := by
  obtain ⟨⟨ls, ss, on⟩, rs, hs⟩ := a
  obtain ⟨h1, h2, h3, h4⟩ := hb
  have m0 := h2.1
  have h3' := h3.1
  have h4' := h4.1
  obtain ⟨x1, x2, x3⟩ := hx
  simp only at x1 x2 x3 kf kk
  have hon : on < 2 ^ rs.length := hw.1
  have h10 := x2.2.1
  refine pw_aload_n 1 rfl rfl rfl ?_
  refine pw_getR 4 rfl rfl (by first | assumption | exact ⟨by decide, rfl⟩) rfl ?_
  by_cases hf : rs.length = 10
  · refine pw_cV0 7 rfl rfl (by first | assumption | exact ⟨by decide, rfl⟩) rfl (Nat.le_of_ble_eq_true rfl) rfl rfl (Nat.le_of_ble_eq_true rfl) (c_Book_growFull h3 x2 hf ?_)
    refine pw_pI ?_
    skip
    refine pw_if_ne_f 10 rfl rfl (by decide) ?_
    refine pw_iconst (v := nI 0) 11 rfl rfl (by decide) ?_
    exact pw_zret rfl rfl (by first | exact Or.inl rfl | exact Or.inr rfl | assumption) (kf hf)
  · have hgrow : ∀ (Q' : pmPost), (∀ M', fr (k + 7) (k + 8) M M' → M' (k + 7) 2 = nI (rs.length + 1) → Q' (some (.int (nI 1))) sh M' N) → PW mX0_grow 0 [.ref (k + 7)] [] sh M N Q' := by
      intro Q' kq
      refine pw_aload_n 1 rfl rfl rfl ?_
      refine pw_getI 4 rfl rfl (by first | assumption | exact ⟨by decide, rfl⟩) rfl ?_
      refine pw_bipush (v := nI 10) 6 rfl rfl (by decide) ?_
      rw [x2.1]
      refine pw_icmp_lt_t 11 rfl rfl ((nI_ltI (by omega) (by decide)).mpr (by omega)) ?_
      refine pw_aload_n 12 rfl rfl rfl ?_
      refine pw_dup 13 rfl rfl rfl ?_
      refine pw_getI 16 rfl rfl (by first | assumption | exact ⟨by decide, rfl⟩) rfl ?_
      refine pw_iconst (v := nI 1) 17 rfl rfl (by decide) ?_
      rw [x2.1]
      first | refine pw_iaddN 18 rfl rfl (by with_reducible rfl) (by with_reducible rfl) ?_ | refine pw_iadd 18 rfl rfl ?_
      refine pw_putI 21 rfl rfl (by first | assumption | exact ⟨by decide, rfl⟩) rfl (by decide) ?_
      refine pw_iconst (v := nI 1) 22 rfl rfl (by decide) ?_
      exact pw_zret rfl rfl (Or.inr rfl) (kq _ (fr_st M 2 _ (Nat.le_refl _) (Nat.lt_succ_self _)) (st_same _ _ _ _))
    skip
    refine pw_cV0 7 rfl rfl (by first | assumption | exact ⟨by decide, rfl⟩) rfl (Nat.le_of_ble_eq_true rfl) rfl rfl (Nat.le_of_ble_eq_true rfl) (hgrow _ (fun M1 f1 e1 => ?_))
    refine pw_pI ?_
    skip
    refine pw_if_ne_t 12 rfl rfl (by decide) ?_
    have hsize : ∀ (Q' : pmPost), Q' (some (.int (nI (rs.length + 1)))) sh M1 N → PW mX0_size 0 [.ref (k + 7)] [] sh M1 N Q' := by
      intro Q' kq
      refine pw_aload_n 1 rfl rfl rfl ?_
      refine pw_getI 4 rfl rfl (by first | assumption | exact ⟨by decide, rfl⟩) rfl ?_
      rw [e1]
      exact pw_iret rfl rfl (kq)
    refine pw_aload_n 13 rfl rfl rfl ?_
    refine pw_getR 16 rfl rfl (by first | assumption | exact ⟨by decide, rfl⟩) rfl ?_
    refine pw_cV0 19 rfl rfl (by first | assumption | exact ⟨by decide, rfl⟩) rfl (Nat.le_of_ble_eq_true rfl) rfl rfl (Nat.le_of_ble_eq_true rfl) (hsize _ ?_)
    refine pw_pI ?_
    refine pw_iconst (v := nI 1) 20 rfl rfl (by decide) ?_
    first | refine pw_isubN 21 rfl rfl (by with_reducible rfl) (by with_reducible rfl) (by omega) ?_ | refine pw_isub 21 rfl rfl ?_
    refine pw_istore2 22 rfl rfl rfl ?_
    refine pw_aload_n 23 rfl rfl rfl ?_
    refine pw_getR 26 rfl rfl (by first | assumption | exact ⟨by decide, rfl⟩) rfl ?_
    refine pw_iload_n 27 rfl rfl rfl ?_
    refine pw_cV1 30 rfl rfl (by first | assumption | exact ⟨by decide, rfl⟩) rfl (Nat.le_of_ble_eq_true rfl) rfl rfl (Nat.le_of_ble_eq_true rfl) (c_Book_get h3 (i := rs.length + 1 - 1) (by omega) ?_)
    refine pw_pR ?_
    rw [Nat.add_sub_cancel]
    have o1 := (h3.2.2 rs.length (by omega)).1
    refine pw_aload_n 31 rfl rfl rfl ?_
    refine pw_cV1 34 rfl rfl (by first | assumption | exact ⟨by decide, rfl⟩) rfl (Nat.le_of_ble_eq_true rfl) rfl rfl (Nat.le_of_ble_eq_true rfl) (c_Rule_takeFrom (h3.2.2 rs.length (by omega)) hr (hy.mv f1 (by omega)) hwr.2.2.1 hwr.2.2.2 (by omega) (fun M2 f2 r2 => ?_))
    refine pw_pV ?_
    have x12 : M (k + 1) 1 = nI on := x1.2.1
    refine pw_aload_n 35 rfl rfl rfl ?_
    refine pw_getR 38 rfl rfl (by first | assumption | exact ⟨by decide, rfl⟩) rfl ?_
    refine pw_dup 39 rfl rfl rfl ?_
    refine pw_getI 42 rfl rfl (by first | assumption | exact ⟨by decide, rfl⟩) rfl ?_
    refine pw_iconst (v := nI 1) 43 rfl rfl (by decide) ?_
    refine pw_iload_n 44 rfl rfl rfl ?_
    refine pw_ishl 45 rfl rfl ?_
    refine pw_ior 46 rfl rfl ?_
    rw [f2 (k + 1) (by omega), f1 (k + 1) (by omega), x12, or_bit rs.length (by omega) on (Nat.lt_of_lt_of_le hon (Nat.pow_le_pow_right (by decide) (by omega : rs.length ≤ 10))) hon]
    refine pw_putI 49 rfl rfl (by first | assumption | exact ⟨by decide, rfl⟩) rfl (by decide) ?_
    refine pw_aload_n 50 rfl rfl rfl ?_
    refine pw_getR 53 rfl rfl (by first | assumption | exact ⟨by decide, rfl⟩) rfl ?_
    have f3 : fr (k + 1) (k + 2) M2 (pmSt M2 (k + 1) 1 (nI (on + 2 ^ rs.length))) := fr_st _ 1 _ (Nat.le_refl _) (Nat.lt_succ_self _)
    refine pw_cV0 56 rfl rfl (by first | assumption | exact ⟨by decide, rfl⟩) rfl (Nat.le_of_ble_eq_true rfl) rfl rfl (Nat.le_of_ble_eq_true rfl) (c_Hist_clear h4 (((x3.mv f1 (by omega)).mv f2 (by omega)).mv f3 (by omega)) (fun M4 f4 r4 => ?_))
    refine pw_pV ?_
    refine pw_iconst (v := nI 1) 57 rfl rfl (by decide) ?_
    refine pw_zret rfl rfl (Or.inr rfl) (kk M4 (by omega) (fun x h => ?_) ⟨⟨?_, ?_, x1.2.2.1, x1.2.2.2⟩, ⟨?_, ?_, fun i r' hi => ?_⟩, r4⟩)
    · rw [f4 x (by omega), f3 x (by omega), f2 x (by omega), f1 x (by omega)]
    · exact (((x1.1.mv f1 (by omega)).mv f2 (by omega)).mv f3 (by omega)).mv f4 (by omega)
    · rw [f4 (k + 1) (by omega), st_same]
    · rw [f4 (k + 7) (by omega), f3 (k + 7) (by omega), f2 (k + 7) (by omega), e1, List.length_append]; rfl
    · rw [List.length_append]; simp; omega
    · by_cases q : i < rs.length
      · rw [List.getElem?_append_left q] at hi
        exact ⟨(((((x2.2.2 i r' hi).1.mv f1 (by omega)).mv f2 (by omega)).mv f3 (by omega)).mv f4 (by omega)), (x2.2.2 i r' hi).2⟩
      · have hi2 := (List.getElem?_eq_some_iff.mp hi).1
        rw [List.length_append, List.length_cons, List.length_nil] at hi2
        have : i = rs.length := by omega
        subst this
        rw [List.getElem?_append_right (Nat.le_refl _), Nat.sub_self] at hi
        cases hi
        exact ⟨(r2.mv f3 (by omega)).mv f4 (by omega), hwr⟩
end BGN
