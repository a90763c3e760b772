/-! THE REFERENCE: sure -/
section MSU
variable {sh : pmS} {M : pmM} {N : pmN} {Q : pmPost} {k : Nat} {a : aW} {rs : List aR} {ls ss : List Int32} {on : Nat}
theorem sureOf_tail {r p kn d u : Nat} {v6 : Value} (hb : isMod sh k) (hl : lnAt (M (k + 3)) ls ss on) (h60 : ls.length ≤ 60) (hp : p < kn) (hkn : kn ≤ ls.length) (hr1 : r < 10) (hl6 : (pPh rs r).length ≤ 6) (hd5 : d < 5) (hu : M (k + 17) r = nI u) (hu5 : u < 1000) (hm : mtB (pPh rs r) ls p (min (p + (pPh rs r).length) kn - p) = true)
    (kN : (stO d (pPh rs r) ls p kn = 0 ∨ (d = 4 ∧ u ≠ 0)) → Q (some (.int (-1))) sh M N) (k1 : stO d (pPh rs r) ls p kn = 1 → ¬ (d = 4 ∧ u ≠ 0) → Q (some (.int (nI 1))) sh M N) (k0 : stO d (pPh rs r) ls p kn = 2 → ¬ (d = 4 ∧ u ≠ 0) → Q (some (.int (nI 0))) sh M N) : PW mX11_sureOf 76 [.ref k, .int (nI r), .int (nI p), .int (nI kn), .int (nI (pPh rs r).length), .int (nI d), v6] [] sh M N Q := by
  obtain ⟨b0, a1, a2, a3, a4, a5, a6, a7, a8, a9, a10, a11, a12, a13, a14, a15, a16, a17, a18, a19, a20⟩ := hb
  have bad : (stO d (pPh rs r) ls p kn = 0 ∨ (d = 4 ∧ u ≠ 0)) → PW mX11_sureOf 116 [.ref k, .int (nI r), .int (nI p), .int (nI kn), .int (nI (pPh rs r).length), .int (nI d), v6] [] sh M N Q := by
    intro h
    refine pw_iconst (v := (-1)) 117 rfl rfl (by decide) ?_
    exact pw_iret rfl rfl (kN h)
  have nd : ∀ z, ¬ nI d = nI z → ¬ d = z := fun z h e => h (by rw [e])
  have ed : ∀ z, z < 5 → nI d = nI z → d = z := fun z hz e => (nI_eq (by omega) (by omega)).mp e
  have third : ¬ (d ≠ 0 ∧ ahd ls p = true) → ¬ (d = 4 ∧ u ≠ 0) → PW mX11_sureOf 118 [.ref k, .int (nI r), .int (nI p), .int (nI kn), .int (nI (pPh rs r).length), .int (nI d), v6] [] sh M N Q := by
    intro h0 h4
    unfold stO at kN k1 k0
    rw [if_neg h0, if_pos hm] at kN k1 k0
    have whole : (d = 1 ∨ d = 3) → PW mX11_sureOf 130 [.ref k, .int (nI r), .int (nI p), .int (nI kn), .int (nI (pPh rs r).length), .int (nI d), v6] [] sh M N Q := by
      intro h13
      rw [if_pos h13] at kN k1 k0
      refine pw_iconst (v := nI 1) 131 rfl rfl (by decide) ?_
      refine pw_goto rfl 135 rfl ?_
      refine pw_istore6 137 rfl rfl rfl ?_
      refine pw_iload 139 rfl rfl rfl ?_
      refine pw_if_eq_f 142 rfl rfl (by decide) ?_
      refine pw_iload_n 143 rfl rfl rfl ?_
      refine pw_iload 145 rfl rfl rfl ?_
      first | refine pw_iaddN 146 rfl rfl (by with_reducible rfl) (by with_reducible rfl) ?_ | refine pw_iadd 146 rfl rfl ?_
      refine pw_iload_n 147 rfl rfl rfl ?_
      by_cases q : p + (pPh rs r).length < kn
      · rw [if_neg (by omega), if_neg (by omega)] at kN k1 k0
        have y1 : 2 + p + (pPh rs r).length < 122 := by omega
        skip
        refine pw_icmp_ge_f 150 rfl rfl (nI_ge q (by omega)) ?_
        refine pw_aload_n 151 rfl rfl rfl ?_
        refine pw_getR 154 rfl rfl (by first | assumption | exact ⟨by decide, rfl⟩) rfl ?_
        refine pw_iconst (v := nI 2) 155 rfl rfl (by decide) ?_
        refine pw_iload_n 156 rfl rfl rfl ?_
        first | refine pw_iaddN 157 rfl rfl (by with_reducible rfl) (by with_reducible rfl) ?_ | refine pw_iadd 157 rfl rfl ?_
        refine pw_iload 159 rfl rfl rfl ?_
        first | refine pw_iaddN 160 rfl rfl (by with_reducible rfl) (by with_reducible rfl) ?_ | refine pw_iadd 160 rfl rfl ?_
        refine pw_iald _ 161 rfl rfl (by first | assumption | exact ⟨by decide, rfl, by decide⟩) (by with_reducible rfl) (by first | assumption | omega) ?_
        rw [Nat.add_assoc 2 p, hl.2.2.1 _ (by omega)]
        refine pw_cS1 164 rfl rfl rfl (Nat.le_of_ble_eq_true rfl) rfl rfl (Nat.le_of_ble_eq_true rfl) (c_isSmall (fun h => ?_) (fun h => ?_))
        · refine pw_pI ?_
          skip
          refine pw_if_eq_f 167 rfl rfl (by decide) ?_
          refine pw_iconst (v := (-1)) 168 rfl rfl (by decide) ?_
          refine pw_goto rfl 172 rfl ?_
          exact pw_iret rfl rfl (kN (Or.inl (by rw [if_pos h])))
        · refine pw_pI ?_
          skip
          refine pw_if_eq_t 171 rfl rfl (by decide) ?_
          refine pw_iconst (v := nI 1) 172 rfl rfl (by decide) ?_
          exact pw_iret rfl rfl (k1 (by rw [if_neg (by rw [h]; decide)]) h4)
      · skip
        refine pw_icmp_ge_t 173 rfl rfl (nI_le (by omega) (by omega)) ?_
        refine pw_iload 175 rfl rfl rfl ?_
        refine pw_if_ne_t 186 rfl rfl (by decide) ?_
        refine pw_iconst (v := nI 0) 187 rfl rfl (by decide) ?_
        refine pw_goto rfl 191 rfl ?_
        refine pw_iret rfl rfl (k0 ?_ h4)
        by_cases q2 : kn < p + (pPh rs r).length
        · rw [if_pos q2]
        · rw [if_neg q2, if_pos (by omega)]
    refine pw_iload 120 rfl rfl rfl ?_
    refine pw_iconst (v := nI 1) 121 rfl rfl (by decide) ?_
    refine pw_icmp_eq 130 124 rfl rfl rfl (fun q1 => ?_) (fun q1 => ?_)
    · exact whole (Or.inl (ed 1 (by decide) q1))
    · refine pw_iload 126 rfl rfl rfl ?_
      refine pw_iconst (v := nI 3) 127 rfl rfl (by decide) ?_
      refine pw_icmp_ne 134 130 rfl rfl rfl (fun q3 => ?_) (fun q3 => ?_)
      · have h13 : ¬ (d = 1 ∨ d = 3) := fun h => h.elim (nd 1 q1) (nd 3 q3)
        rw [if_neg h13] at k1 k0
        refine pw_iconst (v := nI 0) 135 rfl rfl (by decide) ?_
        refine pw_istore6 137 rfl rfl rfl ?_
        refine pw_iload 139 rfl rfl rfl ?_
        refine pw_if_eq_t 173 rfl rfl (rfl) ?_
        refine pw_iload 175 rfl rfl rfl ?_
        refine pw_if_ne_f 178 rfl rfl (fun e => e rfl) ?_
        refine pw_iload_n 179 rfl rfl rfl ?_
        refine pw_iload 181 rfl rfl rfl ?_
        first | refine pw_iaddN 182 rfl rfl (by with_reducible rfl) (by with_reducible rfl) ?_ | refine pw_iadd 182 rfl rfl ?_
        refine pw_iload_n 183 rfl rfl rfl ?_
        by_cases q : kn < p + (pPh rs r).length
        · skip
          refine pw_icmp_le_f 186 rfl rfl (nI_ge q (by omega)) ?_
          refine pw_iconst (v := nI 0) 187 rfl rfl (by decide) ?_
          refine pw_goto rfl 191 rfl ?_
          exact pw_iret rfl rfl (k0 (by rw [if_pos q]) h4)
        · skip
          refine pw_icmp_le_t 190 rfl rfl (nI_le (by omega) (by omega)) ?_
          refine pw_iconst (v := nI 1) 191 rfl rfl (by decide) ?_
          exact pw_iret rfl rfl (k1 (by rw [if_neg q]) h4)
      · exact whole (Or.inr (ed 3 (by decide) (Decidable.not_not.mp q3)))
  have second : ¬ (d ≠ 0 ∧ ahd ls p = true) → PW mX11_sureOf 101 [.ref k, .int (nI r), .int (nI p), .int (nI kn), .int (nI (pPh rs r).length), .int (nI d), v6] [] sh M N Q := by
    intro h0
    refine pw_iload 103 rfl rfl rfl ?_
    refine pw_iconst (v := nI 4) 104 rfl rfl (by decide) ?_
    refine pw_icmp_ne 118 107 rfl rfl rfl (fun q => ?_) (fun q => ?_)
    · exact third h0 (fun h => nd 4 q h.1)
    · have q := ed 4 (by decide) (Decidable.not_not.mp q)
      refine pw_aload_n 108 rfl rfl rfl ?_
      refine pw_getR 111 rfl rfl (by first | assumption | exact ⟨by decide, rfl⟩) rfl ?_
      refine pw_iload_n 112 rfl rfl rfl ?_
      refine pw_iald _ 113 rfl rfl (by first | assumption | exact ⟨by decide, rfl, by decide⟩) (by with_reducible rfl) (by first | assumption | omega) ?_
      rw [hu]
      by_cases qu : u = 0
      · skip
        refine pw_if_le_t 118 rfl rfl (by rw [qu]; decide) ?_
        exact third h0 (fun h => h.2 qu)
      · skip
        refine pw_if_le_f 116 rfl rfl (nI_nle (by omega) (by omega)) ?_
        exact bad (Or.inr ⟨q, qu⟩)
  refine pw_iload 78 rfl rfl rfl ?_
  refine pw_if_eq 101 81 rfl rfl rfl (fun q => ?_) (fun q => ?_)
  · exact second (fun h => h.1 (ed 0 (by decide) q))
  · have q : d ≠ 0 := fun e => q (by rw [e]; rfl)
    by_cases qp : p = 0
    · refine pw_iload_n 82 rfl rfl rfl ?_
      refine pw_if_le_t 101 rfl rfl (by rw [qp]; decide) ?_
      exact second (fun h => by have := h.2; unfold ahd at this; rw [decide_eq_false (by omega)] at this; cases this)
    · have y1 : 2 + p - 1 < 122 := by omega
      have e1 : 2 + p - 1 = 2 + (p - 1) := by omega
      have ea : ahd ls p = wl (ls.getD (p - 1) 0) := by unfold ahd; rw [decide_eq_true (by omega), Bool.true_and]
      refine pw_iload_n 82 rfl rfl rfl ?_
      refine pw_if_le_f 85 rfl rfl (nI_nle (by omega) (by omega)) ?_
      refine pw_aload_n 86 rfl rfl rfl ?_
      refine pw_getR 89 rfl rfl (by first | assumption | exact ⟨by decide, rfl⟩) rfl ?_
      refine pw_iconst (v := nI 2) 90 rfl rfl (by decide) ?_
      refine pw_iload_n 91 rfl rfl rfl ?_
      first | refine pw_iaddN 92 rfl rfl (by with_reducible rfl) (by with_reducible rfl) ?_ | refine pw_iadd 92 rfl rfl ?_
      refine pw_iconst (v := nI 1) 93 rfl rfl (by decide) ?_
      first | refine pw_isubN 94 rfl rfl (by with_reducible rfl) (by with_reducible rfl) (by omega) ?_ | refine pw_isub 94 rfl rfl ?_
      refine pw_iald _ 95 rfl rfl (by first | assumption | exact ⟨by decide, rfl, by decide⟩) (by with_reducible rfl) (by first | assumption | omega) ?_
      rw [e1, hl.2.2.1 (p - 1) (by omega)]
      refine pw_cS1 98 rfl rfl rfl (Nat.le_of_ble_eq_true rfl) rfl rfl (Nat.le_of_ble_eq_true rfl) (c_isSmall (fun h => ?_) (fun h => ?_))
      · refine pw_pI ?_
        skip
        refine pw_if_ne_t 116 rfl rfl (by decide) ?_
        exact bad (Or.inl (by unfold stO; rw [if_pos ⟨q, by rw [ea]; exact h⟩]))
      · refine pw_pI ?_
        skip
        refine pw_if_ne_f 101 rfl rfl (by decide) ?_
        exact second (fun h2 => by rw [ea, h] at h2; exact Bool.noConfusion h2.2)
theorem c_sureOfM {r p kn u : Nat} (hb : isMod sh k) (hr : ruled (M (k + 2)) rs) (hw : ∀ r ∈ rs, wfR r) (h10 : rs.length ≤ 10) (hl : lnAt (M (k + 3)) ls ss on) (h60 : ls.length ≤ 60) (hp : p < kn) (hkn : kn ≤ ls.length) (hr1 : r < rs.length) (hu : M (k + 17) r = nI u) (hu5 : u < 1000)
    (kN : (stO ((kds rs).getD r 0) (pPh rs r) ls p kn = 0 ∨ ((kds rs).getD r 0 = 4 ∧ u ≠ 0)) → Q (some (.int (-1))) sh M N) (k1 : stO ((kds rs).getD r 0) (pPh rs r) ls p kn = 1 → ¬ ((kds rs).getD r 0 = 4 ∧ u ≠ 0) → Q (some (.int (nI 1))) sh M N) (k0 : stO ((kds rs).getD r 0) (pPh rs r) ls p kn = 2 → ¬ ((kds rs).getD r 0 = 4 ∧ u ≠ 0) → Q (some (.int (nI 0))) sh M N) : PW mX11_sureOf 0 [.ref k, .int (nI r), .int (nI p), .int (nI kn), .null, .null, .null] [] sh M N Q := by
  have hb0 := hb
  obtain ⟨b0, a1, a2, a3, a4, a5, a6, a7, a8, a9, a10, a11, a12, a13, a14, a15, a16, a17, a18, a19, a20⟩ := hb
  have hwf := gR_wf hw hr1
  have hl6 : (pPh rs r).length ≤ 6 := hwf.2.2.1
  have hd5 : (gR rs r).1 < 5 := hwf.1
  rw [kds_at hr1] at kN k1 k0
  have hru := hr.2 r hr1
  have loop : ∀ (d i : Nat), i + d = min (p + (pPh rs r).length) kn - p → (∀ j, j < i → (pPh rs r).getD j 0 = ls.getD (p + j) 0) → PW mX11_sureOf 24 [.ref k, .int (nI r), .int (nI p), .int (nI kn), .int (nI (pPh rs r).length), .int (nI (gR rs r).1), .int (nI i)] [] sh M N Q := by
    intro d
    induction d with
    | zero =>
      intro i hi hv
      have hm : mtB (pPh rs r) ls p (min (p + (pPh rs r).length) kn - p) = true := decide_eq_true (fun j hj => hv j (by omega))
      by_cases q : (pPh rs r).length ≤ i
      · refine pw_iload 26 rfl rfl rfl ?_
        refine pw_iload 28 rfl rfl rfl ?_
        refine pw_icmp_ge_t 76 rfl rfl (nI_le q (by omega)) ?_
        exact sureOf_tail hb0 hl h60 hp hkn (by omega) hl6 hd5 hu hu5 hm kN k1 k0
      · refine pw_iload 26 rfl rfl rfl ?_
        refine pw_iload 28 rfl rfl rfl ?_
        refine pw_icmp_ge_f 31 rfl rfl (nI_ge (by omega) (by omega)) ?_
        refine pw_iload_n 32 rfl rfl rfl ?_
        refine pw_iload 34 rfl rfl rfl ?_
        first | refine pw_iaddN 35 rfl rfl (by with_reducible rfl) (by with_reducible rfl) ?_ | refine pw_iadd 35 rfl rfl ?_
        refine pw_iload_n 36 rfl rfl rfl ?_
        refine pw_icmp_ge_t 76 rfl rfl (nI_le (by omega) (by omega)) ?_
        exact sureOf_tail hb0 hl h60 hp hkn (by omega) hl6 hd5 hu hu5 hm kN k1 k0
    | succ d ih =>
      intro i hi hv
      have y1 : 2 + p + i < 122 := by omega
      have y2 : 31 + 6 * r + i < 151 := by omega
      refine pw_iload 26 rfl rfl rfl ?_
      refine pw_iload 28 rfl rfl rfl ?_
      refine pw_icmp_ge_f 31 rfl rfl (nI_ge (by omega) (by omega)) ?_
      refine pw_iload_n 32 rfl rfl rfl ?_
      refine pw_iload 34 rfl rfl rfl ?_
      first | refine pw_iaddN 35 rfl rfl (by with_reducible rfl) (by with_reducible rfl) ?_ | refine pw_iadd 35 rfl rfl ?_
      refine pw_iload_n 36 rfl rfl rfl ?_
      refine pw_icmp_ge_f 39 rfl rfl (nI_ge (by omega) (by omega)) ?_
      refine pw_aload_n 40 rfl rfl rfl ?_
      refine pw_getR 43 rfl rfl (by first | assumption | exact ⟨by decide, rfl⟩) rfl ?_
      refine pw_iconst (v := nI 2) 44 rfl rfl (by decide) ?_
      refine pw_iload_n 45 rfl rfl rfl ?_
      first | refine pw_iaddN 46 rfl rfl (by with_reducible rfl) (by with_reducible rfl) ?_ | refine pw_iadd 46 rfl rfl ?_
      refine pw_iload 48 rfl rfl rfl ?_
      first | refine pw_iaddN 49 rfl rfl (by with_reducible rfl) (by with_reducible rfl) ?_ | refine pw_iadd 49 rfl rfl ?_
      refine pw_iald _ 50 rfl rfl (by first | assumption | exact ⟨by decide, rfl, by decide⟩) (by with_reducible rfl) (by first | assumption | omega) ?_
      rw [Nat.add_assoc 2 p i, hl.2.2.1 (p + i) (by omega)]
      refine pw_aload_n 51 rfl rfl rfl ?_
      refine pw_getR 54 rfl rfl (by first | assumption | exact ⟨by decide, rfl⟩) rfl ?_
      refine pw_bipush (v := nI 31) 56 rfl rfl (by decide) ?_
      refine pw_bipush (v := nI 6) 58 rfl rfl (by decide) ?_
      refine pw_iload_n 59 rfl rfl rfl ?_
      first | refine pw_imulN 60 rfl rfl (by with_reducible rfl) (by with_reducible rfl) ?_ | refine pw_imul 60 rfl rfl ?_
      first | refine pw_iaddN 61 rfl rfl (by with_reducible rfl) (by with_reducible rfl) ?_ | refine pw_iadd 61 rfl rfl ?_
      refine pw_iload 63 rfl rfl rfl ?_
      first | refine pw_iaddN 64 rfl rfl (by with_reducible rfl) (by with_reducible rfl) ?_ | refine pw_iadd 64 rfl rfl ?_
      refine pw_iald _ 65 rfl rfl (by first | assumption | exact ⟨by decide, rfl, by decide⟩) (by with_reducible rfl) (by first | assumption | omega) ?_
      rw [hru.2.2.2.1 i (by omega)]
      refine pw_icmp_eq 70 68 rfl rfl rfl (fun q => ?_) (fun q => ?_)
      · first | refine pw_iincN6 73 rfl rfl rfl (by with_reducible rfl) ?_ | refine pw_iinc6 (w := _) 73 rfl rfl rfl rfl ?_
        refine pw_goto rfl 24 rfl ?_
        refine ih (i + 1) (by omega) (fun j hj => ?_)
        by_cases e : j = i
        · subst e; exact q.symm
        · exact hv j (by omega)
      · refine pw_iconst (v := (-1)) 69 rfl rfl (by decide) ?_
        refine pw_iret rfl rfl (kN (Or.inl ?_))
        unfold stO
        by_cases q0 : (gR rs r).1 ≠ 0 ∧ ahd ls p = true
        · rw [if_pos q0]
        · rw [if_neg q0, if_neg]
          intro h
          exact q ((mtB_iff.mp h) i (by omega)).symm
  have y1 : 11 + r < 151 := by omega
  have y2 : 1 + r < 151 := by omega
  refine pw_aload_n 1 rfl rfl rfl ?_
  refine pw_getR 4 rfl rfl (by first | assumption | exact ⟨by decide, rfl⟩) rfl ?_
  refine pw_bipush (v := nI 11) 6 rfl rfl (by decide) ?_
  refine pw_iload_n 7 rfl rfl rfl ?_
  first | refine pw_iaddN 8 rfl rfl (by with_reducible rfl) (by with_reducible rfl) ?_ | refine pw_iadd 8 rfl rfl ?_
  refine pw_iald _ 9 rfl rfl (by first | assumption | exact ⟨by decide, rfl, by decide⟩) (by with_reducible rfl) (by first | assumption | omega) ?_
  rw [hru.2.1]
  refine pw_istore4 11 rfl rfl rfl ?_
  refine pw_aload_n 12 rfl rfl rfl ?_
  refine pw_getR 15 rfl rfl (by first | assumption | exact ⟨by decide, rfl⟩) rfl ?_
  refine pw_iconst (v := nI 1) 16 rfl rfl (by decide) ?_
  refine pw_iload_n 17 rfl rfl rfl ?_
  first | refine pw_iaddN 18 rfl rfl (by with_reducible rfl) (by with_reducible rfl) ?_ | refine pw_iadd 18 rfl rfl ?_
  refine pw_iald _ 19 rfl rfl (by first | assumption | exact ⟨by decide, rfl, by decide⟩) (by with_reducible rfl) (by first | assumption | omega) ?_
  rw [hru.1]
  refine pw_istore5 21 rfl rfl rfl ?_
  refine pw_iconst (v := nI 0) 22 rfl rfl (by decide) ?_
  refine pw_istore6 24 rfl rfl rfl ?_
  exact loop _ 0 (Nat.zero_add _) (fun j hj => absurd hj (Nat.not_lt_zero j))
theorem bstF_no {f : Nat → Bool} {L : Nat → Nat} {j : Nat} (hf : f j = false) : bstF f L (j + 1) = bstF f L j := by
  rw [bstF]
  cases bstF f L j with
  | none => simp [hf]
  | some b => simp [hf]
theorem sureA {f : Nat → Bool} {j : Nat} {x n p y4 : Int32} (hb : isMod sh k) (hr : ruled (M (k + 2)) rs) (hw : ∀ r ∈ rs, wfR r) (h10 : rs.length ≤ 10) (hj : j < rs.length) (hx1 : f j = true → x = nI 1) (hx0 : f j = false → ¬ x = nI 1) (kk : PW mX11_sure 136 [.ref k, .int n, .int p, .int (rI (bstF f (fun r => (pPh rs r).length) (j + 1))), .int y4, .int (nI j), .int x] [] sh M N Q) : PW mX11_sure 95 [.ref k, .int n, .int p, .int (rI (bstF f (fun r => (pPh rs r).length) j)), .int y4, .int (nI j), .int x] [] sh M N Q := by
  obtain ⟨b0, a1, a2, a3, a4, a5, a6, a7, a8, a9, a10, a11, a12, a13, a14, a15, a16, a17, a18, a19, a20⟩ := hb
  have hlj : (pPh rs j).length ≤ 6 := (gR_wf hw hj).2.2.1
  have y1 : 11 + j < 151 := by omega
  cases hf : f j with
  | false =>
    have hx := hx0 hf
    rw [bstF_no hf] at kk
    refine pw_iload 97 rfl rfl rfl ?_
    refine pw_iconst (v := nI 1) 98 rfl rfl (by decide) ?_
    refine pw_icmp_ne_t 134 rfl rfl (hx) ?_
    refine pw_iload_n 135 rfl rfl rfl ?_
    refine pw_istore3 136 rfl rfl rfl ?_
    exact kk
  | true =>
    rw [bstF] at kk
    have hx := hx1 hf
    subst hx
    cases hq : bstF f (fun r => (pPh rs r).length) j with
    | none =>
      rw [hq] at kk
      simp only [hf, if_true] at kk
      refine pw_iload 97 rfl rfl rfl ?_
      refine pw_iconst (v := nI 1) 98 rfl rfl (by decide) ?_
      refine pw_icmp_ne_f 101 rfl rfl (fun e => e rfl) ?_
      refine pw_iload_n 102 rfl rfl rfl ?_
      refine pw_bipush (v := (-4)) 104 rfl rfl (by decide) ?_
      refine pw_icmp_eq_t 129 rfl rfl (rfl) ?_
      refine pw_iload 131 rfl rfl rfl ?_
      refine pw_goto rfl 135 rfl ?_
      refine pw_istore3 136 rfl rfl rfl ?_
      exact kk
    | some b =>
      have hb1 := (bstF_lt hq).1
      have hlb : (pPh rs b).length ≤ 6 := (gR_wf hw (show b < rs.length by omega)).2.2.1
      have y2 : 11 + b < 151 := by omega
      rw [hq] at kk
      simp only [hf, true_and] at kk
      have eb : rI (some b) = nI b := rfl
      rw [eb]
      refine pw_iload 97 rfl rfl rfl ?_
      refine pw_iconst (v := nI 1) 98 rfl rfl (by decide) ?_
      refine pw_icmp_ne_f 101 rfl rfl (fun e => e rfl) ?_
      refine pw_iload_n 102 rfl rfl rfl ?_
      refine pw_bipush (v := (-4)) 104 rfl rfl (by decide) ?_
      refine pw_icmp_eq_f 107 rfl rfl (nI_m4 (by omega)) ?_
      refine pw_aload_n 108 rfl rfl rfl ?_
      refine pw_getR 111 rfl rfl (by first | assumption | exact ⟨by decide, rfl⟩) rfl ?_
      refine pw_bipush (v := nI 11) 113 rfl rfl (by decide) ?_
      refine pw_iload 115 rfl rfl rfl ?_
      first | refine pw_iaddN 116 rfl rfl (by with_reducible rfl) (by with_reducible rfl) ?_ | refine pw_iadd 116 rfl rfl ?_
      refine pw_iald _ 117 rfl rfl (by first | assumption | exact ⟨by decide, rfl, by decide⟩) (by with_reducible rfl) (by first | assumption | omega) ?_
      rw [(hr.2 j hj).2.1]
      refine pw_aload_n 118 rfl rfl rfl ?_
      refine pw_getR 121 rfl rfl (by first | assumption | exact ⟨by decide, rfl⟩) rfl ?_
      refine pw_bipush (v := nI 11) 123 rfl rfl (by decide) ?_
      refine pw_iload_n 124 rfl rfl rfl ?_
      first | refine pw_iaddN 125 rfl rfl (by with_reducible rfl) (by with_reducible rfl) ?_ | refine pw_iadd 125 rfl rfl ?_
      refine pw_iald _ 126 rfl rfl (by first | assumption | exact ⟨by decide, rfl, by decide⟩) (by with_reducible rfl) (by first | assumption | omega) ?_
      rw [(hr.2 b (by omega)).2.1]
      refine pw_icmp_le 134 129 rfl rfl rfl (fun q => ?_) (fun q => ?_)
      · have q := (nI_leI (by omega) (by omega)).mp q
        rw [if_neg (by omega)] at kk
        refine pw_iload_n 135 rfl rfl rfl ?_
        refine pw_istore3 136 rfl rfl rfl ?_
        exact kk
      · have q : ¬ (pPh rs j).length ≤ (pPh rs b).length := fun h => q ((nI_leI (by omega) (by omega)).mpr h)
        rw [if_pos (by omega)] at kk
        refine pw_iload 131 rfl rfl rfl ?_
        refine pw_goto rfl 135 rfl ?_
        refine pw_istore3 136 rfl rfl rfl ?_
        exact kk
theorem sureB {f : Nat → Bool} {j : Nat} {x n p y3 : Int32} (hb : isMod sh k) (hr : ruled (M (k + 2)) rs) (hw : ∀ r ∈ rs, wfR r) (h10 : rs.length ≤ 10) (hj : j < rs.length) (hx1 : f j = true → ¬ x < 0) (hx0 : f j = false → x < 0) (kk : PW mX11_sure 56 [.ref k, .int n, .int p, .int y3, .int (rI (bstF f (fun r => (pPh rs r).length) (j + 1))), .int (nI (j + 1)), .int x] [] sh M N Q) : PW mX11_sure 136 [.ref k, .int n, .int p, .int y3, .int (rI (bstF f (fun r => (pPh rs r).length) j)), .int (nI j), .int x] [] sh M N Q := by
  obtain ⟨b0, a1, a2, a3, a4, a5, a6, a7, a8, a9, a10, a11, a12, a13, a14, a15, a16, a17, a18, a19, a20⟩ := hb
  have hlj : (pPh rs j).length ≤ 6 := (gR_wf hw hj).2.2.1
  have y1 : 11 + j < 151 := by omega
  cases hf : f j with
  | false =>
    have hx := hx0 hf
    rw [bstF_no hf] at kk
    refine pw_iload 138 rfl rfl rfl ?_
    refine pw_if_lt_t 176 rfl rfl (hx) ?_
    refine pw_iload 178 rfl rfl rfl ?_
    refine pw_istore4 180 rfl rfl rfl ?_
    first | refine pw_iincN5 183 rfl rfl rfl (by with_reducible rfl) ?_ | refine pw_iinc5 (w := _) 183 rfl rfl rfl rfl ?_
    refine pw_goto rfl 56 rfl ?_
    exact kk
  | true =>
    rw [bstF] at kk
    have hx := hx1 hf
    cases hq : bstF f (fun r => (pPh rs r).length) j with
    | none =>
      rw [hq] at kk
      simp only [hf, if_true] at kk
      refine pw_iload 138 rfl rfl rfl ?_
      refine pw_if_lt_f 141 rfl rfl (hx) ?_
      refine pw_iload 143 rfl rfl rfl ?_
      refine pw_bipush (v := (-4)) 145 rfl rfl (by decide) ?_
      refine pw_icmp_eq_t 171 rfl rfl (rfl) ?_
      refine pw_iload 173 rfl rfl rfl ?_
      refine pw_goto rfl 178 rfl ?_
      refine pw_istore4 180 rfl rfl rfl ?_
      first | refine pw_iincN5 183 rfl rfl rfl (by with_reducible rfl) ?_ | refine pw_iinc5 (w := _) 183 rfl rfl rfl rfl ?_
      refine pw_goto rfl 56 rfl ?_
      exact kk
    | some b =>
      have hb1 := (bstF_lt hq).1
      have hlb : (pPh rs b).length ≤ 6 := (gR_wf hw (show b < rs.length by omega)).2.2.1
      have y2 : 11 + b < 151 := by omega
      rw [hq] at kk
      simp only [hf, true_and] at kk
      have eb : rI (some b) = nI b := rfl
      rw [eb]
      refine pw_iload 138 rfl rfl rfl ?_
      refine pw_if_lt_f 141 rfl rfl (hx) ?_
      refine pw_iload 143 rfl rfl rfl ?_
      refine pw_bipush (v := (-4)) 145 rfl rfl (by decide) ?_
      refine pw_icmp_eq_f 148 rfl rfl (nI_m4 (by omega)) ?_
      refine pw_aload_n 149 rfl rfl rfl ?_
      refine pw_getR 152 rfl rfl (by first | assumption | exact ⟨by decide, rfl⟩) rfl ?_
      refine pw_bipush (v := nI 11) 154 rfl rfl (by decide) ?_
      refine pw_iload 156 rfl rfl rfl ?_
      first | refine pw_iaddN 157 rfl rfl (by with_reducible rfl) (by with_reducible rfl) ?_ | refine pw_iadd 157 rfl rfl ?_
      refine pw_iald _ 158 rfl rfl (by first | assumption | exact ⟨by decide, rfl, by decide⟩) (by with_reducible rfl) (by first | assumption | omega) ?_
      rw [(hr.2 j hj).2.1]
      refine pw_aload_n 159 rfl rfl rfl ?_
      refine pw_getR 162 rfl rfl (by first | assumption | exact ⟨by decide, rfl⟩) rfl ?_
      refine pw_bipush (v := nI 11) 164 rfl rfl (by decide) ?_
      refine pw_iload 166 rfl rfl rfl ?_
      first | refine pw_iaddN 167 rfl rfl (by with_reducible rfl) (by with_reducible rfl) ?_ | refine pw_iadd 167 rfl rfl ?_
      refine pw_iald _ 168 rfl rfl (by first | assumption | exact ⟨by decide, rfl, by decide⟩) (by with_reducible rfl) (by first | assumption | omega) ?_
      rw [(hr.2 b (by omega)).2.1]
      refine pw_icmp_le 176 171 rfl rfl rfl (fun q => ?_) (fun q => ?_)
      · have q := (nI_leI (by omega) (by omega)).mp q
        rw [if_neg (by omega)] at kk
        refine pw_iload 178 rfl rfl rfl ?_
        refine pw_istore4 180 rfl rfl rfl ?_
        first | refine pw_iincN5 183 rfl rfl rfl (by with_reducible rfl) ?_ | refine pw_iinc5 (w := _) 183 rfl rfl rfl rfl ?_
        refine pw_goto rfl 56 rfl ?_
        exact kk
      · have q : ¬ (pPh rs j).length ≤ (pPh rs b).length := fun h => q ((nI_leI (by omega) (by omega)).mpr h)
        rw [if_pos (by omega)] at kk
        refine pw_iload 173 rfl rfl rfl ?_
        refine pw_goto rfl 178 rfl ?_
        refine pw_istore4 180 rfl rfl rfl ?_
        first | refine pw_iincN5 183 rfl rfl rfl (by with_reducible rfl) ?_ | refine pw_iinc5 (w := _) 183 rfl rfl rfl rfl ?_
        refine pw_goto rfl 56 rfl ?_
        exact kk
/-- stands for sure; may stand -/
def fS (rs : List aR) (ls : List Int32) (kn on p : Nat) (c : Nat → Nat) (r : Nat) : Bool := on.testBit r && (decide (stO ((kds rs).getD r 0) (pPh rs r) ls p kn = 1) && !(decide ((kds rs).getD r 0 = 4) && decide (c r ≠ 0)))
def fM (rs : List aR) (ls : List Int32) (kn on p : Nat) (c : Nat → Nat) (r : Nat) : Bool := on.testBit r && (decide (stO ((kds rs).getD r 0) (pPh rs r) ls p kn ≠ 0) && !(decide ((kds rs).getD r 0 = 4) && decide (c r ≠ 0)))
theorem fM_fsp {kn s p : Nat} {c : Nat → Nat} (hw : ∀ r ∈ rs, wfR r) (h : ∀ r, r < rs.length → s.testBit r = (on.testBit r && !(decide ((kds rs).getD r 0 = 4) && decide (c r ≠ 0)))) : bstF (fM rs ls kn on p c) (fun r => (pPh rs r).length) rs.length = fsp rs (kds rs) ls kn s p := by
  unfold fsp
  rw [← ord_bst hw]
  refine bst_cong (fun r hr => ?_)
  unfold fM opB
  rw [h r hr]
  cases on.testBit r <;> cases decide (stO ((kds rs).getD r 0) (pPh rs r) ls p kn ≠ 0) <;> simp
theorem fS_M {kn p r : Nat} {c : Nat → Nat} (h : fS rs ls kn on p c r = true) : fM rs ls kn on p c r = true ∧ stO ((kds rs).getD r 0) (pPh rs r) ls p kn = 1 := by
  unfold fS at h
  unfold fM
  rw [Bool.and_eq_true, Bool.and_eq_true, decide_eq_true_eq] at h
  rw [h.1, h.2.2, h.2.1]
  exact ⟨rfl, rfl⟩
theorem sure_in {kn p : Nat} {c : Nat → Nat} (hb : isMod sh k) (hr : ruled (M (k + 2)) rs) (hw : ∀ r ∈ rs, wfR r) (h10 : rs.length ≤ 10) (hl : lnAt (M (k + 3)) ls ss on) (h60 : ls.length ≤ 60) (hp : p < kn) (hkn : kn ≤ ls.length) (hon : on < 1024) (hu : ∀ r, r < rs.length → M (k + 17) r = nI (c r) ∧ c r < 1000)
    (kk : ∀ v5 v6 : Value, PW mX11_sure 186 [.ref k, .int (nI kn), .int (nI p), .int (rI (bstF (fS rs ls kn on p c) (fun r => (pPh rs r).length) rs.length)), .int (rI (bstF (fM rs ls kn on p c) (fun r => (pPh rs r).length) rs.length)), v5, v6] [] sh M N Q) :
    ∀ (d j : Nat) (v6 : Value), j + d = rs.length → PW mX11_sure 56 [.ref k, .int (nI kn), .int (nI p), .int (rI (bstF (fS rs ls kn on p c) (fun r => (pPh rs r).length) j)), .int (rI (bstF (fM rs ls kn on p c) (fun r => (pPh rs r).length) j)), .int (nI j), v6] [] sh M N Q := by
  have hb0 := hb
  obtain ⟨b0, a1, a2, a3, a4, a5, a6, a7, a8, a9, a10, a11, a12, a13, a14, a15, a16, a17, a18, a19, a20⟩ := hb
  intro d
  induction d with
  | zero =>
    intro j v6 hj
    have : j = rs.length := by omega
    subst this
    refine pw_iload 58 rfl rfl rfl ?_
    refine pw_aload_n 59 rfl rfl rfl ?_
    refine pw_getR 62 rfl rfl (by first | assumption | exact ⟨by decide, rfl⟩) rfl ?_
    refine pw_iconst (v := nI 0) 63 rfl rfl (by decide) ?_
    refine pw_iald _ 64 rfl rfl (by first | assumption | exact ⟨by decide, rfl, by decide⟩) (by with_reducible rfl) (by first | assumption | omega) ?_
    rw [hr.1]
    refine pw_icmp_ge_t 186 rfl rfl (nI_le (Nat.le_refl _) (by omega)) ?_
    exact kk _ _
  | succ d ih =>
    intro j v6 hj
    have hj1 : j < rs.length := by omega
    have go : ∀ x : Int32, (fS rs ls kn on p c j = true → x = nI 1) → (fS rs ls kn on p c j = false → ¬ x = nI 1) → (fM rs ls kn on p c j = true → ¬ x < 0) → (fM rs ls kn on p c j = false → x < 0) → PW mX11_sure 95 [.ref k, .int (nI kn), .int (nI p), .int (rI (bstF (fS rs ls kn on p c) (fun r => (pPh rs r).length) j)), .int (rI (bstF (fM rs ls kn on p c) (fun r => (pPh rs r).length) j)), .int (nI j), .int x] [] sh M N Q := by
      intro x h1 h2 h3 h4
      exact sureA hb0 hr hw h10 hj1 h1 h2 (sureB hb0 hr hw h10 hj1 h3 h4 (ih (j + 1) _ (by omega)))
    refine pw_iload 58 rfl rfl rfl ?_
    refine pw_aload_n 59 rfl rfl rfl ?_
    refine pw_getR 62 rfl rfl (by first | assumption | exact ⟨by decide, rfl⟩) rfl ?_
    refine pw_iconst (v := nI 0) 63 rfl rfl (by decide) ?_
    refine pw_iald _ 64 rfl rfl (by first | assumption | exact ⟨by decide, rfl, by decide⟩) (by with_reducible rfl) (by first | assumption | omega) ?_
    rw [hr.1]
    refine pw_icmp_ge_f 67 rfl rfl (nI_ge hj1 (by omega)) ?_
    refine pw_aload_n 68 rfl rfl rfl ?_
    refine pw_getR 71 rfl rfl (by first | assumption | exact ⟨by decide, rfl⟩) rfl ?_
    refine pw_iconst (v := nI 1) 72 rfl rfl (by decide) ?_
    refine pw_iald _ 73 rfl rfl (by first | assumption | exact ⟨by decide, rfl, by decide⟩) (by with_reducible rfl) (by first | assumption | omega) ?_
    refine pw_iload 75 rfl rfl rfl ?_
    rw [hl.2.1]
    refine pw_cS2 78 rfl rfl rfl (Nat.le_of_ble_eq_true rfl) rfl rfl (Nat.le_of_ble_eq_true rfl) (c_has hon (by omega) ?_)
    refine pw_pI ?_
    by_cases q1 : on.testBit j = true
    · rw [if_pos q1]
      skip
      refine pw_if_eq_f 81 rfl rfl (by decide) ?_
      refine pw_aload_n 82 rfl rfl rfl ?_
      refine pw_iload 84 rfl rfl rfl ?_
      refine pw_iload_n 85 rfl rfl rfl ?_
      refine pw_iload_n 86 rfl rfl rfl ?_
      have g1 : ∀ z : Nat, stO ((kds rs).getD j 0) (pPh rs j) ls p kn = z → ¬ ((kds rs).getD j 0 = 4 ∧ c j ≠ 0) → fS rs ls kn on p c j = decide (z = 1) ∧ fM rs ls kn on p c j = decide (z ≠ 0) := by
        intro z hz h4
        have e4 : (decide ((kds rs).getD j 0 = 4) && decide (c j ≠ 0)) = false := by
          cases hq : (decide ((kds rs).getD j 0 = 4) && decide (c j ≠ 0)) with
          | false => rfl
          | true => rw [Bool.and_eq_true, decide_eq_true_eq, decide_eq_true_eq] at hq; exact absurd hq h4
        unfold fS fM
        rw [q1, e4, hz]
        simp
      refine pw_cV3 89 rfl rfl (by first | assumption | exact ⟨by decide, rfl⟩) rfl (Nat.le_of_ble_eq_true rfl) rfl rfl (Nat.le_of_ble_eq_true rfl) (c_sureOfM hb0 hr hw h10 hl h60 hp hkn hj1 (hu j hj1).1 (hu j hj1).2 (fun h => ?_) (fun h h4 => ?_) (fun h h4 => ?_))
      · refine pw_pI ?_
        have e : fM rs ls kn on p c j = false := by
          unfold fM
          rcases h with h | h
          · rw [decide_eq_false (fun q => q h)]; simp
          · rw [decide_eq_true h.1, decide_eq_true h.2]; simp
        have e2 : fS rs ls kn on p c j = false := by
          cases hq : fS rs ls kn on p c j with
          | false => rfl
          | true => rw [(fS_M hq).1] at e; cases e
        refine pw_goto rfl 93 rfl ?_
        refine pw_istore6 95 rfl rfl rfl ?_
        exact go _ (fun h => by rw [e2] at h; cases h) (fun _ => by decide) (fun h => by rw [e] at h; cases h) (fun _ => by decide)
      · refine pw_pI ?_
        have g := g1 1 h h4
        refine pw_goto rfl 93 rfl ?_
        refine pw_istore6 95 rfl rfl rfl ?_
        exact go _ (fun _ => rfl) (fun h => by rw [g.1] at h; cases h) (fun _ => by decide) (fun h => by rw [g.2] at h; cases h)
      · refine pw_pI ?_
        have g := g1 2 h h4
        refine pw_goto rfl 93 rfl ?_
        refine pw_istore6 95 rfl rfl rfl ?_
        exact go _ (fun h => by rw [g.1] at h; cases h) (fun _ => by decide) (fun _ => by decide) (fun h => by rw [g.2] at h; cases h)
    · rw [if_neg q1]
      have q1 : on.testBit j = false := by simpa using q1
      have e : fM rs ls kn on p c j = false := by unfold fM; rw [q1]; rfl
      have e2 : fS rs ls kn on p c j = false := by unfold fS; rw [q1]; rfl
      skip
      refine pw_if_eq_t 92 rfl rfl (by decide) ?_
      refine pw_iconst (v := (-1)) 93 rfl rfl (by decide) ?_
      refine pw_istore6 95 rfl rfl rfl ?_
      exact go _ (fun h => by rw [e2] at h; cases h) (fun _ => by decide) (fun h => by rw [e] at h; cases h) (fun _ => by decide)
theorem sure_out {kn v : Nat} (hb : isMod sh k) (hr : ruled (M (k + 2)) rs) (hw : ∀ r ∈ rs, wfR r) (h10 : rs.length ≤ 10) (hl : lnAt (M (k + 3)) ls ss on) (h60 : ls.length ≤ 60) (hkn : kn ≤ ls.length) (hon : on < 1024) (kk : ∀ M', (∀ x, x ≠ k + 17 → M' x = M x) → Q (some (.int (nI v))) sh M' N) :
    ∀ (f p s : Nat) (c : Nat → Nat) (M1 : pmM) (v3 v4 v5 v6 : Value), kn - p ≤ f → p ≤ kn → (∀ x, x ≠ k + 17 → M1 x = M x) → (∀ r, r < rs.length → M1 (k + 17) r = nI (c r) ∧ c r ≤ p) → (∀ r, r < rs.length → s.testBit r = (on.testBit r && !(decide ((kds rs).getD r 0 = 4) && decide (c r ≠ 0)))) → surF rs (kds rs) ls kn f p s = v → PW mX11_sure 41 [.ref k, .int (nI kn), .int (nI p), v3, v4, v5, v6] [] sh M1 N Q := by
  have hb0 := hb
  obtain ⟨b0, a1, a2, a3, a4, a5, a6, a7, a8, a9, a10, a11, a12, a13, a14, a15, a16, a17, a18, a19, a20⟩ := hb
  intro f
  induction f with
  | zero =>
    intro p s c M1 v3 v4 v5 v6 hf hp hM hu hs e
    rw [surF] at e
    subst e
    have : p = kn := by omega
    subst this
    refine pw_iload_n 42 rfl rfl rfl ?_
    refine pw_iload_n 43 rfl rfl rfl ?_
    refine pw_icmp_ge_t 235 rfl rfl (nI_le (Nat.le_refl _) (by omega)) ?_
    refine pw_iload_n 236 rfl rfl rfl ?_
    exact pw_iret rfl rfl (kk M1 hM)
  | succ f ih =>
    intro p s c M1 v3 v4 v5 v6 hf hp hM hu hs e
    rw [surF] at e
    by_cases q : p < kn
    · rw [if_pos q] at e
      have r1 : ruled (M1 (k + 2)) rs := by rw [hM (k + 2) (by omega)]; exact hr
      have l1 : lnAt (M1 (k + 3)) ls ss on := by rw [hM (k + 3) (by omega)]; exact hl
      refine pw_iload_n 42 rfl rfl rfl ?_
      refine pw_iload_n 43 rfl rfl rfl ?_
      refine pw_icmp_ge_f 46 rfl rfl (nI_ge q (by omega)) ?_
      refine pw_bipush (v := (-4)) 48 rfl rfl (by decide) ?_
      refine pw_istore3 49 rfl rfl rfl ?_
      refine pw_bipush (v := (-4)) 51 rfl rfl (by decide) ?_
      refine pw_istore4 53 rfl rfl rfl ?_
      refine pw_iconst (v := nI 0) 54 rfl rfl (by decide) ?_
      refine pw_istore5 56 rfl rfl rfl ?_
      refine sure_in (c := c) (ss := ss) hb0 r1 hw h10 l1 h60 q hkn hon (fun r hr => ⟨(hu r hr).1, by have := (hu r hr).2; omega⟩) (fun w5 w6 => ?_) _ 0 _ (Nat.zero_add _)
      have eM := fM_fsp (ls := ls) (kn := kn) (p := p) hw hs
      have okS := bstF_ok (fS rs ls kn on p c) (fun r => (pPh rs r).length) rs.length
      have okM := bstF_ok (fM rs ls kn on p c) (fun r => (pPh rs r).length) rs.length
      rw [eM] at okM ⊢
      cases hq : fsp rs (kds rs) ls kn s p with
      | none =>
        rw [hq] at okM e
        have eS : bstF (fS rs ls kn on p c) (fun r => (pPh rs r).length) rs.length = none := by
          refine bstOk_one okS (fun r hr => ?_)
          cases h : fS rs ls kn on p c r with
          | false => rfl
          | true => have := okM r hr; rw [(fS_M h).1] at this; cases this
        rw [eS]
        rw [if_neg (show ¬ stp rs (kds rs) ls kn p none = true from fun h => Bool.noConfusion h)] at e
        refine pw_iload 188 rfl rfl rfl ?_
        refine pw_iload_n 189 rfl rfl rfl ?_
        refine pw_icmp_eq_t 194 rfl rfl (rfl) ?_
        refine pw_iload_n 195 rfl rfl rfl ?_
        refine pw_bipush (v := (-4)) 197 rfl rfl (by decide) ?_
        refine pw_icmp_eq_t 210 rfl rfl (rfl) ?_
        refine pw_iload_n 211 rfl rfl rfl ?_
        refine pw_iload_n 212 rfl rfl rfl ?_
        refine pw_bipush (v := (-4)) 214 rfl rfl (by decide) ?_
        refine pw_icmp_ne_f 217 rfl rfl (fun e => e rfl) ?_
        refine pw_iconst (v := nI 1) 218 rfl rfl (by decide) ?_
        refine pw_goto rfl 230 rfl ?_
        first | refine pw_iaddN 231 rfl rfl (by with_reducible rfl) (by with_reducible rfl) ?_ | refine pw_iadd 231 rfl rfl ?_
        refine pw_istore2 232 rfl rfl rfl ?_
        refine pw_goto rfl 41 rfl ?_
        exact ih (p + 1) s c M1 _ _ _ _ (by omega) (by omega) hM (fun r hr => ⟨(hu r hr).1, by have := (hu r hr).2; omega⟩) hs e
      | some r =>
        have hfs := fsp_some hq
        have hr1 := hfs.1
        have y1 : r < 10 := by omega
        have y2 : 11 + r < 151 := by omega
        have hl6 : (pPh rs r).length ≤ 6 := hfs.2.2.1
        by_cases q2 : stp rs (kds rs) ls kn p (fsp rs (kds rs) ls kn s p) = true
        · rw [if_pos q2] at e
          subst e
          rw [hq] at okM q2
          have q2 : stO ((kds rs).getD r 0) (pPh rs r) ls p kn = 2 := by unfold stp at q2; simpa using q2
          have ne : ¬ rI (some r) = rI (bstF (fS rs ls kn on p c) (fun r => (pPh rs r).length) rs.length) := by
            cases hb : bstF (fS rs ls kn on p c) (fun r => (pPh rs r).length) rs.length with
            | none => exact nI_m4 (by omega)
            | some b =>
              intro h
              have h1 := bstF_lt hb
              have : r = b := (nI_eq (by omega) (by omega)).mp h
              subst this
              have := (fS_M h1.2).2
              omega
          refine pw_iload 188 rfl rfl rfl ?_
          refine pw_iload_n 189 rfl rfl rfl ?_
          refine pw_icmp_eq_f 192 rfl rfl (ne) ?_
          refine pw_iload_n 193 rfl rfl rfl ?_
          exact pw_iret rfl rfl (kk M1 hM)
        · rw [if_neg q2] at e
          have hadv := fsp_adv q q2
          rw [hq] at okM q2 e hadv
          have q3 : stO ((kds rs).getD r 0) (pPh rs r) ls p kn ≠ 2 := by unfold stp at q2; simpa using q2
          have q4 : stO ((kds rs).getD r 0) (pPh rs r) ls p kn ≠ 0 := by
            have h4 := hfs.2.2.2
            unfold opB at h4
            rw [Bool.and_eq_true, decide_eq_true_eq] at h4
            exact h4.2
          have q5 : stO ((kds rs).getD r 0) (pPh rs r) ls p kn = 1 := by have := stO_le ((kds rs).getD r 0) (pPh rs r) ls p kn; omega
          have fr1 : fS rs ls kn on p c r = true := by
            have h := okM.2.1
            unfold fM at h
            unfold fS
            rw [decide_eq_true q4] at h
            rw [decide_eq_true q5]
            exact h
          have eS : bstF (fS rs ls kn on p c) (fun r => (pPh rs r).length) rs.length = some r := bstOk_one okS ⟨hr1, fr1, fun x hx hf => okM.2.2 x hx (fS_M hf).1⟩
          rw [eS]
          have e0 : rI (some r) = nI r := rfl
          rw [e0]
          have had : adv rs (some r) = (pPh rs r).length := rfl
          rw [had] at e hadv
          refine pw_iload 188 rfl rfl rfl ?_
          refine pw_iload_n 189 rfl rfl rfl ?_
          refine pw_icmp_eq_t 194 rfl rfl (rfl) ?_
          refine pw_iload_n 195 rfl rfl rfl ?_
          refine pw_bipush (v := (-4)) 197 rfl rfl (by decide) ?_
          refine pw_icmp_eq_f 200 rfl rfl (nI_m4 (by omega)) ?_
          refine pw_aload_n 201 rfl rfl rfl ?_
          refine pw_getR 204 rfl rfl (by first | assumption | exact ⟨by decide, rfl⟩) rfl ?_
          refine pw_iload_n 205 rfl rfl rfl ?_
          refine pw_dup2 206 rfl rfl ⟨rfl, rfl⟩ ?_
          refine pw_iald _ 207 rfl rfl (by first | assumption | exact ⟨by decide, rfl, by decide⟩) (by with_reducible rfl) (by first | assumption | omega) ?_
          rw [(hu r hr1).1]
          refine pw_iconst (v := nI 1) 208 rfl rfl (by decide) ?_
          first | refine pw_iaddN 209 rfl rfl (by with_reducible rfl) (by with_reducible rfl) ?_ | refine pw_iadd 209 rfl rfl ?_
          refine pw_iast _ 210 rfl rfl (by first | assumption | exact ⟨by decide, rfl, by decide⟩) (by with_reducible rfl) (by first | assumption | omega) ?_
          refine pw_iload_n 211 rfl rfl rfl ?_
          refine pw_iload_n 212 rfl rfl rfl ?_
          refine pw_bipush (v := (-4)) 214 rfl rfl (by decide) ?_
          refine pw_icmp_ne_t 221 rfl rfl (nI_m4 (by omega)) ?_
          refine pw_aload_n 222 rfl rfl rfl ?_
          refine pw_getR 225 rfl rfl (by first | assumption | exact ⟨by decide, rfl⟩) rfl ?_
          refine pw_bipush (v := nI 11) 227 rfl rfl (by decide) ?_
          refine pw_iload_n 228 rfl rfl rfl ?_
          first | refine pw_iaddN 229 rfl rfl (by with_reducible rfl) (by with_reducible rfl) ?_ | refine pw_iadd 229 rfl rfl ?_
          refine pw_iald _ 230 rfl rfl (by first | assumption | exact ⟨by decide, rfl, by decide⟩) (by with_reducible rfl) (by first | assumption | omega) ?_
          rw [st_ne _ _ _ _ (by omega), (r1.2 r hr1).2.1]
          first | refine pw_iaddN 231 rfl rfl (by with_reducible rfl) (by with_reducible rfl) ?_ | refine pw_iadd 231 rfl rfl ?_
          refine pw_istore2 232 rfl rfl rfl ?_
          refine pw_goto rfl 41 rfl ?_
          refine ih (p + (pPh rs r).length) (lef (kds rs) s (some r)) (fun x => if x = r then c r + 1 else c x) _ _ _ _ _ (by omega) (by omega) (fun x hx => by rw [st_ne _ _ _ _ hx, hM x hx]) (fun x hx => ?_) (fun x hx => ?_) e
          · by_cases qx : x = r
            · subst qx
              simp only [if_true]
              rw [st_same]
              exact ⟨rfl, by have := (hu x hx).2; omega⟩
            · simp only [if_neg qx]
              rw [st_row _ _ _ _ qx]
              exact ⟨(hu x hx).1, by have := (hu x hx).2; omega⟩
          · have hsx := hs x hx
            unfold lef
            simp only
            by_cases qx : x = r
            · subst qx
              simp only [if_true]
              by_cases q4 : (kds rs).getD x 0 = 4
              · rw [if_pos q4, clr_bit, decide_eq_true q4]; simp
              · rw [if_neg q4, hsx, decide_eq_false q4]; simp
            · simp only [if_neg qx]
              by_cases q4 : (kds rs).getD r 0 = 4
              · rw [if_pos q4, clr_bit, hsx, decide_eq_true (show x < 10 by omega), decide_eq_true qx]; simp
              · rw [if_neg q4, hsx]
    · rw [if_neg q] at e
      subst e
      refine pw_iload_n 42 rfl rfl rfl ?_
      refine pw_iload_n 43 rfl rfl rfl ?_
      refine pw_icmp_ge_t 235 rfl rfl (nI_le (by omega) (by omega)) ?_
      refine pw_iload_n 236 rfl rfl rfl ?_
      exact pw_iret rfl rfl (kk M1 hM)
theorem sure_zero {n : Int32} (hb : isMod sh k) (kk : ∀ M', (∀ x, x ≠ k + 17 → M' x = M x) → (∀ j, j < 10 → M' (k + 17) j = nI 0) → PW mX11_sure 39 [.ref k, .int n, .int (nI 10), .null, .null, .null, .null] [] sh M' N Q) :
    ∀ (d i : Nat) (M1 : pmM), i + d = 10 → (∀ x, x ≠ k + 17 → M1 x = M x) → (∀ j, j < i → M1 (k + 17) j = nI 0) → PW mX11_sure 20 [.ref k, .int n, .int (nI i), .null, .null, .null, .null] [] sh M1 N Q := by
  obtain ⟨b0, a1, a2, a3, a4, a5, a6, a7, a8, a9, a10, a11, a12, a13, a14, a15, a16, a17, a18, a19, a20⟩ := hb
  intro d
  induction d with
  | zero =>
    intro i M1 hi hf hv
    have : i = 10 := by omega
    subst this
    refine pw_iload_n 21 rfl rfl rfl ?_
    refine pw_bipush (v := nI 10) 23 rfl rfl (by decide) ?_
    refine pw_icmp_ge_t 39 rfl rfl (by decide) ?_
    exact kk M1 hf hv
  | succ d ih =>
    intro i M1 hi hf hv
    have hx : i < 10 := by omega
    refine pw_iload_n 21 rfl rfl rfl ?_
    refine pw_bipush (v := nI 10) 23 rfl rfl (by decide) ?_
    refine pw_icmp_ge_f 26 rfl rfl (nI_ge (by omega) (by omega)) ?_
    refine pw_aload_n 27 rfl rfl rfl ?_
    refine pw_getR 30 rfl rfl (by first | assumption | exact ⟨by decide, rfl⟩) rfl ?_
    refine pw_iload_n 31 rfl rfl rfl ?_
    refine pw_iconst (v := nI 0) 32 rfl rfl (by decide) ?_
    refine pw_iast _ 33 rfl rfl (by first | assumption | exact ⟨by decide, rfl, by decide⟩) (by with_reducible rfl) (by first | assumption | omega) ?_
    first | refine pw_iincN2 36 rfl rfl rfl (by with_reducible rfl) ?_ | refine pw_iinc2 (w := _) 36 rfl rfl rfl rfl ?_
    refine pw_goto rfl 20 rfl ?_
    refine ih (i + 1) _ (by omega) (fun x hx => by rw [st_ne _ _ _ _ hx, hf x hx]) (fun j hj => ?_)
    by_cases q : j = i
    · subst q; exact st_same _ _ _ _
    · rw [st_row _ _ _ _ q]; exact hv j (by omega)
theorem m_sure {n : Int32} (hb : isMod sh k) (hw : wfW a) (ho : okW a) (hx : modIs M N k a) (kk : mst k sh M N Q (.int (vSure a n)) a) : PW mX11_sure 0 [.ref k, .int n, .null, .null, .null, .null, .null] [] sh M N Q := by
  have hb0 := hb
  obtain ⟨b0, a1, a2, a3, a4, a5, a6, a7, a8, a9, a10, a11, a12, a13, a14, a15, a16, a17, a18, a19, a20⟩ := hb
  have h60 : a.ls.length ≤ 60 := ho.1.1.1
  have h10 : a.rs.length ≤ 10 := ho.1.2.1.1
  have hl := hx.2.2.1.ln
  have hl0 : M (k + 3) 0 = nI a.ls.length := hl.1
  unfold vSure at kk
  refine pw_iload_n 1 rfl rfl rfl ?_
  refine pw_i2l 2 rfl rfl ?_
  refine pw_lconst (v := lN 0) 3 rfl rfl (by decide) ?_
  refine pw_aload_n 4 rfl rfl rfl ?_
  refine pw_getR 7 rfl rfl (by first | assumption | exact ⟨by decide, rfl⟩) rfl ?_
  refine pw_iconst (v := nI 0) 8 rfl rfl (by decide) ?_
  refine pw_iald _ 9 rfl rfl (by first | assumption | exact ⟨by decide, rfl, by decide⟩) (by with_reducible rfl) (by first | assumption | omega) ?_
  rw [hl0]
  refine pw_i2l 10 rfl rfl ?_
  refine pw_cS3 13 rfl rfl rfl (Nat.le_of_ble_eq_true rfl) rfl rfl (Nat.le_of_ble_eq_true rfl) (c_inX (b := 0) (c := a.ls.length + 1) (by decide) (by omega) (by rw [Int32.toInt_toInt64, nI_int (by omega)]; omega) (fun j h1 hj e => ?_) (fun hn => ?_))
  · refine pw_pI ?_
    subst e
    have hn9 : ix (nI j) (a.ls.length + 1) = some j := ix_some hj (by omega)
    rw [hn9] at kk
    simp only at kk
    skip
    refine pw_if_ne_t 18 rfl rfl (by decide) ?_
    refine pw_iconst (v := nI 0) 19 rfl rfl (by decide) ?_
    refine pw_istore2 20 rfl rfl rfl ?_
    refine sure_zero hb0 (fun M1 f1 e1 => ?_) 10 0 M (by decide) (fun _ _ => rfl) (fun j hj => absurd hj (Nat.not_lt_zero j))
    refine pw_iconst (v := nI 0) 40 rfl rfl (by decide) ?_
    refine pw_istore2 41 rfl rfl rfl ?_
    refine sure_out (rs := a.rs) (ls := a.ls) (ss := a.ss) (on := a.on) (v := surF a.rs (kds a.rs) a.ls j j 0 a.on) hb0 hx.2.1 ho.1.2.1.2 h10 hl h60 (by omega) (on_1024 hw ho) (fun M2 f2 => kk.go (fun x hx => f2 x (by omega)) (hx.mv (fun i _ _ _ => by rw [f2 k (by omega)]) (fun x h1 h2 => f2 x (by omega)))) j 0 a.on (fun _ => 0) M1 _ _ _ _ (by omega) (Nat.zero_le _) f1 (fun r hr => ⟨e1 r (by omega), Nat.le_refl 0⟩) (fun r hr => by simp) rfl
  · refine pw_pI ?_
    have hn9 : ix n (a.ls.length + 1) = none := ix_none (fun j hj => hn j (Nat.zero_le j) hj)
    rw [hn9] at kk
    skip
    refine pw_if_ne_f 16 rfl rfl (by decide) ?_
    refine pw_iconst (v := (-1)) 17 rfl rfl (by decide) ?_
    exact pw_iret rfl rfl (kk.at hx)
end MSU
