/-! WHAT THE REFERENCE MAY REST ON; rule -/
def okS (s : aS) : Prop := (s.1.1.length ≤ 60 ∧ s.1.2.1.length = s.1.1.length) ∧ (s.2.1.length ≤ 10 ∧ ∀ r ∈ s.2.1, wfR r) ∧ s.2.2.length ≤ 8 ∧ ∀ m ∈ s.2.2, m.1.length ≤ 60 ∧ m.2.1.length = m.1.length
def okW (a : aW) : Prop := okS a.now ∧ (∀ s, a.img = some s → okS s) ∧ ∀ i, i < 4 → (a.shs i).2.1 < 4 ∧ (a.shs i).2.2.1 ≤ 60
theorem ok_st {M : pmM} {k : Nat} {s : aS} (h : stIs M k s) : okS s := by
  obtain ⟨h1, h2, nx, h3⟩ := h
  refine ⟨h1.2.2, ⟨h2.2.1, fun r hr => ?_⟩, h3.2.2.2.1, fun m hm => ?_⟩
  · obtain ⟨i, hi⟩ := List.getElem?_of_mem hr
    exact (h2.2.2 i r hi).2
  · obtain ⟨i, hi⟩ := List.getElem?_of_mem hm
    exact (h3.2.2.2.2 i m hi).2.2
theorem ok_app {M : pmM} {N : pmN} {k : Nat} {a : aW} (h : appIs M N k a) : okW a := ⟨ok_st h.2.1, fun s hs => ok_st (h.2.2.1 s hs), fun i hi => ⟨(h.2.2.2.2.2.2 i hi).2.2.2.1, (h.2.2.2.2.2.2 i hi).2.2.2.2.1⟩⟩
theorem modIs.mk4 {M M' : pmM} {N : pmN} {k : Nat} {a : aW} {tp : List Int32} {now : aS} {ps : Option Nat} {pset : Nat} (h : modIs M N k a) (f1 : ∀ x, k + 5 ≤ x → x ≤ k + 10 → M' x = M x) (f11 : M' k 11 = M k 11) (f12 : M' k 12 = M k 12) (ht : tpIs M' k tp) (hr : ruled (M' (k + 2)) now.2.1) (hh : held (M' (k + 3)) 0 now.1) (hu : M' k 5 = nI now.2.2.length) (hp : pastIs (M' (k + 4)) now.2.2) (hs : M' k 6 = nI pset) (hq : M' k 7 = rI ps) : modIs M' N k (tp, now, a.2.2.1, ps, pset, a.2.2.2.2.2) := by
  obtain ⟨_, _, _, _, _, _, ⟨h7, h8⟩, h9⟩ := h
  refine ⟨ht, hr, hh, ⟨hu, hp⟩, hs, hq, ⟨by rw [f12]; exact h7, fun s hs => ?_⟩, fun i hi => ?_⟩
  · rw [f1 (k + 5) (by omega) (by omega), f1 (k + 6) (by omega) (by omega), f1 (k + 7) (by omega) (by omega), f11]
    exact h8 s hs
  · rw [f1 (k + 8) (by omega) (by omega), f1 (k + 9) (by omega) (by omega), f1 (k + 10) (by omega) (by omega)]
    exact h9 i hi
theorem nI_sub0 (n : Nat) : nI n - nI 0 = nI n := by
  rw [nI_0, Int32.sub_zero]
section MRU
variable {sh : pmS} {M : pmM} {N : pmN} {Q : pmPost} {k : Nat} {a : aW}
theorem m_rule_tail {r b : Nat} (hb : isMod sh k) (hw : wfW a) (ho : okW a) (hx : modIs M N k a) (kk : mst k sh M N Q (.int (vRule a).1) (vRule a).2) (hr9 : r ≤ 9) (hr : r = if a.rs.length = 10 then 9 else a.rs.length) (hbb : b = if a.rs.length = 10 then 1 else 0) :
    ∀ M2 : pmM, (∀ x, x ≠ k → x ≠ k + 13 → M2 x = M x) → (∀ j, j ≠ 18 → M2 k j = M k j) → M2 k 18 = nI 0 → M2 (k + 13) 0 = nI r → (∀ i, i < 151 → i ≠ 0 → M2 (k + 13) i = M (k + 2) i) → PW mX11_rule 54 [.ref k, .int (nI b)] [] sh M2 N Q := by
  intro M2 g1 g2 hp2 h0 hrd
  have hb0 := hb
  obtain ⟨b0, a1, a2, a3, a4, a5, a6, a7, a8, a9, a10, a11, a12, a13, a14, a15, a16, a17, a18, a19, a20⟩ := hb
  have hl := hw.1
  have hneg := hw.2.1
  have h10 : a.rs.length ≤ 10 := ho.1.2.1.1
  have ht : tpIs M k a.tp := hx.1
  have hok := rdR_ok (tp := a.tp) (p := 0) (Nat.zero_le _)
  have ht2 : tpIs M2 k a.tp := ⟨by rw [g2 1 (by decide)]; exact ht.1, fun i hi => by rw [g1 (k + 1) (by omega) (by omega)]; exact ht.2 i hi⟩
  have fin : ∀ (M3 : pmM) (p : Nat), frR k (k + 13) M2 M3 → p ≤ a.tp.length → M3 k 18 = nI p → mst k sh M N Q (.int ((-20) - nI (sk a.tp p))) (wTp a []) → PW mX11_rule 70 [.ref k, .int (nI b)] [] sh M3 N Q := by
    intro M3 p f3 hp p3 kk
    have ht3 := ht2.mvR f3 (by omega)
    refine pw_aload_n 71 rfl rfl rfl ?_
    refine pw_cV0 74 rfl rfl (by first | assumption | exact ⟨by decide, rfl⟩) rfl (Nat.le_of_ble_eq_true rfl) rfl rfl (Nat.le_of_ble_eq_true rfl) (c_faultM hb0 hl hneg ht3 hp p3 (fun M4 f4 g4 z4 => ?_))
    refine pw_pI ?_
    skip
    refine pw_iret rfl rfl (kk.go (fun x hx => ?_) (hx.tape (fun j h1 h2 _ _ => ?_) (fun x h1 h2 => ?_) ⟨z4, fun i hi => absurd hi (Nat.not_lt_zero i)⟩))
    · rw [f4 x (by omega), f3.1 x (by omega) (by omega), g1 x (by omega) (by omega)]
    · rw [g4 j h2 h1, f3.2 j h2, g2 j h2]
    · rw [f4 x (by omega), f3.1 x (by omega) (by omega), g1 x (by omega) (by omega)]
  unfold vRule at kk
  refine pw_aload_n 55 rfl rfl rfl ?_
  refine pw_cV0 58 rfl rfl (by first | assumption | exact ⟨by decide, rfl⟩) rfl (Nat.le_of_ble_eq_true rfl) rfl rfl (Nat.le_of_ble_eq_true rfl) (c_readsRule hb0 hl ht2 (p := 0) (Nat.zero_le _) hp2 hr9 h0 (fun M3 f3 p3 e3 => ?_) (fun kd ph gf M3 f3 p3 e3 m3 => ?_))
  · refine pw_pI ?_
    have e : rdR a.tp 0 = (none, (rdR a.tp 0).2) := Prod.ext e3 rfl
    rw [e] at kk
    skip
    refine pw_if_eq_t 70 rfl rfl (by decide) ?_
    exact fin M3 _ f3 hok.2 p3 kk
  · refine pw_pI ?_
    have e : rdR a.tp 0 = (some (kd, ph, gf), (rdR a.tp 0).2) := Prod.ext e3 rfl
    rw [e] at kk
    simp only at kk
    have ht3 := ht2.mvR f3 (by omega)
    skip
    refine pw_if_eq_f 61 rfl rfl (by decide) ?_
    refine pw_aload_n 62 rfl rfl rfl ?_
    refine pw_cV0 65 rfl rfl (by first | assumption | exact ⟨by decide, rfl⟩) rfl (Nat.le_of_ble_eq_true rfl) rfl rfl (Nat.le_of_ble_eq_true rfl) (c_here hb0 hl ht3 hok.2 p3 (fun M4 f4 p4 => ?_))
    refine pw_pI ?_
    refine pw_bipush (v := (-4)) 67 rfl rfl (by decide) ?_
    refine pw_icmp_eq 75 70 rfl rfl rfl (fun q => ?_) (fun q => ?_)
    · have q := (hX_end hneg).mp q
      rw [if_pos q] at kk
      have k4 : ∀ j, j ≠ 18 → M4 k j = M k j := fun j hj => by rw [f4.2 j hj, f3.2 j hj, g2 j hj]
      have x4 : ∀ x, x ≠ k → x ≠ k + 13 → M4 x = M x := fun x h1 h2 => by rw [f4.1 x h1, f3.1 x h1 h2, g1 x h1 h2]
      refine pw_aload_n 76 rfl rfl rfl ?_
      refine pw_iconst (v := nI 0) 77 rfl rfl (by decide) ?_
      refine pw_putI 80 rfl rfl (by first | assumption | exact ⟨by decide, rfl⟩) rfl (by decide) ?_
      refine pw_iload_n 81 rfl rfl rfl ?_
      by_cases q10 : a.rs.length = 10
      · rw [if_pos q10] at kk hbb
        subst hbb
        skip
        refine pw_if_eq_f 84 rfl rfl (by decide) ?_
        refine pw_bipush (v := (-3)) 86 rfl rfl (by decide) ?_
        refine pw_iret rfl rfl (kk.go (fun x hx => ?_) (hx.tape (fun j h1 h2 _ _ => ?_) (fun x h1 h2 => ?_) ⟨st_same _ _ _ _, fun i hi => absurd hi (Nat.not_lt_zero i)⟩))
        · rw [st_ne _ _ _ _ (by omega), x4 x (by omega) (by omega)]
        · rw [st_row _ _ _ _ h1, k4 j h2]
        · rw [st_ne _ _ _ _ (by omega), x4 x (by omega) (by omega)]
      · rw [if_neg q10] at kk hbb hr
        subst hbb
        subst hr
        have hwf := hok.1 _ e3
        have hwl := wfR_lens ho.1.2.1.2
        have hru : ruled (M3 (k + 13)) (a.rs ++ [(kd, ph, gf)]) := by
          rw [m3]
          refine ruled_app ?_ (by omega) hwl hwf.2.2.1 hwf.2.2.2
          refine ruled_cong hx.2.1 h10 hwl (fun i hi => ?_)
          by_cases q0 : i = 0
          · subst q0; rw [h0]; exact hx.2.1.1.symm
          · exact hrd i hi q0
        have hl11 : (a.rs ++ [(kd, ph, gf)]).length = a.rs.length + 1 := by rw [List.length_append]; rfl
        have hw11 : ∀ r, r < (a.rs ++ [(kd, ph, gf)]).length → (pPh (a.rs ++ [(kd, ph, gf)]) r).length ≤ 6 ∧ (pGf (a.rs ++ [(kd, ph, gf)]) r).length ≤ 6 := wfR_lens (fun r hr => by
          rcases List.mem_append.mp hr with h | h
          · exact ho.1.2.1.2 r h
          · rw [List.mem_singleton.mp h]; exact hwf)
        skip
        refine pw_if_eq_t 87 rfl rfl (by decide) ?_
        refine pw_aload_n 88 rfl rfl rfl ?_
        refine pw_getR 91 rfl rfl (by first | assumption | exact ⟨by decide, rfl⟩) rfl ?_
        refine pw_aload_n 92 rfl rfl rfl ?_
        refine pw_getR 95 rfl rfl (by first | assumption | exact ⟨by decide, rfl⟩) rfl ?_
        refine pw_sipush (v := nI 151) 98 rfl rfl (by decide) ?_
        refine pw_cS3 101 rfl rfl rfl (Nat.le_of_ble_eq_true rfl) rfl rfl (Nat.le_of_ble_eq_true rfl) (c_copies a13 a2 (by omega) (by decide) (by decide) (fun M5 f5 e5 => ?_))
        refine pw_pV ?_
        have hr5 : ruled (M5 (k + 2)) (a.rs ++ [(kd, ph, gf)]) := ruled_cong hru (by omega) hw11 (fun i hi => by rw [e5 i, if_pos hi, st_ne _ _ _ _ (by omega), f4.1 _ (by omega)])
        have x5 : ∀ x, x ≠ k → x ≠ k + 2 → x ≠ k + 13 → M5 x = M x := fun x h1 h2 h3 => by rw [f5 x (by omega), st_ne _ _ _ _ h1, x4 x h1 h3]
        have k5 : ∀ j, j ≠ 18 → j ≠ 1 → M5 k j = M k j := fun j h1 h2 => by rw [f5 k (by omega), st_row _ _ _ _ h2, k4 j h1]
        have z5 : M5 k 1 = nI 0 := by rw [f5 k (by omega), st_same]
        have hon : M5 (k + 3) 1 = nI a.on := by rw [x5 (k + 3) (by omega) (by omega) (by omega)]; exact hx.2.2.1.2.1
        have hr0 : M5 (k + 2) 0 = nI (a.rs.length + 1) := by rw [hr5.1, hl11]
        have hw2 : a.on < 2 ^ a.rs.length := hw.2.2.1.1
        refine pw_aload_n 102 rfl rfl rfl ?_
        refine pw_getR 105 rfl rfl (by first | assumption | exact ⟨by decide, rfl⟩) rfl ?_
        refine pw_iconst (v := nI 1) 106 rfl rfl (by decide) ?_
        refine pw_dup2 107 rfl rfl ⟨rfl, rfl⟩ ?_
        refine pw_iald _ 108 rfl rfl (by first | assumption | exact ⟨by decide, rfl, by decide⟩) (by with_reducible rfl) (by first | assumption | omega) ?_
        rw [hon]
        refine pw_iconst (v := nI 1) 109 rfl rfl (by decide) ?_
        refine pw_aload_n 110 rfl rfl rfl ?_
        refine pw_getR 113 rfl rfl (by first | assumption | exact ⟨by decide, rfl⟩) rfl ?_
        refine pw_iconst (v := nI 0) 114 rfl rfl (by decide) ?_
        refine pw_iald _ 115 rfl rfl (by first | assumption | exact ⟨by decide, rfl, by decide⟩) (by with_reducible rfl) (by first | assumption | omega) ?_
        rw [hr0]
        refine pw_iconst (v := nI 1) 116 rfl rfl (by decide) ?_
        first | refine pw_isubN 117 rfl rfl (by with_reducible rfl) (by with_reducible rfl) (by omega) ?_ | refine pw_isub 117 rfl rfl ?_
        refine pw_ishl 118 rfl rfl ?_
        rw [Nat.add_sub_cancel]
        refine pw_ior 119 rfl rfl ?_
        rw [or_bit _ (by omega) _ (lt_1024 hw2 h10) hw2]
        refine pw_iast _ 120 rfl rfl (by first | assumption | exact ⟨by decide, rfl, by decide⟩) (by with_reducible rfl) (by first | assumption | omega) ?_
        refine pw_aload_n 121 rfl rfl rfl ?_
        refine pw_iconst (v := nI 0) 122 rfl rfl (by decide) ?_
        refine pw_putI 125 rfl rfl (by first | assumption | exact ⟨by decide, rfl⟩) rfl (by decide) ?_
        refine pw_aload_n 126 rfl rfl rfl ?_
        refine pw_getR 129 rfl rfl (by first | assumption | exact ⟨by decide, rfl⟩) rfl ?_
        refine pw_iconst (v := nI 0) 130 rfl rfl (by decide) ?_
        refine pw_iald _ 131 rfl rfl (by first | assumption | exact ⟨by decide, rfl, by decide⟩) (by with_reducible rfl) (by first | assumption | omega) ?_
        rw [st_ne _ _ _ _ (by omega), st_ne _ _ _ _ (by omega), hr0]
        refine pw_iconst (v := nI 1) 132 rfl rfl (by decide) ?_
        first | refine pw_isubN 133 rfl rfl (by with_reducible rfl) (by with_reducible rfl) (by omega) ?_ | refine pw_isub 133 rfl rfl ?_
        rw [Nat.add_sub_cancel]
        have e6 : ∀ x, x ≠ k → x ≠ k + 3 → pmSt (pmSt M5 (k + 3) 1 (nI (a.on + 2 ^ a.rs.length))) k 5 (nI 0) x = M5 x := fun x h1 h2 => by rw [st_ne _ _ _ _ h1, st_ne _ _ _ _ h2]
        have k6 : ∀ j, j ≠ 5 → pmSt (pmSt M5 (k + 3) 1 (nI (a.on + 2 ^ a.rs.length))) k 5 (nI 0) k j = M5 k j := fun j h1 => by rw [st_row _ _ _ _ h1, st_ne _ _ _ _ (by omega)]
        have c3 : ∀ i, i ≠ 1 → pmSt (pmSt M5 (k + 3) 1 (nI (a.on + 2 ^ a.rs.length))) k 5 (nI 0) (k + 3) i = M (k + 3) i := fun i h1 => by rw [st_ne _ _ _ _ (by omega), st_row _ _ _ _ h1, x5 (k + 3) (by omega) (by omega) (by omega)]
        have hh := hx.2.2.1
        refine pw_iret rfl rfl (kk.go (fun x hx => ?_) (hx.mk4 (fun x h1 h2 => ?_) ?_ ?_ ⟨?_, fun i hi => absurd hi (Nat.not_lt_zero i)⟩ ?_ ⟨?_, ?_, fun i hi => ?_, fun i hi => ?_⟩ ?_ (fun i m hi => by simp at hi) ?_ ?_))
        · rw [e6 x (by omega) (by omega), x5 x (by omega) (by omega) (by omega)]
        · rw [e6 x (by omega) (by omega), x5 x (by omega) (by omega) (by omega)]
        · rw [k6 11 (by decide), k5 11 (by decide) (by decide)]
        · rw [k6 12 (by decide), k5 12 (by decide) (by decide)]
        · rw [k6 1 (by decide)]; exact z5
        · rw [e6 _ (by omega) (by omega)]; exact hr5
        · rw [c3 0 (by decide)]; exact hh.1
        · rw [st_ne _ _ _ _ (by omega)]; exact st_same _ _ _ _
        · rw [c3 _ (by omega)]; exact hh.2.2.1 i hi
        · rw [c3 _ (by omega)]; exact hh.2.2.2 i hi
        · exact st_same _ _ _ _
        · rw [k6 6 (by decide), k5 6 (by decide) (by decide)]; exact hx.2.2.2.2.1
        · rw [k6 7 (by decide), k5 7 (by decide) (by decide)]; exact hx.2.2.2.2.2.1
    · have q : ¬ cur a.tp (rdR a.tp 0).2 = none := fun h => q ((hX_end hneg).mpr h)
      rw [if_neg q] at kk
      have s1 : sk a.tp (sk a.tp (rdR a.tp 0).2) = sk a.tp (rdR a.tp 0).2 := sk_idem _ _
      rw [← s1] at kk
      exact fin M4 _ (f3.tr f4.r) (sk_le hok.2) p4 kk
theorem m_rule (hb : isMod sh k) (hw : wfW a) (ho : okW a) (hx : modIs M N k a) (kk : mst k sh M N Q (.int (vRule a).1) (vRule a).2) : PW mX11_rule 0 [.ref k, .null] [] sh M N Q := by
  have hb0 := hb
  obtain ⟨b0, a1, a2, a3, a4, a5, a6, a7, a8, a9, a10, a11, a12, a13, a14, a15, a16, a17, a18, a19, a20⟩ := hb
  have h10 : a.rs.length ≤ 10 := ho.1.2.1.1
  refine pw_aload_n 1 rfl rfl rfl ?_
  refine pw_iconst (v := nI 0) 2 rfl rfl (by decide) ?_
  refine pw_putI 5 rfl rfl (by first | assumption | exact ⟨by decide, rfl⟩) rfl (by decide) ?_
  refine pw_aload_n 6 rfl rfl rfl ?_
  refine pw_getR 9 rfl rfl (by first | assumption | exact ⟨by decide, rfl⟩) rfl ?_
  refine pw_aload_n 10 rfl rfl rfl ?_
  refine pw_getR 13 rfl rfl (by first | assumption | exact ⟨by decide, rfl⟩) rfl ?_
  refine pw_sipush (v := nI 151) 16 rfl rfl (by decide) ?_
  refine pw_cS3 19 rfl rfl rfl (Nat.le_of_ble_eq_true rfl) rfl rfl (Nat.le_of_ble_eq_true rfl) (c_copies a2 a13 (by omega) (by decide) (by decide) (fun M1 f1 e1 => ?_))
  refine pw_pV ?_
  have r0 : M1 (k + 13) 0 = nI a.rs.length := by rw [e1 0, if_pos (by decide), st_ne _ _ _ _ (by omega)]; exact hx.2.1.1
  have rj : ∀ i, i < 151 → i ≠ 0 → M1 (k + 13) i = M (k + 2) i := fun i hi _ => by rw [e1 i, if_pos hi, st_ne _ _ _ _ (by omega)]
  have x1 : ∀ x, x ≠ k → x ≠ k + 13 → M1 x = M x := fun x h1 h2 => by rw [f1 x (by omega), st_ne _ _ _ _ h1]
  have k1 : ∀ j, j ≠ 18 → M1 k j = M k j := fun j h1 => by rw [f1 k (by omega), st_row _ _ _ _ h1]
  have p1 : M1 k 18 = nI 0 := by rw [f1 k (by omega), st_same]
  refine pw_aload_n 20 rfl rfl rfl ?_
  refine pw_getR 23 rfl rfl (by first | assumption | exact ⟨by decide, rfl⟩) rfl ?_
  refine pw_iconst (v := nI 0) 24 rfl rfl (by decide) ?_
  refine pw_iald _ 25 rfl rfl (by first | assumption | exact ⟨by decide, rfl, by decide⟩) (by with_reducible rfl) (by first | assumption | omega) ?_
  refine pw_bipush (v := nI 10) 27 rfl rfl (by decide) ?_
  rw [r0]
  by_cases q : a.rs.length = 10
  · rw [q] at r0 ⊢
    skip
    refine pw_icmp_ne_f 30 rfl rfl (fun e => e rfl) ?_
    refine pw_iconst (v := nI 1) 31 rfl rfl (by decide) ?_
    refine pw_goto rfl 35 rfl ?_
    refine pw_istore1 36 rfl rfl rfl ?_
    refine pw_aload_n 37 rfl rfl rfl ?_
    refine pw_getR 40 rfl rfl (by first | assumption | exact ⟨by decide, rfl⟩) rfl ?_
    refine pw_iconst (v := nI 0) 41 rfl rfl (by decide) ?_
    refine pw_dup2 42 rfl rfl ⟨rfl, rfl⟩ ?_
    refine pw_iald _ 43 rfl rfl (by first | assumption | exact ⟨by decide, rfl, by decide⟩) (by with_reducible rfl) (by first | assumption | omega) ?_
    rw [r0]
    refine pw_iload_n 44 rfl rfl rfl ?_
    refine pw_if_eq_f 47 rfl rfl (by decide) ?_
    refine pw_iconst (v := nI 1) 48 rfl rfl (by decide) ?_
    refine pw_goto rfl 52 rfl ?_
    first | refine pw_isubN 53 rfl rfl (by with_reducible rfl) (by with_reducible rfl) (by omega) ?_ | refine pw_isub 53 rfl rfl ?_
    refine pw_iast _ 54 rfl rfl (by first | assumption | exact ⟨by decide, rfl, by decide⟩) (by with_reducible rfl) (by first | assumption | omega) ?_
    refine m_rule_tail (r := 9) (b := 1) hb0 hw ho hx kk (by decide) (by rw [if_pos q]) (by rw [if_pos q]) _ (fun x h1 h2 => by rw [st_ne _ _ _ _ h2, x1 x h1 h2]) (fun j h1 => by rw [st_ne _ _ _ _ (by omega), k1 j h1]) (by rw [st_ne _ _ _ _ (by omega)]; exact p1) (st_same _ _ _ _) (fun i h1 h2 => by rw [st_row _ _ _ _ h2]; exact rj i h1 h2)
  · skip
    refine pw_icmp_ne_t 34 rfl rfl (fun e => q ((nI_eq (by omega) (by decide)).mp e)) ?_
    refine pw_iconst (v := nI 0) 35 rfl rfl (by decide) ?_
    refine pw_istore1 36 rfl rfl rfl ?_
    refine pw_aload_n 37 rfl rfl rfl ?_
    refine pw_getR 40 rfl rfl (by first | assumption | exact ⟨by decide, rfl⟩) rfl ?_
    refine pw_iconst (v := nI 0) 41 rfl rfl (by decide) ?_
    refine pw_dup2 42 rfl rfl ⟨rfl, rfl⟩ ?_
    refine pw_iald _ 43 rfl rfl (by first | assumption | exact ⟨by decide, rfl, by decide⟩) (by with_reducible rfl) (by first | assumption | omega) ?_
    rw [r0]
    refine pw_iload_n 44 rfl rfl rfl ?_
    refine pw_if_eq_t 51 rfl rfl (rfl) ?_
    refine pw_iconst (v := nI 0) 52 rfl rfl (by decide) ?_
    first | refine pw_isubN 53 rfl rfl (by with_reducible rfl) (by with_reducible rfl) (by omega) ?_ | refine pw_isub 53 rfl rfl ?_
    refine pw_iast _ 54 rfl rfl (by first | assumption | exact ⟨by decide, rfl, by decide⟩) (by with_reducible rfl) (by first | assumption | omega) ?_
    refine m_rule_tail (r := a.rs.length) (b := 0) hb0 hw ho hx kk (by omega) (by rw [if_neg q]) (by rw [if_neg q]) _ (fun x h1 h2 => by rw [st_ne _ _ _ _ h2, x1 x h1 h2]) (fun j h1 => by rw [st_ne _ _ _ _ (by omega), k1 j h1]) (by rw [st_ne _ _ _ _ (by omega)]; exact p1) (st_same _ _ _ _) (fun i h1 h2 => by rw [st_row _ _ _ _ h2]; exact rj i h1 h2)
end MRU
