section MRG
variable {sh : pmS} {M : pmM} {N : pmN} {Q : pmPost} {k : Nat} {tp : List Int32}
theorem rjob_loop (hb : isMod sh k) (hl : tp.length ≤ 150) (hneg : ∀ x ∈ tp, ¬ x < 0) (res : Option (List aR) × Nat)
    (kf : ∀ M', frR k (k + 13) M M' → M' k 18 = nI res.2 → res.1 = none → Q (some (.int (nI 0))) sh M' N)
    (ky : ∀ rs M', frR k (k + 13) M M' → M' k 18 = nI res.2 → res.1 = some rs → ruled (M' (k + 13)) rs → Q (some (.int (nI 1))) sh M' N) :
    ∀ (d p : Nat) (acc : List aR) (M1 : pmM), acc.length + d = 10 → p ≤ tp.length → frR k (k + 13) M M1 → tpIs M1 k tp → ruled (M1 (k + 13)) acc → (∀ r, r < acc.length → (pPh acc r).length ≤ 6 ∧ (pGf acc r).length ≤ 6) → M1 k 18 = nI p → rdRs tp d p acc = res → PW mX11_readsJob 15 [.ref k] [] sh M1 N Q := by
  have hb0 := hb
  obtain ⟨b0, a1, a2, a3, a4, a5, a6, a7, a8, a9, a10, a11, a12, a13, a14, a15, a16, a17, a18, a19, a20⟩ := hb
  have hk : k + 13 ≠ k := by omega
  have hk1 : k + 13 ≠ k + 1 := by omega
  intro d
  induction d with
  | zero =>
    intro p acc M1 hd hp hf ht hru hw hM e
    rw [rdRs] at e
    refine pw_aload_n 16 rfl rfl rfl ?_
    refine pw_cV0 19 rfl rfl (by first | assumption | exact ⟨by decide, rfl⟩) rfl (Nat.le_of_ble_eq_true rfl) rfl rfl (Nat.le_of_ble_eq_true rfl) (c_here hb0 hl ht hp hM (fun M2 f2 p2 => ?_))
    refine pw_pI ?_
    have hr2 : M2 (k + 13) = M1 (k + 13) := f2.1 _ hk
    refine pw_bipush (v := (-4)) 21 rfl rfl (by decide) ?_
    refine pw_icmp_eq 53 24 rfl rfl rfl (fun q => ?_) (fun q => ?_)
    · rw [if_pos ((hX_end hneg).mp q)] at e
      subst e
      refine pw_iconst (v := nI 1) 54 rfl rfl (by decide) ?_
      exact pw_zret rfl rfl (by first | exact Or.inl rfl | exact Or.inr rfl | assumption) (ky acc M2 (hf.tr f2.r) p2 rfl (by rw [hr2]; exact hru))
    · rw [if_neg (fun h => q ((hX_end hneg).mpr h))] at e
      subst e
      refine pw_aload_n 25 rfl rfl rfl ?_
      refine pw_getR 28 rfl rfl (by first | assumption | exact ⟨by decide, rfl⟩) rfl ?_
      refine pw_iconst (v := nI 0) 29 rfl rfl (by decide) ?_
      refine pw_iald _ 30 rfl rfl (by first | assumption | exact ⟨by decide, rfl, by decide⟩) (by with_reducible rfl) (by first | assumption | omega) ?_
      refine pw_bipush (v := nI 10) 32 rfl rfl (by decide) ?_
      rw [hr2, hru.1, show acc.length = 10 by omega]
      refine pw_icmp_eq_t 51 rfl rfl (rfl) ?_
      refine pw_iconst (v := nI 0) 52 rfl rfl (by decide) ?_
      exact pw_zret rfl rfl (by first | exact Or.inl rfl | exact Or.inr rfl | assumption) (kf M2 (hf.tr f2.r) p2 rfl)
  | succ d ih =>
    intro p acc M1 hd hp hf ht hru hw hM e
    rw [rdRs] at e
    refine pw_aload_n 16 rfl rfl rfl ?_
    refine pw_cV0 19 rfl rfl (by first | assumption | exact ⟨by decide, rfl⟩) rfl (Nat.le_of_ble_eq_true rfl) rfl rfl (Nat.le_of_ble_eq_true rfl) (c_here hb0 hl ht hp hM (fun M2 f2 p2 => ?_))
    refine pw_pI ?_
    have hr2 : M2 (k + 13) = M1 (k + 13) := f2.1 _ hk
    have ht2 := ht.mv f2
    refine pw_bipush (v := (-4)) 21 rfl rfl (by decide) ?_
    refine pw_icmp_eq 53 24 rfl rfl rfl (fun q => ?_) (fun q => ?_)
    · have q := (hX_end hneg).mp q
      rw [if_neg (by rw [q]; exact fun h => by cases h), if_pos q] at e
      subst e
      refine pw_iconst (v := nI 1) 54 rfl rfl (by decide) ?_
      exact pw_zret rfl rfl (by first | exact Or.inl rfl | exact Or.inr rfl | assumption) (ky acc M2 (hf.tr f2.r) p2 rfl (by rw [hr2]; exact hru))
    · have q : ¬ cur tp p = none := fun h => q ((hX_end hneg).mpr h)
      refine pw_aload_n 25 rfl rfl rfl ?_
      refine pw_getR 28 rfl rfl (by first | assumption | exact ⟨by decide, rfl⟩) rfl ?_
      refine pw_iconst (v := nI 0) 29 rfl rfl (by decide) ?_
      refine pw_iald _ 30 rfl rfl (by first | assumption | exact ⟨by decide, rfl, by decide⟩) (by with_reducible rfl) (by first | assumption | omega) ?_
      refine pw_bipush (v := nI 10) 32 rfl rfl (by decide) ?_
      rw [hr2, hru.1]
      refine pw_icmp_eq_f 35 rfl rfl (fun h => by have := (nI_eq (by omega) (by decide)).mp h; omega) ?_
      refine pw_aload_n 36 rfl rfl rfl ?_
      refine pw_bipush (v := nI 59) 38 rfl rfl (by decide) ?_
      refine pw_cV1 41 rfl rfl (by first | assumption | exact ⟨by decide, rfl⟩) rfl (Nat.le_of_ble_eq_true rfl) rfl rfl (Nat.le_of_ble_eq_true rfl) (c_takesM hb0 hl ht2 (sk_le hp) p2 (by decide) (fun M3 f3 e3 p3 => ?_) (fun M3 f3 e3 p3 => ?_))
      · refine pw_pI ?_
        have e3 : cur tp p = some (nI 59) := by unfold cur at e3 ⊢; rw [sk_idem] at e3; exact e3
        rw [sk_idem] at p3
        rw [if_pos e3] at e
        have hs3 := (cur_lt e3).1
        have hok := rdR_ok (tp := tp) (p := sk tp p + 1) (by omega)
        have hr3 : M3 (k + 13) = M1 (k + 13) := (f3.1 _ hk).trans hr2
        skip
        refine pw_if_eq_f 44 rfl rfl (by decide) ?_
        refine pw_aload_n 45 rfl rfl rfl ?_
        refine pw_cV0 48 rfl rfl (by first | assumption | exact ⟨by decide, rfl⟩) rfl (Nat.le_of_ble_eq_true rfl) rfl rfl (Nat.le_of_ble_eq_true rfl) (c_readsRule hb0 hl (ht2.mv f3) (p := sk tp p + 1) (r := acc.length) (by omega) p3 (by omega) (by rw [hr3]; exact hru.1) (fun M4 f4 p4 e4 => ?_) (fun kd ph gf M4 f4 p4 e4 m4 => ?_))
        · refine pw_pI ?_
          have e9 : rdR tp (sk tp p + 1) = (none, (rdR tp (sk tp p + 1)).2) := Prod.ext e4 rfl
          rw [e9] at e
          subst e
          skip
          refine pw_if_ne_f 51 rfl rfl (by decide) ?_
          refine pw_iconst (v := nI 0) 52 rfl rfl (by decide) ?_
          exact pw_zret rfl rfl (by first | exact Or.inl rfl | exact Or.inr rfl | assumption) (kf M4 (((hf.tr f2.r).tr f3.r).tr f4) p4 rfl)
        · refine pw_pI ?_
          have e9 : rdR tp (sk tp p + 1) = (some (kd, ph, gf), (rdR tp (sk tp p + 1)).2) := Prod.ext e4 rfl
          rw [e9] at e
          simp only at e
          have hwf := hok.1 _ e4
          skip
          refine pw_if_ne_t 15 rfl rfl (by decide) ?_
          refine ih (rdR tp (sk tp p + 1)).2 (acc ++ [(kd, ph, gf)]) M4 (by rw [List.length_append, List.length_singleton]; omega) hok.2 (((hf.tr f2.r).tr f3.r).tr f4) ((ht2.mv f3).mvR f4 hk1) ?_ (fun r hr => ?_) p4 e
          · rw [m4, hr3]
            exact ruled_app hru (by omega) hw hwf.2.2.1 hwf.2.2.2
          · rw [List.length_append, List.length_singleton] at hr
            by_cases q3 : r < acc.length
            · have e8 : gR (acc ++ [(kd, ph, gf)]) r = gR acc r := gR_app q3
              unfold pPh pGf
              rw [e8]; exact hw r q3
            · have : r = acc.length := by omega
              subst this
              have e8 : gR (acc ++ [(kd, ph, gf)]) acc.length = (kd, ph, gf) := gR_last
              unfold pPh pGf
              rw [e8]; exact ⟨hwf.2.2.1, hwf.2.2.2⟩
      · refine pw_pI ?_
        have e3 : ¬ cur tp p = some (nI 59) := by unfold cur at e3 ⊢; rw [sk_idem] at e3; exact e3
        rw [sk_idem] at p3
        rw [if_neg e3, if_neg q] at e
        subst e
        skip
        refine pw_if_eq_t 51 rfl rfl (by decide) ?_
        refine pw_iconst (v := nI 0) 52 rfl rfl (by decide) ?_
        exact pw_zret rfl rfl (by first | exact Or.inl rfl | exact Or.inr rfl | assumption) (kf M3 ((hf.tr f2.r).tr f3.r) p3 rfl)
theorem c_faultM {p : Nat} (hb : isMod sh k) (hl : tp.length ≤ 150) (hneg : ∀ x ∈ tp, ¬ x < 0) (ht : tpIs M k tp) (hp : p ≤ tp.length) (hM : M k 18 = nI p) (kk : ∀ M', (∀ x, x ≠ k → M' x = M x) → (∀ j, j ≠ 18 → j ≠ 1 → M' k j = M k j) → M' k 1 = nI 0 → Q (some (.int ((-20) - nI (sk tp p)))) sh M' N) : PW mX11_fault 0 [.ref k, .null] [] sh M N Q := by
  have b0 := hb.1
  have fin : ∀ M1, frP k M M1 → (∀ x, x ≠ k → pmSt M1 k 1 (nI 0) x = M x) ∧ (∀ j, j ≠ 18 → j ≠ 1 → pmSt M1 k 1 (nI 0) k j = M k j) := fun M1 f1 => ⟨fun x hx => by rw [st_ne _ _ _ _ hx, f1.1 x hx], fun j h1 h2 => by rw [st_row _ _ _ _ h2, f1.2 j h1]⟩
  refine pw_aload_n 1 rfl rfl rfl ?_
  refine pw_cV0 4 rfl rfl (by first | assumption | exact ⟨by decide, rfl⟩) rfl (Nat.le_of_ble_eq_true rfl) rfl rfl (Nat.le_of_ble_eq_true rfl) (c_here hb hl ht hp hM (fun M1 f1 p1 => ?_))
  refine pw_pI ?_
  have ht1 := ht.mv f1
  refine pw_bipush (v := (-4)) 6 rfl rfl (by decide) ?_
  refine pw_icmp_ne 16 9 rfl rfl rfl (fun q => ?_) (fun q => ?_)
  · refine pw_aload_n 17 rfl rfl rfl ?_
    refine pw_getI 20 rfl rfl (by first | assumption | exact ⟨by decide, rfl⟩) rfl ?_
    rw [p1]
    refine pw_istore1 21 rfl rfl rfl ?_
    refine pw_aload_n 22 rfl rfl rfl ?_
    refine pw_iconst (v := nI 0) 23 rfl rfl (by decide) ?_
    refine pw_putI 26 rfl rfl (by first | assumption | exact ⟨by decide, rfl⟩) rfl (by decide) ?_
    refine pw_bipush (v := (-20)) 28 rfl rfl (by decide) ?_
    refine pw_iload_n 29 rfl rfl rfl ?_
    refine pw_isub 30 rfl rfl ?_
    skip
    exact pw_iret rfl rfl (kk _ (fin M1 f1).1 (fin M1 f1).2 (st_same _ _ _ _))
  · have q := (hX_end hneg).mp (Decidable.not_not.mp q)
    have hs : sk tp p = tp.length := by
      have := sk_le hp
      unfold cur at q
      have := List.getElem?_eq_none_iff.mp q
      omega
    rw [hs] at kk
    refine pw_aload_n 10 rfl rfl rfl ?_
    refine pw_getI 13 rfl rfl (by first | assumption | exact ⟨by decide, rfl⟩) rfl ?_
    rw [ht1.1]
    refine pw_goto rfl 20 rfl ?_
    refine pw_istore1 21 rfl rfl rfl ?_
    refine pw_aload_n 22 rfl rfl rfl ?_
    refine pw_iconst (v := nI 0) 23 rfl rfl (by decide) ?_
    refine pw_putI 26 rfl rfl (by first | assumption | exact ⟨by decide, rfl⟩) rfl (by decide) ?_
    refine pw_bipush (v := (-20)) 28 rfl rfl (by decide) ?_
    refine pw_iload_n 29 rfl rfl rfl ?_
    refine pw_isub 30 rfl rfl ?_
    skip
    exact pw_iret rfl rfl (kk _ (fin M1 f1).1 (fin M1 f1).2 (st_same _ _ _ _))
end MRG
