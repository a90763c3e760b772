section MJC
variable {sh : pmS} {M : pmM} {N : pmN} {Q : pmPost} {k : Nat} {a : aW}
theorem m_job (hb : isMod sh k) (hw : wfW a) (hx : modIs M N k a) (kk : mst k sh M N Q (.int (vJob a).1) (vJob a).2) : PW mX11_job 0 [.ref k, .null] [] sh M N Q := by
  have hb0 := hb
  obtain ⟨b0, a1, a2, a3, a4, a5, a6, a7, a8, a9, a10, a11, a12, a13, a14, a15, a16, a17, a18, a19, a20⟩ := hb
  have hl := hw.1
  have hneg := hw.2.1
  have ht : tpIs M k a.tp := hx.1
  have hrl := rdL_len a.tp 60 0
  have hok := rdRs_ok a.tp 10 (rdL a.tp 60 0).2 [] (hrl.2 (Nat.zero_le _)) (fun r hr => absurd hr (by simp))
  unfold vJob at kk
  refine pw_aload_n 1 rfl rfl rfl ?_
  refine pw_iconst (v := nI 0) 2 rfl rfl (by decide) ?_
  refine pw_putI 5 rfl rfl (by first | assumption | exact ⟨by decide, rfl⟩) rfl (by decide) ?_
  refine pw_aload_n 6 rfl rfl rfl ?_
  refine pw_getR 9 rfl rfl (by first | assumption | exact ⟨by decide, rfl⟩) rfl ?_
  refine pw_iconst (v := nI 0) 10 rfl rfl (by decide) ?_
  refine pw_iconst (v := nI 0) 11 rfl rfl (by decide) ?_
  refine pw_iast _ 12 rfl rfl (by first | assumption | exact ⟨by decide, rfl, by decide⟩) (by with_reducible rfl) (by first | assumption | omega) ?_
  refine pw_aload_n 13 rfl rfl rfl ?_
  have g1 : ∀ x, x ≠ k → x ≠ k + 13 → pmSt (pmSt M k 18 (nI 0)) (k + 13) 0 (nI 0) x = M x := fun x h1 h2 => by rw [st_ne _ _ _ _ h2, st_ne _ _ _ _ h1]
  have g2 : ∀ j, j ≠ 18 → pmSt (pmSt M k 18 (nI 0)) (k + 13) 0 (nI 0) k j = M k j := fun j h1 => by rw [st_ne _ _ _ _ (by omega), st_row _ _ _ _ h1]
  have ht1 : tpIs (pmSt (pmSt M k 18 (nI 0)) (k + 13) 0 (nI 0)) k a.tp := ⟨by rw [g2 1 (by decide)]; exact ht.1, fun i hi => by rw [g1 (k + 1) (by omega) (by omega)]; exact ht.2 i hi⟩
  refine pw_cV0 16 rfl rfl (by first | assumption | exact ⟨by decide, rfl⟩) rfl (Nat.le_of_ble_eq_true rfl) rfl rfl (Nat.le_of_ble_eq_true rfl) (c_readsJob hb0 hl hneg ht1 (p := 0) (Nat.zero_le _) (by rw [st_ne _ _ _ _ (by omega), st_same]) (st_same _ _ _ _) (fun M2 f2 p2 e2 => ?_) (fun rs M2 f2 p2 e2 r2 l2 n2 => ?_))
  · refine pw_pI ?_
    have e : rdRs a.tp 10 (rdL a.tp 60 0).2 [] = (none, (rdRs a.tp 10 (rdL a.tp 60 0).2 []).2) := Prod.ext e2 rfl
    rw [e] at kk
    have ht2 : tpIs M2 k a.tp := ⟨by rw [f2.2 1 (by decide) (by decide)]; exact ht1.1, fun i hi => by rw [f2.1 (k + 1) (by omega) (by omega) (by omega)]; exact ht1.2 i hi⟩
    skip
    refine pw_if_ne_f 19 rfl rfl (by decide) ?_
    refine pw_aload_n 20 rfl rfl rfl ?_
    refine pw_cV0 23 rfl rfl (by first | assumption | exact ⟨by decide, rfl⟩) rfl (Nat.le_of_ble_eq_true rfl) rfl rfl (Nat.le_of_ble_eq_true rfl) (c_faultM hb0 hl hneg ht2 hok.2 p2 (fun M3 f3 g3 z3 => ?_))
    refine pw_pI ?_
    skip
    refine pw_iret rfl rfl (kk.go (fun x hx => ?_) (hx.tape (fun j h1 h2 h3 _ => ?_) (fun x h1 h2 => ?_) ⟨z3, fun i hi => absurd hi (Nat.not_lt_zero i)⟩))
    · rw [f3 x (by omega), f2.1 x (by omega) (by omega) (by omega), g1 x (by omega) (by omega)]
    · rw [g3 j h2 h1, f2.2 j h2 h3, g2 j h2]
    · rw [f3 x (by omega), f2.1 x (by omega) (by omega) (by omega), g1 x (by omega) (by omega)]
  · refine pw_pI ?_
    have e : rdRs a.tp 10 (rdL a.tp 60 0).2 [] = (some rs, (rdRs a.tp 10 (rdL a.tp 60 0).2 []).2) := Prod.ext e2 rfl
    rw [e] at kk
    simp only at kk
    have hrs := hok.1 rs e2
    have hr10 : rs.length ≤ 10 := by have := hrs.2; simpa using this
    skip
    refine pw_if_ne_t 24 rfl rfl (by decide) ?_
    refine pw_aload_n 25 rfl rfl rfl ?_
    refine pw_iconst (v := nI 0) 26 rfl rfl (by decide) ?_
    refine pw_putI 29 rfl rfl (by first | assumption | exact ⟨by decide, rfl⟩) rfl (by decide) ?_
    refine pw_aload_n 30 rfl rfl rfl ?_
    refine pw_getR 33 rfl rfl (by first | assumption | exact ⟨by decide, rfl⟩) rfl ?_
    refine pw_aload_n 34 rfl rfl rfl ?_
    refine pw_getR 37 rfl rfl (by first | assumption | exact ⟨by decide, rfl⟩) rfl ?_
    refine pw_sipush (v := nI 151) 40 rfl rfl (by decide) ?_
    refine pw_cS3 43 rfl rfl rfl (Nat.le_of_ble_eq_true rfl) rfl rfl (Nat.le_of_ble_eq_true rfl) (c_copies a13 a2 (by omega) (by decide) (by decide) (fun M3 f3 e3 => ?_))
    refine pw_pV ?_
    have hru : ruled (M3 (k + 2)) rs := ruled_cong r2 hr10 (wfR_lens hrs.1) (fun i hi => by rw [e3 i, if_pos hi, st_ne _ _ _ _ (by omega)])
    have k21 : M3 k 21 = nI (rdL a.tp 60 0).1.length := by rw [f3 k (by omega), st_row _ _ _ _ (by decide)]; exact n2
    refine pw_aload_n 44 rfl rfl rfl ?_
    refine pw_getR 47 rfl rfl (by first | assumption | exact ⟨by decide, rfl⟩) rfl ?_
    refine pw_iconst (v := nI 0) 48 rfl rfl (by decide) ?_
    refine pw_aload_n 49 rfl rfl rfl ?_
    refine pw_getI 52 rfl rfl (by first | assumption | exact ⟨by decide, rfl⟩) rfl ?_
    rw [k21]
    refine pw_iast _ 53 rfl rfl (by first | assumption | exact ⟨by decide, rfl, by decide⟩) (by with_reducible rfl) (by first | assumption | omega) ?_
    refine pw_aload_n 54 rfl rfl rfl ?_
    refine pw_getR 57 rfl rfl (by first | assumption | exact ⟨by decide, rfl⟩) rfl ?_
    refine pw_iconst (v := nI 1) 58 rfl rfl (by decide) ?_
    refine pw_iconst (v := nI 1) 59 rfl rfl (by decide) ?_
    refine pw_aload_n 60 rfl rfl rfl ?_
    refine pw_getR 63 rfl rfl (by first | assumption | exact ⟨by decide, rfl⟩) rfl ?_
    refine pw_iconst (v := nI 0) 64 rfl rfl (by decide) ?_
    refine pw_iald _ 65 rfl rfl (by first | assumption | exact ⟨by decide, rfl, by decide⟩) (by with_reducible rfl) (by first | assumption | omega) ?_
    rw [st_ne _ _ _ _ (by omega), hru.1]
    refine pw_ishl 66 rfl rfl ?_
    refine pw_iconst (v := nI 1) 67 rfl rfl (by decide) ?_
    refine pw_isub 68 rfl rfl ?_
    rw [all_v _ (by omega)]
    refine pw_iast _ 69 rfl rfl (by first | assumption | exact ⟨by decide, rfl, by decide⟩) (by with_reducible rfl) (by first | assumption | omega) ?_
    refine pw_iconst (v := nI 0) 70 rfl rfl (by decide) ?_
    refine pw_istore1 71 rfl rfl rfl ?_
    refine mjob_loop (xs := (rdL a.tp 60 0).1) hb0 hrl.1 (by rw [st_ne _ _ _ _ (by omega), st_ne _ _ _ _ (by omega)]; exact k21) (fun i hi => ?_) (fun M4 f4 c0 c1 c2 => ?_) _ 0 _ (Nat.zero_add _) fr.rf rfl rfl (fun j hj => absurd hj (Nat.not_lt_zero j))
    · rw [st_ne _ _ _ _ (by omega), st_ne _ _ _ _ (by omega), f3 _ (by omega), st_ne _ _ _ _ (by omega), l2]
      have := putIn_in (f := pmSt (pmSt M k 18 (nI 0)) (k + 13) 0 (nI 0) (k + 14)) (o := 0) hi
      rw [Nat.zero_add] at this; exact this
    · have m4 : ∀ x, x ≠ k + 3 → M4 x = M3 x := fun x hx => by rw [f4 x (by omega), st_ne _ _ _ _ hx, st_ne _ _ _ _ hx]
      have m3 : ∀ x, x ≠ k → x ≠ k + 2 → x ≠ k + 3 → x ≠ k + 13 → x ≠ k + 14 → M4 x = M x := fun x h1 h2 h3 h4 h5 => by rw [m4 x h3, f3 x (by omega), st_ne _ _ _ _ h1, f2.1 x h1 h4 h5, g1 x h1 h4]
      have mk : ∀ j, j ≠ 1 → j ≠ 18 → j ≠ 21 → M4 k j = M k j := fun j h1 h2 h3 => by rw [m4 k (by omega), f3 k (by omega), st_row _ _ _ _ h1, f2.2 j h2 h3, g2 j h2]
      have mk1 : M4 k 1 = nI 0 := by rw [m4 k (by omega), f3 k (by omega), st_same]
      have mr : M4 (k + 2) = M3 (k + 2) := m4 _ (by omega)
      refine pw_aload_n 110 rfl rfl rfl ?_
      refine pw_iconst (v := nI 0) 111 rfl rfl (by decide) ?_
      refine pw_putI 114 rfl rfl (by first | assumption | exact ⟨by decide, rfl⟩) rfl (by decide) ?_
      refine pw_aload_n 115 rfl rfl rfl ?_
      refine pw_bipush (v := (-4)) 117 rfl rfl (by decide) ?_
      refine pw_putI 120 rfl rfl (by first | assumption | exact ⟨by decide, rfl⟩) rfl (by decide) ?_
      refine pw_aload_n 121 rfl rfl rfl ?_
      refine pw_getR 124 rfl rfl (by first | assumption | exact ⟨by decide, rfl⟩) rfl ?_
      refine pw_iconst (v := nI 0) 125 rfl rfl (by decide) ?_
      refine pw_iald _ 126 rfl rfl (by first | assumption | exact ⟨by decide, rfl, by decide⟩) (by with_reducible rfl) (by first | assumption | omega) ?_
      rw [show pmSt (pmSt M4 k 5 (nI 0)) k 7 (-4) (k + 2) 0 = nI rs.length by rw [st_ne _ _ _ _ (by omega), st_ne _ _ _ _ (by omega), mr]; exact hru.1]
      have y : ∀ x, x ≠ k → pmSt (pmSt M4 k 5 (nI 0)) k 7 (-4) x = M4 x := fun x h => by rw [st_ne _ _ _ _ h, st_ne _ _ _ _ h]
      have z : ∀ j, j ≠ 5 → j ≠ 7 → pmSt (pmSt M4 k 5 (nI 0)) k 7 (-4) k j = M4 k j := fun j h1 h2 => by rw [st_row _ _ _ _ h2, st_row _ _ _ _ h1]
      obtain ⟨_, _, _, _, h5, _, ⟨h7, h8⟩, h9⟩ := hx
      refine pw_iret rfl rfl (kk.go (fun x hx => ?_) ⟨⟨?_, fun i hi => absurd hi (Nat.not_lt_zero i)⟩, ?_, ?_, ⟨?_, fun i m hi => by simp at hi⟩, ?_, ?_, ⟨?_, fun s hs => ?_⟩, fun i hi => ?_⟩)
      · rw [y x (by omega), m3 x (by omega) (by omega) (by omega) (by omega) (by omega)]
      · rw [z 1 (by decide) (by decide)]; exact mk1
      · rw [y _ (by omega), mr]; exact hru
      · rw [y _ (by omega)]
        refine held_job hrl.1 ?_ ?_ c2
        · rw [c0, st_row _ _ _ _ (by decide), st_same]
        · rw [c1, st_same]
      · rw [st_row _ _ _ _ (by decide), st_same]; rfl
      · rw [z 6 (by decide) (by decide), mk 6 (by decide) (by decide) (by decide)]; exact h5
      · rw [st_same]; rfl
      · rw [z 12 (by decide) (by decide), mk 12 (by decide) (by decide) (by decide)]; exact h7
      · rw [y (k + 5) (by omega), y (k + 6) (by omega), y (k + 7) (by omega), z 11 (by decide) (by decide), mk 11 (by decide) (by decide) (by decide), m3 (k + 5) (by omega) (by omega) (by omega) (by omega) (by omega), m3 (k + 6) (by omega) (by omega) (by omega) (by omega) (by omega), m3 (k + 7) (by omega) (by omega) (by omega) (by omega) (by omega)]
        exact h8 s hs
      · rw [y (k + 8) (by omega), y (k + 9) (by omega), y (k + 10) (by omega), m3 (k + 8) (by omega) (by omega) (by omega) (by omega) (by omega), m3 (k + 9) (by omega) (by omega) (by omega) (by omega) (by omega), m3 (k + 10) (by omega) (by omega) (by omega) (by omega) (by omega)]
        exact h9 i hi
end MJC
