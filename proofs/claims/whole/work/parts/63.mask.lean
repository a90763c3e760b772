/-! THE REFERENCE: of, spelt, at, count -/
theorem sub1_int : ∀ n, n ≤ 1000 → (nI n - nI 1).toInt64.toInt = (n : Int) - 1 := by
  intro n hn
  rw [Int32.toInt_toInt64]
  cases n with
  | zero => decide
  | succ m =>
    have e : nI (m + 1) - nI 1 = nI m := nI_pred m
    rw [e, nI_int (by omega)]
    omega
theorem b1023 : ∀ r, r < 10 → (1023).testBit r = true := by decide
theorem kds_all {rs : List aR} (hw : ∀ r ∈ rs, wfR r) {r : Nat} (hr : r < rs.length) : (kds rs).getD r 0 < 5 := by
  rw [kds_at hr]; exact (gR_wf hw hr).1
theorem on_1024 {a : aW} (hw : wfW a) (ho : okW a) : a.on < 1024 := lt_1024 hw.2.2.1.1 ho.1.2.1.1
theorem mL_360 {a : aW} (ho : okW a) (s : Nat) : (a.mL s).length ≤ 360 := by
  have hg : ∀ r, (pGf a.rs r).length ≤ 6 := by
    intro r
    by_cases hr : r < a.rs.length
    · exact (gR_wf ho.1.2.1.2 hr).2.2.2
    · have e : gR a.rs r = (0, [], []) := by unfold gR; rw [List.getD_eq_getElem?_getD, List.getElem?_eq_none (by omega)]; rfl
      unfold pGf; rw [e]; exact Nat.zero_le _
  have h := outL_le (kds a.rs) a.ls hg (a.ls.length - 0) 0 s
  have h60 : a.ls.length ≤ 60 := ho.1.1.1
  have h2 : (a.mL s).length ≤ 6 * (a.ls.length - 0) := h
  omega
section MQA
variable {sh : pmS} {M : pmM} {N : pmN} {Q : pmPost} {k : Nat} {a : aW}
theorem c_isRuleM {rs : List aR} {x : Int32} (hb : isMod sh k) (hr : ruled (M (k + 2)) rs) (h10 : rs.length ≤ 10) (ky : ∀ j, j < rs.length → x = nI j → Q (some (.int (nI 1))) sh M N) (kn : (∀ j, j < rs.length → x ≠ nI j) → Q (some (.int (nI 0))) sh M N) : PW mX11_isRule 0 [.ref k, .int x] [] sh M N Q := by
  obtain ⟨b0, a1, a2, a3, a4, a5, a6, a7, a8, a9, a10, a11, a12, a13, a14, a15, a16, a17, a18, a19, a20⟩ := hb
  refine pw_iload_n 1 rfl rfl rfl ?_
  refine pw_i2l 2 rfl rfl ?_
  refine pw_lconst (v := lN 0) 3 rfl rfl (by decide) ?_
  refine pw_aload_n 4 rfl rfl rfl ?_
  refine pw_getR 7 rfl rfl (by first | assumption | exact ⟨by decide, rfl⟩) rfl ?_
  refine pw_iconst (v := nI 0) 8 rfl rfl (by decide) ?_
  refine pw_iald _ 9 rfl rfl (by first | assumption | exact ⟨by decide, rfl, by decide⟩) (by with_reducible rfl) (by first | assumption | omega) ?_
  rw [hr.1]
  refine pw_iconst (v := nI 1) 10 rfl rfl (by decide) ?_
  refine pw_isub 11 rfl rfl ?_
  refine pw_i2l 12 rfl rfl ?_
  refine pw_cS3 15 rfl rfl rfl (Nat.le_of_ble_eq_true rfl) rfl rfl (Nat.le_of_ble_eq_true rfl) (c_inX (b := 0) (c := rs.length) (by decide) (by omega) (sub1_int _ (by omega)) (fun j h1 h2 e => ?_) (fun hn => ?_))
  · refine pw_pI ?_
    skip
    exact pw_zret rfl rfl (by first | exact Or.inl rfl | exact Or.inr rfl | assumption) (ky j h2 e)
  · refine pw_pI ?_
    skip
    exact pw_zret rfl rfl (by first | exact Or.inl rfl | exact Or.inr rfl | assumption) (kn (fun j hj => hn j (Nat.zero_le j) hj))
theorem c_isPlaceM {ls ss : List Int32} {on : Nat} {x : Int32} (hb : isMod sh k) (hl : lnAt (M (k + 3)) ls ss on) (h60 : ls.length ≤ 60) (ky : ∀ j, j < ls.length → x = nI j → Q (some (.int (nI 1))) sh M N) (kn : (∀ j, j < ls.length → x ≠ nI j) → Q (some (.int (nI 0))) sh M N) : PW mX11_isPlace 0 [.ref k, .int x] [] sh M N Q := by
  obtain ⟨b0, a1, a2, a3, a4, a5, a6, a7, a8, a9, a10, a11, a12, a13, a14, a15, a16, a17, a18, a19, a20⟩ := hb
  refine pw_iload_n 1 rfl rfl rfl ?_
  refine pw_i2l 2 rfl rfl ?_
  refine pw_lconst (v := lN 0) 3 rfl rfl (by decide) ?_
  refine pw_aload_n 4 rfl rfl rfl ?_
  refine pw_getR 7 rfl rfl (by first | assumption | exact ⟨by decide, rfl⟩) rfl ?_
  refine pw_iconst (v := nI 0) 8 rfl rfl (by decide) ?_
  refine pw_iald _ 9 rfl rfl (by first | assumption | exact ⟨by decide, rfl, by decide⟩) (by with_reducible rfl) (by first | assumption | omega) ?_
  rw [hl.1]
  refine pw_iconst (v := nI 1) 10 rfl rfl (by decide) ?_
  refine pw_isub 11 rfl rfl ?_
  refine pw_i2l 12 rfl rfl ?_
  refine pw_cS3 15 rfl rfl rfl (Nat.le_of_ble_eq_true rfl) rfl rfl (Nat.le_of_ble_eq_true rfl) (c_inX (b := 0) (c := ls.length) (by decide) (by omega) (sub1_int _ (by omega)) (fun j h1 h2 e => ?_) (fun hn => ?_))
  · refine pw_pI ?_
    skip
    exact pw_zret rfl rfl (by first | exact Or.inl rfl | exact Or.inr rfl | assumption) (ky j h2 e)
  · refine pw_pI ?_
    skip
    exact pw_zret rfl rfl (by first | exact Or.inl rfl | exact Or.inr rfl | assumption) (kn (fun j hj => hn j (Nat.zero_le j) hj))
theorem c_comesNow (hb : isMod sh k) (hw : wfW a) (ho : okW a) (hx : modIs M N k a) (kk : ∀ M', fr k (k + 21) M M' → modIs M' N k a → gvn M' k (a.mL a.on) (a.mS a.on) (uAt (a.tc a.on) (List.replicate a.ls.length (-4))) (a.us a.on) → Q (some (.int (sumI (a.us a.on)))) sh M' N) : PW mX11_comesNow 0 [.ref k] [] sh M N Q := by
  have hb0 := hb
  obtain ⟨b0, a1, a2, a3, a4, a5, a6, a7, a8, a9, a10, a11, a12, a13, a14, a15, a16, a17, a18, a19, a20⟩ := hb
  have hon := on_1024 hw ho
  have h10 : a.rs.length ≤ 10 := ho.1.2.1.1
  refine pw_aload_n 1 rfl rfl rfl ?_
  refine pw_cV0 4 rfl rfl (by first | assumption | exact ⟨by decide, rfl⟩) rfl (Nat.le_of_ble_eq_true rfl) rfl rfl (Nat.le_of_ble_eq_true rfl) (c_kindsM hb0 hx.2.1 h10 (fun M1 f1 e1 => ?_))
  refine pw_pV ?_
  have hx1 : modIs M1 N k a := hx.mv (fun j _ _ _ => by rw [f1 k (by omega)]) (fun x h1 h2 => f1 x (by omega))
  refine pw_aload_n 5 rfl rfl rfl ?_
  refine pw_aload_n 6 rfl rfl rfl ?_
  refine pw_getR 9 rfl rfl (by first | assumption | exact ⟨by decide, rfl⟩) rfl ?_
  refine pw_sipush (v := nI 1023) 12 rfl rfl (by decide) ?_
  refine pw_cV2 15 rfl rfl (by first | assumption | exact ⟨by decide, rfl⟩) rfl (Nat.le_of_ble_eq_true rfl) rfl rfl (Nat.le_of_ble_eq_true rfl) (c_goesOver (st := 1023) (s := a.on) (on := a.on) (kd := kds a.rs) hb0 a3 (Or.inl rfl) hx1.2.1 ho.1.2.1.2 h10 hx1.2.2.1.ln ho.1.1.1 (by decide) hon (fun r hr => ⟨e1 r hr, kds_all ho.1.2.1.2 hr⟩) (fun r hr => by rw [b1023 r (by omega), Bool.true_and]) (fun M2 f2 g2 => ?_))
  refine pw_pI ?_
  skip
  exact pw_iret rfl rfl (kk M2 (fun x hx => by rw [f2.1 x (by omega) (by omega), f1 x (by omega)]) (hx1.mv (fun j _ _ h => f2.2 j h) (fun x h1 h2 => f2.1 x (by omega) (by omega))) g2)
theorem m_of {r w : Int32} (hb : isMod sh k) (hw : wfW a) (ho : okW a) (hx : modIs M N k a) (kk : mst k sh M N Q (.int (vOf a r w)) a) : PW mX11_of 0 [.ref k, .int r, .int w] [] sh M N Q := by
  have hb0 := hb
  obtain ⟨b0, a1, a2, a3, a4, a5, a6, a7, a8, a9, a10, a11, a12, a13, a14, a15, a16, a17, a18, a19, a20⟩ := hb
  have hon := on_1024 hw ho
  have h10 : a.rs.length ≤ 10 := ho.1.2.1.1
  unfold vOf at kk
  refine pw_aload_n 1 rfl rfl rfl ?_
  refine pw_iload_n 2 rfl rfl rfl ?_
  refine pw_cV1 5 rfl rfl (by first | assumption | exact ⟨by decide, rfl⟩) rfl (Nat.le_of_ble_eq_true rfl) rfl rfl (Nat.le_of_ble_eq_true rfl) (c_isRuleM hb0 hx.2.1 h10 (fun j hj e => ?_) (fun hn => ?_))
  · refine pw_pI ?_
    subst e
    have hn9 : ix (nI j) a.rs.length = some j := ix_some hj (by omega)
    rw [hn9] at kk
    simp only at kk
    have hru := hx.2.1.2 j hj
    have hj10 : j < 10 := by omega
    have hx1 : 1 + j < 151 := by omega
    have hx2 : 11 + j < 151 := by omega
    have hx3 : 21 + j < 151 := by omega
    skip
    refine pw_if_ne_t 10 rfl rfl (by decide) ?_
    by_cases q0 : w = nI 0
    · rw [if_pos q0] at kk
      subst q0
      refine pw_iload_n 11 rfl rfl rfl ?_
      refine pw_tsw 44 rfl (rfl) ?_
      refine pw_aload_n 45 rfl rfl rfl ?_
      refine pw_getR 48 rfl rfl (by first | assumption | exact ⟨by decide, rfl⟩) rfl ?_
      refine pw_iconst (v := nI 1) 49 rfl rfl (by decide) ?_
      refine pw_iload_n 50 rfl rfl rfl ?_
      first | refine pw_iaddN 51 rfl rfl (by with_reducible rfl) (by with_reducible rfl) ?_ | refine pw_iadd 51 rfl rfl ?_
      refine pw_iald _ 52 rfl rfl (by first | assumption | exact ⟨by decide, rfl, by decide⟩) (by with_reducible rfl) (by first | assumption | omega) ?_
      rw [hru.1]
      exact pw_iret rfl rfl (kk.at hx)
    rw [if_neg q0] at kk
    by_cases q1 : w = nI 1
    · rw [if_pos q1] at kk
      subst q1
      refine pw_iload_n 11 rfl rfl rfl ?_
      refine pw_tsw 53 rfl (rfl) ?_
      refine pw_aload_n 54 rfl rfl rfl ?_
      refine pw_getR 57 rfl rfl (by first | assumption | exact ⟨by decide, rfl⟩) rfl ?_
      refine pw_bipush (v := nI 11) 59 rfl rfl (by decide) ?_
      refine pw_iload_n 60 rfl rfl rfl ?_
      first | refine pw_iaddN 61 rfl rfl (by with_reducible rfl) (by with_reducible rfl) ?_ | refine pw_iadd 61 rfl rfl ?_
      refine pw_iald _ 62 rfl rfl (by first | assumption | exact ⟨by decide, rfl, by decide⟩) (by with_reducible rfl) (by first | assumption | omega) ?_
      rw [hru.2.1]
      exact pw_iret rfl rfl (kk.at hx)
    rw [if_neg q1] at kk
    by_cases q2 : w = nI 2
    · rw [if_pos q2] at kk
      subst q2
      refine pw_iload_n 11 rfl rfl rfl ?_
      refine pw_tsw 63 rfl (rfl) ?_
      refine pw_aload_n 64 rfl rfl rfl ?_
      refine pw_getR 67 rfl rfl (by first | assumption | exact ⟨by decide, rfl⟩) rfl ?_
      refine pw_bipush (v := nI 21) 69 rfl rfl (by decide) ?_
      refine pw_iload_n 70 rfl rfl rfl ?_
      first | refine pw_iaddN 71 rfl rfl (by with_reducible rfl) (by with_reducible rfl) ?_ | refine pw_iadd 71 rfl rfl ?_
      refine pw_iald _ 72 rfl rfl (by first | assumption | exact ⟨by decide, rfl, by decide⟩) (by with_reducible rfl) (by first | assumption | omega) ?_
      rw [hru.2.2.1]
      exact pw_iret rfl rfl (kk.at hx)
    rw [if_neg q2] at kk
    by_cases q3 : w = nI 3
    · rw [if_pos q3] at kk
      subst q3
      refine pw_iload_n 11 rfl rfl rfl ?_
      refine pw_tsw 73 rfl (rfl) ?_
      refine pw_aload_n 74 rfl rfl rfl ?_
      refine pw_getR 77 rfl rfl (by first | assumption | exact ⟨by decide, rfl⟩) rfl ?_
      refine pw_iconst (v := nI 1) 78 rfl rfl (by decide) ?_
      refine pw_iald _ 79 rfl rfl (by first | assumption | exact ⟨by decide, rfl, by decide⟩) (by with_reducible rfl) (by first | assumption | omega) ?_
      refine pw_iload_n 80 rfl rfl rfl ?_
      refine pw_ishr 81 rfl rfl ?_
      refine pw_iconst (v := nI 1) 82 rfl rfl (by decide) ?_
      refine pw_iand 83 rfl rfl ?_
      rw [hx.2.2.1.ln.2.1, bit_v _ hon _ (by omega)]
      skip
      exact pw_iret rfl rfl (kk.at hx)
    rw [if_neg q3] at kk
    by_cases q4 : w = nI 4
    · rw [if_pos q4] at kk
      subst q4
      refine pw_iload_n 11 rfl rfl rfl ?_
      refine pw_tsw 84 rfl (rfl) ?_
      refine pw_aload_n 85 rfl rfl rfl ?_
      refine pw_cV0 88 rfl rfl (by first | assumption | exact ⟨by decide, rfl⟩) rfl (Nat.le_of_ble_eq_true rfl) rfl rfl (Nat.le_of_ble_eq_true rfl) (c_comesNow hb0 hw ho hx (fun M1 f1 x1 g1 => ?_))
      refine pw_pI ?_
      refine pw_pop 89 rfl rfl rfl ?_
      refine pw_aload_n 90 rfl rfl rfl ?_
      refine pw_getR 93 rfl rfl (by first | assumption | exact ⟨by decide, rfl⟩) rfl ?_
      refine pw_iload_n 94 rfl rfl rfl ?_
      refine pw_iald _ 95 rfl rfl (by first | assumption | exact ⟨by decide, rfl, by decide⟩) (by with_reducible rfl) (by first | assumption | omega) ?_
      rw [g1.2.2.2 j (by rw [us_len]; exact hj)]
      exact pw_iret rfl rfl (kk.go f1 x1)
    rw [if_neg q4] at kk
    refine pw_iload_n 11 rfl rfl rfl ?_
    refine pw_tsw 96 rfl ((ts_out (n := 4) 96 (fun j hj => by rcases (show j = 0 ∨ j = 1 ∨ j = 2 ∨ j = 3 ∨ j = 4 by omega) with rfl | rfl | rfl | rfl | rfl <;> assumption) (by decide) rfl)) ?_
    refine pw_iconst (v := (-1)) 97 rfl rfl (by decide) ?_
    exact pw_iret rfl rfl (kk.at hx)
  · refine pw_pI ?_
    have hn9 : ix r a.rs.length = none := ix_none hn
    rw [hn9] at kk
    skip
    refine pw_if_ne_f 8 rfl rfl (by decide) ?_
    refine pw_iconst (v := (-1)) 9 rfl rfl (by decide) ?_
    exact pw_iret rfl rfl (kk.at hx)
theorem m_spelt {r w x : Int32} (hb : isMod sh k) (hw : wfW a) (ho : okW a) (hx : modIs M N k a) (kk : mst k sh M N Q (.int (vSpelt a r w x)) a) : PW mX11_spelt 0 [.ref k, .int r, .int w, .int x] [] sh M N Q := by
  have hb0 := hb
  obtain ⟨b0, a1, a2, a3, a4, a5, a6, a7, a8, a9, a10, a11, a12, a13, a14, a15, a16, a17, a18, a19, a20⟩ := hb
  have h10 : a.rs.length ≤ 10 := ho.1.2.1.1
  unfold vSpelt at kk
  have bad : mst k sh M N Q (.int (-1)) a → PW mX11_spelt 30 [.ref k, .int r, .int w, .int x] [] sh M N Q := by
    intro kk
    refine pw_iconst (v := (-1)) 31 rfl rfl (by decide) ?_
    exact pw_iret rfl rfl (kk.at hx)
  refine pw_aload_n 1 rfl rfl rfl ?_
  refine pw_iload_n 2 rfl rfl rfl ?_
  refine pw_cV1 5 rfl rfl (by first | assumption | exact ⟨by decide, rfl⟩) rfl (Nat.le_of_ble_eq_true rfl) rfl rfl (Nat.le_of_ble_eq_true rfl) (c_isRuleM hb0 hx.2.1 h10 (fun j hj e => ?_) (fun hn => ?_))
  · refine pw_pI ?_
    subst e
    have hn9 : ix (nI j) a.rs.length = some j := ix_some hj (by omega)
    rw [hn9] at kk
    have hru := hx.2.1.2 j hj
    have hwf := gR_wf ho.1.2.1.2 hj
    have l1 : (pPh a.rs j).length ≤ 6 := hwf.2.2.1
    have l2 : (pGf a.rs j).length ≤ 6 := hwf.2.2.2
    skip
    refine pw_if_eq_f 8 rfl rfl (by decide) ?_
    refine pw_iload_n 9 rfl rfl rfl ?_
    refine pw_i2l 10 rfl rfl ?_
    refine pw_lconst (v := lN 0) 11 rfl rfl (by decide) ?_
    refine pw_lconst (v := lN 1) 12 rfl rfl (by decide) ?_
    refine pw_cS3 15 rfl rfl rfl (Nat.le_of_ble_eq_true rfl) rfl rfl (Nat.le_of_ble_eq_true rfl) (c_inX (b := 0) (c := 2) (by decide) (by decide) rfl (fun i h1 hi e1 => ?_) (fun hn => ?_))
    · refine pw_pI ?_
      subst e1
      rw [ix_some hi (by decide)] at kk
      skip
      refine pw_if_eq_f 18 rfl rfl (by decide) ?_
      refine pw_iload_n 19 rfl rfl rfl ?_
      refine pw_i2l 20 rfl rfl ?_
      refine pw_lconst (v := lN 0) 21 rfl rfl (by decide) ?_
      refine pw_ldc2_w (v := lN 5) 24 rfl rfl rfl ?_
      refine pw_cS3 27 rfl rfl rfl (Nat.le_of_ble_eq_true rfl) rfl rfl (Nat.le_of_ble_eq_true rfl) (c_inX (b := 0) (c := 6) (by decide) (by decide) rfl (fun t h2 ht e2 => ?_) (fun hn => ?_))
      · refine pw_pI ?_
        subst e2
        rw [ix_some ht (by decide)] at kk
        skip
        refine pw_if_ne_t 32 rfl rfl (by decide) ?_
        refine pw_aload_n 33 rfl rfl rfl ?_
        refine pw_cV0 36 rfl rfl (by first | assumption | exact ⟨by decide, rfl⟩) rfl (Nat.le_of_ble_eq_true rfl) rfl rfl (Nat.le_of_ble_eq_true rfl) (c_kindsM hb0 hx.2.1 h10 (fun M1 f1 e1 => ?_))
        refine pw_pV ?_
        have hx1 : modIs M1 N k a := hx.mv (fun j _ _ _ => by rw [f1 k (by omega)]) (fun x h1 h2 => f1 x (by omega))
        have hru := hx1.2.1.2 j hj
        have y1 : 11 + j < 151 := by omega
        have y2 : 21 + j < 151 := by omega
        have y3 : 31 + 6 * j + t < 151 := by omega
        by_cases q : i = 0
        · subst q
          simp only at kk
          refine pw_iload_n 37 rfl rfl rfl ?_
          refine pw_if_ne_f 40 rfl rfl (fun e => e rfl) ?_
          refine pw_iload_n 41 rfl rfl rfl ?_
          refine pw_aload_n 42 rfl rfl rfl ?_
          refine pw_getR 45 rfl rfl (by first | assumption | exact ⟨by decide, rfl⟩) rfl ?_
          refine pw_bipush (v := nI 11) 47 rfl rfl (by decide) ?_
          refine pw_iload_n 48 rfl rfl rfl ?_
          first | refine pw_iaddN 49 rfl rfl (by with_reducible rfl) (by with_reducible rfl) ?_ | refine pw_iadd 49 rfl rfl ?_
          refine pw_iald _ 50 rfl rfl (by first | assumption | exact ⟨by decide, rfl, by decide⟩) (by with_reducible rfl) (by first | assumption | omega) ?_
          rw [hru.2.1]
          by_cases q2 : t < (pPh a.rs j).length
          · rw [if_pos q2] at kk
            skip
            refine pw_icmp_ge_f 53 rfl rfl (nI_ge q2 (by omega)) ?_
            refine pw_aload_n 54 rfl rfl rfl ?_
            refine pw_getR 57 rfl rfl (by first | assumption | exact ⟨by decide, rfl⟩) rfl ?_
            refine pw_bipush (v := nI 31) 59 rfl rfl (by decide) ?_
            refine pw_bipush (v := nI 6) 61 rfl rfl (by decide) ?_
            refine pw_iload_n 62 rfl rfl rfl ?_
            first | refine pw_imulN 63 rfl rfl (by with_reducible rfl) (by with_reducible rfl) ?_ | refine pw_imul 63 rfl rfl ?_
            first | refine pw_iaddN 64 rfl rfl (by with_reducible rfl) (by with_reducible rfl) ?_ | refine pw_iadd 64 rfl rfl ?_
            refine pw_iload_n 65 rfl rfl rfl ?_
            first | refine pw_iaddN 66 rfl rfl (by with_reducible rfl) (by with_reducible rfl) ?_ | refine pw_iadd 66 rfl rfl ?_
            refine pw_iald _ 67 rfl rfl (by first | assumption | exact ⟨by decide, rfl, by decide⟩) (by with_reducible rfl) (by first | assumption | omega) ?_
            refine pw_goto rfl 72 rfl ?_
            rw [hru.2.2.2.1 t q2]
            exact pw_iret rfl rfl (kk.go (f1.wk (by omega) (by omega)) hx1)
          · rw [if_neg q2] at kk
            skip
            refine pw_icmp_ge_t 70 rfl rfl (nI_le (Nat.le_of_not_lt q2) (by omega)) ?_
            refine pw_bipush (v := (-4)) 72 rfl rfl (by decide) ?_
            exact pw_iret rfl rfl (kk.go (f1.wk (by omega) (by omega)) hx1)
        · have q : i = 1 := by omega
          subst q
          simp only at kk
          refine pw_iload_n 37 rfl rfl rfl ?_
          refine pw_if_ne_t 73 rfl rfl (by decide) ?_
          refine pw_iload_n 74 rfl rfl rfl ?_
          refine pw_aload_n 75 rfl rfl rfl ?_
          refine pw_getR 78 rfl rfl (by first | assumption | exact ⟨by decide, rfl⟩) rfl ?_
          refine pw_bipush (v := nI 21) 80 rfl rfl (by decide) ?_
          refine pw_iload_n 81 rfl rfl rfl ?_
          first | refine pw_iaddN 82 rfl rfl (by with_reducible rfl) (by with_reducible rfl) ?_ | refine pw_iadd 82 rfl rfl ?_
          refine pw_iald _ 83 rfl rfl (by first | assumption | exact ⟨by decide, rfl, by decide⟩) (by with_reducible rfl) (by first | assumption | omega) ?_
          rw [hru.2.2.1]
          by_cases q2 : t < (pGf a.rs j).length
          · rw [if_pos q2] at kk
            skip
            refine pw_icmp_ge_f 86 rfl rfl (nI_ge q2 (by omega)) ?_
            refine pw_aload_n 87 rfl rfl rfl ?_
            refine pw_iload_n 88 rfl rfl rfl ?_
            refine pw_iload_n 89 rfl rfl rfl ?_
            refine pw_cV2 92 rfl rfl (by first | assumption | exact ⟨by decide, rfl⟩) rfl (Nat.le_of_ble_eq_true rfl) rfl rfl (Nat.le_of_ble_eq_true rfl) (c_givenBy hb0 hx1.2.1 ho.1.2.1.2 h10 hj q2 (d := (gR a.rs j).1) (by rw [e1 j hj, kds_at hj]) hwf.1 ?_)
            refine pw_pI ?_
            refine pw_goto rfl 97 rfl ?_
            exact pw_iret rfl rfl (kk.go (f1.wk (by omega) (by omega)) hx1)
          · rw [if_neg q2] at kk
            skip
            refine pw_icmp_ge_t 95 rfl rfl (nI_le (Nat.le_of_not_lt q2) (by omega)) ?_
            refine pw_bipush (v := (-4)) 97 rfl rfl (by decide) ?_
            exact pw_iret rfl rfl (kk.go (f1.wk (by omega) (by omega)) hx1)
      · refine pw_pI ?_
        rw [ix_none (fun j hj => hn j (Nat.zero_le j) hj)] at kk
        skip
        refine pw_if_ne_f 30 rfl rfl (by decide) ?_
        refine bad ?_
        rcases i with _ | _ | i <;> exact kk
    · refine pw_pI ?_
      rw [ix_none (fun j hj => hn j (Nat.zero_le j) hj)] at kk
      skip
      refine pw_if_eq_t 30 rfl rfl (by decide) ?_
      exact bad kk
  · refine pw_pI ?_
    have hn9 : ix r a.rs.length = none := ix_none hn
    rw [hn9] at kk
    skip
    refine pw_if_eq_t 30 rfl rfl (by decide) ?_
    exact bad kk
theorem m_at {p w : Int32} (hb : isMod sh k) (hw : wfW a) (ho : okW a) (hx : modIs M N k a) (kk : mst k sh M N Q (.int (vAt a p w)) a) : PW mX11_at 0 [.ref k, .int p, .int w] [] sh M N Q := by
  have hb0 := hb
  obtain ⟨b0, a1, a2, a3, a4, a5, a6, a7, a8, a9, a10, a11, a12, a13, a14, a15, a16, a17, a18, a19, a20⟩ := hb
  have h60 : a.ls.length ≤ 60 := ho.1.1.1
  have hl := hx.2.2.1.ln
  unfold vAt at kk
  have bad : mst k sh M N Q (.int (-1)) a → PW mX11_at 38 [.ref k, .int p, .int w] [] sh M N Q := by
    intro kk
    refine pw_iconst (v := (-1)) 39 rfl rfl (by decide) ?_
    exact pw_iret rfl rfl (kk.at hx)
  refine pw_aload_n 1 rfl rfl rfl ?_
  refine pw_iload_n 2 rfl rfl rfl ?_
  refine pw_cV1 5 rfl rfl (by first | assumption | exact ⟨by decide, rfl⟩) rfl (Nat.le_of_ble_eq_true rfl) rfl rfl (Nat.le_of_ble_eq_true rfl) (c_isPlaceM hb0 hl h60 (fun i hi e1 => ?_) (fun hn => ?_))
  · refine pw_pI ?_
    subst e1
    have hn9 : ix (nI i) a.ls.length = some i := ix_some hi (by omega)
    have hi : i < a.ls.length := hi
    rw [hn9] at kk
    have y1 : 2 + i < 122 := by omega
    have y2 : 62 + i < 122 := by omega
    skip
    refine pw_if_eq_f 8 rfl rfl (by decide) ?_
    refine pw_iload_n 9 rfl rfl rfl ?_
    refine pw_i2l 10 rfl rfl ?_
    refine pw_lconst (v := lN 0) 11 rfl rfl (by decide) ?_
    refine pw_lconst (v := lN 1) 12 rfl rfl (by decide) ?_
    refine pw_cS3 15 rfl rfl rfl (Nat.le_of_ble_eq_true rfl) rfl rfl (Nat.le_of_ble_eq_true rfl) (c_inX (b := 0) (c := 2) (by decide) (by decide) rfl (fun t h1 ht e2 => ?_) (fun hn => ?_))
    · refine pw_pI ?_
      subst e2
      rw [ix_some ht (by decide)] at kk
      skip
      refine pw_if_eq_f 18 rfl rfl (by decide) ?_
      by_cases q : t = 0
      · subst q
        simp only at kk
        refine pw_aload_n 19 rfl rfl rfl ?_
        refine pw_getR 22 rfl rfl (by first | assumption | exact ⟨by decide, rfl⟩) rfl ?_
        refine pw_iload_n 23 rfl rfl rfl ?_
        refine pw_if_ne_f 26 rfl rfl (fun e => e rfl) ?_
        refine pw_iconst (v := nI 2) 27 rfl rfl (by decide) ?_
        refine pw_goto rfl 32 rfl ?_
        refine pw_iload_n 33 rfl rfl rfl ?_
        first | refine pw_iaddN 34 rfl rfl (by with_reducible rfl) (by with_reducible rfl) ?_ | refine pw_iadd 34 rfl rfl ?_
        refine pw_iald _ 35 rfl rfl (by first | assumption | exact ⟨by decide, rfl, by decide⟩) (by with_reducible rfl) (by first | assumption | omega) ?_
        refine pw_goto rfl 39 rfl ?_
        rw [hl.2.2.1 i hi]
        exact pw_iret rfl rfl (kk.at hx)
      · have q : t = 1 := by omega
        subst q
        simp only at kk
        refine pw_aload_n 19 rfl rfl rfl ?_
        refine pw_getR 22 rfl rfl (by first | assumption | exact ⟨by decide, rfl⟩) rfl ?_
        refine pw_iload_n 23 rfl rfl rfl ?_
        refine pw_if_ne_t 30 rfl rfl (by decide) ?_
        refine pw_bipush (v := nI 62) 32 rfl rfl (by decide) ?_
        refine pw_iload_n 33 rfl rfl rfl ?_
        first | refine pw_iaddN 34 rfl rfl (by with_reducible rfl) (by with_reducible rfl) ?_ | refine pw_iadd 34 rfl rfl ?_
        refine pw_iald _ 35 rfl rfl (by first | assumption | exact ⟨by decide, rfl, by decide⟩) (by with_reducible rfl) (by first | assumption | omega) ?_
        refine pw_goto rfl 39 rfl ?_
        rw [hl.2.2.2 i hi]
        exact pw_iret rfl rfl (kk.at hx)
    · refine pw_pI ?_
      rw [ix_none (fun j hj => hn j (Nat.zero_le j) hj)] at kk
      skip
      refine pw_if_eq_t 38 rfl rfl (by decide) ?_
      exact bad kk
  · refine pw_pI ?_
    have hn9 : ix p a.ls.length = none := ix_none hn
    rw [hn9] at kk
    skip
    refine pw_if_eq_t 38 rfl rfl (by decide) ?_
    exact bad kk
theorem or_bs : ∀ s, s < 1024 → ∀ j, j < 10 → s < 2 ^ j → nI s ||| (nI 1 <<< (nI j &&& 31)) = nI (s + 2 ^ j) := by decide +kernel
theorem or_0 (s : Nat) : nI s ||| nI 0 = nI s := by rw [or_v, Nat.or_zero]
theorem idleM_loop (hb : isMod sh k) (hw : wfW a) (ho : okW a) (hx : modIs M N k a) (hu : ∀ r, r < a.rs.length → M (k + 17) r = (a.us a.on).getD r 0) (kk : Q (some (.int (nI (vIdle a)))) sh M N) :
    ∀ (d j : Nat), j + d = a.rs.length → PW mX11_idle 9 [.ref k, .int (nI (bs (fun r => a.on.testBit r && decide ((a.us a.on).getD r 0 = 0)) j)), .int (nI j)] [] sh M N Q := by
  have hb0 := hb
  obtain ⟨b0, a1, a2, a3, a4, a5, a6, a7, a8, a9, a10, a11, a12, a13, a14, a15, a16, a17, a18, a19, a20⟩ := hb
  have h10 : a.rs.length ≤ 10 := ho.1.2.1.1
  have hon := on_1024 hw ho
  have hr0 : M (k + 2) 0 = nI a.rs.length := hx.2.1.1
  have ho1 : M (k + 3) 1 = nI a.on := hx.2.2.1.ln.2.1
  intro d
  induction d with
  | zero =>
    intro j hj
    have : j = a.rs.length := by omega
    subst this
    have e : bs (fun r => a.on.testBit r && decide ((a.us a.on).getD r 0 = 0)) a.rs.length = vIdle a := by
      unfold vIdle
      refine set_ext (lt_1024 (bs_lt _ _) h10) (Nat.lt_of_le_of_lt Nat.and_le_right hon) (fun i hi => ?_)
      rw [Nat.testBit_and, bs_bit, bs_bit]
      cases decide (i < a.rs.length) <;> cases a.on.testBit i <;> simp
    rw [e]
    refine pw_iload_n 10 rfl rfl rfl ?_
    refine pw_aload_n 11 rfl rfl rfl ?_
    refine pw_getR 14 rfl rfl (by first | assumption | exact ⟨by decide, rfl⟩) rfl ?_
    refine pw_iconst (v := nI 0) 15 rfl rfl (by decide) ?_
    refine pw_iald _ 16 rfl rfl (by first | assumption | exact ⟨by decide, rfl, by decide⟩) (by with_reducible rfl) (by first | assumption | omega) ?_
    rw [hr0]
    refine pw_icmp_ge_t 57 rfl rfl (nI_le (Nat.le_refl _) (by omega)) ?_
    refine pw_iload_n 58 rfl rfl rfl ?_
    exact pw_iret rfl rfl (kk)
  | succ d ih =>
    intro j hj
    have hj1 : j < a.rs.length := by omega
    have hj10 : j < 10 := by omega
    have ih1 := ih (j + 1) (by omega)
    rw [bs] at ih1
    have hs := bs_lt (fun r => a.on.testBit r && decide ((a.us a.on).getD r 0 = 0)) j
    refine pw_iload_n 10 rfl rfl rfl ?_
    refine pw_aload_n 11 rfl rfl rfl ?_
    refine pw_getR 14 rfl rfl (by first | assumption | exact ⟨by decide, rfl⟩) rfl ?_
    refine pw_iconst (v := nI 0) 15 rfl rfl (by decide) ?_
    refine pw_iald _ 16 rfl rfl (by first | assumption | exact ⟨by decide, rfl, by decide⟩) (by with_reducible rfl) (by first | assumption | omega) ?_
    rw [hr0]
    refine pw_icmp_ge_f 19 rfl rfl (nI_ge hj1 (by omega)) ?_
    refine pw_iload_n 20 rfl rfl rfl ?_
    refine pw_aload_n 21 rfl rfl rfl ?_
    refine pw_getR 24 rfl rfl (by first | assumption | exact ⟨by decide, rfl⟩) rfl ?_
    refine pw_iconst (v := nI 1) 25 rfl rfl (by decide) ?_
    refine pw_iald _ 26 rfl rfl (by first | assumption | exact ⟨by decide, rfl, by decide⟩) (by with_reducible rfl) (by first | assumption | omega) ?_
    refine pw_iload_n 27 rfl rfl rfl ?_
    rw [ho1]
    refine pw_cS2 30 rfl rfl rfl (Nat.le_of_ble_eq_true rfl) rfl rfl (Nat.le_of_ble_eq_true rfl) (c_has hon hj10 ?_)
    refine pw_pI ?_
    by_cases q1 : a.on.testBit j = true
    · rw [if_pos q1]
      skip
      refine pw_if_eq_f 33 rfl rfl (by decide) ?_
      refine pw_aload_n 34 rfl rfl rfl ?_
      refine pw_getR 37 rfl rfl (by first | assumption | exact ⟨by decide, rfl⟩) rfl ?_
      refine pw_iload_n 38 rfl rfl rfl ?_
      refine pw_iald _ 39 rfl rfl (by first | assumption | exact ⟨by decide, rfl, by decide⟩) (by with_reducible rfl) (by first | assumption | omega) ?_
      rw [hu j hj1]
      by_cases q2 : (a.us a.on).getD j 0 = 0
      · rw [if_pos (by rw [q1, decide_eq_true q2]; rfl)] at ih1
        skip
        refine pw_if_ne_f 42 rfl rfl (fun e => e q2) ?_
        refine pw_iconst (v := nI 1) 43 rfl rfl (by decide) ?_
        refine pw_iload_n 44 rfl rfl rfl ?_
        refine pw_ishl 45 rfl rfl ?_
        refine pw_goto rfl 49 rfl ?_
        refine pw_ior 50 rfl rfl ?_
        rw [or_bs _ (lt_1024 hs (by omega)) _ hj10 hs]
        refine pw_istore1 51 rfl rfl rfl ?_
        first | refine pw_iincN2 54 rfl rfl rfl (by with_reducible rfl) ?_ | refine pw_iinc2 (w := _) 54 rfl rfl rfl rfl ?_
        refine pw_goto rfl 9 rfl ?_
        exact ih1
      · rw [if_neg (by rw [q1, decide_eq_false q2]; decide), Nat.add_zero] at ih1
        skip
        refine pw_if_ne_t 48 rfl rfl (q2) ?_
        refine pw_iconst (v := nI 0) 49 rfl rfl (by decide) ?_
        refine pw_ior 50 rfl rfl ?_
        rw [or_0]
        refine pw_istore1 51 rfl rfl rfl ?_
        first | refine pw_iincN2 54 rfl rfl rfl (by with_reducible rfl) ?_ | refine pw_iinc2 (w := _) 54 rfl rfl rfl rfl ?_
        refine pw_goto rfl 9 rfl ?_
        exact ih1
    · rw [if_neg q1]
      have q1 : a.on.testBit j = false := by simpa using q1
      rw [if_neg (by rw [q1]; exact fun h => Bool.noConfusion h), Nat.add_zero] at ih1
      skip
      refine pw_if_eq_t 48 rfl rfl (by decide) ?_
      refine pw_iconst (v := nI 0) 49 rfl rfl (by decide) ?_
      refine pw_ior 50 rfl rfl ?_
      rw [or_0]
      refine pw_istore1 51 rfl rfl rfl ?_
      first | refine pw_iincN2 54 rfl rfl rfl (by with_reducible rfl) ?_ | refine pw_iinc2 (w := _) 54 rfl rfl rfl rfl ?_
      refine pw_goto rfl 9 rfl ?_
      exact ih1
theorem c_idleM (hb : isMod sh k) (hw : wfW a) (ho : okW a) (hx : modIs M N k a) (kk : mst k sh M N Q (.int (nI (vIdle a))) a) : PW mX11_idle 0 [.ref k, .null, .null] [] sh M N Q := by
  have b0 := hb.1
  refine pw_aload_n 1 rfl rfl rfl ?_
  refine pw_cV0 4 rfl rfl (by first | assumption | exact ⟨by decide, rfl⟩) rfl (Nat.le_of_ble_eq_true rfl) rfl rfl (Nat.le_of_ble_eq_true rfl) (c_comesNow hb hw ho hx (fun M1 f1 x1 g1 => ?_))
  refine pw_pI ?_
  refine pw_pop 5 rfl rfl rfl ?_
  refine pw_iconst (v := nI 0) 6 rfl rfl (by decide) ?_
  refine pw_istore1 7 rfl rfl rfl ?_
  refine pw_iconst (v := nI 0) 8 rfl rfl (by decide) ?_
  refine pw_istore2 9 rfl rfl rfl ?_
  exact idleM_loop hb hw ho x1 (fun r hr => g1.2.2.2 r (by rw [us_len]; exact hr)) (kk.go f1 x1) _ 0 (Nat.zero_add _)
theorem m_count {w : Int32} (hb : isMod sh k) (hw : wfW a) (ho : okW a) (hx : modIs M N k a) (kk : mst k sh M N Q (.int (vCount a w)) a) : PW mX11_count 0 [.ref k, .int w] [] sh M N Q := by
  have hb0 := hb
  obtain ⟨b0, a1, a2, a3, a4, a5, a6, a7, a8, a9, a10, a11, a12, a13, a14, a15, a16, a17, a18, a19, a20⟩ := hb
  have hl := hx.2.2.1.ln
  have hps : M k 7 = rI a.ps := hx.2.2.2.2.2.1
  have hset : M k 6 = nI a.pset := hx.2.2.2.2.1
  have hun : M k 5 = nI a.now.2.2.length := hx.2.2.2.1.1
  unfold vCount at kk
  by_cases q0 : w = nI 0
  · rw [if_pos q0] at kk
    subst q0
    refine pw_iload_n 1 rfl rfl rfl ?_
    refine pw_tsw 44 rfl (rfl) ?_
    refine pw_aload_n 45 rfl rfl rfl ?_
    refine pw_getR 48 rfl rfl (by first | assumption | exact ⟨by decide, rfl⟩) rfl ?_
    refine pw_iconst (v := nI 0) 49 rfl rfl (by decide) ?_
    refine pw_iald _ 50 rfl rfl (by first | assumption | exact ⟨by decide, rfl, by decide⟩) (by with_reducible rfl) (by first | assumption | omega) ?_
    rw [hl.1]
    exact pw_iret rfl rfl (kk.at hx)
  rw [if_neg q0] at kk
  by_cases q1 : w = nI 1
  · rw [if_pos q1] at kk
    subst q1
    refine pw_iload_n 1 rfl rfl rfl ?_
    refine pw_tsw 51 rfl (rfl) ?_
    refine pw_aload_n 52 rfl rfl rfl ?_
    refine pw_getR 55 rfl rfl (by first | assumption | exact ⟨by decide, rfl⟩) rfl ?_
    refine pw_iconst (v := nI 0) 56 rfl rfl (by decide) ?_
    refine pw_iald _ 57 rfl rfl (by first | assumption | exact ⟨by decide, rfl, by decide⟩) (by with_reducible rfl) (by first | assumption | omega) ?_
    rw [hx.2.1.1]
    exact pw_iret rfl rfl (kk.at hx)
  rw [if_neg q1] at kk
  by_cases q2 : w = nI 2
  · rw [if_pos q2] at kk
    subst q2
    refine pw_iload_n 1 rfl rfl rfl ?_
    refine pw_tsw 58 rfl (rfl) ?_
    refine pw_aload_n 59 rfl rfl rfl ?_
    refine pw_getR 62 rfl rfl (by first | assumption | exact ⟨by decide, rfl⟩) rfl ?_
    refine pw_iconst (v := nI 1) 63 rfl rfl (by decide) ?_
    refine pw_iald _ 64 rfl rfl (by first | assumption | exact ⟨by decide, rfl, by decide⟩) (by with_reducible rfl) (by first | assumption | omega) ?_
    rw [hl.2.1]
    exact pw_iret rfl rfl (kk.at hx)
  rw [if_neg q2] at kk
  by_cases q3 : w = nI 3
  · rw [if_pos q3] at kk
    subst q3
    refine pw_iload_n 1 rfl rfl rfl ?_
    refine pw_tsw 65 rfl (rfl) ?_
    refine pw_aload_n 66 rfl rfl rfl ?_
    refine pw_cV0 69 rfl rfl (by first | assumption | exact ⟨by decide, rfl⟩) rfl (Nat.le_of_ble_eq_true rfl) rfl rfl (Nat.le_of_ble_eq_true rfl) (c_idleM hb0 hw ho hx (fun M1 N1 f1 n1 x1 => ?_))
    refine pw_pI ?_
    skip
    exact pw_iret rfl rfl (kk M1 N1 f1 n1 x1)
  rw [if_neg q3] at kk
  by_cases q4 : w = nI 4
  · rw [if_pos q4] at kk
    subst q4
    refine pw_iload_n 1 rfl rfl rfl ?_
    refine pw_tsw 70 rfl (rfl) ?_
    refine pw_aload_n 71 rfl rfl rfl ?_
    refine pw_getI 74 rfl rfl (by first | assumption | exact ⟨by decide, rfl⟩) rfl ?_
    refine pw_bipush (v := (-4)) 76 rfl rfl (by decide) ?_
    rw [hps]
    by_cases q : a.ps = none
    · rw [if_pos q] at kk
      rw [q]
      skip
      refine pw_icmp_ne_f 79 rfl rfl (fun e => e rfl) ?_
      refine pw_bipush (v := (-4)) 81 rfl rfl (by decide) ?_
      refine pw_goto rfl 88 rfl ?_
      exact pw_iret rfl rfl (kk.at hx)
    · rw [if_neg q] at kk
      skip
      refine pw_icmp_ne_t 84 rfl rfl (fun e => q ((rI_4 (fun s hs => Nat.lt_trans (hw.2.2.2.2.2.1 s hs) (by decide))).mp e)) ?_
      refine pw_aload_n 85 rfl rfl rfl ?_
      refine pw_getI 88 rfl rfl (by first | assumption | exact ⟨by decide, rfl⟩) rfl ?_
      rw [hset]
      exact pw_iret rfl rfl (kk.at hx)
  rw [if_neg q4] at kk
  by_cases q5 : w = nI 5
  · rw [if_pos q5] at kk
    subst q5
    refine pw_iload_n 1 rfl rfl rfl ?_
    refine pw_tsw 89 rfl (rfl) ?_
    refine pw_aload_n 90 rfl rfl rfl ?_
    refine pw_getI 93 rfl rfl (by first | assumption | exact ⟨by decide, rfl⟩) rfl ?_
    rw [hps]
    exact pw_iret rfl rfl (kk.at hx)
  rw [if_neg q5] at kk
  by_cases q6 : w = nI 6
  · rw [if_pos q6] at kk
    subst q6
    refine pw_iload_n 1 rfl rfl rfl ?_
    refine pw_tsw 94 rfl (rfl) ?_
    refine pw_aload_n 95 rfl rfl rfl ?_
    refine pw_getI 98 rfl rfl (by first | assumption | exact ⟨by decide, rfl⟩) rfl ?_
    rw [hun]
    exact pw_iret rfl rfl (kk.at hx)
  rw [if_neg q6] at kk
  refine pw_iload_n 1 rfl rfl rfl ?_
  refine pw_tsw 99 rfl ((ts_out (n := 6) 99 (fun j hj => by rcases (show j = 0 ∨ j = 1 ∨ j = 2 ∨ j = 3 ∨ j = 4 ∨ j = 5 ∨ j = 6 by omega) with rfl | rfl | rfl | rfl | rfl | rfl | rfl <;> assumption) (by decide) rfl)) ?_
  refine pw_iconst (v := (-1)) 100 rfl rfl (by decide) ?_
  exact pw_iret rfl rfl (kk.at hx)
end MQA
