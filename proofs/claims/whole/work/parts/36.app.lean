theorem stIs.line {M M' : pmM} {k : Nat} {s : aS} {ls ss : List Int32} (h : stIs M k s) (hf : fr (k + 3) (k + 7) M M') (hl : lineIs M' (k + 2) ls ss) (h1 : ls.length ≤ 60) (h2 : ss.length = ls.length) : stIs M' k ((ls, ss, s.1.2.2), s.2) := by
  obtain ⟨a1, a2, a3⟩ := h
  exact ⟨⟨hl, by rw [hf (k + 1) (by omega)]; exact a1.2.1, h1, h2⟩, a2.mv hf (by omega), a3.mv hf (by omega)⟩
theorem stIs.on {M : pmM} {k on : Nat} {s : aS} (h : stIs M k s) : stIs (pmSt M (k + 1) 1 (nI on)) k ((s.1.1, s.1.2.1, on), s.2) := by
  obtain ⟨a1, a2, a3⟩ := h
  have hf : fr (k + 1) (k + 2) M (pmSt M (k + 1) 1 (nI on)) := fr_st M 1 _ (by omega) (by omega)
  exact ⟨⟨a1.1.mv hf (by omega), st_same _ _ _ _, a1.2.2⟩, a2.mv hf (by omega), a3.mv hf (by omega)⟩
theorem appIs.mvs {M M' : pmM} {N : pmN} {k : Nat} {a : aW} (h : appIs M N k a) (hM : ∀ x, x ≠ k + 1 → (x < k + 232 ∨ k + 315 ≤ x) → M' x = M x) : appIs M' N k a := by
  have f1 : fr (k + 232) (k + 315) M (va_up M' (k + 1) (M (k + 1))) := by
    intro x hx
    by_cases q : x = k + 1
    · subst q; rw [va_up_self]
    · rw [va_up_ne _ _ q]; exact hM x q hx
  have f2 : fr (k + 1) (k + 2) (va_up M' (k + 1) (M (k + 1))) M' := fun x hx => by rw [va_up_ne _ _ (by omega)]
  exact (h.scr f1 (by omega) (by omega)).tap f2
def vUses (a : aW) (r : Int32) : Int32 := gI (a.us a.on) r
def vIdle (a : aW) : Nat := bs (fun r => decide ((a.us a.on).getD r 0 = 0)) a.rs.length &&& a.on
def vGo (a : aW) (s : Nat) : Int32 × aW := if 60 < (a.mL (s &&& a.on)).length then (-3, a) else (sumI (a.us (s &&& a.on)), wNow a ((a.mL (s &&& a.on), a.mS (s &&& a.on), a.on), a.rs, (a.now.1 :: a.now.2.2).take 8))
section APQ
variable {sh : pmS} {M : pmM} {N : pmN} {Q : pmPost} {k : Nat} {a : aW}
theorem us_len (a : aW) (s : Nat) : (a.us s).length = a.rs.length := by rw [uCt_len, List.length_replicate]
theorem c_usesOf {r : Int32} (hb : isApp sh k) (hw : wfW a) (hx : appIs M N k a) (kk : pst k sh M N Q (.int (vUses a r)) a) : PW mX10_usesOf 0 [.ref k, .int r] [] sh M N Q := by
  have b0 := hb.1
  have b6 := hb.2.2.2.2.2.2.1
  have wk0 := b6.1
  have w5 := b6.2.2.2.2.2.1
  have w5' := w5.1
  have h10 : a.rs.length ≤ 10 := hx.2.1.2.1.2.1
  have er : a.rs.length = a.now.2.1.length := rfl
  refine pw_aload_n 1 rfl rfl rfl ?_
  refine pw_cV0 4 rfl rfl (by first | assumption | exact ⟨by decide, rfl⟩) rfl (Nat.le_of_ble_eq_true rfl) rfl rfl (Nat.le_of_ble_eq_true rfl) (c_whatComes hb hw hx (fun M1 f1 g1 x1 => ?_))
  refine pw_pR ?_
  refine pw_pop 5 rfl rfl rfl ?_
  refine pw_aload_n 6 rfl rfl rfl ?_
  refine pw_getR 9 rfl rfl (by first | assumption | exact ⟨by decide, rfl⟩) rfl ?_
  refine pw_getR 12 rfl rfl (by first | assumption | exact ⟨by decide, rfl⟩) rfl ?_
  refine pw_iload_n 13 rfl rfl rfl ?_
  refine pw_cV1 16 rfl rfl (by first | assumption | exact ⟨by decide, rfl⟩) rfl (Nat.le_of_ble_eq_true rfl) rfl rfl (Nat.le_of_ble_eq_true rfl) (c_Row_get w5 g1.2.2 (by rw [us_len]; exact h10) _ ?_)
  refine pw_pI ?_
  skip
  exact pw_iret rfl rfl (kk.go (f1.wk (by omega) (by omega)) x1)
theorem idle_loop (hb : isApp sh k) (hx : appIs M N k a) (hu : rowIs M (k + 300) (a.us a.on)) (kk : Q (some (.int (nI (vIdle a)))) sh M N) :
    ∀ (d i : Nat), i + d = a.rs.length → PW mX10_idleRules 9 [.ref k, .int (nI (bs (fun r => decide ((a.us a.on).getD r 0 = 0)) i)), .int (nI i)] [] sh M N Q := by
  have b0 := hb.1
  have b6 := hb.2.2.2.2.2.2.1
  have wk0 := b6.1
  have w5 := b6.2.2.2.2.2.1
  have w5' := w5.1
  have h10 : a.rs.length ≤ 10 := hx.2.1.2.1.2.1
  have er : a.rs.length = a.now.2.1.length := rfl
  have s0 := hb.2.2.1.1
  have s1 := hb.2.2.1.2.1.1
  have s3 := hb.2.2.1.2.2.1
  have s3' := s3.1
  intro d
  induction d with
  | zero =>
    intro i hi
    have : i = a.rs.length := by omega
    subst this
    refine pw_iload_n 10 rfl rfl rfl ?_
    refine pw_aload_n 11 rfl rfl rfl ?_
    refine pw_getR 14 rfl rfl (by first | assumption | exact ⟨by decide, rfl⟩) rfl ?_
    refine pw_getR 17 rfl rfl (by first | assumption | exact ⟨by decide, rfl⟩) rfl ?_
    refine pw_cV0 20 rfl rfl (by first | assumption | exact ⟨by decide, rfl⟩) rfl (Nat.le_of_ble_eq_true rfl) rfl rfl (Nat.le_of_ble_eq_true rfl) (c_Book_size s3 hx.2.1.2.1 ?_)
    refine pw_pI ?_
    skip
    refine pw_icmp_ge_t 49 rfl rfl (nI_le (by omega) (by omega)) ?_
    refine pw_iload_n 50 rfl rfl rfl ?_
    refine pw_aload_n 51 rfl rfl rfl ?_
    refine pw_getR 54 rfl rfl (by first | assumption | exact ⟨by decide, rfl⟩) rfl ?_
    refine pw_getR 57 rfl rfl (by first | assumption | exact ⟨by decide, rfl⟩) rfl ?_
    refine pw_getI 60 rfl rfl (by first | assumption | exact ⟨by decide, rfl⟩) rfl ?_
    rw [hx.2.1.1.2.1]
    refine pw_iand 61 rfl rfl ?_
    rw [and_v]
    skip
    exact pw_iret rfl rfl (kk)
  | succ d ih =>
    intro i hi
    have hlt := bs_lt (fun r => decide ((a.us a.on).getD r 0 = 0)) i
    have hlt2 := lt_1024 hlt (by omega)
    have := ih (i + 1) (by omega)
    rw [bs] at this
    refine pw_iload_n 10 rfl rfl rfl ?_
    refine pw_aload_n 11 rfl rfl rfl ?_
    refine pw_getR 14 rfl rfl (by first | assumption | exact ⟨by decide, rfl⟩) rfl ?_
    refine pw_getR 17 rfl rfl (by first | assumption | exact ⟨by decide, rfl⟩) rfl ?_
    refine pw_cV0 20 rfl rfl (by first | assumption | exact ⟨by decide, rfl⟩) rfl (Nat.le_of_ble_eq_true rfl) rfl rfl (Nat.le_of_ble_eq_true rfl) (c_Book_size s3 hx.2.1.2.1 ?_)
    refine pw_pI ?_
    skip
    refine pw_icmp_ge_f 23 rfl rfl (nI_ge (by omega) (by omega)) ?_
    refine pw_aload_n 24 rfl rfl rfl ?_
    refine pw_getR 27 rfl rfl (by first | assumption | exact ⟨by decide, rfl⟩) rfl ?_
    refine pw_getR 30 rfl rfl (by first | assumption | exact ⟨by decide, rfl⟩) rfl ?_
    refine pw_iload_n 31 rfl rfl rfl ?_
    refine pw_cV1 34 rfl rfl (by first | assumption | exact ⟨by decide, rfl⟩) rfl (Nat.le_of_ble_eq_true rfl) rfl rfl (Nat.le_of_ble_eq_true rfl) (c_Row_get w5 hu (by rw [us_len]; exact h10) _ ?_)
    rw [gI_n (by omega)]
    refine pw_pI ?_
    skip
    refine pw_if_ne 43 37 rfl rfl rfl (fun q => ?_) (fun q => ?_)
    · rw [if_neg (by rw [decide_eq_true_eq]; exact q), Nat.add_zero] at this
      first | refine pw_iincN2 46 rfl rfl rfl (by with_reducible rfl) ?_ | refine pw_iinc2 (w := _) 46 rfl rfl rfl rfl ?_
      refine pw_goto rfl 9 rfl ?_
      exact this
    · rw [if_pos (decide_eq_true (Decidable.not_not.mp q))] at this
      refine pw_iload_n 38 rfl rfl rfl ?_
      refine pw_iconst (v := nI 1) 39 rfl rfl (by decide) ?_
      refine pw_iload_n 40 rfl rfl rfl ?_
      refine pw_ishl 41 rfl rfl ?_
      refine pw_ior 42 rfl rfl ?_
      rw [or_bit i (by omega) _ hlt2 hlt]
      refine pw_istore1 43 rfl rfl rfl ?_
      first | refine pw_iincN2 46 rfl rfl rfl (by with_reducible rfl) ?_ | refine pw_iinc2 (w := _) 46 rfl rfl rfl rfl ?_
      refine pw_goto rfl 9 rfl ?_
      exact this
theorem c_idleRules (hb : isApp sh k) (hw : wfW a) (hx : appIs M N k a) (kk : pst k sh M N Q (.int (nI (vIdle a))) a) : PW mX10_idleRules 0 [.ref k, .null, .null] [] sh M N Q := by
  have b0 := hb.1
  refine pw_aload_n 1 rfl rfl rfl ?_
  refine pw_cV0 4 rfl rfl (by first | assumption | exact ⟨by decide, rfl⟩) rfl (Nat.le_of_ble_eq_true rfl) rfl rfl (Nat.le_of_ble_eq_true rfl) (c_whatComes hb hw hx (fun M1 f1 g1 x1 => ?_))
  refine pw_pR ?_
  refine pw_pop 5 rfl rfl rfl ?_
  refine pw_iconst (v := nI 0) 6 rfl rfl (by decide) ?_
  refine pw_istore1 7 rfl rfl rfl ?_
  refine pw_iconst (v := nI 0) 8 rfl rfl (by decide) ?_
  refine pw_istore2 9 rfl rfl rfl ?_
  exact idle_loop hb x1 g1.2.2 (kk.go (f1.wk (by omega) (by omega)) x1) a.rs.length 0 (by omega)
theorem c_goThrough {s : Nat} (hb : isApp sh k) (hw : wfW a) (hx : appIs M N k a) (kk : pst k sh M N Q (.int (vGo a s).1) (vGo a s).2) : PW mX10_goThrough 0 [.ref k, .int (nI s), .null] [] sh M N Q := by
  obtain ⟨b0, b1, b2, b3, b4, b5, b6, b7, b8, b9, b10⟩ := hb
  have s0 := b2.1
  have s1 := b2.2.1.1
  have s2 := b2.2.1.2
  have s2' := s2.1
  have s3 := b2.2.2.1
  have wk0 := b6.1
  have w5 := b6.2.2.2.2.2.1
  have w5' := w5.1
  have w6 := b6.2.2.2.2.2.2
  have w6' := w6.1
  have hm := hx.2.1.1
  have hbk := hx.2.1.2.1
  have h10 : a.rs.length ≤ 10 := hbk.2.1
  have er : a.rs.length = a.now.2.1.length := rfl
  have em : (outL a.now.2.1 (kds a.now.2.1) a.now.1.1 (tr a.now.2.1 (kds a.now.2.1) a.now.1.1 0 (s &&& a.now.1.2.2))).length = (a.mL (s &&& a.on)).length := rfl
  have hon := wf_on hw hx
  have hsn : s &&& a.on < 1024 := Nat.lt_of_le_of_lt Nat.and_le_right hon
  refine pw_aload_n 1 rfl rfl rfl ?_
  refine pw_getR 4 rfl rfl (by first | assumption | exact ⟨by decide, rfl⟩) rfl ?_
  refine pw_getR 7 rfl rfl (by first | assumption | exact ⟨by decide, rfl⟩) rfl ?_
  refine pw_getR 10 rfl rfl (by first | assumption | exact ⟨by decide, rfl⟩) rfl ?_
  refine pw_astore2 11 rfl rfl rfl ?_
  refine pw_aload_n 12 rfl rfl rfl ?_
  refine pw_getR 15 rfl rfl (by first | assumption | exact ⟨by decide, rfl⟩) rfl ?_
  refine pw_aload_n 16 rfl rfl rfl ?_
  refine pw_cV1 19 rfl rfl (by first | assumption | exact ⟨by decide, rfl⟩) rfl (Nat.le_of_ble_eq_true rfl) rfl rfl (Nat.le_of_ble_eq_true rfl) (c_prepare b6 s3 hbk (by omega) s2 hm.1 hm.2.2.1 (by omega) hm.2.2.1 (fun M1 f1 r1 => ?_))
  refine pw_pV ?_
  have hx1 := hx.scr f1 (by omega) (by omega)
  have hm1 := hx1.2.1.1
  have hbk1 := hx1.2.1.2.1
  refine pw_aload_n 20 rfl rfl rfl ?_
  refine pw_getR 23 rfl rfl (by first | assumption | exact ⟨by decide, rfl⟩) rfl ?_
  refine pw_aload_n 24 rfl rfl rfl ?_
  refine pw_iload_n 25 rfl rfl rfl ?_
  refine pw_aload_n 26 rfl rfl rfl ?_
  refine pw_getR 29 rfl rfl (by first | assumption | exact ⟨by decide, rfl⟩) rfl ?_
  refine pw_getR 32 rfl rfl (by first | assumption | exact ⟨by decide, rfl⟩) rfl ?_
  refine pw_getI 35 rfl rfl (by first | assumption | exact ⟨by decide, rfl⟩) rfl ?_
  rw [hm1.2.1]
  refine pw_iand 36 rfl rfl ?_
  rw [and_v]
  skip
  refine pw_cV2 39 rfl rfl (by first | assumption | exact ⟨by decide, rfl⟩) rfl (Nat.le_of_ble_eq_true rfl) rfl rfl (Nat.le_of_ble_eq_true rfl) (c_go b6 s3 hbk1 (by omega) (kds_ok hbk1) r1 s2 hm1.1 hm1.2.2.2 hm1.2.2.1 (by omega) hm1.2.2.1 hsn (fun M2 f2 r2 => ?_))
  refine pw_pV ?_
  have hx2 := hx1.scr f2 (by omega) (by omega)
  have f12 := (f1.wk (c := k + 5) (d := k + 307) (by omega) (by omega)).tr (f2.wk (by omega) (by omega))
  have hole : (a.mL (s &&& a.on)).length ≤ 360 := by
    have := outL_le (rs := a.rs) (kds a.rs) a.ls (fun r => by
      by_cases q : r < a.rs.length
      · exact (bk_at hbk q).2.2.2.2
      · unfold pGf gR; rw [List.getD_eq_getElem?_getD, List.getElem?_eq_none (by omega)]; exact Nat.zero_le _) (a.ls.length - 0) 0 (s &&& a.on)
    have h60 := hm.2.2.1
    have e : (a.mL (s &&& a.on)).length ≤ 6 * (a.ls.length - 0) := this
    have e2 : a.ls.length ≤ 60 := h60
    omega
  unfold vGo at kk
  refine pw_aload_n 40 rfl rfl rfl ?_
  refine pw_getR 43 rfl rfl (by first | assumption | exact ⟨by decide, rfl⟩) rfl ?_
  refine pw_getR 46 rfl rfl (by first | assumption | exact ⟨by decide, rfl⟩) rfl ?_
  refine pw_cV0 49 rfl rfl (by first | assumption | exact ⟨by decide, rfl⟩) rfl (Nat.le_of_ble_eq_true rfl) rfl rfl (Nat.le_of_ble_eq_true rfl) (c_Line_size w6 r2.1 ?_)
  refine pw_pI ?_
  refine pw_bipush (v := nI 60) 51 rfl rfl (by decide) ?_
  by_cases q : 60 < (a.mL (s &&& a.on)).length
  · rw [if_pos q] at kk
    skip
    refine pw_icmp_le_f 54 rfl rfl (nI_ge q (by omega)) ?_
    refine pw_bipush (v := (-3)) 56 rfl rfl (by decide) ?_
    exact pw_iret rfl rfl (kk.go (f12.wk (by omega) (by omega)) hx2)
  · rw [if_neg q] at kk
    skip
    refine pw_icmp_le_t 57 rfl rfl (nI_le (by omega) (by omega)) ?_
    refine pw_aload_n 58 rfl rfl rfl ?_
    refine pw_getR 61 rfl rfl (by first | assumption | exact ⟨by decide, rfl⟩) rfl ?_
    refine pw_cV0 64 rfl rfl (by first | assumption | exact ⟨by decide, rfl⟩) rfl (Nat.le_of_ble_eq_true rfl) rfl rfl (Nat.le_of_ble_eq_true rfl) (c_State_remember b2 hx2.2.1 (fun M3 f3 r3 => ?_))
    refine pw_pV ?_
    refine pw_aload_n 65 rfl rfl rfl ?_
    refine pw_aload_n 66 rfl rfl rfl ?_
    refine pw_getR 69 rfl rfl (by first | assumption | exact ⟨by decide, rfl⟩) rfl ?_
    refine pw_getR 72 rfl rfl (by first | assumption | exact ⟨by decide, rfl⟩) rfl ?_
    have el : (a.mS (s &&& a.on)).length = (a.mL (s &&& a.on)).length := (out_len a.rs (kds a.rs) a.ls a.ss _).symm
    refine pw_cV1 75 rfl rfl (by first | assumption | exact ⟨by decide, rfl⟩) rfl (Nat.le_of_ble_eq_true rfl) rfl rfl (Nat.le_of_ble_eq_true rfl) (c_Line_takeFrom s2 w6 (r2.1.mv f3 (by omega)) (by omega) (Nat.le_of_not_lt q) hole (by rw [el]; omega) (by rw [el]; exact hole) (fun M4 f4 r4 => ?_))
    refine pw_pV ?_
    refine pw_aload_n 76 rfl rfl rfl ?_
    refine pw_getR 79 rfl rfl (by first | assumption | exact ⟨by decide, rfl⟩) rfl ?_
    refine pw_getR 82 rfl rfl (by first | assumption | exact ⟨by decide, rfl⟩) rfl ?_
    refine pw_cV0 85 rfl rfl (by first | assumption | exact ⟨by decide, rfl⟩) rfl (Nat.le_of_ble_eq_true rfl) rfl rfl (Nat.le_of_ble_eq_true rfl) (c_Row_sum w5 ((r2.2.2.mv f3 (by omega)).mv f4 (by omega)) (by rw [us_len]; exact h10) ?_)
    refine pw_pI ?_
    skip
    have f34 := (f3.wk (c := k + 5) (d := k + 118) (by omega) (by omega)).tr (f4.wk (by omega) (by omega))
    exact pw_iret rfl rfl (kk.go ((f12.wk (by omega) (by omega)).tr (f34.wk (by omega) (by omega))) (hx2.now f34 (r3.line (f4.wk (by omega) (by omega)) r4 (Nat.le_of_not_lt q) el)))
def vJob (a : aW) : Int32 × aW := match rdRs a.tp 10 (rdL a.tp 60 0).2 [] with
  | (some rs, _) => (nI rs.length, wPs (wNow (wTp a []) (((rdL a.tp 60 0).1, plc (rdL a.tp 60 0).1.length, 2 ^ rs.length - 1), rs, [])) none)
  | (none, q) => ((-20) - nI (sk a.tp q), wTp a [])
theorem c_job (hb : isApp sh k) (hw : wfW a) (hx : appIs M N k a) (kk : pst k sh M N Q (.int (vJob a).1) (vJob a).2) : PW mX10_job 0 [.ref k, .null, .null] [] sh M N Q := by
  obtain ⟨b0, b1, b2, b3, b4, b5, b6, b7, b8, b9, b10⟩ := hb
  have t0 := b1.1
  have t1 := b1.2
  have t1' := t1.1
  have s0 := b2.1
  have s3 := b2.2.2.1
  have s3' := s3.1
  have hl := hw.1
  have ht := hw.2.1
  have hrl := rdL_len a.tp 60 0
  have hq2 := (rdRs_ok a.tp 10 (rdL a.tp 60 0).2 [] (hrl.2 (Nat.zero_le _)) (fun r hr => absurd hr (by simp))).2
  unfold vJob at kk
  refine pw_aload_n 1 rfl rfl rfl ?_
  refine pw_getR 4 rfl rfl (by first | assumption | exact ⟨by decide, rfl⟩) rfl ?_
  refine pw_cV0 7 rfl rfl (by first | assumption | exact ⟨by decide, rfl⟩) rfl (Nat.le_of_ble_eq_true rfl) rfl rfl (Nat.le_of_ble_eq_true rfl) (c_Tape_rewind b1 (fun M1 f1 p1 => ?_))
  refine pw_pV ?_
  have x1 := hx.tap f1
  refine pw_aload_n 8 rfl rfl rfl ?_
  refine pw_getR 11 rfl rfl (by first | assumption | exact ⟨by decide, rfl⟩) rfl ?_
  refine pw_aload_n 12 rfl rfl rfl ?_
  refine pw_getR 15 rfl rfl (by first | assumption | exact ⟨by decide, rfl⟩) rfl ?_
  refine pw_cV1 18 rfl rfl (by first | assumption | exact ⟨by decide, rfl⟩) rfl (Nat.le_of_ble_eq_true rfl) rfl rfl (Nat.le_of_ble_eq_true rfl) (c_Tape_readLetters b1 hl x1.1 (Nat.zero_le _) p1 b4 (by omega) (fun M2 f2 r2 p2 => ?_))
  refine pw_pV ?_
  have x2 := x1.mvs (fun x h1 h2 => f2 x h1 (by omega))
  refine pw_aload_n 19 rfl rfl rfl ?_
  refine pw_getR 22 rfl rfl (by first | assumption | exact ⟨by decide, rfl⟩) rfl ?_
  refine pw_aload_n 23 rfl rfl rfl ?_
  refine pw_getR 26 rfl rfl (by first | assumption | exact ⟨by decide, rfl⟩) rfl ?_
  refine pw_cV1 29 rfl rfl (by first | assumption | exact ⟨by decide, rfl⟩) rfl (Nat.le_of_ble_eq_true rfl) rfl rfl (Nat.le_of_ble_eq_true rfl) (c_Tape_readRules b1 hl ht x2.1 (hrl.2 (Nat.zero_le _)) p2 b5 (by omega) (fun M3 f3 p3 e3 => ?_) (fun rs M3 f3 p3 e3 r3 => ?_))
  · refine pw_pI ?_
    have x3 := x2.mvs (fun x h1 h2 => f3 x h1 (by omega))
    refine pw_istore1 30 rfl rfl rfl ?_
    refine pw_aload_n 31 rfl rfl rfl ?_
    refine pw_getR 34 rfl rfl (by first | assumption | exact ⟨by decide, rfl⟩) rfl ?_
    refine pw_cV0 37 rfl rfl (by first | assumption | exact ⟨by decide, rfl⟩) rfl (Nat.le_of_ble_eq_true rfl) rfl rfl (Nat.le_of_ble_eq_true rfl) (c_Tape_fault b1 hl x3.1 hq2 p3 (fun M4 f4 => ?_))
    refine pw_pI ?_
    have x4 := x3.tap f4
    refine pw_istore2 38 rfl rfl rfl ?_
    refine pw_aload_n 39 rfl rfl rfl ?_
    refine pw_getR 42 rfl rfl (by first | assumption | exact ⟨by decide, rfl⟩) rfl ?_
    refine pw_getR 45 rfl rfl (by first | assumption | exact ⟨by decide, rfl⟩) rfl ?_
    refine pw_cV0 48 rfl rfl (by first | assumption | exact ⟨by decide, rfl⟩) rfl (Nat.le_of_ble_eq_true rfl) rfl rfl (Nat.le_of_ble_eq_true rfl) (c_Row_clear t1 (fun M5 f5 r5 => ?_))
    refine pw_pV ?_
    refine pw_iload_n 49 rfl rfl rfl ?_
    refine pw_if_ne_f 52 rfl rfl (by decide) ?_
    refine pw_iload_n 53 rfl rfl rfl ?_
    have e : rdRs a.tp 10 (rdL a.tp 60 0).2 [] = (none, (rdRs a.tp 10 (rdL a.tp 60 0).2 []).2) := Prod.ext e3 rfl
    rw [e] at kk
    refine pw_iret rfl rfl (kk.go ?_ (x4.tape (f5.wk (by omega) (by omega)) r5))
    intro x hx
    rw [f5 x (by omega), f4 x (by omega), f3 x (by omega) (by omega), f2 x (by omega) (by omega), f1 x (by omega)]
  · refine pw_pI ?_
    have x3 := x2.mvs (fun x h1 h2 => f3 x h1 (by omega))
    refine pw_istore1 30 rfl rfl rfl ?_
    refine pw_aload_n 31 rfl rfl rfl ?_
    refine pw_getR 34 rfl rfl (by first | assumption | exact ⟨by decide, rfl⟩) rfl ?_
    refine pw_cV0 37 rfl rfl (by first | assumption | exact ⟨by decide, rfl⟩) rfl (Nat.le_of_ble_eq_true rfl) rfl rfl (Nat.le_of_ble_eq_true rfl) (c_Tape_fault b1 hl x3.1 hq2 p3 (fun M4 f4 => ?_))
    refine pw_pI ?_
    have x4 := x3.tap f4
    refine pw_istore2 38 rfl rfl rfl ?_
    refine pw_aload_n 39 rfl rfl rfl ?_
    refine pw_getR 42 rfl rfl (by first | assumption | exact ⟨by decide, rfl⟩) rfl ?_
    refine pw_getR 45 rfl rfl (by first | assumption | exact ⟨by decide, rfl⟩) rfl ?_
    refine pw_cV0 48 rfl rfl (by first | assumption | exact ⟨by decide, rfl⟩) rfl (Nat.le_of_ble_eq_true rfl) rfl rfl (Nat.le_of_ble_eq_true rfl) (c_Row_clear t1 (fun M5 f5 r5 => ?_))
    refine pw_pV ?_
    have x5 := x4.tape (f5.wk (by omega) (by omega)) r5
    refine pw_iload_n 49 rfl rfl rfl ?_
    refine pw_if_ne_t 54 rfl rfl (by decide) ?_
    refine pw_aload_n 55 rfl rfl rfl ?_
    refine pw_getR 58 rfl rfl (by first | assumption | exact ⟨by decide, rfl⟩) rfl ?_
    refine pw_aload_n 59 rfl rfl rfl ?_
    refine pw_getR 62 rfl rfl (by first | assumption | exact ⟨by decide, rfl⟩) rfl ?_
    refine pw_aload_n 63 rfl rfl rfl ?_
    refine pw_getR 66 rfl rfl (by first | assumption | exact ⟨by decide, rfl⟩) rfl ?_
    have e : rdRs a.tp 10 (rdL a.tp 60 0).2 [] = (some rs, (rdRs a.tp 10 (rdL a.tp 60 0).2 []).2) := Prod.ext e3 rfl
    rw [e] at kk
    have r2' : rowIs M5 (k + 232) (rdL a.tp 60 0).1 := ((r2.eq (f3 _ (by omega) (by omega)) (f3 _ (by omega) (by omega))).mv f4 (by omega)).mv f5 (by omega)
    refine pw_cV2 69 rfl rfl (by first | assumption | exact ⟨by decide, rfl⟩) rfl (Nat.le_of_ble_eq_true rfl) rfl rfl (Nat.le_of_ble_eq_true rfl) (c_State_begin b2 ⟨_, x5.2.1.2.2⟩ b4 r2' hrl.1 hrl.1 (by omega) b5 ((r3.mv f4 (by omega)).mv f5 (by omega)) (by omega) (fun M6 f6 r6 => ?_))
    refine pw_pV ?_
    have x6 := x5.now (f6.wk (by omega) (by omega)) r6
    refine pw_aload_n 70 rfl rfl rfl ?_
    refine pw_bipush (v := (-4)) 72 rfl rfl (by decide) ?_
    refine pw_putI 75 rfl rfl (by first | assumption | exact ⟨by decide, rfl⟩) rfl (by decide) ?_
    refine pw_aload_n 76 rfl rfl rfl ?_
    refine pw_getR 79 rfl rfl (by first | assumption | exact ⟨by decide, rfl⟩) rfl ?_
    refine pw_getR 82 rfl rfl (by first | assumption | exact ⟨by decide, rfl⟩) rfl ?_
    refine pw_cV0 85 rfl rfl (by first | assumption | exact ⟨by decide, rfl⟩) rfl (Nat.le_of_ble_eq_true rfl) rfl rfl (Nat.le_of_ble_eq_true rfl) (c_Book_size s3 (x6.sort none).2.1.2.1 ?_)
    refine pw_pI ?_
    skip
    refine pw_iret rfl rfl (kk.go ?_ (x6.sort none))
    intro x hx
    rw [st_ne _ _ _ _ (by omega), f6 x (by omega), f5 x (by omega), f4 x (by omega), f3 x (by omega) (by omega), f2 x (by omega) (by omega), f1 x (by omega)]
end APQ
