/-! CAME -/
abbrev aW.kd (a : aW) (j kd : Nat) : List Nat := (kds a.rs).set j kd
abbrev aW.mK (a : aW) (j kd : Nat) : List Int32 := outL a.rs (a.kd j kd) a.ls (tr a.rs (a.kd j kd) a.ls 0 a.on)
def cmd (a : aW) (h : aH) (j i m kd : Nat) : Bool := decide ((a.mK j kd).length = m ∧ ∀ q, q < m → h.2.2.2 (i + q) = ((a.mK j kd).getD q 0).toInt64)
def vCame (a : aW) (r s la i n : Int32) : Int32 := match ix r a.rs.length, ix s 4, ix la 4, ix n 61 with
  | some j, some t, some _, some m => if rfs (a.shs t) la i n ≠ 0 then rfs (a.shs t) la i n else nI (bs (fun kd => cmd a (a.shs t) j i.toNatClampNeg m kd) 5)
  | _, _, _, _ => -1
section APY
variable {sh : pmS} {M : pmM} {N : pmN} {Q : pmPost} {k : Nat} {a : aW}
theorem came_loop {j t i m : Nat} {la r7 : Int32} (hb : isApp sh k) (hw : wfW a) (hj : j < a.rs.length) (ht : t < 4) (hi : i + m ≤ (a.shs t).2.2.1)
    (kk : ∀ M', fr (k + 291) (k + 307) M M' → appIs M' N k a → Q (some (.int (nI (bs (fun kd => cmd a (a.shs t) j i m kd) 5)))) sh M' N) :
    ∀ (d c : Nat) (M1 : pmM), c + d = 5 → fr (k + 291) (k + 307) M M1 → appIs M1 N k a → PW mX10_came 80 [.ref k, .int (nI j), .int (nI t), .int la, .int (nI i), .int (nI m), .ref (k + 315 + 2 * t), .int r7, .ref (k + 4 + 1 + 1), .int (nI (bs (fun kd => cmd a (a.shs t) j i m kd) c)), .int (nI c)] [] sh M1 N Q := by
  obtain ⟨b0, b1, b2, b3, b4, b5, b6, b7, b8, b9, b10⟩ := hb
  have s0 := b2.1
  have s1 := b2.2.1.1
  have s2 := b2.2.1.2
  have s3 := b2.2.2.1
  have wk0 := b6.1
  have w6 := b6.2.2.2.2.2.2
  have w6' := w6.1
  have m1 := w6.2.1
  have so := (b10 t ht).1
  intro d
  induction d with
  | zero =>
    intro c M1 hc hf hx
    have : c = 5 := by omega
    subst this
    refine pw_iload 82 rfl rfl rfl ?_
    refine pw_iconst (v := nI 5) 83 rfl rfl (by decide) ?_
    refine pw_icmp_ge_t 154 rfl rfl (by decide) ?_
    refine pw_iload 156 rfl rfl rfl ?_
    exact pw_iret rfl rfl (kk M1 hf hx)
  | succ d ih =>
    intro c M1 hc hf hx
    have hm := hx.2.1.1
    have hbk : bookIs M1 (k + 11) a.rs := hx.2.1.2.1
    have h10 : a.rs.length ≤ 10 := hbk.2.1
    have hon := wf_on hw hx
    refine pw_iload 82 rfl rfl rfl ?_
    refine pw_iconst (v := nI 5) 83 rfl rfl (by decide) ?_
    refine pw_icmp_ge_f 86 rfl rfl (nI_ge (by omega) (by decide)) ?_
    refine pw_aload_n 87 rfl rfl rfl ?_
    refine pw_getR 90 rfl rfl (by first | assumption | exact ⟨by decide, rfl⟩) rfl ?_
    refine pw_aload 92 rfl rfl rfl ?_
    refine pw_iload_n 93 rfl rfl rfl ?_
    refine pw_iload 95 rfl rfl rfl ?_
    refine pw_cV3 98 rfl rfl (by first | assumption | exact ⟨by decide, rfl⟩) rfl (Nat.le_of_ble_eq_true rfl) rfl rfl (Nat.le_of_ble_eq_true rfl) (c_prepareAs b6 s3 hbk (by omega) s2 hm.1 hm.2.2.1 (by omega) hm.2.2.1 hj (d := c) (by omega) (fun M2 f2 r2 => ?_))
    refine pw_pV ?_
    have hx2 := hx.scr f2 (by omega) (by omega)
    have hm2 := hx2.2.1.1
    have hbk2 : bookIs M2 (k + 11) a.rs := hx2.2.1.2.1
    refine pw_aload_n 99 rfl rfl rfl ?_
    refine pw_getR 102 rfl rfl (by first | assumption | exact ⟨by decide, rfl⟩) rfl ?_
    refine pw_aload 104 rfl rfl rfl ?_
    refine pw_aload_n 105 rfl rfl rfl ?_
    refine pw_getR 108 rfl rfl (by first | assumption | exact ⟨by decide, rfl⟩) rfl ?_
    refine pw_getR 111 rfl rfl (by first | assumption | exact ⟨by decide, rfl⟩) rfl ?_
    refine pw_getI 114 rfl rfl (by first | assumption | exact ⟨by decide, rfl⟩) rfl ?_
    rw [hm2.2.1]
    refine pw_cV2 117 rfl rfl (by first | assumption | exact ⟨by decide, rfl⟩) rfl (Nat.le_of_ble_eq_true rfl) rfl rfl (Nat.le_of_ble_eq_true rfl) (c_go b6 s3 hbk2 (by omega) (okK_set (kds_ok hbk2) (by omega)) r2 s2 hm2.1 hm2.2.2.2 hm2.2.2.1 (by omega) hm2.2.2.1 hon (fun M3 f3 r3 => ?_))
    refine pw_pV ?_
    have hx3 := hx2.scr f3 (by omega) (by omega)
    have f13 := hf.tr ((f2.wk (by omega) (by omega)).tr (f3.wk (by omega) (by omega)))
    have hole : (a.mK j c).length ≤ 360 := by
      have := outL_le (rs := a.rs) (a.kd j c) a.ls (fun r => by
        by_cases q : r < a.rs.length
        · exact (bk_at hbk q).2.2.2.2
        · unfold pGf gR; rw [List.getD_eq_getElem?_getD, List.getElem?_eq_none (by omega)]; exact Nat.zero_le _) (a.ls.length - 0) 0 a.on
      have e : (a.mK j c).length ≤ 6 * (a.ls.length - 0) := this
      have e2 : a.ls.length ≤ 60 := hm.2.2.1
      omega
    have hlt := bs_lt (fun kd => cmd a (a.shs t) j i m kd) c
    have hlt2 := lt_1024 hlt (by omega)
    have hnx := ih (c + 1)
    rw [bs] at hnx
    refine pw_aload 119 rfl rfl rfl ?_
    refine pw_aload_n 120 rfl rfl rfl ?_
    refine pw_getR 123 rfl rfl (by first | assumption | exact ⟨by decide, rfl⟩) rfl ?_
    refine pw_getR 126 rfl rfl (by first | assumption | exact ⟨by decide, rfl⟩) rfl ?_
    refine pw_getR 129 rfl rfl (by first | assumption | exact ⟨by decide, rfl⟩) rfl ?_
    refine pw_iload 131 rfl rfl rfl ?_
    refine pw_iload 133 rfl rfl rfl ?_
    refine pw_cV3 136 rfl rfl (by first | assumption | exact ⟨by decide, rfl⟩) rfl (Nat.le_of_ble_eq_true rfl) rfl rfl (Nat.le_of_ble_eq_true rfl) (c_Sheet_tells (b10 t ht) (hx3.2.2.2.2.2.2 t ht) m1 r3.1.1 hole hi (fun e1 e2 => ?_) (fun en => ?_))
    · refine pw_pI ?_
      have ec : cmd a (a.shs t) j i m c = true := decide_eq_true ⟨e1, e2⟩
      rw [if_pos ec] at hnx
      skip
      refine pw_if_eq_f 139 rfl rfl (by decide) ?_
      refine pw_iload 141 rfl rfl rfl ?_
      refine pw_iconst (v := nI 1) 142 rfl rfl (by decide) ?_
      refine pw_iload 144 rfl rfl rfl ?_
      refine pw_ishl 145 rfl rfl ?_
      refine pw_ior 146 rfl rfl ?_
      rw [or_bit c (by omega) _ hlt2 hlt]
      refine pw_istore9 148 rfl rfl rfl ?_
      first | refine pw_iincN10 151 rfl rfl rfl (by with_reducible rfl) ?_ | refine pw_iinc10 (w := _) 151 rfl rfl rfl rfl ?_
      refine pw_goto rfl 80 rfl ?_
      exact hnx M3 (by omega) f13 hx3
    · refine pw_pI ?_
      have ec : ¬ cmd a (a.shs t) j i m c = true := fun e => en (of_decide_eq_true e)
      rw [if_neg ec, Nat.add_zero] at hnx
      skip
      refine pw_if_eq_t 148 rfl rfl (by decide) ?_
      first | refine pw_iincN10 151 rfl rfl rfl (by with_reducible rfl) ?_ | refine pw_iinc10 (w := _) 151 rfl rfl rfl rfl ?_
      refine pw_goto rfl 80 rfl ?_
      exact hnx M3 (by omega) f13 hx3
theorem c_came {r s la i n : Int32} (hb : isApp sh k) (hw : wfW a) (hx : appIs M N k a) (kk : pst k sh M N Q (.int (vCame a r s la i n)) a) : PW mX10_came 0 [.ref k, .int r, .int s, .int la, .int i, .int n, .null, .null, .null, .null, .null] [] sh M N Q := by
  have hb0 := hb
  obtain ⟨b0, b1, b2, b3, b4, b5, b6, b7, b8, b9, b10⟩ := hb
  have s0 := b2.1
  have s1 := b2.2.1.1
  have s3 := b2.2.2.1
  have s3' := s3.1
  have hbk : bookIs M (k + 11) a.rs := hx.2.1.2.1
  have h10 : a.rs.length ≤ 10 := hbk.2.1
  unfold vCame at kk
  have bad : pst k sh M N Q (.int (-1)) a → PW mX10_came 32 [.ref k, .int r, .int s, .int la, .int i, .int n, .null, .null, .null, .null, .null] [] sh M N Q := by
    intro kk
    refine pw_iconst (v := (-1)) 33 rfl rfl (by decide) ?_
    exact pw_iret rfl rfl (kk.at hx)
  refine pw_aload_n 1 rfl rfl rfl ?_
  refine pw_getR 4 rfl rfl (by first | assumption | exact ⟨by decide, rfl⟩) rfl ?_
  refine pw_getR 7 rfl rfl (by first | assumption | exact ⟨by decide, rfl⟩) rfl ?_
  refine pw_iload_n 8 rfl rfl rfl ?_
  refine pw_cV1 11 rfl rfl (by first | assumption | exact ⟨by decide, rfl⟩) rfl (Nat.le_of_ble_eq_true rfl) rfl rfl (Nat.le_of_ble_eq_true rfl) (c_Book_has s3 hbk (fun j hj e => ?_) (fun hn => ?_))
  · refine pw_pI ?_
    subst e
    rw [ix_some hj (by omega)] at kk
    skip
    refine pw_if_eq_f 14 rfl rfl (by decide) ?_
    refine pw_iload_n 15 rfl rfl rfl ?_
    refine pw_iload_n 16 rfl rfl rfl ?_
    refine pw_cS2 19 rfl rfl rfl (Nat.le_of_ble_eq_true rfl) rfl rfl (Nat.le_of_ble_eq_true rfl) (c_isLaneOfSheet (fun t l ht hl e1 e2 => ?_) (fun hn => ?_))
    · refine pw_pI ?_
      subst e1
      rw [ix_some ht (by decide), show ix la 4 = some l by rw [e2]; exact ix_some hl (by decide)] at kk
      have hg := sh_at k t ht
      have so := (b10 t ht).1
      have hs := hx.2.2.2.2.2.2 t ht
      skip
      refine pw_if_eq_f 22 rfl rfl (by decide) ?_
      refine pw_iload 24 rfl rfl rfl ?_
      refine pw_bipush (v := nI 61) 26 rfl rfl (by decide) ?_
      refine pw_cS2 29 rfl rfl rfl (Nat.le_of_ble_eq_true rfl) rfl rfl (Nat.le_of_ble_eq_true rfl) (c_isWithin (by decide) (fun m hm e => ?_) (fun hn => ?_))
      · refine pw_pI ?_
        subst e
        rw [ix_some hm (by decide)] at kk
        simp only at kk
        skip
        refine pw_if_ne_t 34 rfl rfl (by decide) ?_
        refine pw_aload_n 35 rfl rfl rfl ?_
        refine pw_getR 38 rfl rfl (by first | assumption | exact ⟨by decide, rfl⟩) rfl ?_
        refine pw_iload_n 39 rfl rfl rfl ?_
        refine pw_aald _ 40 rfl rfl (by first | assumption | exact ⟨by decide, rfl, by decide⟩) (by decide) (by with_reducible rfl) (by first | assumption | omega) (by first | assumption | rfl) ?_
        refine pw_astore6 42 rfl rfl rfl ?_
        refine pw_aload 44 rfl rfl rfl ?_
        refine pw_iload_n 45 rfl rfl rfl ?_
        refine pw_iload 47 rfl rfl rfl ?_
        refine pw_iload 49 rfl rfl rfl ?_
        refine pw_cV3 52 rfl rfl (by first | assumption | exact ⟨by decide, rfl⟩) rfl (Nat.le_of_ble_eq_true rfl) rfl rfl (Nat.le_of_ble_eq_true rfl) (c_Sheet_refusal (b10 t ht) hs ?_)
        refine pw_pI ?_
        refine pw_istore7 54 rfl rfl rfl ?_
        refine pw_iload 56 rfl rfl rfl ?_
        refine pw_if_eq 62 59 rfl rfl rfl (fun q => ?_) (fun q => ?_)
        · rw [if_neg (fun e => e q)] at kk
          obtain ⟨x, y, hxy, rfl, hy2⟩ := rfs_0 q
          have z5 := hs.2.2.2.2.1
          have hy3 : m = y := (nI_eq (by omega) (by omega)).mp hy2
          subst hy3
          rw [nI_clamp (by omega)] at kk
          refine pw_aload_n 63 rfl rfl rfl ?_
          refine pw_getR 66 rfl rfl (by first | assumption | exact ⟨by decide, rfl⟩) rfl ?_
          refine pw_getR 69 rfl rfl (by first | assumption | exact ⟨by decide, rfl⟩) rfl ?_
          refine pw_getR 72 rfl rfl (by first | assumption | exact ⟨by decide, rfl⟩) rfl ?_
          refine pw_astore8 74 rfl rfl rfl ?_
          refine pw_iconst (v := nI 0) 75 rfl rfl (by decide) ?_
          refine pw_istore9 77 rfl rfl rfl ?_
          refine pw_iconst (v := nI 0) 78 rfl rfl (by decide) ?_
          refine pw_istore10 80 rfl rfl rfl ?_
          exact came_loop hb0 hw hj ht hxy (fun M' f' x' => kk.go (f'.wk (by omega) (by omega)) x') 5 0 M rfl fr.rf hx
        · rw [if_pos q] at kk
          refine pw_iload 61 rfl rfl rfl ?_
          exact pw_iret rfl rfl (kk.at hx)
      · refine pw_pI ?_
        rw [ix_none hn] at kk
        skip
        refine pw_if_ne_f 32 rfl rfl (by decide) ?_
        exact bad kk
    · refine pw_pI ?_
      skip
      refine pw_if_eq_t 32 rfl rfl (by decide) ?_
      refine bad ?_
      rcases hn with hn | hn
      · rw [ix_none hn] at kk; exact kk
      · rw [ix_none hn] at kk
        cases h : ix s 4 <;> rw [h] at kk <;> exact kk
  · refine pw_pI ?_
    rw [ix_none hn] at kk
    skip
    refine pw_if_eq_t 32 rfl rfl (by decide) ?_
    exact bad kk
end APY
