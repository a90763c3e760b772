/-! ODDS -/
def abF (T : List Nat) (c z : Nat) : Nat → Nat
  | 0 => 0
  | q + 1 => abF T c z q + T.getD q 0 * (10 - c) ^ q * c ^ (z - q)
theorem tlN_le (f : Nat → Bool) (q : Nat) : ∀ l T, (tlN f l T).getD q 0 ≤ T.getD q 0 + l.length
  | [], T => Nat.le_refl _
  | s :: l, T => by
    rw [tlN]
    have ih := tlN_le f q l (if f s then T.set (pop s) (T.getD (pop s) 0 + 1) else T)
    rw [List.length_cons]
    have : (if f s then T.set (pop s) (T.getD (pop s) 0 + 1) else T).getD q 0 ≤ T.getD q 0 + 1 := by
      split
      · simp only [List.getD_eq_getElem?_getD, List.getElem?_set]
        split
        · rename_i h
          subst h
          split
          · exact Nat.le_refl _
          · exact Nat.zero_le _
        · exact Nat.le_succ _
      · exact Nat.le_succ _
    omega
theorem its_len (C : Nat) : ∀ n s, (its C n s).length = n
  | 0, _ => rfl
  | n + 1, s => by rw [its, List.length_cons, its_len]
theorem abF_le {T : List Nat} {c z : Nat} (hc : c ≤ 10) (hz : z ≤ 10) (hT : ∀ q, T.getD q 0 ≤ 1024) : ∀ q, q ≤ z + 1 → abF T c z q ≤ q * (1024 * 10 ^ 10)
  | 0, _ => Nat.zero_le _
  | q + 1, hq => by
    rw [abF, Nat.succ_mul]
    have ih := abF_le hc hz hT q (by omega)
    have h1 : (10 - c) ^ q ≤ 10 ^ q := Nat.pow_le_pow_left (by omega) q
    have h2 : c ^ (z - q) ≤ 10 ^ (z - q) := Nat.pow_le_pow_left hc _
    have h3 : 10 ^ q * 10 ^ (z - q) ≤ 10 ^ 10 := by
      rw [← Nat.pow_add]; exact Nat.pow_le_pow_right (by decide) (by omega)
    have h4 : T.getD q 0 * (10 - c) ^ q * c ^ (z - q) ≤ 1024 * 10 ^ 10 := by
      rw [Nat.mul_assoc]
      exact Nat.mul_le_mul (hT q) (Nat.le_trans (Nat.mul_le_mul h1 h2) h3)
    exact Nat.add_le_add ih h4
/-- the rules on which it lies -/
abbrev aW.ch (a : aW) : Nat := stN a.rs (kds a.rs) a.ls a.ls.length &&& a.on
abbrev aW.ta (a : aW) (m : Nat) : List Nat := tlN (fun s => decide ((a.mL s).length ≤ m)) (its a.ch (2 ^ pop a.ch) a.ch) (List.replicate 11 0)
abbrev aW.up (a : aW) (m c : Nat) : Nat := abF (a.ta m) c (pop a.ch) (pop a.ch + 1)
def vOdds (a : aW) (m c w : Int32) : Int64 := match ix m 361, ix c 11, ix w 2 with
  | some m, some c, some j => if j = 0 then lN (a.up m c / Nat.gcd (10 ^ pop a.ch) (a.up m c)) else lN (10 ^ pop a.ch / Nat.gcd (10 ^ pop a.ch) (a.up m c))
  | _, _, _ => - lN 1
theorem ta_le (a : aW) (m q : Nat) : (a.ta m).getD q 0 ≤ 1024 := by
  have h := tlN_le (fun s => decide ((a.mL s).length ≤ m)) q (its a.ch (2 ^ pop a.ch) a.ch) (List.replicate 11 0)
  rw [its_len] at h
  have h2 : 2 ^ pop a.ch ≤ 2 ^ 10 := Nat.pow_le_pow_right (by decide) (pop_le _)
  have h3 : (List.replicate 11 0).getD q 0 = 0 := by
    rw [List.getD_eq_getElem?_getD, List.getElem?_replicate]; split <;> rfl
  rw [h3, Nat.zero_add] at h
  exact Nat.le_trans h h2
section ODD
variable {sh : pmS} {M : pmM} {N : pmN} {Q : pmPost} {k : Nat} {a : aW}
theorem odds_loop {m c j : Nat} (hc : c ≤ 10) (hb : isApp sh k) (ht : rowIs M (k + 312) ((a.ta m).map nI)) (v1 v3 v4 : Value)
    (kk : ∀ v8 v9 v10 v11 : Value, pmIsL v8 = false → PW mX10_longOdds 138 [.ref k, v1, .int (nI c), .int (nI j), v4, .int (nI (pop a.ch)), .long (lN (a.up m c)), .null, v8, v9, v10, v11] [] sh M N Q) :
    ∀ (d q : Nat) (v9 v10 v11 : Value), q + d = pop a.ch + 1 → PW mX10_longOdds 88 [.ref k, v1, .int (nI c), .int (nI j), v4, .int (nI (pop a.ch)), .long (lN (abF (a.ta m) c (pop a.ch) q)), .null, .int (nI q), v9, v10, v11] [] sh M N Q := by
  have b0 := hb.1
  have b8 := hb.2.2.2.2.2.2.2.2.1
  have b8' := b8.1
  have hp := pop_le a.ch
  have htl : (a.ta m).length = 11 := by rw [tlN_len]; rfl
  intro d
  induction d with
  | zero =>
    intro q v9 v10 v11 hq
    have : q = pop a.ch + 1 := by omega
    subst this
    refine pw_iload 90 rfl rfl rfl ?_
    refine pw_iload 92 rfl rfl rfl ?_
    refine pw_icmp_gt_t 138 rfl rfl (nI_lt (by omega) (by omega)) ?_
    exact kk _ _ _ _ rfl
  | succ d ih =>
    intro q v9 v10 v11 hq
    have hta := ta_le a m q
    refine pw_iload 90 rfl rfl rfl ?_
    refine pw_iload 92 rfl rfl rfl ?_
    refine pw_icmp_gt_f 95 rfl rfl (nI_nlt (by omega) (by omega)) ?_
    refine pw_lload 97 rfl rfl rfl ?_
    refine pw_aload_n 98 rfl rfl rfl ?_
    refine pw_getR 101 rfl rfl (by first | assumption | exact ⟨by decide, rfl⟩) rfl ?_
    refine pw_iload 103 rfl rfl rfl ?_
    refine pw_cV1 106 rfl rfl (by first | assumption | exact ⟨by decide, rfl⟩) rfl (Nat.le_of_ble_eq_true rfl) rfl rfl (Nat.le_of_ble_eq_true rfl) (c_Row_get b8 ht (by rw [List.length_map]; omega) _ ?_)
    rw [gI_n (by omega), getD_mapN]
    refine pw_pI ?_
    refine pw_i2l 107 rfl rfl ?_
    rw [nI_l (by omega)]
    refine pw_bipush (v := nI 10) 109 rfl rfl (by decide) ?_
    refine pw_iload_n 110 rfl rfl rfl ?_
    first | refine pw_isubN 111 rfl rfl (by with_reducible rfl) (by with_reducible rfl) (by omega) ?_ | refine pw_isub 111 rfl rfl ?_
    refine pw_i2l 112 rfl rfl ?_
    rw [nI_l (by omega)]
    refine pw_iload 114 rfl rfl rfl ?_
    refine pw_cS2 117 rfl rfl rfl (Nat.le_of_ble_eq_true rfl) rfl rfl (Nat.le_of_ble_eq_true rfl) (c_power (by omega) ?_)
    refine pw_pJ ?_
    refine pw_lmul 118 rfl rfl ?_
    rw [lN_mul]
    refine pw_iload_n 119 rfl rfl rfl ?_
    refine pw_i2l 120 rfl rfl ?_
    rw [nI_l (by omega)]
    refine pw_iload 122 rfl rfl rfl ?_
    refine pw_iload 124 rfl rfl rfl ?_
    first | refine pw_isubN 125 rfl rfl (by with_reducible rfl) (by with_reducible rfl) (by omega) ?_ | refine pw_isub 125 rfl rfl ?_
    refine pw_cS2 128 rfl rfl rfl (Nat.le_of_ble_eq_true rfl) rfl rfl (Nat.le_of_ble_eq_true rfl) (c_power (by omega) ?_)
    refine pw_pJ ?_
    refine pw_lmul 129 rfl rfl ?_
    refine pw_ladd 130 rfl rfl ?_
    rw [lN_mul, lN_add]
    refine pw_lstore6 132 rfl rfl rfl ?_
    first | refine pw_iincN8 135 rfl rfl rfl (by with_reducible rfl) ?_ | refine pw_iinc8 (w := _) 135 rfl rfl rfl rfl ?_
    refine pw_goto rfl 88 rfl ?_
    exact ih (q + 1) _ _ _ (by omega)
theorem c_longOdds {m c w : Int32} (hb : isApp sh k) (hw : wfW a) (hx : appIs M N k a) (kk : pst k sh M N Q (.long (vOdds a m c w)) a) : PW mX10_longOdds 0 [.ref k, .int m, .int c, .int w, .null, .null, .null, .null, .null, .null, .null, .null] [] sh M N Q := by
  have hb0 := hb
  obtain ⟨b0, b1, b2, b3, b4, b5, b6, b7, b8, b9, b10⟩ := hb
  have s0 := b2.1
  have s1 := b2.2.1.1
  have s2 := b2.2.1.2
  have s3 := b2.2.2.1
  have wk0 := b6.1
  have hm := hx.2.1.1
  have hbk : bookIs M (k + 11) a.rs := hx.2.1.2.1
  have hon := wf_on hw hx
  have hch : a.ch < 1024 := Nat.lt_of_le_of_lt Nat.and_le_right hon
  have hpc := pop_le a.ch
  unfold vOdds at kk
  have bad : pst k sh M N Q (.long (- lN 1)) a → PW mX10_longOdds 27 [.ref k, .int m, .int c, .int w, .null, .null, .null, .null, .null, .null, .null, .null] [] sh M N Q := by
    intro kk
    refine pw_ldc2_w (v := - lN 1) 30 rfl rfl rfl ?_
    exact pw_lret rfl (kk.at hx)
  refine pw_iload_n 1 rfl rfl rfl ?_
  refine pw_sipush (v := nI 361) 4 rfl rfl (by decide) ?_
  refine pw_cS2 7 rfl rfl rfl (Nat.le_of_ble_eq_true rfl) rfl rfl (Nat.le_of_ble_eq_true rfl) (c_isWithin (by decide) (fun m' hm' e => ?_) (fun hn => ?_))
  · refine pw_pI ?_
    subst e
    rw [ix_some hm' (by decide)] at kk
    skip
    refine pw_if_eq_f 10 rfl rfl (by decide) ?_
    refine pw_iload_n 11 rfl rfl rfl ?_
    refine pw_bipush (v := nI 11) 13 rfl rfl (by decide) ?_
    refine pw_cS2 16 rfl rfl rfl (Nat.le_of_ble_eq_true rfl) rfl rfl (Nat.le_of_ble_eq_true rfl) (c_isWithin (by decide) (fun c' hc' e => ?_) (fun hn => ?_))
    · refine pw_pI ?_
      subst e
      rw [ix_some hc' (by decide)] at kk
      skip
      refine pw_if_eq_f 19 rfl rfl (by decide) ?_
      refine pw_iload_n 20 rfl rfl rfl ?_
      refine pw_iconst (v := nI 2) 21 rfl rfl (by decide) ?_
      refine pw_cS2 24 rfl rfl rfl (Nat.le_of_ble_eq_true rfl) rfl rfl (Nat.le_of_ble_eq_true rfl) (c_isWithin (by decide) (fun j hj e => ?_) (fun hn => ?_))
      · refine pw_pI ?_
        subst e
        rw [ix_some hj (by decide)] at kk
        simp only at kk
        skip
        refine pw_if_ne_t 31 rfl rfl (by decide) ?_
        refine pw_aload_n 32 rfl rfl rfl ?_
        refine pw_getR 35 rfl rfl (by first | assumption | exact ⟨by decide, rfl⟩) rfl ?_
        refine pw_aload_n 36 rfl rfl rfl ?_
        refine pw_getR 39 rfl rfl (by first | assumption | exact ⟨by decide, rfl⟩) rfl ?_
        refine pw_getR 42 rfl rfl (by first | assumption | exact ⟨by decide, rfl⟩) rfl ?_
        refine pw_getR 45 rfl rfl (by first | assumption | exact ⟨by decide, rfl⟩) rfl ?_
        refine pw_cV1 48 rfl rfl (by first | assumption | exact ⟨by decide, rfl⟩) rfl (Nat.le_of_ble_eq_true rfl) rfl rfl (Nat.le_of_ble_eq_true rfl) (c_prepare b6 s3 hbk (by omega) s2 hm.1 hm.2.2.1 (by omega) hm.2.2.1 (fun M1 f1 r1 => ?_))
        refine pw_pV ?_
        have hx1 := hx.scr f1 (by omega) (by omega)
        refine pw_aload_n 49 rfl rfl rfl ?_
        refine pw_getR 52 rfl rfl (by first | assumption | exact ⟨by decide, rfl⟩) rfl ?_
        refine pw_cV0 55 rfl rfl (by first | assumption | exact ⟨by decide, rfl⟩) rfl (Nat.le_of_ble_eq_true rfl) rfl rfl (Nat.le_of_ble_eq_true rfl) (c_standing b6 r1 hm.2.2.1 ?_)
        refine pw_pI ?_
        refine pw_aload_n 56 rfl rfl rfl ?_
        refine pw_getR 59 rfl rfl (by first | assumption | exact ⟨by decide, rfl⟩) rfl ?_
        refine pw_getR 62 rfl rfl (by first | assumption | exact ⟨by decide, rfl⟩) rfl ?_
        refine pw_getI 65 rfl rfl (by first | assumption | exact ⟨by decide, rfl⟩) rfl ?_
        rw [show M1 (k + 4 + 1) 1 = nI a.on from hx1.2.1.1.2.1]
        refine pw_iand 66 rfl rfl ?_
        rw [and_v]
        refine pw_istore4 68 rfl rfl rfl ?_
        refine pw_aload_n 69 rfl rfl rfl ?_
        refine pw_iload_n 70 rfl rfl rfl ?_
        refine pw_iload 72 rfl rfl rfl ?_
        refine pw_cV2 75 rfl rfl (by first | assumption | exact ⟨by decide, rfl⟩) rfl (Nat.le_of_ble_eq_true rfl) rfl rfl (Nat.le_of_ble_eq_true rfl) (c_tally (m := m') (by omega) hch hb0 hw hx1 r1 (fun M2 f2 r2 => ?_))
        refine pw_pV ?_
        have hx2 := hx1.scr f2 (by omega) (by omega)
        have f12 := (f1.wk (c := k) (d := k + 323) (by omega) (by omega)).tr (f2.wk (by omega) (by omega))
        refine pw_iload 77 rfl rfl rfl ?_
        refine pw_cS1 80 rfl rfl rfl (Nat.le_of_ble_eq_true rfl) rfl rfl (Nat.le_of_ble_eq_true rfl) (c_bitCount hch ?_)
        refine pw_pI ?_
        refine pw_istore5 82 rfl rfl rfl ?_
        refine pw_lconst (v := lN 0) 83 rfl rfl (by decide) ?_
        refine pw_lstore6 85 rfl rfl rfl ?_
        refine pw_iconst (v := nI 0) 86 rfl rfl (by decide) ?_
        refine pw_istore8 88 rfl rfl rfl ?_
        refine odds_loop (a := a) (m := m') (by omega) hb0 r2 _ .null _ (fun v8 v9 v10 v11 h8 => ?_) (pop a.ch + 1) 0 _ _ _ (Nat.zero_add _)
        have hup : a.up m' c' ≤ 11 * (1024 * 10 ^ 10) := Nat.le_trans (abF_le (by omega) hpc (ta_le a m') _ (Nat.le_refl _)) (Nat.mul_le_mul_right _ (by omega))
        have hlow : 10 ^ pop a.ch ≤ 10 ^ 10 := Nat.pow_le_pow_right (by decide) hpc
        have hlow0 : 0 < 10 ^ pop a.ch := Nat.pow_pos (by decide)
        have hg0 : 0 < Nat.gcd (10 ^ pop a.ch) (a.up m' c') := Nat.gcd_pos_of_pos_left _ hlow0
        have hgle : Nat.gcd (10 ^ pop a.ch) (a.up m' c') ≤ 10 ^ pop a.ch := Nat.gcd_le_left _ hlow0
        refine pw_ldc2_w (v := lN 10) 141 rfl rfl rfl ?_
        refine pw_iload 143 rfl rfl rfl ?_
        refine pw_cS2 146 rfl rfl rfl (Nat.le_of_ble_eq_true rfl) rfl rfl (Nat.le_of_ble_eq_true rfl) (c_power (bs := 10) (by omega) ?_)
        refine pw_pJ ?_
        refine pw_lstore8 148 rfl rfl rfl ?_
        refine pw_lload 150 rfl rfl rfl ?_
        refine pw_lload 152 rfl rfl rfl ?_
        refine pw_cS2 155 rfl rfl rfl (Nat.le_of_ble_eq_true rfl) rfl rfl (Nat.le_of_ble_eq_true rfl) (c_commonDivisor (a := a.up m' c') (b := 10 ^ pop a.ch) (by omega) (by omega) (by omega) ?_)
        refine pw_pJ ?_
        refine pw_lstore10 157 rfl rfl rfl ?_
        refine pw_lload 159 rfl rfl rfl ?_
        refine pw_lconst (v := lN 0) 160 rfl rfl (by decide) ?_
        refine pw_lcmp 161 rfl rfl ?_
        refine pw_if_ne_t 168 rfl rfl (fun e => by have := (lg_cmp0 (by omega)).mp e; omega) ?_
        rcases (show j = 0 ∨ j = 1 by omega) with rfl | rfl
        · rw [if_pos rfl] at kk
          refine pw_iload_n 169 rfl rfl rfl ?_
          refine pw_if_ne_f 172 rfl rfl (by decide) ?_
          refine pw_lload 174 rfl rfl rfl ?_
          refine pw_lload 176 rfl rfl rfl ?_
          refine pw_ldiv 177 rfl rfl (fun e => by have := (pk_lEQ (b := 0) (by omega) (by decide)).mp e; omega) ?_
          rw [pk_lDiv (by omega) hg0 (by omega)]
          refine pw_goto rfl 185 rfl ?_
          exact pw_lret rfl (kk.go f12 hx2)
        · rw [if_neg (by decide)] at kk
          refine pw_iload_n 169 rfl rfl rfl ?_
          refine pw_if_ne_t 180 rfl rfl (by decide) ?_
          refine pw_lload 182 rfl rfl rfl ?_
          refine pw_lload 184 rfl rfl rfl ?_
          refine pw_ldiv 185 rfl rfl (fun e => by have := (pk_lEQ (b := 0) (by omega) (by decide)).mp e; omega) ?_
          rw [pk_lDiv (by omega) hg0 (by omega)]
          skip
          exact pw_lret rfl (kk.go f12 hx2)
      · refine pw_pI ?_
        rw [ix_none hn] at kk
        skip
        refine pw_if_ne_f 27 rfl rfl (by decide) ?_
        exact bad kk
    · refine pw_pI ?_
      rw [ix_none hn] at kk
      skip
      refine pw_if_eq_t 27 rfl rfl (by decide) ?_
      exact bad kk
  · refine pw_pI ?_
    rw [ix_none hn] at kk
    skip
    refine pw_if_eq_t 27 rfl rfl (by decide) ?_
    exact bad kk
end ODD
