/-! THE REFERENCE: longOdds -/
section PWX
variable {mi pc len a b c : Nat} {ls st : List Value} {sh : pmS} {M : pmM} {N : pmN} {Q : pmPost}
theorem pw_lstore12 {x : Nat} {v : Int64} {y0 y1 y2 y3 y4 y5 y6 y7 y8 y9 y10 y11 z z2 : Value} {t : List Value} (q : Nat) (h : pmCode mi pc = some (.lstore x, len, 12, b, c)) (hp : pc + len = q) (hL : pmIsL y11 = false) (k : PW mi q (y0 :: y1 :: y2 :: y3 :: y4 :: y5 :: y6 :: y7 :: y8 :: y9 :: y10 :: y11 :: .long v :: .null :: t) (st) sh M N Q) : PW mi pc (y0 :: y1 :: y2 :: y3 :: y4 :: y5 :: y6 :: y7 :: y8 :: y9 :: y10 :: y11 :: z :: z2 :: t) (.long v :: st) sh M N Q := pw_ex h rfl (by simp [pmEx, pmPut2, pmPut, hL]) q hp k
end PWX
theorem wP_le {x y D T : Nat} (hx : x ≤ 10) (hy : y ≤ 10) : ∀ b, wP x y D T b ≤ 10 ^ b
  | 0 => Nat.le_refl _
  | b + 1 => by
    rw [wP, Nat.pow_succ]
    refine Nat.mul_le_mul (wP_le hx hy b) ?_
    split
    · split <;> assumption
    · decide
theorem gcd_div {x y z : Nat} (hz : 0 < z) : x * z / Nat.gcd (y * z) (x * z) = x / Nat.gcd y x ∧ y * z / Nat.gcd (y * z) (x * z) = y / Nat.gcd y x := by
  rw [Nat.gcd_mul_right]
  exact ⟨Nat.mul_div_mul_right _ _ hz, Nat.mul_div_mul_right _ _ hz⟩
/-- the sum over the numbers below one -/
def uS (h : Nat → Nat) : Nat → Nat
  | 0 => 0
  | n + 1 => uS h n + h n
theorem uS_sL (h : Nat → Nat) : ∀ n, sL h (List.range n) = uS h n
  | 0 => rfl
  | n + 1 => by rw [List.range_succ, sL_app, uS_sL h n, uS]; rfl
section MOD
variable {sh : pmS} {M : pmM} {N : pmN} {Q : pmPost} {k : Nat} {a : aW}
theorem low_loop {m c w : Nat} (hb : isMod sh k) (hw : wfW a) (ho : okW a) (hx : modIs M N k a)
    (kk : PW mX11_longOdds 94 [.ref k, .int (nI m), .int (nI c), .int (nI w), .long (lN 0), .null, .long (lN (10 ^ pb a.on a.rs.length)), .null, .int (nI a.rs.length), .null, .null, .null, .null, .null] [] sh M N Q) :
    ∀ (d j : Nat), j + d = a.rs.length → PW mX11_longOdds 51 [.ref k, .int (nI m), .int (nI c), .int (nI w), .long (lN 0), .null, .long (lN (10 ^ pb a.on j)), .null, .int (nI j), .null, .null, .null, .null, .null] [] sh M N Q := by
  have hb0 := hb
  obtain ⟨b0, a1, a2, a3, a4, a5, a6, a7, a8, a9, a10, a11, a12, a13, a14, a15, a16, a17, a18, a19, a20⟩ := hb
  have hon := on_1024 hw ho
  have h10 : a.rs.length ≤ 10 := ho.1.2.1.1
  have hr0 : M (k + 2) 0 = nI a.rs.length := hx.2.1.1
  have ho1 : M (k + 3) 1 = nI a.on := hx.2.2.1.ln.2.1
  intro d
  induction d with
  | zero =>
    intro j hj
    have : j = a.rs.length := by omega
    subst this
    refine pw_iload 53 rfl rfl rfl ?_
    refine pw_aload_n 54 rfl rfl rfl ?_
    refine pw_getR 57 rfl rfl (by first | assumption | exact ⟨by decide, rfl⟩) rfl ?_
    refine pw_iconst (v := nI 0) 58 rfl rfl (by decide) ?_
    refine pw_iald _ 59 rfl rfl (by first | assumption | exact ⟨by decide, rfl, by decide⟩) (by with_reducible rfl) (by first | assumption | omega) ?_
    rw [hr0]
    refine pw_icmp_ge_t 94 rfl rfl (nI_le (Nat.le_refl _) (by omega)) ?_
    exact kk
  | succ d ih =>
    intro j hj
    have hj1 : j < a.rs.length := by omega
    have ih1 := ih (j + 1) (by omega)
    rw [pb] at ih1
    refine pw_iload 53 rfl rfl rfl ?_
    refine pw_aload_n 54 rfl rfl rfl ?_
    refine pw_getR 57 rfl rfl (by first | assumption | exact ⟨by decide, rfl⟩) rfl ?_
    refine pw_iconst (v := nI 0) 58 rfl rfl (by decide) ?_
    refine pw_iald _ 59 rfl rfl (by first | assumption | exact ⟨by decide, rfl, by decide⟩) (by with_reducible rfl) (by first | assumption | omega) ?_
    rw [hr0]
    refine pw_icmp_ge_f 62 rfl rfl (nI_ge hj1 (by omega)) ?_
    refine pw_lload 64 rfl rfl rfl ?_
    refine pw_aload_n 65 rfl rfl rfl ?_
    refine pw_getR 68 rfl rfl (by first | assumption | exact ⟨by decide, rfl⟩) rfl ?_
    refine pw_iconst (v := nI 1) 69 rfl rfl (by decide) ?_
    refine pw_iald _ 70 rfl rfl (by first | assumption | exact ⟨by decide, rfl, by decide⟩) (by with_reducible rfl) (by first | assumption | omega) ?_
    refine pw_iload 72 rfl rfl rfl ?_
    rw [ho1]
    refine pw_cS2 75 rfl rfl rfl (Nat.le_of_ble_eq_true rfl) rfl rfl (Nat.le_of_ble_eq_true rfl) (c_has hon (by omega) ?_)
    refine pw_pI ?_
    by_cases q : a.on.testBit j = true
    · rw [if_pos q]
      rw [if_pos q, Nat.pow_succ] at ih1
      skip
      refine pw_if_eq_f 78 rfl rfl (by decide) ?_
      refine pw_ldc2_w (v := lN 10) 81 rfl rfl rfl ?_
      refine pw_goto rfl 85 rfl ?_
      refine pw_lmul 86 rfl rfl ?_
      rw [lN_mul]
      refine pw_lstore6 88 rfl rfl rfl ?_
      first | refine pw_iincN8 91 rfl rfl rfl (by with_reducible rfl) ?_ | refine pw_iinc8 (w := _) 91 rfl rfl rfl rfl ?_
      refine pw_goto rfl 51 rfl ?_
      exact ih1
    · rw [if_neg q]
      rw [if_neg q, Nat.add_zero] at ih1
      skip
      refine pw_if_eq_t 84 rfl rfl (by decide) ?_
      refine pw_lconst (v := lN 1) 85 rfl rfl (by decide) ?_
      refine pw_lmul 86 rfl rfl ?_
      rw [lN_mul, Nat.mul_one]
      refine pw_lstore6 88 rfl rfl rfl ?_
      first | refine pw_iincN8 91 rfl rfl rfl (by with_reducible rfl) ?_ | refine pw_iinc8 (w := _) 91 rfl rfl rfl rfl ?_
      refine pw_goto rfl 51 rfl ?_
      exact ih1
theorem weight_loop {m c w T U lo : Nat} (hb : isMod sh k) (hw : wfW a) (ho : okW a) (hx : modIs M N k a) (hT : T < 1024) (hc : c ≤ 10)
    (kk : PW mX11_longOdds 190 [.ref k, .int (nI m), .int (nI c), .int (nI w), .long (lN U), .null, .long (lN lo), .null, .int (nI T), .long (lN (wP (10 - c) c a.on T a.rs.length)), .null, .int (nI a.rs.length), .null, .null] [] sh M N Q) :
    ∀ (d j : Nat), j + d = a.rs.length → PW mX11_longOdds 130 [.ref k, .int (nI m), .int (nI c), .int (nI w), .long (lN U), .null, .long (lN lo), .null, .int (nI T), .long (lN (wP (10 - c) c a.on T j)), .null, .int (nI j), .null, .null] [] sh M N Q := by
  have hb0 := hb
  obtain ⟨b0, a1, a2, a3, a4, a5, a6, a7, a8, a9, a10, a11, a12, a13, a14, a15, a16, a17, a18, a19, a20⟩ := hb
  have hon := on_1024 hw ho
  have h10 : a.rs.length ≤ 10 := ho.1.2.1.1
  have hr0 : M (k + 2) 0 = nI a.rs.length := hx.2.1.1
  have ho1 : M (k + 3) 1 = nI a.on := hx.2.2.1.ln.2.1
  intro d
  induction d with
  | zero =>
    intro j hj
    have : j = a.rs.length := by omega
    subst this
    refine pw_iload 132 rfl rfl rfl ?_
    refine pw_aload_n 133 rfl rfl rfl ?_
    refine pw_getR 136 rfl rfl (by first | assumption | exact ⟨by decide, rfl⟩) rfl ?_
    refine pw_iconst (v := nI 0) 137 rfl rfl (by decide) ?_
    refine pw_iald _ 138 rfl rfl (by first | assumption | exact ⟨by decide, rfl, by decide⟩) (by with_reducible rfl) (by first | assumption | omega) ?_
    rw [hr0]
    refine pw_icmp_ge_t 190 rfl rfl (nI_le (Nat.le_refl _) (by omega)) ?_
    exact kk
  | succ d ih =>
    intro j hj
    have hj1 : j < a.rs.length := by omega
    have ih1 := ih (j + 1) (by omega)
    rw [wP] at ih1
    refine pw_iload 132 rfl rfl rfl ?_
    refine pw_aload_n 133 rfl rfl rfl ?_
    refine pw_getR 136 rfl rfl (by first | assumption | exact ⟨by decide, rfl⟩) rfl ?_
    refine pw_iconst (v := nI 0) 137 rfl rfl (by decide) ?_
    refine pw_iald _ 138 rfl rfl (by first | assumption | exact ⟨by decide, rfl, by decide⟩) (by with_reducible rfl) (by first | assumption | omega) ?_
    rw [hr0]
    refine pw_icmp_ge_f 141 rfl rfl (nI_ge hj1 (by omega)) ?_
    refine pw_lload 143 rfl rfl rfl ?_
    refine pw_aload_n 144 rfl rfl rfl ?_
    refine pw_getR 147 rfl rfl (by first | assumption | exact ⟨by decide, rfl⟩) rfl ?_
    refine pw_iconst (v := nI 1) 148 rfl rfl (by decide) ?_
    refine pw_iald _ 149 rfl rfl (by first | assumption | exact ⟨by decide, rfl, by decide⟩) (by with_reducible rfl) (by first | assumption | omega) ?_
    refine pw_iload 151 rfl rfl rfl ?_
    rw [ho1]
    refine pw_cS2 154 rfl rfl rfl (Nat.le_of_ble_eq_true rfl) rfl rfl (Nat.le_of_ble_eq_true rfl) (c_has hon (by omega) ?_)
    refine pw_pI ?_
    by_cases q : a.on.testBit j = true
    · rw [if_pos q]
      rw [if_pos q] at ih1
      skip
      refine pw_if_ne_t 161 rfl rfl (by decide) ?_
      refine pw_iload 163 rfl rfl rfl ?_
      refine pw_iload 165 rfl rfl rfl ?_
      refine pw_cS2 168 rfl rfl rfl (Nat.le_of_ble_eq_true rfl) rfl rfl (Nat.le_of_ble_eq_true rfl) (c_has hT (by omega) ?_)
      refine pw_pI ?_
      by_cases q2 : T.testBit j = true
      · rw [if_pos q2]
        rw [if_pos q2] at ih1
        skip
        refine pw_if_eq_f 171 rfl rfl (by decide) ?_
        refine pw_bipush (v := nI 10) 173 rfl rfl (by decide) ?_
        refine pw_iload_n 174 rfl rfl rfl ?_
        first | refine pw_isubN 175 rfl rfl (by with_reducible rfl) (by with_reducible rfl) (by omega) ?_ | refine pw_isub 175 rfl rfl ?_
        refine pw_i2l 176 rfl rfl ?_
        rw [nI_l (by omega)]
        refine pw_goto rfl 181 rfl ?_
        refine pw_lmul 182 rfl rfl ?_
        rw [lN_mul]
        refine pw_lstore9 184 rfl rfl rfl ?_
        first | refine pw_iincN11 187 rfl rfl rfl (by with_reducible rfl) ?_ | refine pw_iinc11 (w := _) 187 rfl rfl rfl rfl ?_
        refine pw_goto rfl 130 rfl ?_
        exact ih1
      · rw [if_neg q2]
        rw [if_neg q2] at ih1
        skip
        refine pw_if_eq_t 179 rfl rfl (by decide) ?_
        refine pw_iload_n 180 rfl rfl rfl ?_
        refine pw_i2l 181 rfl rfl ?_
        rw [nI_l (by omega)]
        refine pw_lmul 182 rfl rfl ?_
        rw [lN_mul]
        refine pw_lstore9 184 rfl rfl rfl ?_
        first | refine pw_iincN11 187 rfl rfl rfl (by with_reducible rfl) ?_ | refine pw_iinc11 (w := _) 187 rfl rfl rfl rfl ?_
        refine pw_goto rfl 130 rfl ?_
        exact ih1
    · rw [if_neg q]
      rw [if_neg q] at ih1
      skip
      refine pw_if_ne_f 157 rfl rfl (fun e => e rfl) ?_
      refine pw_lconst (v := lN 1) 158 rfl rfl (by decide) ?_
      refine pw_goto rfl 181 rfl ?_
      refine pw_lmul 182 rfl rfl ?_
      rw [lN_mul]
      refine pw_lstore9 184 rfl rfl rfl ?_
      first | refine pw_iincN11 187 rfl rfl rfl (by with_reducible rfl) ?_ | refine pw_iinc11 (w := _) 187 rfl rfl rfl rfl ?_
      refine pw_goto rfl 130 rfl ?_
      exact ih1
/-- what a set brings to the sum -/
def oT (a : aW) (m c T : Nat) : Nat := (if T &&& a.on = T then wP (10 - c) c a.on T a.rs.length else 0) * (if oF a m T then 1 else 0)
theorem oT_le {m c : Nat} (ho : okW a) (hc : c ≤ 10) (T : Nat) : oT a m c T ≤ 10 ^ 10 := by
  have h10 : a.rs.length ≤ 10 := ho.1.2.1.1
  have h1 := wP_le (x := 10 - c) (y := c) (D := a.on) (T := T) (by omega) hc a.rs.length
  have h2 : 10 ^ a.rs.length ≤ 10 ^ 10 := Nat.pow_le_pow_right (by decide) h10
  unfold oT
  split
  · split
    · omega
    · rw [Nat.mul_zero]; exact Nat.zero_le _
  · rw [Nat.zero_mul]; exact Nat.zero_le _
theorem uS_le {m c : Nat} (ho : okW a) (hc : c ≤ 10) : ∀ n, uS (oT a m c) n ≤ n * 10 ^ 10
  | 0 => Nat.zero_le _
  | n + 1 => by
    have h1 := uS_le (m := m) ho hc n
    have h2 := oT_le (m := m) ho hc n
    rw [uS, Nat.succ_mul]
    omega
theorem sets_loop {m c w lo : Nat} (hm : m ≤ 360) (hb : isMod sh k) (hw : wfW a) (ho : okW a) (hx : modIs M N k a) (hc : c ≤ 10)
    (kk : ∀ M', fr k (k + 21) M M' → modIs M' N k a → ∀ v9 v10 v11 : Value, PW mX11_longOdds 233 [.ref k, .int (nI m), .int (nI c), .int (nI w), .long (lN (uS (oT a m c) (2 ^ a.rs.length))), .null, .long (lN lo), .null, .int (nI (2 ^ a.rs.length)), v9, v10, v11, .null, .null] [] sh M' N Q) :
    ∀ (d T : Nat) (M1 : pmM) (v9 v10 v11 : Value), T + d = 2 ^ a.rs.length → fr k (k + 21) M M1 → modIs M1 N k a → (∀ r, r < a.rs.length → M1 (k + 19) r = nI ((kds a.rs).getD r 0)) → PW mX11_longOdds 97 [.ref k, .int (nI m), .int (nI c), .int (nI w), .long (lN (uS (oT a m c) T)), .null, .long (lN lo), .null, .int (nI T), v9, v10, v11, .null, .null] [] sh M1 N Q := by
  have hb0 := hb
  obtain ⟨b0, a1, a2, a3, a4, a5, a6, a7, a8, a9, a10, a11, a12, a13, a14, a15, a16, a17, a18, a19, a20⟩ := hb
  have hon := on_1024 hw ho
  have h10 : a.rs.length ≤ 10 := ho.1.2.1.1
  have h2 : 2 ^ a.rs.length ≤ 1024 := Nat.pow_le_pow_right (n := 2) (by decide) h10
  intro d
  induction d with
  | zero =>
    intro T M1 v9 v10 v11 hT hf h1 hk
    have : T = 2 ^ a.rs.length := by omega
    subst this
    have hr0 : M1 (k + 2) 0 = nI a.rs.length := h1.2.1.1
    refine pw_iload 99 rfl rfl rfl ?_
    refine pw_iconst (v := nI 1) 100 rfl rfl (by decide) ?_
    refine pw_aload_n 101 rfl rfl rfl ?_
    refine pw_getR 104 rfl rfl (by first | assumption | exact ⟨by decide, rfl⟩) rfl ?_
    refine pw_iconst (v := nI 0) 105 rfl rfl (by decide) ?_
    refine pw_iald _ 106 rfl rfl (by first | assumption | exact ⟨by decide, rfl, by decide⟩) (by with_reducible rfl) (by first | assumption | omega) ?_
    refine pw_ishl 107 rfl rfl ?_
    rw [hr0, shl_v _ (by omega)]
    refine pw_icmp_ge_t 233 rfl rfl (nI_le (Nat.le_refl _) (by omega)) ?_
    exact kk M1 hf h1 _ _ _
  | succ d ih =>
    intro T M1 v9 v10 v11 hT hf h1 hk
    have hT1 : T < 1024 := by omega
    have hr0 : M1 (k + 2) 0 = nI a.rs.length := h1.2.1.1
    have ho1 : M1 (k + 3) 1 = nI a.on := h1.2.2.1.ln.2.1
    have hle := uS_le (m := m) ho hc T
    have ho9 := oT_le (m := m) ho hc T
    refine pw_iload 99 rfl rfl rfl ?_
    refine pw_iconst (v := nI 1) 100 rfl rfl (by decide) ?_
    refine pw_aload_n 101 rfl rfl rfl ?_
    refine pw_getR 104 rfl rfl (by first | assumption | exact ⟨by decide, rfl⟩) rfl ?_
    refine pw_iconst (v := nI 0) 105 rfl rfl (by decide) ?_
    refine pw_iald _ 106 rfl rfl (by first | assumption | exact ⟨by decide, rfl, by decide⟩) (by with_reducible rfl) (by first | assumption | omega) ?_
    refine pw_ishl 107 rfl rfl ?_
    rw [hr0, shl_v _ (by omega)]
    refine pw_icmp_ge_f 110 rfl rfl (nI_ge (by omega) (by omega)) ?_
    refine pw_iload 112 rfl rfl rfl ?_
    refine pw_aload_n 113 rfl rfl rfl ?_
    refine pw_getR 116 rfl rfl (by first | assumption | exact ⟨by decide, rfl⟩) rfl ?_
    refine pw_iconst (v := nI 1) 117 rfl rfl (by decide) ?_
    refine pw_iald _ 118 rfl rfl (by first | assumption | exact ⟨by decide, rfl, by decide⟩) (by with_reducible rfl) (by first | assumption | omega) ?_
    refine pw_iconst (v := (-1)) 119 rfl rfl (by decide) ?_
    refine pw_ixor 120 rfl rfl ?_
    refine pw_iand 121 rfl rfl ?_
    rw [ho1]
    have hsub : nI T &&& (nI a.on ^^^ (-1)) = 0 ↔ T &&& a.on = T := by
      rw [and_not, and_v, nI_eq (by omega) (Nat.lt_of_le_of_lt Nat.and_le_left (by omega))]
      exact ⟨fun h => h.symm, fun h => h.symm⟩
    have skip : oT a m c T = 0 → ∀ (M2 : pmM) (v9 v10 v11 : Value), fr k (k + 21) M M2 → modIs M2 N k a → (∀ r, r < a.rs.length → M2 (k + 19) r = nI ((kds a.rs).getD r 0)) → PW mX11_longOdds 227 [.ref k, .int (nI m), .int (nI c), .int (nI w), .long (lN (uS (oT a m c) T)), .null, .long (lN lo), .null, .int (nI T), v9, v10, v11, .null, .null] [] sh M2 N Q := by
      intro e0 M2 v9 v10 v11 hf2 h2' hk2
      have ih1 := ih (T + 1) M2 v9 v10 v11 (by omega) hf2 h2' hk2
      rw [uS, e0, Nat.add_zero] at ih1
      first | refine pw_iincN8 230 rfl rfl rfl (by with_reducible rfl) ?_ | refine pw_iinc8 (w := _) 230 rfl rfl rfl rfl ?_
      refine pw_goto rfl 97 rfl ?_
      exact ih1
    by_cases q : T &&& a.on = T
    · have hwle := wP_le (x := 10 - c) (y := c) (D := a.on) (T := T) (by omega) hc a.rs.length
      have hwle2 : 10 ^ a.rs.length ≤ 10 ^ 10 := Nat.pow_le_pow_right (by decide) h10
      skip
      refine pw_if_ne_f 124 rfl rfl (fun e => e (hsub.mpr q)) ?_
      refine pw_lconst (v := lN 1) 125 rfl rfl (by decide) ?_
      refine pw_lstore9 127 rfl rfl rfl ?_
      refine pw_iconst (v := nI 0) 128 rfl rfl (by decide) ?_
      refine pw_istore11 130 rfl rfl rfl ?_
      refine weight_loop hb0 hw ho h1 hT1 hc ?_ _ 0 (Nat.zero_add _)
      by_cases q0 : wP (10 - c) c a.on T a.rs.length = 0
      · have e0 : oT a m c T = 0 := by unfold oT; rw [if_pos q, q0, Nat.zero_mul]
        rw [q0]
        refine pw_lload 192 rfl rfl rfl ?_
        refine pw_lconst (v := lN 0) 193 rfl rfl (by decide) ?_
        refine pw_lcmp 194 rfl rfl ?_
        refine pw_if_le_t 227 rfl rfl (by decide) ?_
        exact skip e0 M1 _ _ _ hf h1 hk
      · have hpos : 0 < lg_cmp (lN (wP (10 - c) c a.on T a.rs.length)) (lN 0) := (lg_cmpG _ _).mpr ((pk_lLT (by decide) (by omega)).mpr (by omega))
        refine pw_lload 192 rfl rfl rfl ?_
        refine pw_lconst (v := lN 0) 193 rfl rfl (by decide) ?_
        refine pw_lcmp 194 rfl rfl ?_
        refine pw_if_le_f 197 rfl rfl (Int32.not_le.mpr hpos) ?_
        refine pw_aload_n 198 rfl rfl rfl ?_
        refine pw_aload_n 199 rfl rfl rfl ?_
        refine pw_getR 202 rfl rfl (by first | assumption | exact ⟨by decide, rfl⟩) rfl ?_
        refine pw_iload 204 rfl rfl rfl ?_
        have h360 := mL_360 ho (T &&& a.on)
        refine pw_cV2 207 rfl rfl (by first | assumption | exact ⟨by decide, rfl⟩) rfl (Nat.le_of_ble_eq_true rfl) rfl rfl (Nat.le_of_ble_eq_true rfl) (c_goesOver (rs := a.rs) (ls := a.ls) (ss := a.ss) (st := T) (s := T &&& a.on) (on := a.on) (kd := kds a.rs) hb0 a3 (Or.inl rfl) h1.2.1 ho.1.2.1.2 h10 h1.2.2.1.ln ho.1.1.1 hT1 hon (fun r hr => ⟨hk r hr, kds_all ho.1.2.1.2 hr⟩) (fun r hr => Nat.testBit_and _ _ _) (fun M2 f2 g2 => ?_))
        refine pw_pI ?_
        have h24 : M2 k 24 = nI (a.mL (T &&& a.on)).length := g2.1
        have x2 : modIs M2 N k a := h1.mv (fun j _ _ h => f2.2 j h) (fun x h1 h2 => f2.1 x (by omega) (by omega))
        have f02 : fr k (k + 21) M M2 := fun x hx => by rw [f2.1 x (by omega) (by omega), hf x hx]
        have k2 : ∀ r, r < a.rs.length → M2 (k + 19) r = nI ((kds a.rs).getD r 0) := fun r hr => by rw [f2.1 (k + 19) (by omega) (by omega)]; exact hk r hr
        refine pw_pop 208 rfl rfl rfl ?_
        refine pw_lload 210 rfl rfl rfl ?_
        refine pw_aload_n 211 rfl rfl rfl ?_
        refine pw_getI 214 rfl rfl (by first | assumption | exact ⟨by decide, rfl⟩) rfl ?_
        refine pw_iload_n 215 rfl rfl rfl ?_
        rw [h24]
        by_cases qm : (a.mL (T &&& a.on)).length ≤ m
        · have e1 : oT a m c T = wP (10 - c) c a.on T a.rs.length := by unfold oT oF; rw [if_pos q, decide_eq_true qm, if_pos rfl, Nat.mul_one]
          have ih1 := ih (T + 1) M2 (.long (lN (wP (10 - c) c a.on T a.rs.length))) .null (.int (nI a.rs.length)) (by omega) f02 x2 k2
          rw [uS, e1] at ih1
          skip
          refine pw_icmp_gt_f 218 rfl rfl (nI_nlt qm (by omega)) ?_
          refine pw_lload 220 rfl rfl rfl ?_
          refine pw_goto rfl 224 rfl ?_
          refine pw_ladd 225 rfl rfl ?_
          rw [lN_add]
          refine pw_lstore4 227 rfl rfl rfl ?_
          first | refine pw_iincN8 230 rfl rfl rfl (by with_reducible rfl) ?_ | refine pw_iinc8 (w := _) 230 rfl rfl rfl rfl ?_
          refine pw_goto rfl 97 rfl ?_
          exact ih1
        · have e0 : oT a m c T = 0 := by unfold oT oF; rw [decide_eq_false qm, if_neg (show ¬ false = true by decide), Nat.mul_zero]
          skip
          refine pw_icmp_gt_t 223 rfl rfl (nI_lt (Nat.lt_of_not_le qm) (by omega)) ?_
          refine pw_lconst (v := lN 0) 224 rfl rfl (by decide) ?_
          refine pw_ladd 225 rfl rfl ?_
          rw [lN_add, Nat.add_zero]
          refine pw_lstore4 227 rfl rfl rfl ?_
          exact skip e0 M2 _ _ _ f02 x2 k2
    · have e0 : oT a m c T = 0 := by unfold oT; rw [if_neg q, Nat.zero_mul]
      skip
      refine pw_if_ne_t 227 rfl rfl (fun e => q (hsub.mp e)) ?_
      exact skip e0 M1 _ _ _ hf h1 hk
theorem gcdM_loop {v1 v2 v3 : Value} {U lo : Int64} {g : Nat} (kk : ∀ v12 : Value, PW mX11_longOdds 266 [.ref k, v1, v2, v3, .long U, .null, .long lo, .null, .long (lN g), .null, .long (lN 0), .null, v12, .null] [] sh M N Q) :
    ∀ (f x y : Nat) (v12 : Value), y < f → x < 2 ^ 63 → y < 2 ^ 63 → Nat.gcd y x = g → PW mX11_longOdds 241 [.ref k, v1, v2, v3, .long U, .null, .long lo, .null, .long (lN x), .null, .long (lN y), .null, v12, .null] [] sh M N Q := by
  intro f
  induction f with
  | zero => intro x y v12 h; exact absurd h (Nat.not_lt_zero y)
  | succ f ih =>
    intro x y v12 hy hx hy2 hg
    by_cases q : y = 0
    · subst q
      rw [Nat.gcd_zero_left] at hg
      subst hg
      refine pw_lload 243 rfl rfl rfl ?_
      refine pw_lconst (v := lN 0) 244 rfl rfl (by decide) ?_
      refine pw_lcmp 245 rfl rfl ?_
      refine pw_if_eq_t 266 rfl rfl ((lg_cmp0 (by decide)).mpr rfl) ?_
      exact kk v12
    · refine pw_lload 243 rfl rfl rfl ?_
      refine pw_lconst (v := lN 0) 244 rfl rfl (by decide) ?_
      refine pw_lcmp 245 rfl rfl ?_
      refine pw_if_eq_f 248 rfl rfl (fun e => q ((lg_cmp0 hy2).mp e)) ?_
      refine pw_lload 250 rfl rfl rfl ?_
      refine pw_lload 252 rfl rfl rfl ?_
      refine pw_lrem 253 rfl rfl (fun e => q ((pk_lEQ hy2 (by decide : (0 : Nat) < 2 ^ 63)).mp e)) ?_
      rw [pk_lRem hx (by omega) hy2]
      refine pw_lstore12 255 rfl rfl rfl ?_
      refine pw_lload 257 rfl rfl rfl ?_
      refine pw_lstore8 259 rfl rfl rfl ?_
      refine pw_lload 261 rfl rfl rfl ?_
      refine pw_lstore10 263 rfl rfl rfl ?_
      refine pw_goto rfl 241 rfl ?_
      have hm : x % y < y := Nat.mod_lt x (by omega)
      exact ih y (x % y) _ (by omega) hy2 (by omega) (by rw [← hg]; exact (Nat.gcd_rec y x).symm)
theorem m_odds {m c w : Int32} (hb : isMod sh k) (hw : wfW a) (ho : okW a) (hx : modIs M N k a) (kk : mst k sh M N Q (.long (vOdds a m c w)) a) : PW mX11_longOdds 0 [.ref k, .int m, .int c, .int w, .null, .null, .null, .null, .null, .null, .null, .null, .null, .null] [] sh M N Q := by
  have hb0 := hb
  obtain ⟨b0, a1, a2, a3, a4, a5, a6, a7, a8, a9, a10, a11, a12, a13, a14, a15, a16, a17, a18, a19, a20⟩ := hb
  have h10 : a.rs.length ≤ 10 := ho.1.2.1.1
  unfold vOdds at kk
  have bad : mst k sh M N Q (.long (- lN 1)) a → PW mX11_longOdds 34 [.ref k, .int m, .int c, .int w, .null, .null, .null, .null, .null, .null, .null, .null, .null, .null] [] sh M N Q := by
    intro kk
    refine pw_ldc2_w (v := - lN 1) 37 rfl rfl rfl ?_
    exact pw_lret rfl (kk.at hx)
  refine pw_iload_n 1 rfl rfl rfl ?_
  refine pw_i2l 2 rfl rfl ?_
  refine pw_lconst (v := lN 0) 3 rfl rfl (by decide) ?_
  refine pw_ldc2_w (v := lN 360) 6 rfl rfl rfl ?_
  refine pw_cS3 9 rfl rfl rfl (Nat.le_of_ble_eq_true rfl) rfl rfl (Nat.le_of_ble_eq_true rfl) (c_inX (b := 0) (c := 361) (by decide) (by decide) rfl (fun m' h1 hm' e => ?_) (fun hn => ?_))
  · refine pw_pI ?_
    subst e
    rw [ix_some hm' (by decide)] at kk
    skip
    refine pw_if_eq_f 12 rfl rfl (by decide) ?_
    refine pw_iload_n 13 rfl rfl rfl ?_
    refine pw_i2l 14 rfl rfl ?_
    refine pw_lconst (v := lN 0) 15 rfl rfl (by decide) ?_
    refine pw_ldc2_w (v := lN 10) 18 rfl rfl rfl ?_
    refine pw_cS3 21 rfl rfl rfl (Nat.le_of_ble_eq_true rfl) rfl rfl (Nat.le_of_ble_eq_true rfl) (c_inX (b := 0) (c := 11) (by decide) (by decide) rfl (fun c' h2 hc' e => ?_) (fun hn => ?_))
    · refine pw_pI ?_
      subst e
      rw [ix_some hc' (by decide)] at kk
      skip
      refine pw_if_eq_f 24 rfl rfl (by decide) ?_
      refine pw_iload_n 25 rfl rfl rfl ?_
      refine pw_i2l 26 rfl rfl ?_
      refine pw_lconst (v := lN 0) 27 rfl rfl (by decide) ?_
      refine pw_lconst (v := lN 1) 28 rfl rfl (by decide) ?_
      refine pw_cS3 31 rfl rfl rfl (Nat.le_of_ble_eq_true rfl) rfl rfl (Nat.le_of_ble_eq_true rfl) (c_inX (b := 0) (c := 2) (by decide) (by decide) rfl (fun j h3 hj e => ?_) (fun hn => ?_))
      · refine pw_pI ?_
        subst e
        rw [ix_some hj (by decide)] at kk
        simp only at kk
        have hc : c' ≤ 10 := by omega
        have ho9 := odds_eq (m := m') hw ho hc
        have hrg := rng_gS (10 - c') c' a.on (oF a m') a.rs.length 0
        have e5 : uS (oT a m' c') (2 ^ a.rs.length) = gS (10 - c') c' a.on (oF a m') a.rs.length 0 := by
          rw [← uS_sL, ← hrg]
          refine sL_cong _ (fun T _ => ?_)
          unfold oT
          rw [Nat.mul_zero, Nat.zero_add]
        rw [ho9.1] at e5
        have hU := uS_le (m := m') ho hc (2 ^ a.rs.length)
        have h2n : 2 ^ a.rs.length ≤ 1024 := Nat.pow_le_pow_right (n := 2) (by decide) h10
        have hU2 : uS (oT a m' c') (2 ^ a.rs.length) ≤ 1024 * 10 ^ 10 := Nat.le_trans hU (Nat.mul_le_mul_right _ h2n)
        have hpbl : pb a.on a.rs.length ≤ 10 := Nat.le_trans (pb_le _ _) h10
        have elow : 10 ^ pb a.on a.rs.length = 10 ^ pop a.ch * 10 ^ (pb a.on a.rs.length - pop a.ch) := by
          rw [← Nat.pow_add]; congr 1; have := ho9.2; omega
        have hlow : 10 ^ pb a.on a.rs.length ≤ 10 ^ 10 := Nat.pow_le_pow_right (by decide) hpbl
        have hlow0 : 0 < 10 ^ pb a.on a.rs.length := Nat.pow_pos (by decide)
        have hg0 : 0 < Nat.gcd (10 ^ pb a.on a.rs.length) (uS (oT a m' c') (2 ^ a.rs.length)) := Nat.gcd_pos_of_pos_left _ hlow0
        have hgle : Nat.gcd (10 ^ pb a.on a.rs.length) (uS (oT a m' c') (2 ^ a.rs.length)) ≤ 10 ^ pb a.on a.rs.length := Nat.gcd_le_left _ hlow0
        have hdiv := gcd_div (x := a.up m' c') (y := 10 ^ pop a.ch) (z := 10 ^ (pb a.on a.rs.length - pop a.ch)) (Nat.pow_pos (by decide))
        rw [← elow, ← e5] at hdiv
        skip
        refine pw_if_ne_t 38 rfl rfl (by decide) ?_
        refine pw_aload_n 39 rfl rfl rfl ?_
        refine pw_cV0 42 rfl rfl (by first | assumption | exact ⟨by decide, rfl⟩) rfl (Nat.le_of_ble_eq_true rfl) rfl rfl (Nat.le_of_ble_eq_true rfl) (c_kindsM hb0 hx.2.1 h10 (fun M1 f1 e1 => ?_))
        refine pw_pV ?_
        have x1 : modIs M1 N k a := hx.mv (fun j _ _ _ => by rw [f1 k (by omega)]) (fun x h1 h2 => f1 x (by omega))
        refine pw_lconst (v := lN 0) 43 rfl rfl (by decide) ?_
        refine pw_lstore4 45 rfl rfl rfl ?_
        refine pw_lconst (v := lN 1) 46 rfl rfl (by decide) ?_
        refine pw_lstore6 48 rfl rfl rfl ?_
        refine pw_iconst (v := nI 0) 49 rfl rfl (by decide) ?_
        refine pw_istore8 51 rfl rfl rfl ?_
        refine low_loop hb0 hw ho x1 ?_ _ 0 (Nat.zero_add _)
        refine pw_iconst (v := nI 0) 95 rfl rfl (by decide) ?_
        refine pw_istore8 97 rfl rfl rfl ?_
        refine sets_loop (by omega) hb0 hw ho hx hc (fun M2 f2 x2 v9 v10 v11 => ?_) _ 0 M1 _ _ _ (Nat.zero_add _) (f1.wk (by omega) (by omega)) x1 e1
        refine pw_lload 235 rfl rfl rfl ?_
        refine pw_lstore8 237 rfl rfl rfl ?_
        refine pw_lload 239 rfl rfl rfl ?_
        refine pw_lstore10 241 rfl rfl rfl ?_
        refine gcdM_loop (fun v12 => ?_) _ _ _ _ (Nat.lt_succ_self _) (by omega) (by omega) rfl
        rcases (show j = 0 ∨ j = 1 by omega) with rfl | rfl
        · rw [if_pos rfl, ← hdiv.1] at kk
          refine pw_iload_n 267 rfl rfl rfl ?_
          refine pw_if_ne_f 270 rfl rfl (fun e => e rfl) ?_
          refine pw_lload 272 rfl rfl rfl ?_
          refine pw_lload 274 rfl rfl rfl ?_
          refine pw_ldiv 275 rfl rfl (fun e => by have := (pk_lEQ (b := 0) (by omega) (by decide)).mp e; omega) ?_
          rw [pk_lDiv (by omega) hg0 (by omega)]
          refine pw_goto rfl 283 rfl ?_
          exact pw_lret rfl (kk.go f2 x2)
        · rw [if_neg (by decide), ← hdiv.2] at kk
          refine pw_iload_n 267 rfl rfl rfl ?_
          refine pw_if_ne_t 278 rfl rfl (by decide) ?_
          refine pw_lload 280 rfl rfl rfl ?_
          refine pw_lload 282 rfl rfl rfl ?_
          refine pw_ldiv 283 rfl rfl (fun e => by have := (pk_lEQ (b := 0) (by omega) (by decide)).mp e; omega) ?_
          rw [pk_lDiv (by omega) hg0 (by omega)]
          skip
          exact pw_lret rfl (kk.go f2 x2)
      · refine pw_pI ?_
        rw [ix_none (fun j hj => hn j (Nat.zero_le j) hj)] at kk
        skip
        refine pw_if_ne_f 34 rfl rfl (by decide) ?_
        exact bad kk
    · refine pw_pI ?_
      rw [ix_none (fun j hj => hn j (Nat.zero_le j) hj)] at kk
      skip
      refine pw_if_eq_t 34 rfl rfl (by decide) ?_
      exact bad kk
  · refine pw_pI ?_
    rw [ix_none (fun j hj => hn j (Nat.zero_le j) hj)] at kk
    skip
    refine pw_if_eq_t 34 rfl rfl (by decide) ?_
    exact bad kk
end MOD
