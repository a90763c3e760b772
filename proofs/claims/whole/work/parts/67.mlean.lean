/-! THE REFERENCE: lean -/
def lnL : Option (Nat × Nat) → Int32
  | none => nI 999
  | some (_, l) => nI l
section MLE
variable {sh : pmS} {M : pmM} {N : pmN} {Q : pmPost} {k : Nat} {a : aW}
theorem leanM_loop {w : Nat} (hb : isMod sh k) (hw : wfW a) (ho : okW a) (hx : modIs M N k a)
    (kk : ∀ M', fr k (k + 21) M M' → modIs M' N k a → ∀ v4 : Value, PW mX11_lean 108 [.ref k, .int (nI w), .int (rI ((lnF (fun r => (a.mL (clr a.on r)).length) a.on a.rs.length).map (·.1))), .int (lnL (lnF (fun r => (a.mL (clr a.on r)).length) a.on a.rs.length)), v4] [] sh M' N Q) :
    ∀ (d j : Nat) (M1 : pmM), j + d = a.rs.length → fr k (k + 21) M M1 → modIs M1 N k a → (∀ r, r < a.rs.length → M1 (k + 19) r = nI ((kds a.rs).getD r 0)) → PW mX11_lean 26 [.ref k, .int (nI w), .int (rI ((lnF (fun r => (a.mL (clr a.on r)).length) a.on j).map (·.1))), .int (lnL (lnF (fun r => (a.mL (clr a.on r)).length) a.on j)), .int (nI j)] [] sh M1 N Q := by
  have hb0 := hb
  obtain ⟨b0, a1, a2, a3, a4, a5, a6, a7, a8, a9, a10, a11, a12, a13, a14, a15, a16, a17, a18, a19, a20⟩ := hb
  have hon := on_1024 hw ho
  have h10 : a.rs.length ≤ 10 := ho.1.2.1.1
  intro d
  induction d with
  | zero =>
    intro j M1 hj hf h1 hk
    have : j = a.rs.length := by omega
    subst this
    have hr0 : M1 (k + 2) 0 = nI a.rs.length := h1.2.1.1
    refine pw_iload 28 rfl rfl rfl ?_
    refine pw_aload_n 29 rfl rfl rfl ?_
    refine pw_getR 32 rfl rfl (by first | assumption | exact ⟨by decide, rfl⟩) rfl ?_
    refine pw_iconst (v := nI 0) 33 rfl rfl (by decide) ?_
    refine pw_iald _ 34 rfl rfl (by first | assumption | exact ⟨by decide, rfl, by decide⟩) (by with_reducible rfl) (by first | assumption | omega) ?_
    rw [hr0]
    refine pw_icmp_ge_t 108 rfl rfl (nI_le (Nat.le_refl _) (by omega)) ?_
    exact kk M1 hf h1 _
  | succ d ih =>
    intro j M1 hj hf h1 hk
    have hj1 : j < a.rs.length := by omega
    have hj10 : j < 10 := by omega
    have hr0 : M1 (k + 2) 0 = nI a.rs.length := h1.2.1.1
    have ho1 : M1 (k + 3) 1 = nI a.on := h1.2.2.1.ln.2.1
    refine pw_iload 28 rfl rfl rfl ?_
    refine pw_aload_n 29 rfl rfl rfl ?_
    refine pw_getR 32 rfl rfl (by first | assumption | exact ⟨by decide, rfl⟩) rfl ?_
    refine pw_iconst (v := nI 0) 33 rfl rfl (by decide) ?_
    refine pw_iald _ 34 rfl rfl (by first | assumption | exact ⟨by decide, rfl, by decide⟩) (by with_reducible rfl) (by first | assumption | omega) ?_
    rw [hr0]
    refine pw_icmp_ge_f 37 rfl rfl (nI_ge hj1 (by omega)) ?_
    refine pw_aload_n 38 rfl rfl rfl ?_
    refine pw_getR 41 rfl rfl (by first | assumption | exact ⟨by decide, rfl⟩) rfl ?_
    refine pw_iconst (v := nI 1) 42 rfl rfl (by decide) ?_
    refine pw_iald _ 43 rfl rfl (by first | assumption | exact ⟨by decide, rfl, by decide⟩) (by with_reducible rfl) (by first | assumption | omega) ?_
    refine pw_iload 45 rfl rfl rfl ?_
    rw [ho1]
    refine pw_cS2 48 rfl rfl rfl (Nat.le_of_ble_eq_true rfl) rfl rfl (Nat.le_of_ble_eq_true rfl) (c_has hon hj10 ?_)
    refine pw_pI ?_
    by_cases q1 : a.on.testBit j = true
    · rw [if_pos q1]
      have h360 := mL_360 ho (clr a.on j)
      skip
      refine pw_if_eq_f 51 rfl rfl (by decide) ?_
      refine pw_aload_n 52 rfl rfl rfl ?_
      refine pw_aload_n 53 rfl rfl rfl ?_
      refine pw_getR 56 rfl rfl (by first | assumption | exact ⟨by decide, rfl⟩) rfl ?_
      refine pw_sipush (v := nI 1023) 59 rfl rfl (by decide) ?_
      refine pw_iconst (v := nI 1) 60 rfl rfl (by decide) ?_
      refine pw_iload 62 rfl rfl rfl ?_
      refine pw_ishl 63 rfl rfl ?_
      refine pw_iconst (v := (-1)) 64 rfl rfl (by decide) ?_
      refine pw_ixor 65 rfl rfl ?_
      refine pw_iand 66 rfl rfl ?_
      rw [clr_v 1023 (by decide) j hj10]
      refine pw_cV2 69 rfl rfl (by first | assumption | exact ⟨by decide, rfl⟩) rfl (Nat.le_of_ble_eq_true rfl) rfl rfl (Nat.le_of_ble_eq_true rfl) (c_goesOver (rs := a.rs) (ls := a.ls) (ss := a.ss) (st := clr 1023 j) (s := clr a.on j) (on := a.on) (kd := kds a.rs) hb0 a3 (Or.inl rfl) h1.2.1 ho.1.2.1.2 h10 h1.2.2.1.ln ho.1.1.1 (clr_lt _ _) hon (fun r hr => ⟨hk r hr, kds_all ho.1.2.1.2 hr⟩) (fun r hr => by rw [clr_bit, clr_bit, b1023 r (by omega)]; cases a.on.testBit r <;> cases decide (r ≠ j) <;> simp) (fun M2 f2 g2 => ?_))
      refine pw_pI ?_
      have h24 : M2 k 24 = nI (a.mL (clr a.on j)).length := g2.1
      have x2 : modIs M2 N k a := h1.mv (fun j _ _ h => f2.2 j h) (fun x h1 h2 => f2.1 x (by omega) (by omega))
      have f02 : fr k (k + 21) M M2 := fun x hx => by rw [f2.1 x (by omega) (by omega), hf x hx]
      have ih1 := ih (j + 1) M2 (by omega) f02 x2 (fun r hr => by rw [f2.1 (k + 19) (by omega) (by omega)]; exact hk r hr)
      rw [lnF] at ih1
      have less : (a.mL (clr a.on j)).length < 999 → ∀ B L : Int32, nI (a.mL (clr a.on j)).length < L → PW mX11_lean 26 [.ref k, .int (nI w), .int (nI j), .int (nI (a.mL (clr a.on j)).length), .int (nI (j + 1))] [] sh M2 N Q → PW mX11_lean 69 [.ref k, .int (nI w), .int B, .int L, .int (nI j)] [.int (sumI (a.us (clr a.on j)))] sh M2 N Q := by
        intro _ B L hlt kk
        have nle : ¬ L ≤ nI (a.mL (clr a.on j)).length := fun h => Int32.not_lt.mpr h hlt
        refine pw_pop 70 rfl rfl rfl ?_
        refine pw_aload_n 71 rfl rfl rfl ?_
        refine pw_getI 74 rfl rfl (by first | assumption | exact ⟨by decide, rfl⟩) rfl ?_
        refine pw_iload_n 75 rfl rfl rfl ?_
        rw [h24]
        refine pw_icmp_ge_f 78 rfl rfl (nle) ?_
        refine pw_iload 80 rfl rfl rfl ?_
        refine pw_goto rfl 84 rfl ?_
        refine pw_istore2 85 rfl rfl rfl ?_
        refine pw_aload_n 86 rfl rfl rfl ?_
        refine pw_getI 89 rfl rfl (by first | assumption | exact ⟨by decide, rfl⟩) rfl ?_
        refine pw_iload_n 90 rfl rfl rfl ?_
        rw [h24]
        refine pw_icmp_ge_f 93 rfl rfl (nle) ?_
        refine pw_aload_n 94 rfl rfl rfl ?_
        refine pw_getI 97 rfl rfl (by first | assumption | exact ⟨by decide, rfl⟩) rfl ?_
        rw [h24]
        refine pw_goto rfl 101 rfl ?_
        refine pw_istore3 102 rfl rfl rfl ?_
        first | refine pw_iincN4 105 rfl rfl rfl (by with_reducible rfl) ?_ | refine pw_iinc4 (w := _) 105 rfl rfl rfl rfl ?_
        refine pw_goto rfl 26 rfl ?_
        exact kk
      have more : ∀ B L : Int32, L ≤ nI (a.mL (clr a.on j)).length → PW mX11_lean 26 [.ref k, .int (nI w), .int B, .int L, .int (nI (j + 1))] [] sh M2 N Q → PW mX11_lean 69 [.ref k, .int (nI w), .int B, .int L, .int (nI j)] [.int (sumI (a.us (clr a.on j)))] sh M2 N Q := by
        intro B L hle kk
        refine pw_pop 70 rfl rfl rfl ?_
        refine pw_aload_n 71 rfl rfl rfl ?_
        refine pw_getI 74 rfl rfl (by first | assumption | exact ⟨by decide, rfl⟩) rfl ?_
        refine pw_iload_n 75 rfl rfl rfl ?_
        rw [h24]
        refine pw_icmp_ge_t 83 rfl rfl (hle) ?_
        refine pw_iload_n 84 rfl rfl rfl ?_
        refine pw_istore2 85 rfl rfl rfl ?_
        refine pw_aload_n 86 rfl rfl rfl ?_
        refine pw_getI 89 rfl rfl (by first | assumption | exact ⟨by decide, rfl⟩) rfl ?_
        refine pw_iload_n 90 rfl rfl rfl ?_
        rw [h24]
        refine pw_icmp_ge_t 100 rfl rfl (hle) ?_
        refine pw_iload_n 101 rfl rfl rfl ?_
        refine pw_istore3 102 rfl rfl rfl ?_
        first | refine pw_iincN4 105 rfl rfl rfl (by with_reducible rfl) ?_ | refine pw_iinc4 (w := _) 105 rfl rfl rfl rfl ?_
        refine pw_goto rfl 26 rfl ?_
        exact kk
      cases hq : lnF (fun r => (a.mL (clr a.on r)).length) a.on j with
      | none =>
        rw [hq] at ih1
        simp only [q1, if_true] at ih1
        exact less (by omega) _ _ (nI_lt (by omega) (by decide)) ih1
      | some bl =>
        obtain ⟨b, l⟩ := bl
        have hlt := lnF_lt (fun r => (a.mL (clr a.on r)).length) a.on (fun r => mL_360 ho _) j b l hq
        rw [hq] at ih1
        simp only [q1, true_and] at ih1
        by_cases q : (a.mL (clr a.on j)).length < l
        · rw [if_pos q] at ih1
          exact less (by omega) _ _ (nI_lt q (by omega)) ih1
        · rw [if_neg q] at ih1
          exact more _ _ (nI_le (by omega) (by omega)) ih1
    · rw [if_neg q1]
      have q1 : a.on.testBit j = false := by simpa using q1
      have e : lnF (fun r => (a.mL (clr a.on r)).length) a.on (j + 1) = lnF (fun r => (a.mL (clr a.on r)).length) a.on j := by
        rw [lnF]
        cases lnF (fun r => (a.mL (clr a.on r)).length) a.on j with
        | none => simp [q1]
        | some bl => simp [q1]
      have ih1 := ih (j + 1) M1 (by omega) hf h1 hk
      rw [e] at ih1
      skip
      refine pw_if_eq_t 102 rfl rfl (by decide) ?_
      first | refine pw_iincN4 105 rfl rfl rfl (by with_reducible rfl) ?_ | refine pw_iinc4 (w := _) 105 rfl rfl rfl rfl ?_
      refine pw_goto rfl 26 rfl ?_
      exact ih1
theorem m_lean {w : Int32} (hb : isMod sh k) (hw : wfW a) (ho : okW a) (hx : modIs M N k a) (kk : mst k sh M N Q (.int (vLean a w)) a) : PW mX11_lean 0 [.ref k, .int w, .null, .null, .null] [] sh M N Q := by
  have hb0 := hb
  obtain ⟨b0, a1, a2, a3, a4, a5, a6, a7, a8, a9, a10, a11, a12, a13, a14, a15, a16, a17, a18, a19, a20⟩ := hb
  have h10 : a.rs.length ≤ 10 := ho.1.2.1.1
  unfold vLean at kk
  refine pw_iload_n 1 rfl rfl rfl ?_
  refine pw_i2l 2 rfl rfl ?_
  refine pw_lconst (v := lN 0) 3 rfl rfl (by decide) ?_
  refine pw_lconst (v := lN 1) 4 rfl rfl (by decide) ?_
  refine pw_cS3 7 rfl rfl rfl (Nat.le_of_ble_eq_true rfl) rfl rfl (Nat.le_of_ble_eq_true rfl) (c_inX (b := 0) (c := 2) (by decide) (by decide) rfl (fun j h1 hj e => ?_) (fun hn => ?_))
  · refine pw_pI ?_
    subst e
    rw [ix_some hj (by decide)] at kk
    simp only at kk
    skip
    refine pw_if_ne_t 12 rfl rfl (by decide) ?_
    refine pw_aload_n 13 rfl rfl rfl ?_
    refine pw_cV0 16 rfl rfl (by first | assumption | exact ⟨by decide, rfl⟩) rfl (Nat.le_of_ble_eq_true rfl) rfl rfl (Nat.le_of_ble_eq_true rfl) (c_kindsM hb0 hx.2.1 h10 (fun M1 f1 e1 => ?_))
    refine pw_pV ?_
    have x1 : modIs M1 N k a := hx.mv (fun j _ _ _ => by rw [f1 k (by omega)]) (fun x h1 h2 => f1 x (by omega))
    refine pw_bipush (v := (-4)) 18 rfl rfl (by decide) ?_
    refine pw_istore2 19 rfl rfl rfl ?_
    refine pw_sipush (v := nI 999) 22 rfl rfl (by decide) ?_
    refine pw_istore3 23 rfl rfl rfl ?_
    refine pw_iconst (v := nI 0) 24 rfl rfl (by decide) ?_
    refine pw_istore4 26 rfl rfl rfl ?_
    refine leanM_loop hb0 hw ho hx (fun M2 f2 x2 v4 => ?_) _ 0 M1 (Nat.zero_add _) (f1.wk (by omega) (by omega)) x1 e1
    cases hq : lnF (fun r => (a.mL (clr a.on r)).length) a.on a.rs.length with
    | none =>
      have kk : mst k sh M N Q (.int (-4)) a := by
        rw [hq] at kk
        rcases (show j = 0 ∨ j = 1 by omega) with rfl | rfl
        · exact kk
        · exact kk
      refine pw_iload_n 109 rfl rfl rfl ?_
      refine pw_bipush (v := (-4)) 111 rfl rfl (by decide) ?_
      refine pw_icmp_ne_f 114 rfl rfl (fun e => e rfl) ?_
      refine pw_bipush (v := (-4)) 116 rfl rfl (by decide) ?_
      refine pw_goto rfl 128 rfl ?_
      exact pw_iret rfl rfl (kk.go f2 x2)
    | some bl =>
      obtain ⟨b, l⟩ := bl
      have hlt := lnF_lt (fun r => (a.mL (clr a.on r)).length) a.on (fun r => mL_360 ho _) _ b l hq
      rw [hq] at kk
      have e1 : rI ((some (b, l)).map (·.1)) = nI b := rfl
      have e2 : lnL (some (b, l)) = nI l := rfl
      rw [e1, e2]
      rcases (show j = 0 ∨ j = 1 by omega) with rfl | rfl
      · refine pw_iload_n 109 rfl rfl rfl ?_
        refine pw_bipush (v := (-4)) 111 rfl rfl (by decide) ?_
        refine pw_icmp_ne_t 119 rfl rfl (nI_m4 (by omega)) ?_
        refine pw_iload_n 120 rfl rfl rfl ?_
        refine pw_if_ne_f 123 rfl rfl (fun e => e rfl) ?_
        refine pw_iload_n 124 rfl rfl rfl ?_
        refine pw_goto rfl 128 rfl ?_
        exact pw_iret rfl rfl (kk.go f2 x2)
      · refine pw_iload_n 109 rfl rfl rfl ?_
        refine pw_bipush (v := (-4)) 111 rfl rfl (by decide) ?_
        refine pw_icmp_ne_t 119 rfl rfl (nI_m4 (by omega)) ?_
        refine pw_iload_n 120 rfl rfl rfl ?_
        refine pw_if_ne_t 127 rfl rfl (by decide) ?_
        refine pw_iload_n 128 rfl rfl rfl ?_
        exact pw_iret rfl rfl (kk.go f2 x2)
  · refine pw_pI ?_
    rw [ix_none (fun j hj => hn j (Nat.zero_le j) hj)] at kk
    skip
    refine pw_if_ne_f 10 rfl rfl (by decide) ?_
    refine pw_iconst (v := (-1)) 11 rfl rfl (by decide) ?_
    exact pw_iret rfl rfl (kk.at hx)
end MLE
