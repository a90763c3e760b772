/-! THE REFERENCE: came -/
section MCA
variable {sh : pmS} {M : pmM} {N : pmN} {Q : pmPost} {k : Nat} {a : aW}
theorem camecmp_out {v1 v3 v6 v7 v8 : Value} {t i : Int32} {n q : Nat} (hn : n < 1000) (hq : q < 1000) (kk : ∀ v10 : Value, PW mX11_came 164 [.ref k, v1, .int t, v3, .int i, .int (nI n), v6, v7, v8, .int (nI 0), v10] [] sh M N Q) : PW mX11_came 112 [.ref k, v1, .int t, v3, .int i, .int (nI n), v6, v7, v8, .int (nI 0), .int (nI q)] [] sh M N Q := by
  refine pw_iload 114 rfl rfl rfl ?_
  refine pw_iload 116 rfl rfl rfl ?_
  refine pw_icmp_ge 164 119 rfl rfl rfl (fun h => ?_) (fun h => ?_)
  · exact kk _
  · refine pw_iload 121 rfl rfl rfl ?_
    refine pw_if_eq_t 164 rfl rfl (rfl) ?_
    exact kk _
theorem camecmp_loop {v1 v3 v6 v7 : Value} {x8 : Int32} {t i n : Nat} {xs : List Int32} {h : aH} (hb : isMod sh k) (ht : t < 4) (hi : i + n ≤ 60) (hxs : xs.length = n) (hv : ∀ q, q < n → M (k + 15) q = xs.getD q 0) (hN : ∀ j, j < 60 → N (k + 11) (60 * t + j) = h.2.2.2 j)
    (ky : (∀ q, q < n → h.2.2.2 (i + q) = (xs.getD q 0).toInt64) → ∀ v10 : Value, PW mX11_came 164 [.ref k, v1, .int (nI t), v3, .int (nI i), .int (nI n), v6, v7, .int x8, .int (nI 1), v10] [] sh M N Q)
    (kn : ¬ (∀ q, q < n → h.2.2.2 (i + q) = (xs.getD q 0).toInt64) → ∀ v10 : Value, PW mX11_came 164 [.ref k, v1, .int (nI t), v3, .int (nI i), .int (nI n), v6, v7, .int x8, .int (nI 0), v10] [] sh M N Q) :
    ∀ (d q : Nat), q + d = n → (∀ j, j < q → h.2.2.2 (i + j) = (xs.getD j 0).toInt64) → PW mX11_came 112 [.ref k, v1, .int (nI t), v3, .int (nI i), .int (nI n), v6, v7, .int x8, .int (nI 1), .int (nI q)] [] sh M N Q := by
  obtain ⟨b0, a1, a2, a3, a4, a5, a6, a7, a8, a9, a10, a11, a12, a13, a14, a15, a16, a17, a18, a19, a20⟩ := hb
  intro d
  induction d with
  | zero =>
    intro q hq hw
    have : q = n := by omega
    subst this
    refine pw_iload 114 rfl rfl rfl ?_
    refine pw_iload 116 rfl rfl rfl ?_
    refine pw_icmp_ge_t 164 rfl rfl (nI_le (Nat.le_refl _) (by omega)) ?_
    exact ky hw _
  | succ d ih =>
    intro q hq hw
    have y1 : 60 * t + i + q < 240 := by omega
    have y2 : q < 360 := by omega
    refine pw_iload 114 rfl rfl rfl ?_
    refine pw_iload 116 rfl rfl rfl ?_
    refine pw_icmp_ge_f 119 rfl rfl (nI_ge (by omega) (by omega)) ?_
    refine pw_iload 121 rfl rfl rfl ?_
    refine pw_if_eq_f 124 rfl rfl (by decide) ?_
    refine pw_aload_n 125 rfl rfl rfl ?_
    refine pw_getR 128 rfl rfl (by first | assumption | exact ⟨by decide, rfl⟩) rfl ?_
    refine pw_bipush (v := nI 60) 130 rfl rfl (by decide) ?_
    refine pw_iload_n 131 rfl rfl rfl ?_
    first | refine pw_imulN 132 rfl rfl (by with_reducible rfl) (by with_reducible rfl) ?_ | refine pw_imul 132 rfl rfl ?_
    refine pw_iload 134 rfl rfl rfl ?_
    first | refine pw_iaddN 135 rfl rfl (by with_reducible rfl) (by with_reducible rfl) ?_ | refine pw_iadd 135 rfl rfl ?_
    refine pw_iload 137 rfl rfl rfl ?_
    first | refine pw_iaddN 138 rfl rfl (by with_reducible rfl) (by with_reducible rfl) ?_ | refine pw_iadd 138 rfl rfl ?_
    refine pw_lald _ 139 rfl rfl (by first | assumption | exact ⟨by decide, rfl, by decide⟩) (by with_reducible rfl) (by first | assumption | omega) ?_
    rw [Nat.add_assoc (60 * t) i q, hN (i + q) (by omega)]
    refine pw_aload_n 140 rfl rfl rfl ?_
    refine pw_getR 143 rfl rfl (by first | assumption | exact ⟨by decide, rfl⟩) rfl ?_
    refine pw_iload 145 rfl rfl rfl ?_
    refine pw_iald _ 146 rfl rfl (by first | assumption | exact ⟨by decide, rfl, by decide⟩) (by with_reducible rfl) (by first | assumption | omega) ?_
    rw [hv q (by omega)]
    refine pw_i2l 147 rfl rfl ?_
    refine pw_lcmp 148 rfl rfl ?_
    refine pw_if_ne 155 151 rfl rfl rfl (fun e => ?_) (fun e => ?_)
    · have e : ¬ h.2.2.2 (i + q) = (xs.getD q 0).toInt64 := fun h => e ((lg_cmpE _ _).mpr h)
      refine pw_iconst (v := nI 0) 156 rfl rfl (by decide) ?_
      refine pw_istore9 158 rfl rfl rfl ?_
      first | refine pw_iincN10 161 rfl rfl rfl (by with_reducible rfl) ?_ | refine pw_iinc10 (w := _) 161 rfl rfl rfl rfl ?_
      refine pw_goto rfl 112 rfl ?_
      exact camecmp_out (by omega) (by omega) (kn (fun h => e (h q (by omega))))
    · have e : h.2.2.2 (i + q) = (xs.getD q 0).toInt64 := (lg_cmpE _ _).mp (Decidable.not_not.mp e)
      refine pw_iconst (v := nI 1) 152 rfl rfl (by decide) ?_
      refine pw_goto rfl 156 rfl ?_
      refine pw_istore9 158 rfl rfl rfl ?_
      first | refine pw_iincN10 161 rfl rfl rfl (by with_reducible rfl) ?_ | refine pw_iinc10 (w := _) 161 rfl rfl rfl rfl ?_
      refine pw_goto rfl 112 rfl ?_
      refine ih (q + 1) (by omega) (fun j hj => ?_)
      by_cases qj : j = q
      · subst qj; exact e
      · exact hw j (by omega)
theorem mK_360 (ho : okW a) (j kd : Nat) : (a.mK j kd).length ≤ 360 := by
  have hg : ∀ r, (pGf a.rs r).length ≤ 6 := by
    intro r
    by_cases hr : r < a.rs.length
    · exact (gR_wf ho.1.2.1.2 hr).2.2.2
    · have e : gR a.rs r = (0, [], []) := by unfold gR; rw [List.getD_eq_getElem?_getD, List.getElem?_eq_none (by omega)]; rfl
      unfold pGf; rw [e]; exact Nat.zero_le _
  have h := outL_le (a.kd j kd) a.ls hg (a.ls.length - 0) 0 a.on
  have h60 : a.ls.length ≤ 60 := ho.1.1.1
  have h2 : (a.mK j kd).length ≤ 6 * (a.ls.length - 0) := h
  omega
theorem cameM_loop {j t i n : Nat} {la x6 : Int32} (hb : isMod sh k) (hw : wfW a) (ho : okW a) (hx : modIs M N k a) (hj : j < a.rs.length) (ht : t < 4) (hi : i + n ≤ 60)
    (kk : ∀ M', fr k (k + 21) M M' → modIs M' N k a → Q (some (.int (nI (bs (fun kd => cmd a (a.shs t) j i n kd) 5)))) sh M' N) :
    ∀ (d c : Nat) (M1 : pmM) (v9 v10 : Value), c + d = 5 → fr k (k + 21) M M1 → modIs M1 N k a → PW mX11_came 63 [.ref k, .int (nI j), .int (nI t), .int la, .int (nI i), .int (nI n), .int x6, .int (nI (bs (fun kd => cmd a (a.shs t) j i n kd) c)), .int (nI c), v9, v10] [] sh M1 N Q := by
  have hb0 := hb
  obtain ⟨b0, a1, a2, a3, a4, a5, a6, a7, a8, a9, a10, a11, a12, a13, a14, a15, a16, a17, a18, a19, a20⟩ := hb
  have hon := on_1024 hw ho
  have h10 : a.rs.length ≤ 10 := ho.1.2.1.1
  have hj10 : j < 10 := by omega
  intro d
  induction d with
  | zero =>
    intro c M1 v9 v10 hc hf h1
    have : c = 5 := by omega
    subst this
    refine pw_iload 65 rfl rfl rfl ?_
    refine pw_iconst (v := nI 5) 66 rfl rfl (by decide) ?_
    refine pw_icmp_ge_t 188 rfl rfl (by decide) ?_
    refine pw_iload 190 rfl rfl rfl ?_
    exact pw_iret rfl rfl (kk M1 hf h1)
  | succ d ih =>
    intro c M1 v9 v10 hc hf h1
    have hc5 : c < 5 := by omega
    have h360 := mK_360 ho j c
    have hbs := bs_lt (fun kd => cmd a (a.shs t) j i n kd) c
    refine pw_iload 65 rfl rfl rfl ?_
    refine pw_iconst (v := nI 5) 66 rfl rfl (by decide) ?_
    refine pw_icmp_ge_f 69 rfl rfl (nI_ge (by omega) (by omega)) ?_
    refine pw_aload_n 70 rfl rfl rfl ?_
    refine pw_cV0 73 rfl rfl (by first | assumption | exact ⟨by decide, rfl⟩) rfl (Nat.le_of_ble_eq_true rfl) rfl rfl (Nat.le_of_ble_eq_true rfl) (c_kindsM hb0 h1.2.1 h10 (fun M2 f2 e2 => ?_))
    refine pw_pV ?_
    refine pw_aload_n 74 rfl rfl rfl ?_
    refine pw_getR 77 rfl rfl (by first | assumption | exact ⟨by decide, rfl⟩) rfl ?_
    refine pw_iload_n 78 rfl rfl rfl ?_
    refine pw_iload 80 rfl rfl rfl ?_
    refine pw_iast _ 81 rfl rfl (by first | assumption | exact ⟨by decide, rfl, by decide⟩) (by with_reducible rfl) (by first | assumption | omega) ?_
    refine pw_aload_n 82 rfl rfl rfl ?_
    refine pw_aload_n 83 rfl rfl rfl ?_
    refine pw_getR 86 rfl rfl (by first | assumption | exact ⟨by decide, rfl⟩) rfl ?_
    refine pw_sipush (v := nI 1023) 89 rfl rfl (by decide) ?_
    have e3 : ∀ x, x ≠ k + 19 → pmSt M2 (k + 19) j (nI c) x = M1 x := fun x h => by rw [st_ne _ _ _ _ h, f2 x (by omega)]
    have x3 : modIs (pmSt M2 (k + 19) j (nI c)) N k a := h1.mv (fun j _ _ _ => by rw [e3 k (by omega)]) (fun x g1 g2 => e3 x (by omega))
    have hkl : (kds a.rs).length = a.rs.length := by unfold kds; rw [List.length_map]
    have hk3 : ∀ r, r < a.rs.length → pmSt M2 (k + 19) j (nI c) (k + 19) r = nI ((a.kd j c).getD r 0) ∧ (a.kd j c).getD r 0 < 5 := by
      intro r hr
      rw [getD_setN (by rw [hkl]; exact hj)]
      by_cases q : r = j
      · subst q; rw [if_pos rfl, st_same]; exact ⟨rfl, hc5⟩
      · rw [if_neg q, st_row _ _ _ _ q]; exact ⟨e2 r hr, kds_all ho.1.2.1.2 hr⟩
    refine pw_cV2 92 rfl rfl (by first | assumption | exact ⟨by decide, rfl⟩) rfl (Nat.le_of_ble_eq_true rfl) rfl rfl (Nat.le_of_ble_eq_true rfl) (c_goesOver (rs := a.rs) (ls := a.ls) (ss := a.ss) (st := 1023) (s := a.on) (on := a.on) (kd := a.kd j c) hb0 a3 (Or.inl rfl) x3.2.1 ho.1.2.1.2 h10 x3.2.2.1.ln ho.1.1.1 (by decide) hon hk3 (fun r hr => by rw [b1023 r (by omega), Bool.true_and]) (fun M4 f4 g4 => ?_))
    refine pw_pI ?_
    have x4 : modIs M4 N k a := x3.mv (fun j _ _ h => f4.2 j h) (fun x h1 h2 => f4.1 x (by omega) (by omega))
    have f04 : fr k (k + 21) M M4 := fun x hx => by rw [f4.1 x (by omega) (by omega), e3 x (by omega), hf x hx]
    have h24 : M4 k 24 = nI (a.mK j c).length := g4.1
    obtain ⟨s1, s2, s3, s4⟩ := x4.2.2.2.2.2.2.2 t ht
    have fin : ∀ (b : Bool), cmd a (a.shs t) j i n c = b → ∀ v10 : Value, PW mX11_came 164 [.ref k, .int (nI j), .int (nI t), .int la, .int (nI i), .int (nI n), .int x6, .int (nI (bs (fun kd => cmd a (a.shs t) j i n kd) c)), .int (nI c), .int (nI (if b then 1 else 0)), v10] [] sh M4 N Q := by
      intro b hb v10
      have ih1 := ih (c + 1) M4 (.int (nI (if b then 1 else 0))) v10 (by omega) f04 x4
      rw [bs, hb] at ih1
      cases b with
      | true =>
        rw [if_pos rfl] at ih1
        refine pw_iload 166 rfl rfl rfl ?_
        refine pw_iload 168 rfl rfl rfl ?_
        refine pw_if_eq_f 171 rfl rfl (by decide) ?_
        refine pw_iconst (v := nI 1) 172 rfl rfl (by decide) ?_
        refine pw_iload 174 rfl rfl rfl ?_
        refine pw_ishl 175 rfl rfl ?_
        refine pw_goto rfl 179 rfl ?_
        refine pw_ior 180 rfl rfl ?_
        rw [or_bs _ (lt_1024 hbs (by omega)) _ (by omega) hbs]
        refine pw_istore7 182 rfl rfl rfl ?_
        first | refine pw_iincN8 185 rfl rfl rfl (by with_reducible rfl) ?_ | refine pw_iinc8 (w := _) 185 rfl rfl rfl rfl ?_
        refine pw_goto rfl 63 rfl ?_
        exact ih1
      | false =>
        rw [if_neg (by decide), Nat.add_zero] at ih1
        refine pw_iload 166 rfl rfl rfl ?_
        refine pw_iload 168 rfl rfl rfl ?_
        refine pw_if_eq_t 178 rfl rfl (by decide) ?_
        refine pw_iconst (v := nI 0) 179 rfl rfl (by decide) ?_
        refine pw_ior 180 rfl rfl ?_
        rw [or_0]
        refine pw_istore7 182 rfl rfl rfl ?_
        first | refine pw_iincN8 185 rfl rfl rfl (by with_reducible rfl) ?_ | refine pw_iinc8 (w := _) 185 rfl rfl rfl rfl ?_
        refine pw_goto rfl 63 rfl ?_
        exact ih1
    refine pw_pop 93 rfl rfl rfl ?_
    refine pw_aload_n 94 rfl rfl rfl ?_
    refine pw_getI 97 rfl rfl (by first | assumption | exact ⟨by decide, rfl⟩) rfl ?_
    refine pw_iload 99 rfl rfl rfl ?_
    rw [h24]
    by_cases q : (a.mK j c).length = n
    · rw [q]
      skip
      refine pw_icmp_ne_f 102 rfl rfl (fun e => e rfl) ?_
      refine pw_iconst (v := nI 1) 103 rfl rfl (by decide) ?_
      refine pw_goto rfl 107 rfl ?_
      refine pw_istore9 109 rfl rfl rfl ?_
      refine pw_iconst (v := nI 0) 110 rfl rfl (by decide) ?_
      refine pw_istore10 112 rfl rfl rfl ?_
      refine camecmp_loop (xs := a.mK j c) (h := a.shs t) hb0 ht hi q (fun z hz => (g4.2.1 z (by
        have : (a.mK j c).length = n := q
        show z < (a.mK j c).length
        omega)).1) s4 (fun h => ?_) (fun h => ?_) _ 0 (Nat.zero_add _) (fun j hj => absurd hj (Nat.not_lt_zero j))
      · exact fin true (decide_eq_true ⟨q, h⟩)
      · exact fin false (decide_eq_false (fun e => h e.2))
    · skip
      refine pw_icmp_ne_t 106 rfl rfl (fun e => q ((nI_eq (by omega) (by omega)).mp e)) ?_
      refine pw_iconst (v := nI 0) 107 rfl rfl (by decide) ?_
      refine pw_istore9 109 rfl rfl rfl ?_
      refine pw_iconst (v := nI 0) 110 rfl rfl (by decide) ?_
      refine pw_istore10 112 rfl rfl rfl ?_
      exact camecmp_out (by omega) (by decide) (fin false (decide_eq_false (fun e => q e.1)))
theorem m_came {r s la i n : Int32} (hb : isMod sh k) (hw : wfW a) (ho : okW a) (hx : modIs M N k a) (kk : mst k sh M N Q (.int (vCame a r s la i n)) a) : PW mX11_came 0 [.ref k, .int r, .int s, .int la, .int i, .int n, .null, .null, .null, .null, .null] [] sh M N Q := by
  have hb0 := hb
  obtain ⟨b0, a1, a2, a3, a4, a5, a6, a7, a8, a9, a10, a11, a12, a13, a14, a15, a16, a17, a18, a19, a20⟩ := hb
  have h10 : a.rs.length ≤ 10 := ho.1.2.1.1
  unfold vCame at kk
  have bad : mst k sh M N Q (.int (-1)) a → PW mX11_came 35 [.ref k, .int r, .int s, .int la, .int i, .int n, .null, .null, .null, .null, .null] [] sh M N Q := by
    intro kk
    refine pw_iconst (v := (-1)) 36 rfl rfl (by decide) ?_
    exact pw_iret rfl rfl (kk.at hx)
  refine pw_aload_n 1 rfl rfl rfl ?_
  refine pw_iload_n 2 rfl rfl rfl ?_
  refine pw_cV1 5 rfl rfl (by first | assumption | exact ⟨by decide, rfl⟩) rfl (Nat.le_of_ble_eq_true rfl) rfl rfl (Nat.le_of_ble_eq_true rfl) (c_isRuleM hb0 hx.2.1 h10 (fun j hj e => ?_) (fun hn => ?_))
  · refine pw_pI ?_
    subst e
    have hn9 : ix (nI j) a.rs.length = some j := ix_some hj (by omega)
    rw [hn9] at kk
    skip
    refine pw_if_eq_f 8 rfl rfl (by decide) ?_
    refine pw_iload_n 9 rfl rfl rfl ?_
    refine pw_cS1 12 rfl rfl rfl (Nat.le_of_ble_eq_true rfl) rfl rfl (Nat.le_of_ble_eq_true rfl) (c_isSheetM (fun t ht e => ?_) (fun hn => ?_))
    · refine pw_pI ?_
      subst e
      rw [ix_some ht (by decide)] at kk
      skip
      refine pw_if_eq_f 15 rfl rfl (by decide) ?_
      refine pw_iload_n 16 rfl rfl rfl ?_
      refine pw_cS1 19 rfl rfl rfl (Nat.le_of_ble_eq_true rfl) rfl rfl (Nat.le_of_ble_eq_true rfl) (c_isLaneM (fun l hl e => ?_) (fun hn => ?_))
      · refine pw_pI ?_
        subst e
        rw [ix_some hl (by decide)] at kk
        skip
        refine pw_if_eq_f 22 rfl rfl (by decide) ?_
        refine pw_iload 24 rfl rfl rfl ?_
        refine pw_i2l 25 rfl rfl ?_
        refine pw_lconst (v := lN 0) 26 rfl rfl (by decide) ?_
        refine pw_ldc2_w (v := lN 60) 29 rfl rfl rfl ?_
        refine pw_cS3 32 rfl rfl rfl (Nat.le_of_ble_eq_true rfl) rfl rfl (Nat.le_of_ble_eq_true rfl) (c_inX (b := 0) (c := 61) (by decide) (by decide) rfl (fun m h1 hm e => ?_) (fun hn => ?_))
        · refine pw_pI ?_
          subst e
          rw [ix_some hm (by decide)] at kk
          simp only at kk
          obtain ⟨o1, o2⟩ := ho.2.2 t ht
          skip
          refine pw_if_ne_t 37 rfl rfl (by decide) ?_
          refine pw_aload_n 38 rfl rfl rfl ?_
          refine pw_iload_n 39 rfl rfl rfl ?_
          refine pw_iload_n 40 rfl rfl rfl ?_
          refine pw_iload 42 rfl rfl rfl ?_
          refine pw_iload 44 rfl rfl rfl ?_
          refine pw_cV4 47 rfl rfl (by first | assumption | exact ⟨by decide, rfl⟩) rfl (Nat.le_of_ble_eq_true rfl) rfl rfl (Nat.le_of_ble_eq_true rfl) (c_finds hb0 ho ht hx ?_)
          refine pw_pI ?_
          by_cases q : rfs (a.shs t) (nI l) i (nI m) = 0
          · rw [if_neg (fun h => h q)] at kk
            obtain ⟨x, y, hxy, rfl, ey⟩ := rfs_0 q
            have hy1 : m = y := (nI_eq (by omega) (by omega)).mp ey
            subst hy1
            rw [nI_clamp (by omega)] at kk
            rw [q]
            refine pw_istore6 49 rfl rfl rfl ?_
            refine pw_iload 51 rfl rfl rfl ?_
            refine pw_if_ge_t 57 rfl rfl (by decide) ?_
            refine pw_iconst (v := nI 0) 58 rfl rfl (by decide) ?_
            refine pw_istore7 60 rfl rfl rfl ?_
            refine pw_iconst (v := nI 0) 61 rfl rfl (by decide) ?_
            refine pw_istore8 63 rfl rfl rfl ?_
            exact cameM_loop hb0 hw ho hx hj ht (by omega) (fun M1 f1 x1 => kk.go f1 x1) 5 0 M _ _ (by decide) fr.rf hx
          · rw [if_pos q] at kk
            have hneg := rfs_neg q
            refine pw_istore6 49 rfl rfl rfl ?_
            refine pw_iload 51 rfl rfl rfl ?_
            refine pw_if_ge_f 54 rfl rfl (Int32.not_le.mpr hneg) ?_
            refine pw_iload 56 rfl rfl rfl ?_
            exact pw_iret rfl rfl (kk.at hx)
        · refine pw_pI ?_
          rw [ix_none (fun j hj => hn j (Nat.zero_le j) hj)] at kk
          skip
          refine pw_if_ne_f 35 rfl rfl (by decide) ?_
          exact bad kk
      · refine pw_pI ?_
        rw [ix_none hn] at kk
        skip
        refine pw_if_eq_t 35 rfl rfl (by decide) ?_
        exact bad kk
    · refine pw_pI ?_
      rw [ix_none hn] at kk
      skip
      refine pw_if_eq_t 35 rfl rfl (by decide) ?_
      exact bad kk
  · refine pw_pI ?_
    have hn9 : ix r a.rs.length = none := ix_none hn
    rw [hn9] at kk
    skip
    refine pw_if_eq_t 35 rfl rfl (by decide) ?_
    exact bad kk
end MCA
