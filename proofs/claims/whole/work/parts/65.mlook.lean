/-! THE REFERENCE: comes, used, went, rest, image, restore -/
theorem pastIs.cong {f g : Nat → Int32} {hs : List aM} (h : pastIs f hs) (h8 : hs.length ≤ 8) (hl : ∀ x ∈ hs, x.1.length ≤ 60) (e : ∀ i, i < 976 → g i = f i) : pastIs g hs := by
  intro i m hi
  have h60 := hl m (List.mem_of_getElem? hi)
  have hil := (List.getElem?_eq_some_iff.mp hi).1
  exact held_cong (h i m hi) h60 (fun j hj => e _ (by omega))
section MLK
variable {sh : pmS} {M : pmM} {N : pmN} {Q : pmPost} {k : Nat} {a : aW}
theorem m_comes {w p : Int32} (hb : isMod sh k) (hw : wfW a) (ho : okW a) (hx : modIs M N k a) (kk : mst k sh M N Q (.int (vComes a w p)) a) : PW mX11_comes 0 [.ref k, .int w, .int p] [] sh M N Q := by
  have hb0 := hb
  obtain ⟨b0, a1, a2, a3, a4, a5, a6, a7, a8, a9, a10, a11, a12, a13, a14, a15, a16, a17, a18, a19, a20⟩ := hb
  have hml := mL_360 ho a.on
  unfold vComes at kk
  refine pw_iload_n 1 rfl rfl rfl ?_
  refine pw_i2l 2 rfl rfl ?_
  refine pw_lconst (v := lN 0) 3 rfl rfl (by decide) ?_
  refine pw_ldc2_w (v := lN 3) 6 rfl rfl rfl ?_
  refine pw_cS3 9 rfl rfl rfl (Nat.le_of_ble_eq_true rfl) rfl rfl (Nat.le_of_ble_eq_true rfl) (c_inX (b := 0) (c := 4) (by decide) (by decide) rfl (fun j h1 hj e => ?_) (fun hn => ?_))
  · refine pw_pI ?_
    subst e
    rw [ix_some hj (by decide)] at kk
    skip
    refine pw_if_ne_t 14 rfl rfl (by decide) ?_
    refine pw_aload_n 15 rfl rfl rfl ?_
    refine pw_cV0 18 rfl rfl (by first | assumption | exact ⟨by decide, rfl⟩) rfl (Nat.le_of_ble_eq_true rfl) rfl rfl (Nat.le_of_ble_eq_true rfl) (c_comesNow hb0 hw ho hx (fun M1 f1 x1 g1 => ?_))
    refine pw_pI ?_
    have pk : ∀ i, (i = 1 ∨ i = 2) → mst k sh M N Q (.int (match ix p (a.mL a.on).length with | none => -1 | some t => if i = 1 then (a.mL a.on).getD t 0 else (a.mS a.on).getD t 0)) a → PW mX11_comes 54 [.ref k, .int (nI i), .int p] [] sh M1 N Q := by
      intro i hi kk
      refine pw_iload_n 55 rfl rfl rfl ?_
      refine pw_i2l 56 rfl rfl ?_
      refine pw_lconst (v := lN 0) 57 rfl rfl (by decide) ?_
      refine pw_aload_n 58 rfl rfl rfl ?_
      refine pw_getI 61 rfl rfl (by first | assumption | exact ⟨by decide, rfl⟩) rfl ?_
      rw [g1.1]
      refine pw_iconst (v := nI 1) 62 rfl rfl (by decide) ?_
      refine pw_isub 63 rfl rfl ?_
      refine pw_i2l 64 rfl rfl ?_
      refine pw_cS3 67 rfl rfl rfl (Nat.le_of_ble_eq_true rfl) rfl rfl (Nat.le_of_ble_eq_true rfl) (c_inX (b := 0) (c := (a.mL a.on).length) (by decide) (by omega) (sub1_int _ (by omega)) (fun t h1 ht e => ?_) (fun hn => ?_))
      · refine pw_pI ?_
        subst e
        rw [ix_some ht (by omega)] at kk
        simp only at kk
        have y1 : t < 360 := by omega
        skip
        refine pw_if_ne_t 74 rfl rfl (by decide) ?_
        rcases hi with rfl | rfl
        · refine pw_iload_n 75 rfl rfl rfl ?_
          refine pw_iconst (v := nI 1) 76 rfl rfl (by decide) ?_
          refine pw_icmp_ne_f 79 rfl rfl (fun e => e rfl) ?_
          refine pw_aload_n 80 rfl rfl rfl ?_
          refine pw_getR 83 rfl rfl (by first | assumption | exact ⟨by decide, rfl⟩) rfl ?_
          refine pw_iload_n 84 rfl rfl rfl ?_
          refine pw_iald _ 85 rfl rfl (by first | assumption | exact ⟨by decide, rfl, by decide⟩) (by with_reducible rfl) (by first | assumption | omega) ?_
          refine pw_goto rfl 94 rfl ?_
          rw [(g1.2.1 t ht).1]
          exact pw_iret rfl rfl (kk.go f1 x1)
        · refine pw_iload_n 75 rfl rfl rfl ?_
          refine pw_iconst (v := nI 1) 76 rfl rfl (by decide) ?_
          refine pw_icmp_ne_t 88 rfl rfl (by decide) ?_
          refine pw_aload_n 89 rfl rfl rfl ?_
          refine pw_getR 92 rfl rfl (by first | assumption | exact ⟨by decide, rfl⟩) rfl ?_
          refine pw_iload_n 93 rfl rfl rfl ?_
          refine pw_iald _ 94 rfl rfl (by first | assumption | exact ⟨by decide, rfl, by decide⟩) (by with_reducible rfl) (by first | assumption | omega) ?_
          rw [(g1.2.1 t ht).2]
          exact pw_iret rfl rfl (kk.go f1 x1)
      · refine pw_pI ?_
        rw [ix_none (fun j hj => hn j (Nat.zero_le j) hj)] at kk
        skip
        refine pw_if_ne_f 70 rfl rfl (by decide) ?_
        refine pw_iconst (v := (-1)) 71 rfl rfl (by decide) ?_
        refine pw_goto rfl 94 rfl ?_
        exact pw_iret rfl rfl (kk.go f1 x1)
    rcases (show j = 0 ∨ j = 1 ∨ j = 2 ∨ j = 3 by omega) with rfl | rfl | rfl | rfl
    · refine pw_pop 19 rfl rfl rfl ?_
      refine pw_iload_n 20 rfl rfl rfl ?_
      refine pw_if_eq_t 28 rfl rfl (rfl) ?_
      refine pw_iload_n 29 rfl rfl rfl ?_
      refine pw_if_ne_f 32 rfl rfl (fun e => e rfl) ?_
      refine pw_aload_n 33 rfl rfl rfl ?_
      refine pw_getI 36 rfl rfl (by first | assumption | exact ⟨by decide, rfl⟩) rfl ?_
      refine pw_goto rfl 53 rfl ?_
      rw [g1.1]
      exact pw_iret rfl rfl (kk.go f1 x1)
    · refine pw_pop 19 rfl rfl rfl ?_
      refine pw_iload_n 20 rfl rfl rfl ?_
      refine pw_if_eq_f 23 rfl rfl (by decide) ?_
      refine pw_iload_n 24 rfl rfl rfl ?_
      refine pw_iconst (v := nI 3) 25 rfl rfl (by decide) ?_
      refine pw_icmp_ne_t 54 rfl rfl (by decide) ?_
      exact pk 1 (Or.inl rfl) kk
    · refine pw_pop 19 rfl rfl rfl ?_
      refine pw_iload_n 20 rfl rfl rfl ?_
      refine pw_if_eq_f 23 rfl rfl (by decide) ?_
      refine pw_iload_n 24 rfl rfl rfl ?_
      refine pw_iconst (v := nI 3) 25 rfl rfl (by decide) ?_
      refine pw_icmp_ne_t 54 rfl rfl (by decide) ?_
      exact pk 2 (Or.inr rfl) kk
    · simp only at kk
      refine pw_pop 19 rfl rfl rfl ?_
      refine pw_iload_n 20 rfl rfl rfl ?_
      refine pw_if_eq_f 23 rfl rfl (by decide) ?_
      refine pw_iload_n 24 rfl rfl rfl ?_
      refine pw_iconst (v := nI 3) 25 rfl rfl (by decide) ?_
      refine pw_icmp_ne_f 28 rfl rfl (fun e => e rfl) ?_
      refine pw_iload_n 29 rfl rfl rfl ?_
      refine pw_if_ne_t 39 rfl rfl (by decide) ?_
      refine pw_aload_n 40 rfl rfl rfl ?_
      refine pw_getI 43 rfl rfl (by first | assumption | exact ⟨by decide, rfl⟩) rfl ?_
      refine pw_bipush (v := nI 60) 45 rfl rfl (by decide) ?_
      rw [g1.1]
      by_cases q : (a.mL a.on).length ≤ 60
      · rw [if_pos q] at kk
        skip
        refine pw_icmp_le_t 52 rfl rfl (nI_le q (by decide)) ?_
        refine pw_iconst (v := nI 1) 53 rfl rfl (by decide) ?_
        exact pw_iret rfl rfl (kk.go f1 x1)
      · rw [if_neg q] at kk
        skip
        refine pw_icmp_le_f 48 rfl rfl (nI_ge (Nat.lt_of_not_le q) (by omega)) ?_
        refine pw_iconst (v := nI 0) 49 rfl rfl (by decide) ?_
        refine pw_goto rfl 53 rfl ?_
        exact pw_iret rfl rfl (kk.go f1 x1)
  · refine pw_pI ?_
    rw [ix_none (fun j hj => hn j (Nat.zero_le j) hj)] at kk
    skip
    refine pw_if_ne_f 12 rfl rfl (by decide) ?_
    refine pw_iconst (v := (-1)) 13 rfl rfl (by decide) ?_
    exact pw_iret rfl rfl (kk.at hx)
theorem m_used {p : Int32} (hb : isMod sh k) (hw : wfW a) (ho : okW a) (hx : modIs M N k a) (kk : mst k sh M N Q (.int (vUsed a p)) a) : PW mX11_used 0 [.ref k, .int p] [] sh M N Q := by
  have hb0 := hb
  obtain ⟨b0, a1, a2, a3, a4, a5, a6, a7, a8, a9, a10, a11, a12, a13, a14, a15, a16, a17, a18, a19, a20⟩ := hb
  have h60 : a.ls.length ≤ 60 := ho.1.1.1
  have hl := hx.2.2.1.ln
  unfold vUsed at kk
  refine pw_aload_n 1 rfl rfl rfl ?_
  refine pw_iload_n 2 rfl rfl rfl ?_
  refine pw_cV1 5 rfl rfl (by first | assumption | exact ⟨by decide, rfl⟩) rfl (Nat.le_of_ble_eq_true rfl) rfl rfl (Nat.le_of_ble_eq_true rfl) (c_isPlaceM hb0 hl h60 (fun i hi e1 => ?_) (fun hn => ?_))
  · refine pw_pI ?_
    subst e1
    have hn9 : ix (nI i) a.ls.length = some i := ix_some hi (by omega)
    have hi : i < a.ls.length := hi
    rw [hn9] at kk
    simp only at kk
    have y1 : i < 60 := by omega
    skip
    refine pw_if_ne_t 10 rfl rfl (by decide) ?_
    refine pw_aload_n 11 rfl rfl rfl ?_
    refine pw_cV0 14 rfl rfl (by first | assumption | exact ⟨by decide, rfl⟩) rfl (Nat.le_of_ble_eq_true rfl) rfl rfl (Nat.le_of_ble_eq_true rfl) (c_comesNow hb0 hw ho hx (fun M1 f1 x1 g1 => ?_))
    refine pw_pI ?_
    refine pw_pop 15 rfl rfl rfl ?_
    refine pw_aload_n 16 rfl rfl rfl ?_
    refine pw_getR 19 rfl rfl (by first | assumption | exact ⟨by decide, rfl⟩) rfl ?_
    refine pw_iload_n 20 rfl rfl rfl ?_
    refine pw_iald _ 21 rfl rfl (by first | assumption | exact ⟨by decide, rfl, by decide⟩) (by with_reducible rfl) (by first | assumption | omega) ?_
    rw [g1.2.2.1 i (by rw [uAt_len, List.length_replicate]; exact hi)]
    exact pw_iret rfl rfl (kk.go f1 x1)
  · refine pw_pI ?_
    have hn9 : ix p a.ls.length = none := ix_none hn
    rw [hn9] at kk
    skip
    refine pw_if_ne_f 8 rfl rfl (by decide) ?_
    refine pw_iconst (v := (-1)) 9 rfl rfl (by decide) ?_
    exact pw_iret rfl rfl (kk.at hx)
theorem wentM_loop {x : Int32} {xs : List Int32} (hb : isMod sh k) (h24 : M k 24 = nI xs.length) (hn : xs.length ≤ 360) (hv : ∀ i, i < xs.length → M (k + 16) i = xs.getD i 0) (kk : Q (some (.int (fnd xs x 0))) sh M N) :
    ∀ (d i : Nat), i + d = xs.length → fnd (xs.drop i) x i = fnd xs x 0 → PW mX11_went 21 [.ref k, .int x, .int (nI i)] [] sh M N Q := by
  obtain ⟨b0, a1, a2, a3, a4, a5, a6, a7, a8, a9, a10, a11, a12, a13, a14, a15, a16, a17, a18, a19, a20⟩ := hb
  intro d
  induction d with
  | zero =>
    intro i hi e
    rw [List.drop_eq_nil_of_le (by omega), fnd] at e
    refine pw_iload_n 22 rfl rfl rfl ?_
    refine pw_aload_n 23 rfl rfl rfl ?_
    refine pw_getI 26 rfl rfl (by first | assumption | exact ⟨by decide, rfl⟩) rfl ?_
    rw [h24]
    refine pw_icmp_ge_t 47 rfl rfl (nI_le (by omega) (by omega)) ?_
    refine pw_bipush (v := (-4)) 49 rfl rfl (by decide) ?_
    rw [← e] at kk
    exact pw_iret rfl rfl (kk)
  | succ d ih =>
    intro i hi e
    have hi2 : i < xs.length := by omega
    have y1 : i < 360 := by omega
    have hg : xs.getD i 0 = xs[i] := by rw [List.getD_eq_getElem?_getD, List.getElem?_eq_getElem hi2]; rfl
    rw [List.drop_eq_getElem_cons hi2, fnd] at e
    refine pw_iload_n 22 rfl rfl rfl ?_
    refine pw_aload_n 23 rfl rfl rfl ?_
    refine pw_getI 26 rfl rfl (by first | assumption | exact ⟨by decide, rfl⟩) rfl ?_
    rw [h24]
    refine pw_icmp_ge_f 29 rfl rfl (nI_ge (by omega) (by omega)) ?_
    refine pw_aload_n 30 rfl rfl rfl ?_
    refine pw_getR 33 rfl rfl (by first | assumption | exact ⟨by decide, rfl⟩) rfl ?_
    refine pw_iload_n 34 rfl rfl rfl ?_
    refine pw_iald _ 35 rfl rfl (by first | assumption | exact ⟨by decide, rfl, by decide⟩) (by with_reducible rfl) (by first | assumption | omega) ?_
    refine pw_iload_n 36 rfl rfl rfl ?_
    rw [hv i hi2, hg]
    refine pw_icmp_ne 41 39 rfl rfl rfl (fun q => ?_) (fun q => ?_)
    · rw [if_neg q] at e
      first | refine pw_iincN2 44 rfl rfl rfl (by with_reducible rfl) ?_ | refine pw_iinc2 (w := _) 44 rfl rfl rfl rfl ?_
      refine pw_goto rfl 21 rfl ?_
      exact ih (i + 1) (by omega) e
    · rw [if_pos (Decidable.not_not.mp q)] at e
      rw [← e] at kk
      refine pw_iload_n 40 rfl rfl rfl ?_
      exact pw_iret rfl rfl (kk)
theorem m_went {x : Int32} (hb : isMod sh k) (hw : wfW a) (ho : okW a) (hx : modIs M N k a) (kk : mst k sh M N Q (.int (vWent a x)) a) : PW mX11_went 0 [.ref k, .int x, .null] [] sh M N Q := by
  have b0 := hb.1
  have hml := mL_360 ho a.on
  have hms := mS_len a a.on
  unfold vWent at kk
  refine pw_iload_n 1 rfl rfl rfl ?_
  refine pw_i2l 2 rfl rfl ?_
  refine pw_lconst (v := lN 0) 3 rfl rfl (by decide) ?_
  refine pw_ldc2_w (v := lN 59) 6 rfl rfl rfl ?_
  refine pw_cS3 9 rfl rfl rfl (Nat.le_of_ble_eq_true rfl) rfl rfl (Nat.le_of_ble_eq_true rfl) (c_inX (b := 0) (c := 60) (by decide) (by decide) rfl (fun j h1 hj e => ?_) (fun hn => ?_))
  · refine pw_pI ?_
    subst e
    rw [ix_some hj (by decide)] at kk
    skip
    refine pw_if_ne_t 14 rfl rfl (by decide) ?_
    refine pw_aload_n 15 rfl rfl rfl ?_
    refine pw_cV0 18 rfl rfl (by first | assumption | exact ⟨by decide, rfl⟩) rfl (Nat.le_of_ble_eq_true rfl) rfl rfl (Nat.le_of_ble_eq_true rfl) (c_comesNow hb hw ho hx (fun M1 f1 x1 g1 => ?_))
    refine pw_pI ?_
    refine pw_pop 19 rfl rfl rfl ?_
    refine pw_iconst (v := nI 0) 20 rfl rfl (by decide) ?_
    refine pw_istore2 21 rfl rfl rfl ?_
    exact wentM_loop (xs := a.mS a.on) hb (by rw [hms]; exact g1.1) (by omega) (fun i hi => (g1.2.1 i (by omega)).2) (kk.go f1 x1) _ 0 (Nat.zero_add _) rfl
  · refine pw_pI ?_
    rw [ix_none (fun j hj => hn j (Nat.zero_le j) hj)] at kk
    skip
    refine pw_if_ne_f 12 rfl rfl (by decide) ?_
    refine pw_iconst (v := (-1)) 13 rfl rfl (by decide) ?_
    exact pw_iret rfl rfl (kk.at hx)
theorem c_sameLine {kt on : Nat} {A ls ss : List Int32} (hb : isMod sh k) (ht : pmAy sh kt 0 122 []) (hl : lnAt (M kt) ls ss on) (h60 : ls.length ≤ 60) (h24 : M k 24 = nI A.length) (h360 : A.length ≤ 360) (hv : ∀ i, i < A.length → M (k + 15) i = A.getD i 0) (ky : A = ls → Q (some (.int (nI 1))) sh M N) (kn : ¬ A = ls → Q (some (.int (nI 0))) sh M N) : PW mX11_isSameLine 0 [.ref k, .ref kt, .null, .null] [] sh M N Q := by
  obtain ⟨b0, a1, a2, a3, a4, a5, a6, a7, a8, a9, a10, a11, a12, a13, a14, a15, a16, a17, a18, a19, a20⟩ := hb
  have out : ∀ i, i < 1000 → ¬ A = ls → PW mX11_isSameLine 18 [.ref k, .ref kt, .int (nI 0), .int (nI i)] [] sh M N Q := by
    intro i hi h
    refine pw_iload_n 19 rfl rfl rfl ?_
    refine pw_aload_n 20 rfl rfl rfl ?_
    refine pw_getI 23 rfl rfl (by first | assumption | exact ⟨by decide, rfl⟩) rfl ?_
    rw [h24]
    refine pw_icmp_ge 56 26 rfl rfl rfl (fun q => ?_) (fun q => ?_)
    · refine pw_iload_n 57 rfl rfl rfl ?_
      exact pw_zret rfl rfl (by first | exact Or.inl rfl | exact Or.inr rfl | assumption) (kn h)
    · refine pw_iload_n 27 rfl rfl rfl ?_
      refine pw_if_eq_t 56 rfl rfl (rfl) ?_
      refine pw_iload_n 57 rfl rfl rfl ?_
      exact pw_zret rfl rfl (by first | exact Or.inl rfl | exact Or.inr rfl | assumption) (kn h)
  have loop : A.length = ls.length → ∀ (d i : Nat), i + d = A.length → (∀ j, j < i → A.getD j 0 = ls.getD j 0) → PW mX11_isSameLine 18 [.ref k, .ref kt, .int (nI 1), .int (nI i)] [] sh M N Q := by
    intro he d
    induction d with
    | zero =>
      intro i hi hw
      have e : A = ls := by
        apply List.ext_getElem he
        intro j h1 h2
        have := hw j (by omega)
        simpa [List.getD_eq_getElem?_getD, List.getElem?_eq_getElem h1, List.getElem?_eq_getElem h2] using this
      refine pw_iload_n 19 rfl rfl rfl ?_
      refine pw_aload_n 20 rfl rfl rfl ?_
      refine pw_getI 23 rfl rfl (by first | assumption | exact ⟨by decide, rfl⟩) rfl ?_
      rw [h24]
      refine pw_icmp_ge_t 56 rfl rfl (nI_le (by omega) (by omega)) ?_
      refine pw_iload_n 57 rfl rfl rfl ?_
      exact pw_zret rfl rfl (by first | exact Or.inl rfl | exact Or.inr rfl | assumption) (ky e)
    | succ d ih =>
      intro i hi hw
      have y1 : 2 + i < 122 := by omega
      have y2 : i < 360 := by omega
      refine pw_iload_n 19 rfl rfl rfl ?_
      refine pw_aload_n 20 rfl rfl rfl ?_
      refine pw_getI 23 rfl rfl (by first | assumption | exact ⟨by decide, rfl⟩) rfl ?_
      rw [h24]
      refine pw_icmp_ge_f 26 rfl rfl (nI_ge (by omega) (by omega)) ?_
      refine pw_iload_n 27 rfl rfl rfl ?_
      refine pw_if_eq_f 30 rfl rfl (by decide) ?_
      refine pw_aload_n 31 rfl rfl rfl ?_
      refine pw_iconst (v := nI 2) 32 rfl rfl (by decide) ?_
      refine pw_iload_n 33 rfl rfl rfl ?_
      first | refine pw_iaddN 34 rfl rfl (by with_reducible rfl) (by with_reducible rfl) ?_ | refine pw_iadd 34 rfl rfl ?_
      refine pw_iald _ 35 rfl rfl (by first | assumption | exact ⟨by decide, rfl, by decide⟩) (by with_reducible rfl) (by first | assumption | omega) ?_
      rw [hl.2.2.1 i (by omega)]
      refine pw_aload_n 36 rfl rfl rfl ?_
      refine pw_getR 39 rfl rfl (by first | assumption | exact ⟨by decide, rfl⟩) rfl ?_
      refine pw_iload_n 40 rfl rfl rfl ?_
      refine pw_iald _ 41 rfl rfl (by first | assumption | exact ⟨by decide, rfl, by decide⟩) (by with_reducible rfl) (by first | assumption | omega) ?_
      rw [hv i (by omega)]
      refine pw_icmp_ne 48 44 rfl rfl rfl (fun q => ?_) (fun q => ?_)
      · refine pw_iconst (v := nI 0) 49 rfl rfl (by decide) ?_
        refine pw_istore2 50 rfl rfl rfl ?_
        first | refine pw_iincN3 53 rfl rfl rfl (by with_reducible rfl) ?_ | refine pw_iinc3 (w := _) 53 rfl rfl rfl rfl ?_
        refine pw_goto rfl 18 rfl ?_
        exact out (i + 1) (by omega) (fun e => q (by rw [e]))
      · have q := Decidable.not_not.mp q
        refine pw_iconst (v := nI 1) 45 rfl rfl (by decide) ?_
        refine pw_goto rfl 49 rfl ?_
        refine pw_istore2 50 rfl rfl rfl ?_
        first | refine pw_iincN3 53 rfl rfl rfl (by with_reducible rfl) ?_ | refine pw_iinc3 (w := _) 53 rfl rfl rfl rfl ?_
        refine pw_goto rfl 18 rfl ?_
        refine ih (i + 1) (by omega) (fun j hj => ?_)
        by_cases e : j = i
        · subst e; exact q.symm
        · exact hw j (by omega)
  refine pw_aload_n 1 rfl rfl rfl ?_
  refine pw_iconst (v := nI 0) 2 rfl rfl (by decide) ?_
  refine pw_iald _ 3 rfl rfl (by first | assumption | exact ⟨by decide, rfl, by decide⟩) (by with_reducible rfl) (by first | assumption | omega) ?_
  rw [hl.1]
  refine pw_aload_n 4 rfl rfl rfl ?_
  refine pw_getI 7 rfl rfl (by first | assumption | exact ⟨by decide, rfl⟩) rfl ?_
  rw [h24]
  by_cases q : ls.length = A.length
  · rw [q]
    skip
    refine pw_icmp_ne_f 10 rfl rfl (fun e => e rfl) ?_
    refine pw_iconst (v := nI 1) 11 rfl rfl (by decide) ?_
    refine pw_goto rfl 15 rfl ?_
    refine pw_istore2 16 rfl rfl rfl ?_
    refine pw_iconst (v := nI 0) 17 rfl rfl (by decide) ?_
    refine pw_istore3 18 rfl rfl rfl ?_
    exact loop q.symm _ 0 (Nat.zero_add _) (fun j hj => absurd hj (Nat.not_lt_zero j))
  · skip
    refine pw_icmp_ne_t 14 rfl rfl (fun e => q ((nI_eq (by omega) (by omega)).mp e)) ?_
    refine pw_iconst (v := nI 0) 15 rfl rfl (by decide) ?_
    refine pw_istore2 16 rfl rfl rfl ?_
    refine pw_iconst (v := nI 0) 17 rfl rfl (by decide) ?_
    refine pw_istore3 18 rfl rfl rfl ?_
    exact out 0 (by decide) (fun e => q (by rw [e]))
theorem restM_loop (hb : isMod sh k) (hw : wfW a) (ho : okW a) (hx : modIs M N k a) (v : Int32) (kk : ∀ M', fr k (k + 21) M M' → modIs M' N k a → Q (some (.int v)) sh M' N) :
    ∀ (f n : Nat) (ls ss : List Int32) (M1 : pmM), n + f = 21 → ls.length ≤ 60 → (∀ x, x ≠ k → (x < k + 15 ∨ k + 21 ≤ x) → M1 x = M x) → (∀ j, j ≠ 24 → M1 k j = M k j) → lnAt (M1 (k + 20)) ls ss a.on → (∀ r, r < a.rs.length → M1 (k + 19) r = nI ((kds a.rs).getD r 0)) → rstF a.rs a.on f n ls = v → PW mX11_rest 19 [.ref k, .int (nI n)] [] sh M1 N Q := by
  have hb0 := hb
  obtain ⟨b0, a1, a2, a3, a4, a5, a6, a7, a8, a9, a10, a11, a12, a13, a14, a15, a16, a17, a18, a19, a20⟩ := hb
  have hon := on_1024 hw ho
  have h10 : a.rs.length ≤ 10 := ho.1.2.1.1
  have fin : ∀ M1 : pmM, (∀ x, x ≠ k → (x < k + 15 ∨ k + 21 ≤ x) → M1 x = M x) → (∀ j, j ≠ 24 → M1 k j = M k j) → Q (some (.int v)) sh M1 N := fun M1 h1 h2 => kk M1 (fun x hx => h1 x (by omega) (by omega)) (hx.mv (fun j _ _ h => h2 j h) (fun x g1 g2 => h1 x (by omega) (by omega)))
  intro f
  induction f with
  | zero =>
    intro n ls ss M1 hn h60 hf hg hl hk e
    rw [rstF] at e
    subst e
    have : n = 21 := by omega
    subst this
    refine pw_iload_n 20 rfl rfl rfl ?_
    refine pw_bipush (v := nI 21) 22 rfl rfl (by decide) ?_
    refine pw_icmp_ge_t 76 rfl rfl (by decide) ?_
    refine pw_bipush (v := (-4)) 78 rfl rfl (by decide) ?_
    exact pw_iret rfl rfl (fin M1 hf hg)
  | succ f ih =>
    intro n ls ss M1 hn h60 hf hg hl hk e
    rw [rstF] at e
    have hgf : ∀ r, (pGf a.rs r).length ≤ 6 := by
      intro r
      by_cases hr : r < a.rs.length
      · exact (gR_wf ho.1.2.1.2 hr).2.2.2
      · have e : gR a.rs r = (0, [], []) := by unfold gR; rw [List.getD_eq_getElem?_getD, List.getElem?_eq_none (by omega)]; rfl
        unfold pGf; rw [e]; exact Nat.zero_le _
    have h360 : (outL a.rs (kds a.rs) ls (tr a.rs (kds a.rs) ls 0 a.on)).length ≤ 360 := by
      have h := outL_le (kds a.rs) ls hgf (ls.length - 0) 0 a.on
      have h2 : (outL a.rs (kds a.rs) ls (tr a.rs (kds a.rs) ls 0 a.on)).length ≤ 6 * (ls.length - 0) := h
      omega
    refine pw_iload_n 20 rfl rfl rfl ?_
    refine pw_bipush (v := nI 21) 22 rfl rfl (by decide) ?_
    refine pw_icmp_ge_f 25 rfl rfl (nI_ge (by omega) (by omega)) ?_
    refine pw_aload_n 26 rfl rfl rfl ?_
    refine pw_aload_n 27 rfl rfl rfl ?_
    refine pw_getR 30 rfl rfl (by first | assumption | exact ⟨by decide, rfl⟩) rfl ?_
    refine pw_sipush (v := nI 1023) 33 rfl rfl (by decide) ?_
    refine pw_cV2 36 rfl rfl (by first | assumption | exact ⟨by decide, rfl⟩) rfl (Nat.le_of_ble_eq_true rfl) rfl rfl (Nat.le_of_ble_eq_true rfl) (c_goesOver (rs := a.rs) (ls := ls) (ss := ss) (st := 1023) (s := a.on) (on := a.on) (kd := kds a.rs) hb0 a20 (Or.inr rfl) (by rw [hf (k + 2) (by omega) (by omega)]; exact hx.2.1) ho.1.2.1.2 h10 hl h60 (by decide) hon (fun r hr => ⟨hk r hr, kds_all ho.1.2.1.2 hr⟩) (fun r hr => by rw [b1023 r (by omega), Bool.true_and]) (fun M2 f2 g2 => ?_))
    refine pw_pI ?_
    have l2 : lnAt (M2 (k + 20)) ls ss a.on := by rw [f2.1 (k + 20) (by omega) (by omega)]; exact hl
    have hf2 : ∀ x, x ≠ k → (x < k + 15 ∨ k + 21 ≤ x) → M2 x = M x := fun x h1 h2 => by rw [f2.1 x h1 (by omega), hf x h1 h2]
    have hg2 : ∀ j, j ≠ 24 → M2 k j = M k j := fun j hj => by rw [f2.2 j hj, hg j hj]
    refine pw_pop 37 rfl rfl rfl ?_
    refine pw_aload_n 38 rfl rfl rfl ?_
    refine pw_aload_n 39 rfl rfl rfl ?_
    refine pw_getR 42 rfl rfl (by first | assumption | exact ⟨by decide, rfl⟩) rfl ?_
    refine pw_cV1 45 rfl rfl (by first | assumption | exact ⟨by decide, rfl⟩) rfl (Nat.le_of_ble_eq_true rfl) rfl rfl (Nat.le_of_ble_eq_true rfl) (c_sameLine hb0 a20 l2 h60 g2.1 h360 (fun i hi => (g2.2.1 i hi).1) (fun h => ?_) (fun h => ?_))
    · refine pw_pI ?_
      rw [if_neg (by rw [h]; omega), if_pos h] at e
      subst e
      skip
      refine pw_if_eq_f 48 rfl rfl (by decide) ?_
      refine pw_iload_n 49 rfl rfl rfl ?_
      exact pw_iret rfl rfl (fin M2 hf2 hg2)
    · refine pw_pI ?_
      skip
      refine pw_if_eq_t 50 rfl rfl (by decide) ?_
      refine pw_aload_n 51 rfl rfl rfl ?_
      refine pw_getI 54 rfl rfl (by first | assumption | exact ⟨by decide, rfl⟩) rfl ?_
      refine pw_bipush (v := nI 60) 56 rfl rfl (by decide) ?_
      rw [g2.1]
      by_cases q : 60 < (outL a.rs (kds a.rs) ls (tr a.rs (kds a.rs) ls 0 a.on)).length
      · rw [if_pos q] at e
        subst e
        skip
        refine pw_icmp_le_f 59 rfl rfl (nI_ge q (by omega)) ?_
        refine pw_bipush (v := (-4)) 61 rfl rfl (by decide) ?_
        exact pw_iret rfl rfl (fin M2 hf2 hg2)
      · rw [if_neg q, if_neg h] at e
        skip
        refine pw_icmp_le_t 62 rfl rfl (nI_le (by omega) (by omega)) ?_
        refine pw_aload_n 63 rfl rfl rfl ?_
        refine pw_aload_n 64 rfl rfl rfl ?_
        refine pw_getR 67 rfl rfl (by first | assumption | exact ⟨by decide, rfl⟩) rfl ?_
        refine pw_cV1 70 rfl rfl (by first | assumption | exact ⟨by decide, rfl⟩) rfl (Nat.le_of_ble_eq_true rfl) rfl rfl (Nat.le_of_ble_eq_true rfl) (c_becomes (on := a.on) hb0 a20 (Or.inr rfl) (by omega) g2.1 g2.2.1 l2.2.1 (fun M3 f3 l3 => ?_))
        refine pw_pV ?_
        first | refine pw_iincN1 73 rfl rfl rfl (by with_reducible rfl) ?_ | refine pw_iinc1 (w := _) 73 rfl rfl rfl rfl ?_
        refine pw_goto rfl 19 rfl ?_
        refine ih (n + 1) _ _ M3 (by omega) (by omega) (fun x h1 h2 => by rw [f3 x (by omega), hf2 x h1 h2]) (fun j hj => by rw [f3 k (by omega), hg2 j hj]) l3 (fun r hr => by rw [f3 (k + 19) (by omega), f2.1 (k + 19) (by omega) (by omega)]; exact hk r hr) e
theorem m_rest (hb : isMod sh k) (hw : wfW a) (ho : okW a) (hx : modIs M N k a) (kk : mst k sh M N Q (.int (vRest a)) a) : PW mX11_rest 0 [.ref k, .null] [] sh M N Q := by
  have hb0 := hb
  obtain ⟨b0, a1, a2, a3, a4, a5, a6, a7, a8, a9, a10, a11, a12, a13, a14, a15, a16, a17, a18, a19, a20⟩ := hb
  have h10 : a.rs.length ≤ 10 := ho.1.2.1.1
  have h60 : a.now.1.1.length ≤ 60 := ho.1.1.1
  refine pw_aload_n 1 rfl rfl rfl ?_
  refine pw_cV0 4 rfl rfl (by first | assumption | exact ⟨by decide, rfl⟩) rfl (Nat.le_of_ble_eq_true rfl) rfl rfl (Nat.le_of_ble_eq_true rfl) (c_kindsM hb0 hx.2.1 h10 (fun M1 f1 e1 => ?_))
  refine pw_pV ?_
  refine pw_aload_n 5 rfl rfl rfl ?_
  refine pw_getR 8 rfl rfl (by first | assumption | exact ⟨by decide, rfl⟩) rfl ?_
  refine pw_aload_n 9 rfl rfl rfl ?_
  refine pw_getR 12 rfl rfl (by first | assumption | exact ⟨by decide, rfl⟩) rfl ?_
  refine pw_bipush (v := nI 122) 14 rfl rfl (by decide) ?_
  refine pw_cS3 17 rfl rfl rfl (Nat.le_of_ble_eq_true rfl) rfl rfl (Nat.le_of_ble_eq_true rfl) (c_copies a3 a20 (by omega) (by decide) (by decide) (fun M2 f2 e2 => ?_))
  refine pw_pV ?_
  refine pw_iconst (v := nI 0) 18 rfl rfl (by decide) ?_
  refine pw_istore1 19 rfl rfl rfl ?_
  have hh : held (M2 (k + 20)) 0 a.now.1 := held_cong hx.2.2.1 h60 (fun i hi => by rw [Nat.zero_add, e2 i, if_pos hi, f1 (k + 3) (by omega)])
  exact restM_loop hb0 hw ho hx (vRest a) (fun M' f' x' => kk M' N f' (fun _ _ => rfl) x') 21 0 a.ls a.ss M2 (by decide) h60 (fun x h1 h2 => by rw [f2 x (by omega), f1 x (by omega)]) (fun j hj => by rw [f2 k (by omega), f1 k (by omega)]) hh.ln (fun r hr => by rw [f2 (k + 19) (by omega)]; exact e1 r hr) rfl
theorem m_image (hb : isMod sh k) (hw : wfW a) (ho : okW a) (hx : modIs M N k a) (kk : mst k sh M N Q (.int (vImage a).1) (vImage a).2) : PW mX11_image 0 [.ref k] [] sh M N Q := by
  have hb0 := hb
  obtain ⟨b0, a1, a2, a3, a4, a5, a6, a7, a8, a9, a10, a11, a12, a13, a14, a15, a16, a17, a18, a19, a20⟩ := hb
  have h10 : a.rs.length ≤ 10 := ho.1.2.1.1
  have h60 : a.now.1.1.length ≤ 60 := ho.1.1.1
  have h8 : a.now.2.2.length ≤ 8 := ho.1.2.2.1
  have hl : ∀ x ∈ a.now.2.2, x.1.length ≤ 60 := fun x hx => (ho.1.2.2.2 x hx).1
  unfold vImage at kk
  refine pw_aload_n 1 rfl rfl rfl ?_
  refine pw_getR 4 rfl rfl (by first | assumption | exact ⟨by decide, rfl⟩) rfl ?_
  refine pw_aload_n 5 rfl rfl rfl ?_
  refine pw_getR 8 rfl rfl (by first | assumption | exact ⟨by decide, rfl⟩) rfl ?_
  refine pw_sipush (v := nI 151) 11 rfl rfl (by decide) ?_
  refine pw_cS3 14 rfl rfl rfl (Nat.le_of_ble_eq_true rfl) rfl rfl (Nat.le_of_ble_eq_true rfl) (c_copies a2 a5 (by omega) (by decide) (by decide) (fun M1 f1 e1 => ?_))
  refine pw_pV ?_
  refine pw_aload_n 15 rfl rfl rfl ?_
  refine pw_getR 18 rfl rfl (by first | assumption | exact ⟨by decide, rfl⟩) rfl ?_
  refine pw_aload_n 19 rfl rfl rfl ?_
  refine pw_getR 22 rfl rfl (by first | assumption | exact ⟨by decide, rfl⟩) rfl ?_
  refine pw_bipush (v := nI 122) 24 rfl rfl (by decide) ?_
  refine pw_cS3 27 rfl rfl rfl (Nat.le_of_ble_eq_true rfl) rfl rfl (Nat.le_of_ble_eq_true rfl) (c_copies a3 a6 (by omega) (by decide) (by decide) (fun M2 f2 e2 => ?_))
  refine pw_pV ?_
  refine pw_aload_n 28 rfl rfl rfl ?_
  refine pw_getR 31 rfl rfl (by first | assumption | exact ⟨by decide, rfl⟩) rfl ?_
  refine pw_aload_n 32 rfl rfl rfl ?_
  refine pw_getR 35 rfl rfl (by first | assumption | exact ⟨by decide, rfl⟩) rfl ?_
  refine pw_sipush (v := nI 976) 38 rfl rfl (by decide) ?_
  refine pw_cS3 41 rfl rfl rfl (Nat.le_of_ble_eq_true rfl) rfl rfl (Nat.le_of_ble_eq_true rfl) (c_copies a4 a7 (by omega) (by decide) (by decide) (fun M3 f3 e3 => ?_))
  refine pw_pV ?_
  have g3 : ∀ x, x ≠ k + 5 → x ≠ k + 6 → x ≠ k + 7 → M3 x = M x := fun x h1 h2 h3 => by rw [f3 x (by omega), f2 x (by omega), f1 x (by omega)]
  have r5 : ruled (M3 (k + 5)) a.rs := ruled_cong hx.2.1 h10 (wfR_lens ho.1.2.1.2) (fun i hi => by rw [f3 (k + 5) (by omega), f2 (k + 5) (by omega), e1 i, if_pos hi])
  have r6 : held (M3 (k + 6)) 0 a.now.1 := held_cong hx.2.2.1 h60 (fun i hi => by rw [Nat.zero_add, f3 (k + 6) (by omega), e2 i, if_pos hi, f1 (k + 3) (by omega)])
  have r7 : pastIs (M3 (k + 7)) a.now.2.2 := hx.2.2.2.1.2.cong h8 hl (fun i hi => by rw [e3 i, if_pos hi, f2 (k + 4) (by omega), f1 (k + 4) (by omega)])
  have h5 : M3 k 5 = nI a.now.2.2.length := by rw [g3 k (by omega) (by omega) (by omega)]; exact hx.2.2.2.1.1
  refine pw_aload_n 42 rfl rfl rfl ?_
  refine pw_aload_n 43 rfl rfl rfl ?_
  refine pw_getI 46 rfl rfl (by first | assumption | exact ⟨by decide, rfl⟩) rfl ?_
  rw [h5]
  refine pw_putI 49 rfl rfl (by first | assumption | exact ⟨by decide, rfl⟩) rfl (by decide) ?_
  refine pw_aload_n 50 rfl rfl rfl ?_
  refine pw_iconst (v := nI 1) 51 rfl rfl (by decide) ?_
  refine pw_putZ 54 rfl rfl (by first | assumption | exact ⟨by decide, rfl⟩) rfl (by decide) (by first | exact Or.inl rfl | exact Or.inr rfl | assumption) ?_
  refine pw_iconst (v := nI 1) 55 rfl rfl (by decide) ?_
  have e6 : ∀ x, x ≠ k → pmSt (pmSt M3 k 11 (nI a.now.2.2.length)) k 12 (nI 1) x = M3 x := fun x h => by rw [st_ne _ _ _ _ h, st_ne _ _ _ _ h]
  have k6 : ∀ i, i ≠ 11 → i ≠ 12 → pmSt (pmSt M3 k 11 (nI a.now.2.2.length)) k 12 (nI 1) k i = M k i := fun i h1 h2 => by rw [st_row _ _ _ _ h2, st_row _ _ _ _ h1, g3 k (by omega) (by omega) (by omega)]
  obtain ⟨x1, x2, x3, ⟨x4, x5⟩, x6, x7, _, x9⟩ := hx
  refine pw_iret rfl rfl (kk.go (fun x hx => ?_) ⟨⟨?_, fun i hi => ?_⟩, ?_, ?_, ⟨?_, ?_⟩, ?_, ?_, ⟨?_, fun s hs => ?_⟩, fun i hi => ?_⟩)
  · rw [e6 x (by omega), g3 x (by omega) (by omega) (by omega)]
  · rw [k6 1 (by decide) (by decide)]; exact x1.1
  · rw [e6 (k + 1) (by omega), g3 (k + 1) (by omega) (by omega) (by omega)]; exact x1.2 i hi
  · rw [e6 (k + 2) (by omega), g3 (k + 2) (by omega) (by omega) (by omega)]; exact x2
  · rw [e6 (k + 3) (by omega), g3 (k + 3) (by omega) (by omega) (by omega)]; exact x3
  · rw [k6 5 (by decide) (by decide)]; exact x4
  · rw [e6 (k + 4) (by omega), g3 (k + 4) (by omega) (by omega) (by omega)]; exact x5
  · rw [k6 6 (by decide) (by decide)]; exact x6
  · rw [k6 7 (by decide) (by decide)]; exact x7
  · rw [st_same]; rfl
  · cases hs
    refine ⟨?_, ?_, ?_, ?_⟩
    · rw [e6 (k + 5) (by omega)]; exact r5
    · rw [e6 (k + 6) (by omega)]; exact r6
    · rw [st_row _ _ _ _ (by decide), st_same]
    · rw [e6 (k + 7) (by omega)]; exact r7
  · rw [e6 (k + 8) (by omega), e6 (k + 9) (by omega), e6 (k + 10) (by omega), g3 (k + 8) (by omega) (by omega) (by omega), g3 (k + 9) (by omega) (by omega) (by omega), g3 (k + 10) (by omega) (by omega) (by omega)]
    exact x9 i hi
theorem m_restore (hb : isMod sh k) (hw : wfW a) (ho : okW a) (hx : modIs M N k a) (kk : mst k sh M N Q (.int (vRestore a).1) (vRestore a).2) : PW mX11_restore 0 [.ref k] [] sh M N Q := by
  have hb0 := hb
  obtain ⟨b0, a1, a2, a3, a4, a5, a6, a7, a8, a9, a10, a11, a12, a13, a14, a15, a16, a17, a18, a19, a20⟩ := hb
  have h12 : M k 12 = nI (if a.img.isSome then 1 else 0) := hx.2.2.2.2.2.2.1.1
  have hi := hx.2.2.2.2.2.2.1.2
  have hoi := ho.2.1
  unfold vRestore at kk
  refine pw_aload_n 1 rfl rfl rfl ?_
  refine pw_getI 4 rfl rfl (by first | assumption | exact ⟨by decide, rfl⟩) rfl ?_
  rw [h12]
  cases him : a.img with
  | none =>
    rw [him] at kk
    simp only at kk
    skip
    refine pw_if_ne_f 7 rfl rfl (fun e => e rfl) ?_
    refine pw_bipush (v := (-4)) 9 rfl rfl (by decide) ?_
    exact pw_iret rfl rfl (kk.at hx)
  | some s =>
    rw [him] at kk
    simp only at kk
    obtain ⟨i1, i2, i3, i4⟩ := hi s him
    obtain ⟨o1, o2, o3, o4⟩ := hoi s him
    skip
    refine pw_if_ne_t 10 rfl rfl (show ¬ nI 1 = 0 by decide) ?_
    refine pw_aload_n 11 rfl rfl rfl ?_
    refine pw_getR 14 rfl rfl (by first | assumption | exact ⟨by decide, rfl⟩) rfl ?_
    refine pw_aload_n 15 rfl rfl rfl ?_
    refine pw_getR 18 rfl rfl (by first | assumption | exact ⟨by decide, rfl⟩) rfl ?_
    refine pw_sipush (v := nI 151) 21 rfl rfl (by decide) ?_
    refine pw_cS3 24 rfl rfl rfl (Nat.le_of_ble_eq_true rfl) rfl rfl (Nat.le_of_ble_eq_true rfl) (c_copies a5 a2 (by omega) (by decide) (by decide) (fun M1 f1 e1 => ?_))
    refine pw_pV ?_
    refine pw_aload_n 25 rfl rfl rfl ?_
    refine pw_getR 28 rfl rfl (by first | assumption | exact ⟨by decide, rfl⟩) rfl ?_
    refine pw_aload_n 29 rfl rfl rfl ?_
    refine pw_getR 32 rfl rfl (by first | assumption | exact ⟨by decide, rfl⟩) rfl ?_
    refine pw_bipush (v := nI 122) 34 rfl rfl (by decide) ?_
    refine pw_cS3 37 rfl rfl rfl (Nat.le_of_ble_eq_true rfl) rfl rfl (Nat.le_of_ble_eq_true rfl) (c_copies a6 a3 (by omega) (by decide) (by decide) (fun M2 f2 e2 => ?_))
    refine pw_pV ?_
    refine pw_aload_n 38 rfl rfl rfl ?_
    refine pw_getR 41 rfl rfl (by first | assumption | exact ⟨by decide, rfl⟩) rfl ?_
    refine pw_aload_n 42 rfl rfl rfl ?_
    refine pw_getR 45 rfl rfl (by first | assumption | exact ⟨by decide, rfl⟩) rfl ?_
    refine pw_sipush (v := nI 976) 48 rfl rfl (by decide) ?_
    refine pw_cS3 51 rfl rfl rfl (Nat.le_of_ble_eq_true rfl) rfl rfl (Nat.le_of_ble_eq_true rfl) (c_copies a7 a4 (by omega) (by decide) (by decide) (fun M3 f3 e3 => ?_))
    refine pw_pV ?_
    have g3 : ∀ x, x ≠ k + 2 → x ≠ k + 3 → x ≠ k + 4 → M3 x = M x := fun x h1 h2 h3 => by rw [f3 x (by omega), f2 x (by omega), f1 x (by omega)]
    have r5 : ruled (M3 (k + 2)) s.2.1 := ruled_cong i1 o2.1 (wfR_lens o2.2) (fun i hi => by rw [f3 (k + 2) (by omega), f2 (k + 2) (by omega), e1 i, if_pos hi])
    have r6 : held (M3 (k + 3)) 0 s.1 := held_cong i2 o1.1 (fun i hi => by rw [Nat.zero_add, f3 (k + 3) (by omega), e2 i, if_pos hi, f1 (k + 6) (by omega)])
    have r7 : pastIs (M3 (k + 4)) s.2.2 := i4.cong o3 (fun x hx => (o4 x hx).1) (fun i hi => by rw [e3 i, if_pos hi, f2 (k + 7) (by omega), f1 (k + 7) (by omega)])
    have h11 : M3 k 11 = nI s.2.2.length := by rw [g3 k (by omega) (by omega) (by omega)]; exact i3
    refine pw_aload_n 52 rfl rfl rfl ?_
    refine pw_aload_n 53 rfl rfl rfl ?_
    refine pw_getI 56 rfl rfl (by first | assumption | exact ⟨by decide, rfl⟩) rfl ?_
    rw [h11]
    refine pw_putI 59 rfl rfl (by first | assumption | exact ⟨by decide, rfl⟩) rfl (by decide) ?_
    refine pw_aload_n 60 rfl rfl rfl ?_
    refine pw_bipush (v := (-4)) 62 rfl rfl (by decide) ?_
    refine pw_putI 65 rfl rfl (by first | assumption | exact ⟨by decide, rfl⟩) rfl (by decide) ?_
    refine pw_iconst (v := nI 1) 66 rfl rfl (by decide) ?_
    have e6 : ∀ x, x ≠ k → pmSt (pmSt M3 k 5 (nI s.2.2.length)) k 7 (-4) x = M3 x := fun x h => by rw [st_ne _ _ _ _ h, st_ne _ _ _ _ h]
    have k6 : ∀ i, i ≠ 5 → i ≠ 7 → pmSt (pmSt M3 k 5 (nI s.2.2.length)) k 7 (-4) k i = M k i := fun i h1 h2 => by rw [st_row _ _ _ _ h2, st_row _ _ _ _ h1, g3 k (by omega) (by omega) (by omega)]
    refine pw_iret rfl rfl (kk.go (fun x hx => ?_) (hx.mk4 (fun x h1 h2 => ?_) (k6 11 (by decide) (by decide)) (k6 12 (by decide) (by decide)) ⟨?_, fun i hi => ?_⟩ ?_ ?_ ?_ ?_ ?_ ?_))
    · rw [e6 x (by omega), g3 x (by omega) (by omega) (by omega)]
    · rw [e6 x (by omega), g3 x (by omega) (by omega) (by omega)]
    · rw [k6 1 (by decide) (by decide)]; exact hx.1.1
    · rw [e6 (k + 1) (by omega), g3 (k + 1) (by omega) (by omega) (by omega)]; exact hx.1.2 i hi
    · rw [e6 (k + 2) (by omega)]; exact r5
    · rw [e6 (k + 3) (by omega)]; exact r6
    · rw [st_row _ _ _ _ (by decide), st_same]
    · rw [e6 (k + 4) (by omega)]; exact r7
    · rw [k6 6 (by decide) (by decide)]; exact hx.2.2.2.2.1
    · rw [st_same]; rfl
end MLK
