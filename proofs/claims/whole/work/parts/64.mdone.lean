/-! THE REFERENCE: what is done -/
theorem held_mv {f g : Nat → Int32} {o o' : Nat} {m : aM} (h : held f o m) (h60 : m.1.length ≤ 60) (e : ∀ i, i < 122 → g (o' + i) = f (o + i)) : held g o' m := by
  obtain ⟨a1, a2, a3, a4⟩ := h
  refine ⟨by have := e 0 (by decide); rw [Nat.add_zero, Nat.add_zero] at this; rw [this]; exact a1, by rw [e 1 (by decide)]; exact a2, fun i hi => ?_, fun i hi => ?_⟩
  · rw [Nat.add_assoc, e _ (by omega), ← Nat.add_assoc]; exact a3 i hi
  · rw [Nat.add_assoc, e _ (by omega), ← Nat.add_assoc]; exact a4 i hi
theorem pastIs.note {f f' g : Nat → Int32} {hs : List aM} {m : aM} (h : pastIs f hs) (hm : held g 0 m) (h8 : hs.length ≤ 8) (hl : ∀ x ∈ hs, x.1.length ≤ 60) (hm6 : m.1.length ≤ 60) {n : Nat} (hn : n = if hs.length = 8 then 7 else hs.length)
    (e1 : ∀ i, i < 122 → f' (122 * n + i) = g i) (e2 : ∀ j, j < 122 * n → f' j = if hs.length = 8 then f (j + 122) else f j) : pastIs f' ((m :: hs).take 8) := by
  have hlen : ((m :: hs).take 8).length = n + 1 := by
    rw [List.length_take, List.length_cons, hn]
    split <;> omega
  intro i x hi
  rw [hlen]
  have hi8 : i < n + 1 := by
    have := (List.getElem?_eq_some_iff.mp hi).1
    omega
  rw [List.getElem?_take] at hi
  have hi7 : i < 8 := by
    by_cases q : i < 8
    · exact q
    · rw [if_neg q] at hi; cases hi
  rw [if_pos hi7] at hi
  cases i with
  | zero =>
    rw [List.getElem?_cons_zero] at hi
    cases hi
    refine held_mv hm hm6 (fun i hi => ?_)
    rw [Nat.zero_add, show n + 1 - 1 - 0 = n by omega]
    exact e1 i hi
  | succ i =>
    rw [List.getElem?_cons_succ] at hi
    have hx := h i x hi
    have hil := (List.getElem?_eq_some_iff.mp hi).1
    have h60 := hl x (List.mem_of_getElem? hi)
    refine held_mv hx h60 (fun q hq => ?_)
    have e3 : n + 1 - 1 - (i + 1) = n - (i + 1) := by omega
    rw [e3, e2 _ (by
      have : n - (i + 1) + 1 ≤ n := by omega
      have := Nat.mul_le_mul_left 122 this
      omega)]
    by_cases q8 : hs.length = 8
    · rw [if_pos q8] at hn ⊢
      have : hs.length - 1 - i = n - (i + 1) + 1 := by omega
      rw [this]
      congr 1
      omega
    · rw [if_neg q8] at hn ⊢
      have : hs.length - 1 - i = n - (i + 1) := by omega
      rw [this]
section MDO
variable {sh : pmS} {M : pmM} {N : pmN} {Q : pmPost} {k : Nat} {a : aW}
theorem modIs.noted {M2 : pmM} {ls ss : List Int32} {on : Nat} (hx : modIs M N k a) (f : ∀ x, k + 1 ≤ x → x ≤ k + 10 → x ≠ k + 3 → x ≠ k + 4 → M2 x = M x) (g : ∀ j, j ≠ 5 → j ≠ 18 → j ≠ 21 → j ≠ 24 → M2 k j = M k j) (h5 : M2 k 5 = nI (noted a).length) (hp : pastIs (M2 (k + 4)) (noted a)) (hl : lnAt (M2 (k + 3)) ls ss on) : modIs M2 N k (wNow a ((ls, ss, on), a.rs, noted a)) := by
  have ht := hx.1
  refine hx.mk4 (fun x h1 h2 => f x (by omega) h2 (by omega) (by omega)) (g 11 (by decide) (by decide) (by decide) (by decide)) (g 12 (by decide) (by decide) (by decide) (by decide)) ⟨?_, fun i hi => ?_⟩ ?_ hl.held h5 hp ?_ ?_
  · rw [g 1 (by decide) (by decide) (by decide) (by decide)]; exact ht.1
  · rw [f (k + 1) (by omega) (by omega) (by omega) (by omega)]; exact ht.2 i hi
  · rw [f (k + 2) (by omega) (by omega) (by omega) (by omega)]; exact hx.2.1
  · rw [g 6 (by decide) (by decide) (by decide) (by decide)]; exact hx.2.2.2.2.1
  · rw [g 7 (by decide) (by decide) (by decide) (by decide)]; exact hx.2.2.2.2.2.1
theorem notes_one (hb : isMod sh k) (kk : ∀ M', (∀ x, x ≠ k + 4 → M' x = M x) → (∀ j, M' (k + 4) j = if j < 854 then M (k + 4) (j + 122) else M (k + 4) j) → PW mX11_notes 39 [.ref k, .int (nI 854)] [] sh M' N Q) :
    ∀ (d i : Nat) (M1 : pmM), i + d = 854 → (∀ x, x ≠ k + 4 → M1 x = M x) → (∀ j, M1 (k + 4) j = if j < i then M (k + 4) (j + 122) else M (k + 4) j) → PW mX11_notes 11 [.ref k, .int (nI i)] [] sh M1 N Q := by
  obtain ⟨b0, a1, a2, a3, a4, a5, a6, a7, a8, a9, a10, a11, a12, a13, a14, a15, a16, a17, a18, a19, a20⟩ := hb
  intro d
  induction d with
  | zero =>
    intro i M1 hi hf hv
    have : i = 854 := by omega
    subst this
    refine pw_iload_n 12 rfl rfl rfl ?_
    refine pw_sipush (v := nI 854) 15 rfl rfl (by decide) ?_
    refine pw_icmp_ge_t 39 rfl rfl (by decide) ?_
    exact kk M1 hf hv
  | succ d ih =>
    intro i M1 hi hf hv
    have y1 : i + 122 < 976 := by omega
    have y2 : i < 976 := by omega
    refine pw_iload_n 12 rfl rfl rfl ?_
    refine pw_sipush (v := nI 854) 15 rfl rfl (by decide) ?_
    refine pw_icmp_ge_f 18 rfl rfl (nI_ge (by omega) (by omega)) ?_
    refine pw_aload_n 19 rfl rfl rfl ?_
    refine pw_getR 22 rfl rfl (by first | assumption | exact ⟨by decide, rfl⟩) rfl ?_
    refine pw_iload_n 23 rfl rfl rfl ?_
    refine pw_aload_n 24 rfl rfl rfl ?_
    refine pw_getR 27 rfl rfl (by first | assumption | exact ⟨by decide, rfl⟩) rfl ?_
    refine pw_iload_n 28 rfl rfl rfl ?_
    refine pw_bipush (v := nI 122) 30 rfl rfl (by decide) ?_
    first | refine pw_iaddN 31 rfl rfl (by with_reducible rfl) (by with_reducible rfl) ?_ | refine pw_iadd 31 rfl rfl ?_
    refine pw_iald _ 32 rfl rfl (by first | assumption | exact ⟨by decide, rfl, by decide⟩) (by with_reducible rfl) (by first | assumption | omega) ?_
    refine pw_iast _ 33 rfl rfl (by first | assumption | exact ⟨by decide, rfl, by decide⟩) (by with_reducible rfl) (by first | assumption | omega) ?_
    first | refine pw_iincN1 36 rfl rfl rfl (by with_reducible rfl) ?_ | refine pw_iinc1 (w := _) 36 rfl rfl rfl rfl ?_
    refine pw_goto rfl 11 rfl ?_
    refine ih (i + 1) _ (by omega) (fun x hx => by rw [st_ne _ _ _ _ hx, hf x hx]) (fun j => ?_)
    by_cases q : j = i
    · subst q
      rw [st_same, if_pos (Nat.lt_succ_self _), hv (j + 122), if_neg (by omega)]
    · rw [st_row _ _ _ _ q, hv j]
      by_cases q2 : j < i
      · rw [if_pos q2, if_pos (by omega)]
      · rw [if_neg q2, if_neg (by omega)]
theorem notes_two {n : Nat} (hb : isMod sh k) (hn : n ≤ 7) (h5 : M k 5 = nI n) (kk : ∀ M', (∀ x, x ≠ k → x ≠ k + 4 → M' x = M x) → (∀ j, j ≠ 5 → M' k j = M k j) → M' k 5 = nI (n + 1) → (∀ j, M' (k + 4) j = if 122 * n ≤ j ∧ j < 122 * n + 122 then M (k + 3) (j - 122 * n) else M (k + 4) j) → Q none sh M' N) :
    ∀ (d i : Nat) (M1 : pmM), i + d = 122 → (∀ x, x ≠ k + 4 → M1 x = M x) → (∀ j, M1 (k + 4) j = if 122 * n ≤ j ∧ j < 122 * n + i then M (k + 3) (j - 122 * n) else M (k + 4) j) → PW mX11_notes 51 [.ref k, .int (nI i)] [] sh M1 N Q := by
  obtain ⟨b0, a1, a2, a3, a4, a5, a6, a7, a8, a9, a10, a11, a12, a13, a14, a15, a16, a17, a18, a19, a20⟩ := hb
  intro d
  induction d with
  | zero =>
    intro i M1 hi hf hv
    have : i = 122 := by omega
    subst this
    refine pw_iload_n 52 rfl rfl rfl ?_
    refine pw_bipush (v := nI 122) 54 rfl rfl (by decide) ?_
    refine pw_icmp_ge_t 83 rfl rfl (by decide) ?_
    refine pw_aload_n 84 rfl rfl rfl ?_
    refine pw_dup 85 rfl rfl rfl ?_
    refine pw_getI 88 rfl rfl (by first | assumption | exact ⟨by decide, rfl⟩) rfl ?_
    rw [hf k (by omega), h5]
    refine pw_iconst (v := nI 1) 89 rfl rfl (by decide) ?_
    first | refine pw_iaddN 90 rfl rfl (by with_reducible rfl) (by with_reducible rfl) ?_ | refine pw_iadd 90 rfl rfl ?_
    refine pw_putI 93 rfl rfl (by first | assumption | exact ⟨by decide, rfl⟩) rfl (by decide) ?_
    refine pw_vret rfl (kk _ (fun x h1 h2 => by rw [st_ne _ _ _ _ h1, hf x h2]) (fun j hj => by rw [st_row _ _ _ _ hj, hf k (by omega)]) (st_same _ _ _ _) (fun j => by rw [st_ne _ _ _ _ (by omega)]; exact hv j))
  | succ d ih =>
    intro i M1 hi hf hv
    have y1 : 122 * n + i < 976 := by omega
    have y2 : i < 122 := by omega
    refine pw_iload_n 52 rfl rfl rfl ?_
    refine pw_bipush (v := nI 122) 54 rfl rfl (by decide) ?_
    refine pw_icmp_ge_f 57 rfl rfl (nI_ge (by omega) (by omega)) ?_
    refine pw_aload_n 58 rfl rfl rfl ?_
    refine pw_getR 61 rfl rfl (by first | assumption | exact ⟨by decide, rfl⟩) rfl ?_
    refine pw_bipush (v := nI 122) 63 rfl rfl (by decide) ?_
    refine pw_aload_n 64 rfl rfl rfl ?_
    refine pw_getI 67 rfl rfl (by first | assumption | exact ⟨by decide, rfl⟩) rfl ?_
    rw [hf k (by omega), h5]
    first | refine pw_imulN 68 rfl rfl (by with_reducible rfl) (by with_reducible rfl) ?_ | refine pw_imul 68 rfl rfl ?_
    refine pw_iload_n 69 rfl rfl rfl ?_
    first | refine pw_iaddN 70 rfl rfl (by with_reducible rfl) (by with_reducible rfl) ?_ | refine pw_iadd 70 rfl rfl ?_
    refine pw_aload_n 71 rfl rfl rfl ?_
    refine pw_getR 74 rfl rfl (by first | assumption | exact ⟨by decide, rfl⟩) rfl ?_
    refine pw_iload_n 75 rfl rfl rfl ?_
    refine pw_iald _ 76 rfl rfl (by first | assumption | exact ⟨by decide, rfl, by decide⟩) (by with_reducible rfl) (by first | assumption | omega) ?_
    refine pw_iast _ 77 rfl rfl (by first | assumption | exact ⟨by decide, rfl, by decide⟩) (by with_reducible rfl) (by first | assumption | omega) ?_
    first | refine pw_iincN1 80 rfl rfl rfl (by with_reducible rfl) ?_ | refine pw_iinc1 (w := _) 80 rfl rfl rfl rfl ?_
    refine pw_goto rfl 51 rfl ?_
    refine ih (i + 1) _ (by omega) (fun x hx => by rw [st_ne _ _ _ _ hx, hf x hx]) (fun j => ?_)
    by_cases q : j = 122 * n + i
    · subst q
      rw [st_same, if_pos (by omega), hf (k + 3) (by omega), Nat.add_sub_cancel_left]
    · rw [st_row _ _ _ _ q, hv j]
      by_cases q2 : 122 * n ≤ j ∧ j < 122 * n + i
      · rw [if_pos q2, if_pos (by omega)]
      · rw [if_neg q2, if_neg (by omega)]
theorem c_notes (hb : isMod sh k) (ho : okW a) (hx : modIs M N k a) (kk : ∀ M', (∀ x, x ≠ k → x ≠ k + 4 → M' x = M x) → (∀ j, j ≠ 5 → M' k j = M k j) → M' k 5 = nI (noted a).length → pastIs (M' (k + 4)) (noted a) → Q none sh M' N) : PW mX11_notes 0 [.ref k, .null] [] sh M N Q := by
  have hb0 := hb
  obtain ⟨b0, a1, a2, a3, a4, a5, a6, a7, a8, a9, a10, a11, a12, a13, a14, a15, a16, a17, a18, a19, a20⟩ := hb
  have h5 : M k 5 = nI a.now.2.2.length := hx.2.2.2.1.1
  have hp := hx.2.2.2.1.2
  have hm := hx.2.2.1
  have h8 : a.now.2.2.length ≤ 8 := ho.1.2.2.1
  have hl : ∀ x ∈ a.now.2.2, x.1.length ≤ 60 := fun x hx => (ho.1.2.2.2 x hx).1
  have h6 : a.now.1.1.length ≤ 60 := ho.1.1.1
  refine pw_aload_n 1 rfl rfl rfl ?_
  refine pw_getI 4 rfl rfl (by first | assumption | exact ⟨by decide, rfl⟩) rfl ?_
  refine pw_bipush (v := nI 8) 6 rfl rfl (by decide) ?_
  rw [h5]
  by_cases q : a.now.2.2.length = 8
  · rw [q] at h5 ⊢
    skip
    refine pw_icmp_ne_f 9 rfl rfl (fun e => e rfl) ?_
    refine pw_iconst (v := nI 0) 10 rfl rfl (by decide) ?_
    refine pw_istore1 11 rfl rfl rfl ?_
    refine notes_one hb0 (fun M1 f1 e1 => ?_) 854 0 M (by decide) (fun _ _ => rfl) (fun j => by rw [if_neg (Nat.not_lt_zero j)])
    refine pw_aload_n 40 rfl rfl rfl ?_
    refine pw_dup 41 rfl rfl rfl ?_
    refine pw_getI 44 rfl rfl (by first | assumption | exact ⟨by decide, rfl⟩) rfl ?_
    rw [f1 k (by omega), h5]
    refine pw_iconst (v := nI 1) 45 rfl rfl (by decide) ?_
    first | refine pw_isubN 46 rfl rfl (by with_reducible rfl) (by with_reducible rfl) (by omega) ?_ | refine pw_isub 46 rfl rfl ?_
    refine pw_putI 49 rfl rfl (by first | assumption | exact ⟨by decide, rfl⟩) rfl (by decide) ?_
    refine pw_iconst (v := nI 0) 50 rfl rfl (by decide) ?_
    refine pw_istore1 51 rfl rfl rfl ?_
    refine notes_two (n := 7) hb0 (by decide) (st_same _ _ _ _) (fun M2 f2 g2 n2 e2 => ?_) 122 0 _ (by decide) (fun _ _ => rfl) (fun j => by rw [if_neg (by omega)])
    refine kk M2 (fun x h1 h2 => by rw [f2 x h1 h2, st_ne _ _ _ _ h1, f1 x h2]) (fun j hj => by rw [g2 j hj, st_row _ _ _ _ hj, f1 k (by omega)]) (by rw [n2, List.length_take, List.length_cons, q]; rfl) ?_
    refine pastIs.note (n := 7) hp hm h8 hl h6 (by rw [if_pos q]) (fun i hi => ?_) (fun j hj => ?_)
    · rw [e2, if_pos (by omega), st_ne _ _ _ _ (by omega), f1 (k + 3) (by omega), Nat.add_sub_cancel_left]
    · rw [e2, if_neg (by omega), st_ne _ _ _ _ (by omega), e1, if_pos (by omega), if_pos q]
  · skip
    refine pw_icmp_ne_t 49 rfl rfl (fun e => q ((nI_eq (by omega) (by decide)).mp e)) ?_
    refine pw_iconst (v := nI 0) 50 rfl rfl (by decide) ?_
    refine pw_istore1 51 rfl rfl rfl ?_
    refine notes_two (n := a.now.2.2.length) hb0 (by omega) h5 (fun M2 f2 g2 n2 e2 => ?_) 122 0 _ (by decide) (fun _ _ => rfl) (fun j => by rw [if_neg (by omega)])
    refine kk M2 f2 g2 (by rw [n2, List.length_take, List.length_cons, Nat.min_eq_right (by omega)]) ?_
    refine pastIs.note (n := a.now.2.2.length) hp hm h8 hl h6 (by rw [if_neg q]) (fun i hi => ?_) (fun j hj => ?_)
    · rw [e2, if_pos (by omega), Nat.add_sub_cancel_left]
    · rw [e2, if_neg (by omega), if_neg q]
theorem m_change {p x : Int32} (hb : isMod sh k) (hw : wfW a) (ho : okW a) (hx : modIs M N k a) (kk : mst k sh M N Q (.int (vChange a p x).1) (vChange a p x).2) : PW mX11_change 0 [.ref k, .int p, .int x, .null] [] sh M N Q := by
  have hb0 := hb
  obtain ⟨b0, a1, a2, a3, a4, a5, a6, a7, a8, a9, a10, a11, a12, a13, a14, a15, a16, a17, a18, a19, a20⟩ := hb
  have h60 : a.ls.length ≤ 60 := ho.1.1.1
  have hl := hx.2.2.1.ln
  unfold vChange at kk
  have bad : mst k sh M N Q (.int (-1)) a → PW mX11_change 15 [.ref k, .int p, .int x, .null] [] sh M N Q := by
    intro kk
    refine pw_iconst (v := (-1)) 16 rfl rfl (by decide) ?_
    exact pw_iret rfl rfl (kk.at hx)
  refine pw_aload_n 1 rfl rfl rfl ?_
  refine pw_iload_n 2 rfl rfl rfl ?_
  refine pw_cV1 5 rfl rfl (by first | assumption | exact ⟨by decide, rfl⟩) rfl (Nat.le_of_ble_eq_true rfl) rfl rfl (Nat.le_of_ble_eq_true rfl) (c_isPlaceM hb0 hl h60 (fun i hi e1 => ?_) (fun hn => ?_))
  · refine pw_pI ?_
    subst e1
    have hn9 : ix (nI i) a.ls.length = some i := ix_some hi (by omega)
    have hi : i < a.ls.length := hi
    rw [hn9] at kk
    simp only at kk
    have y1 : 2 + i < 122 := by omega
    skip
    refine pw_if_eq_f 8 rfl rfl (by decide) ?_
    refine pw_iload_n 9 rfl rfl rfl ?_
    refine pw_cS1 12 rfl rfl rfl (Nat.le_of_ble_eq_true rfl) rfl rfl (Nat.le_of_ble_eq_true rfl) (c_isLetterM (fun hy => ?_) (fun hn => ?_))
    · refine pw_pI ?_
      rw [if_neg (by rw [hy]; decide)] at kk
      skip
      refine pw_if_ne_t 17 rfl rfl (by decide) ?_
      refine pw_aload_n 18 rfl rfl rfl ?_
      refine pw_getR 21 rfl rfl (by first | assumption | exact ⟨by decide, rfl⟩) rfl ?_
      refine pw_iconst (v := nI 2) 22 rfl rfl (by decide) ?_
      refine pw_iload_n 23 rfl rfl rfl ?_
      first | refine pw_iaddN 24 rfl rfl (by with_reducible rfl) (by with_reducible rfl) ?_ | refine pw_iadd 24 rfl rfl ?_
      refine pw_iald _ 25 rfl rfl (by first | assumption | exact ⟨by decide, rfl, by decide⟩) (by with_reducible rfl) (by first | assumption | omega) ?_
      rw [hl.2.2.1 i hi]
      refine pw_istore3 26 rfl rfl rfl ?_
      refine pw_iload_n 27 rfl rfl rfl ?_
      refine pw_iload_n 28 rfl rfl rfl ?_
      by_cases q : a.ls.getD i 0 = x
      · rw [if_pos q] at kk
        skip
        refine pw_icmp_ne_f 31 rfl rfl (fun e => e q) ?_
        refine pw_bipush (v := (-2)) 33 rfl rfl (by decide) ?_
        exact pw_iret rfl rfl (kk.at hx)
      · rw [if_neg q] at kk
        skip
        refine pw_icmp_ne_t 34 rfl rfl (q) ?_
        refine pw_aload_n 35 rfl rfl rfl ?_
        refine pw_cV0 38 rfl rfl (by first | assumption | exact ⟨by decide, rfl⟩) rfl (Nat.le_of_ble_eq_true rfl) rfl rfl (Nat.le_of_ble_eq_true rfl) (c_notes hb0 ho hx (fun M1 f1 g1 n1 p1 => ?_))
        refine pw_pV ?_
        refine pw_aload_n 39 rfl rfl rfl ?_
        refine pw_getR 42 rfl rfl (by first | assumption | exact ⟨by decide, rfl⟩) rfl ?_
        refine pw_iconst (v := nI 2) 43 rfl rfl (by decide) ?_
        refine pw_iload_n 44 rfl rfl rfl ?_
        first | refine pw_iaddN 45 rfl rfl (by with_reducible rfl) (by with_reducible rfl) ?_ | refine pw_iadd 45 rfl rfl ?_
        refine pw_iload_n 46 rfl rfl rfl ?_
        refine pw_iast _ 47 rfl rfl (by first | assumption | exact ⟨by decide, rfl, by decide⟩) (by with_reducible rfl) (by first | assumption | omega) ?_
        refine pw_iload_n 48 rfl rfl rfl ?_
        have f2 : ∀ z, z ≠ k + 3 → pmSt M1 (k + 3) (2 + i) x z = M1 z := fun z hz => st_ne _ _ _ _ hz
        refine pw_iret rfl rfl (kk.go (fun z hz => ?_) (hx.noted (fun z h1 h2 h3 h4 => ?_) (fun j h1 _ _ _ => ?_) ?_ ?_ ⟨?_, ?_, fun j hj => ?_, fun j hj => ?_⟩))
        · rw [f2 z (by omega), f1 z (by omega) (by omega)]
        · rw [f2 z h3, f1 z (by omega) h4]
        · rw [f2 k (by omega), g1 j h1]
        · rw [f2 k (by omega)]; exact n1
        · rw [f2 (k + 4) (by omega)]; exact p1
        · rw [st_row _ _ _ _ (by omega), f1 (k + 3) (by omega) (by omega), List.length_set]; exact hl.1
        · rw [st_row _ _ _ _ (by omega), f1 (k + 3) (by omega) (by omega)]; exact hl.2.1
        · rw [List.length_set] at hj
          rw [getD_set hi]
          by_cases q2 : j = i
          · subst q2; rw [st_same, if_pos rfl]
          · rw [st_row _ _ _ _ (by omega), f1 (k + 3) (by omega) (by omega), if_neg q2]; exact hl.2.2.1 j hj
        · rw [List.length_set] at hj
          have hj : j < a.ls.length := hj
          rw [st_row _ _ _ _ (by omega), f1 (k + 3) (by omega) (by omega)]; exact hl.2.2.2 j hj
    · refine pw_pI ?_
      rw [if_pos hn] at kk
      skip
      refine pw_if_ne_f 15 rfl rfl (by decide) ?_
      exact bad kk
  · refine pw_pI ?_
    have hn9 : ix p a.ls.length = none := ix_none hn
    rw [hn9] at kk
    skip
    refine pw_if_eq_t 15 rfl rfl (by decide) ?_
    exact bad kk
theorem m_turn {r : Int32} (hb : isMod sh k) (hw : wfW a) (ho : okW a) (hx : modIs M N k a) (kk : mst k sh M N Q (.int (vTurn a r).1) (vTurn a r).2) : PW mX11_turn 0 [.ref k, .int r] [] sh M N Q := by
  have hb0 := hb
  obtain ⟨b0, a1, a2, a3, a4, a5, a6, a7, a8, a9, a10, a11, a12, a13, a14, a15, a16, a17, a18, a19, a20⟩ := hb
  have hon := on_1024 hw ho
  have h10 : a.rs.length ≤ 10 := ho.1.2.1.1
  have hl := hx.2.2.1.ln
  unfold vTurn at kk
  refine pw_aload_n 1 rfl rfl rfl ?_
  refine pw_iload_n 2 rfl rfl rfl ?_
  refine pw_cV1 5 rfl rfl (by first | assumption | exact ⟨by decide, rfl⟩) rfl (Nat.le_of_ble_eq_true rfl) rfl rfl (Nat.le_of_ble_eq_true rfl) (c_isRuleM hb0 hx.2.1 h10 (fun j hj e => ?_) (fun hn => ?_))
  · refine pw_pI ?_
    subst e
    have hn9 : ix (nI j) a.rs.length = some j := ix_some hj (by omega)
    rw [hn9] at kk
    simp only at kk
    have hj10 : j < 10 := by omega
    have hxo : a.on ^^^ 2 ^ j < 1024 := Nat.xor_lt_two_pow (n := 10) hon (Nat.pow_lt_pow_right (by decide) hj10)
    skip
    refine pw_if_ne_t 10 rfl rfl (by decide) ?_
    refine pw_aload_n 11 rfl rfl rfl ?_
    refine pw_cV0 14 rfl rfl (by first | assumption | exact ⟨by decide, rfl⟩) rfl (Nat.le_of_ble_eq_true rfl) rfl rfl (Nat.le_of_ble_eq_true rfl) (c_notes hb0 ho hx (fun M1 f1 g1 n1 p1 => ?_))
    refine pw_pV ?_
    have e3 : M1 (k + 3) = M (k + 3) := f1 (k + 3) (by omega) (by omega)
    refine pw_aload_n 15 rfl rfl rfl ?_
    refine pw_getR 18 rfl rfl (by first | assumption | exact ⟨by decide, rfl⟩) rfl ?_
    refine pw_iconst (v := nI 1) 19 rfl rfl (by decide) ?_
    refine pw_dup2 20 rfl rfl ⟨rfl, rfl⟩ ?_
    refine pw_iald _ 21 rfl rfl (by first | assumption | exact ⟨by decide, rfl, by decide⟩) (by with_reducible rfl) (by first | assumption | omega) ?_
    rw [e3, hl.2.1]
    refine pw_iconst (v := nI 1) 22 rfl rfl (by decide) ?_
    refine pw_iload_n 23 rfl rfl rfl ?_
    refine pw_ishl 24 rfl rfl ?_
    refine pw_ixor 25 rfl rfl ?_
    rw [xor_bit _ hon _ hj10]
    refine pw_iast _ 26 rfl rfl (by first | assumption | exact ⟨by decide, rfl, by decide⟩) (by with_reducible rfl) (by first | assumption | omega) ?_
    refine pw_aload_n 27 rfl rfl rfl ?_
    refine pw_getR 30 rfl rfl (by first | assumption | exact ⟨by decide, rfl⟩) rfl ?_
    refine pw_iconst (v := nI 1) 31 rfl rfl (by decide) ?_
    refine pw_iald _ 32 rfl rfl (by first | assumption | exact ⟨by decide, rfl, by decide⟩) (by with_reducible rfl) (by first | assumption | omega) ?_
    rw [st_same]
    refine pw_iload_n 33 rfl rfl rfl ?_
    refine pw_ishr 34 rfl rfl ?_
    refine pw_iconst (v := nI 1) 35 rfl rfl (by decide) ?_
    refine pw_iand 36 rfl rfl ?_
    rw [bit_v _ hxo _ hj10]
    have f2 : ∀ z, z ≠ k + 3 → pmSt M1 (k + 3) 1 (nI (a.on ^^^ 2 ^ j)) z = M1 z := fun z hz => st_ne _ _ _ _ hz
    refine pw_iret rfl rfl (kk.go (fun z hz => ?_) (hx.noted (fun z h1 h2 h3 h4 => ?_) (fun j h1 _ _ _ => ?_) ?_ ?_ ⟨?_, st_same _ _ _ _, fun j hj => ?_, fun j hj => ?_⟩))
    · rw [f2 z (by omega), f1 z (by omega) (by omega)]
    · rw [f2 z h3, f1 z (by omega) h4]
    · rw [f2 k (by omega), g1 j h1]
    · rw [f2 k (by omega)]; exact n1
    · rw [f2 (k + 4) (by omega)]; exact p1
    · rw [st_row _ _ _ _ (by omega), e3]; exact hl.1
    · rw [st_row _ _ _ _ (by omega), e3]; exact hl.2.2.1 j hj
    · rw [st_row _ _ _ _ (by omega), e3]; exact hl.2.2.2 j hj
  · refine pw_pI ?_
    have hn9 : ix r a.rs.length = none := ix_none hn
    rw [hn9] at kk
    skip
    refine pw_if_ne_f 8 rfl rfl (by decide) ?_
    refine pw_iconst (v := (-1)) 9 rfl rfl (by decide) ?_
    exact pw_iret rfl rfl (kk.at hx)
theorem c_passes {s : Nat} (hb : isMod sh k) (hw : wfW a) (ho : okW a) (hs : s < 1024) (hx : modIs M N k a) (kk : mst k sh M N Q (.int (vGo a s).1) (vGo a s).2) : PW mX11_passes 0 [.ref k, .int (nI s), .null] [] sh M N Q := by
  have hb0 := hb
  obtain ⟨b0, a1, a2, a3, a4, a5, a6, a7, a8, a9, a10, a11, a12, a13, a14, a15, a16, a17, a18, a19, a20⟩ := hb
  have hon := on_1024 hw ho
  have h10 : a.rs.length ≤ 10 := ho.1.2.1.1
  have h360 := mL_360 ho (s &&& a.on)
  unfold vGo at kk
  refine pw_aload_n 1 rfl rfl rfl ?_
  refine pw_cV0 4 rfl rfl (by first | assumption | exact ⟨by decide, rfl⟩) rfl (Nat.le_of_ble_eq_true rfl) rfl rfl (Nat.le_of_ble_eq_true rfl) (c_kindsM hb0 hx.2.1 h10 (fun M1 f1 e1 => ?_))
  refine pw_pV ?_
  have hx1 : modIs M1 N k a := hx.mv (fun j _ _ _ => by rw [f1 k (by omega)]) (fun x h1 h2 => f1 x (by omega))
  refine pw_aload_n 5 rfl rfl rfl ?_
  refine pw_aload_n 6 rfl rfl rfl ?_
  refine pw_getR 9 rfl rfl (by first | assumption | exact ⟨by decide, rfl⟩) rfl ?_
  refine pw_iload_n 10 rfl rfl rfl ?_
  refine pw_cV2 13 rfl rfl (by first | assumption | exact ⟨by decide, rfl⟩) rfl (Nat.le_of_ble_eq_true rfl) rfl rfl (Nat.le_of_ble_eq_true rfl) (c_goesOver (st := s) (s := s &&& a.on) (on := a.on) (kd := kds a.rs) hb0 a3 (Or.inl rfl) hx1.2.1 ho.1.2.1.2 h10 hx1.2.2.1.ln ho.1.1.1 hs hon (fun r hr => ⟨e1 r hr, kds_all ho.1.2.1.2 hr⟩) (fun r hr => Nat.testBit_and _ _ _) (fun M2 f2 g2 => ?_))
  refine pw_pI ?_
  have hx2 : modIs M2 N k a := hx1.mv (fun j _ _ h => f2.2 j h) (fun x h1 h2 => f2.1 x (by omega) (by omega))
  have f02 : fr k (k + 21) M M2 := fun x hx => by rw [f2.1 x (by omega) (by omega), f1 x (by omega)]
  have h24 : M2 k 24 = nI (a.mL (s &&& a.on)).length := g2.1
  refine pw_istore2 14 rfl rfl rfl ?_
  refine pw_aload_n 15 rfl rfl rfl ?_
  refine pw_getI 18 rfl rfl (by first | assumption | exact ⟨by decide, rfl⟩) rfl ?_
  refine pw_bipush (v := nI 60) 20 rfl rfl (by decide) ?_
  rw [h24]
  by_cases q : 60 < (a.mL (s &&& a.on)).length
  · rw [if_pos q] at kk
    skip
    refine pw_icmp_le_f 23 rfl rfl (nI_ge q (by omega)) ?_
    refine pw_bipush (v := (-3)) 25 rfl rfl (by decide) ?_
    exact pw_iret rfl rfl (kk.go f02 hx2)
  · rw [if_neg q] at kk
    skip
    refine pw_icmp_le_t 26 rfl rfl (nI_le (by omega) (by omega)) ?_
    refine pw_aload_n 27 rfl rfl rfl ?_
    refine pw_cV0 30 rfl rfl (by first | assumption | exact ⟨by decide, rfl⟩) rfl (Nat.le_of_ble_eq_true rfl) rfl rfl (Nat.le_of_ble_eq_true rfl) (c_notes hb0 ho hx2 (fun M3 f3 g3 n3 p3 => ?_))
    refine pw_pV ?_
    refine pw_aload_n 31 rfl rfl rfl ?_
    refine pw_aload_n 32 rfl rfl rfl ?_
    refine pw_getR 35 rfl rfl (by first | assumption | exact ⟨by decide, rfl⟩) rfl ?_
    refine pw_cV1 38 rfl rfl (by first | assumption | exact ⟨by decide, rfl⟩) rfl (Nat.le_of_ble_eq_true rfl) rfl rfl (Nat.le_of_ble_eq_true rfl) (c_becomes (A := a.mL (s &&& a.on)) (B := a.mS (s &&& a.on)) (on := a.on) hb0 a3 (Or.inl rfl) (by omega) (by rw [g3 24 (by decide)]; exact h24) (fun i hi => by rw [f3 (k + 15) (by omega) (by omega), f3 (k + 16) (by omega) (by omega)]; exact g2.2.1 i hi) (by rw [f3 (k + 3) (by omega) (by omega)]; exact hx2.2.2.1.ln.2.1) (fun M4 f4 l4 => ?_))
    refine pw_pV ?_
    refine pw_iload_n 39 rfl rfl rfl ?_
    refine pw_iret rfl rfl (kk.go (fun x hx => ?_) (hx2.noted (fun x h1 h2 h3 h4 => ?_) (fun j h1 _ _ _ => ?_) ?_ ?_ l4))
    · rw [f4 x (by omega), f3 x (by omega) (by omega), f02 x hx]
    · rw [f4 x (by omega), f3 x (by omega) h4]
    · rw [f4 k (by omega), g3 j h1]
    · rw [f4 k (by omega)]; exact n3
    · rw [f4 (k + 4) (by omega)]; exact p3
theorem m_pass {s : Int32} (hb : isMod sh k) (hw : wfW a) (ho : okW a) (hx : modIs M N k a) (kk : mst k sh M N Q (.int (vPass a s).1) (vPass a s).2) : PW mX11_pass 0 [.ref k, .int s] [] sh M N Q := by
  have hb0 := hb
  obtain ⟨b0, a1, a2, a3, a4, a5, a6, a7, a8, a9, a10, a11, a12, a13, a14, a15, a16, a17, a18, a19, a20⟩ := hb
  have h10 : a.rs.length ≤ 10 := ho.1.2.1.1
  have h2 : 2 ^ a.rs.length ≤ 1024 := Nat.pow_le_pow_right (n := 2) (by decide) h10
  have h20 : 0 < 2 ^ a.rs.length := Nat.two_pow_pos _
  unfold vPass at kk
  refine pw_iload_n 1 rfl rfl rfl ?_
  refine pw_i2l 2 rfl rfl ?_
  refine pw_lconst (v := lN 0) 3 rfl rfl (by decide) ?_
  refine pw_iconst (v := nI 1) 4 rfl rfl (by decide) ?_
  refine pw_aload_n 5 rfl rfl rfl ?_
  refine pw_getR 8 rfl rfl (by first | assumption | exact ⟨by decide, rfl⟩) rfl ?_
  refine pw_iconst (v := nI 0) 9 rfl rfl (by decide) ?_
  refine pw_iald _ 10 rfl rfl (by first | assumption | exact ⟨by decide, rfl, by decide⟩) (by with_reducible rfl) (by first | assumption | omega) ?_
  rw [hx.2.1.1]
  refine pw_ishl 11 rfl rfl ?_
  refine pw_iconst (v := nI 1) 12 rfl rfl (by decide) ?_
  refine pw_isub 13 rfl rfl ?_
  have ev : (nI 1 <<< (nI a.rs.length &&& 31)) - nI 1 = nI (2 ^ a.rs.length - 1) := all_v _ (by omega)
  rw [ev]
  refine pw_i2l 14 rfl rfl ?_
  refine pw_cS3 17 rfl rfl rfl (Nat.le_of_ble_eq_true rfl) rfl rfl (Nat.le_of_ble_eq_true rfl) (c_inX (b := 0) (c := 2 ^ a.rs.length) (by decide) (by omega) (by rw [Int32.toInt_toInt64, nI_int (by omega)]; omega) (fun j h1 hj e => ?_) (fun hn => ?_))
  · refine pw_pI ?_
    subst e
    rw [ix_some hj (by omega)] at kk
    simp only at kk
    skip
    refine pw_if_eq_f 20 rfl rfl (by decide) ?_
    refine pw_aload_n 21 rfl rfl rfl ?_
    refine pw_iload_n 22 rfl rfl rfl ?_
    refine pw_cV1 25 rfl rfl (by first | assumption | exact ⟨by decide, rfl⟩) rfl (Nat.le_of_ble_eq_true rfl) rfl rfl (Nat.le_of_ble_eq_true rfl) (c_passes hb0 hw ho (by omega) hx (fun M1 N1 f1 n1 x1 => ?_))
    refine pw_pI ?_
    refine pw_goto rfl 29 rfl ?_
    exact pw_iret rfl rfl (kk M1 N1 f1 n1 x1)
  · refine pw_pI ?_
    rw [ix_none (fun j hj => hn j (Nat.zero_le j) hj)] at kk
    skip
    refine pw_if_eq_t 28 rfl rfl (by decide) ?_
    refine pw_iconst (v := (-1)) 29 rfl rfl (by decide) ?_
    exact pw_iret rfl rfl (kk.at hx)
theorem c_isOfSortM {d so : Nat} (hd : d < 5) (hs : so < 3) (ky : osrt d so = true → Q (some (.int (nI 1))) sh M N) (kn : osrt d so = false → Q (some (.int (nI 0))) sh M N) : PW mX11_isOfSort 0 [.int (nI d), .int (nI so)] [] sh M N Q := by
  have yes : osrt d so = true → PW mX11_isOfSort 34 [.int (nI d), .int (nI so)] [] sh M N Q := by
    intro h
    refine pw_iconst (v := nI 1) 35 rfl rfl (by decide) ?_
    refine pw_goto rfl 39 rfl ?_
    exact pw_zret rfl rfl (by first | exact Or.inl rfl | exact Or.inr rfl | assumption) (ky h)
  have no : osrt d so = false → PW mX11_isOfSort 38 [.int (nI d), .int (nI so)] [] sh M N Q := by
    intro h
    refine pw_iconst (v := nI 0) 39 rfl rfl (by decide) ?_
    exact pw_zret rfl rfl (by first | exact Or.inl rfl | exact Or.inr rfl | assumption) (kn h)
  have ed : ∀ z, z < 5 → nI d = nI z → d = z := fun z hz e => (nI_eq (by omega) (by omega)).mp e
  have nd : ∀ z, ¬ nI d = nI z → ¬ d = z := fun z h e => h (by rw [e])
  rcases (show so = 0 ∨ so = 1 ∨ so = 2 by omega) with rfl | rfl | rfl
  · refine pw_iload_n 1 rfl rfl rfl ?_
    refine pw_if_eq_t 34 rfl rfl (rfl) ?_
    exact yes rfl
  · refine pw_iload_n 1 rfl rfl rfl ?_
    refine pw_if_eq_f 4 rfl rfl (by decide) ?_
    refine pw_iload_n 5 rfl rfl rfl ?_
    refine pw_iconst (v := nI 1) 6 rfl rfl (by decide) ?_
    refine pw_icmp_ne_f 9 rfl rfl (fun e => e rfl) ?_
    refine pw_iload_n 10 rfl rfl rfl ?_
    refine pw_iconst (v := nI 1) 11 rfl rfl (by decide) ?_
    refine pw_icmp_eq 34 14 rfl rfl rfl (fun q => ?_) (fun q => ?_)
    · exact yes (by rw [ed 1 (by decide) q]; rfl)
    · refine pw_iload_n 15 rfl rfl rfl ?_
      refine pw_iconst (v := nI 3) 16 rfl rfl (by decide) ?_
      refine pw_icmp_eq 34 19 rfl rfl rfl (fun q2 => ?_) (fun q2 => ?_)
      · exact yes (by rw [ed 3 (by decide) q2]; rfl)
      · refine pw_iload_n 20 rfl rfl rfl ?_
        refine pw_iconst (v := nI 2) 21 rfl rfl (by decide) ?_
        refine pw_icmp_ne_t 38 rfl rfl (by decide) ?_
        exact no (by unfold osrt; rw [decide_eq_false (nd 1 q), decide_eq_false (nd 3 q2)]; rfl)
  · refine pw_iload_n 1 rfl rfl rfl ?_
    refine pw_if_eq_f 4 rfl rfl (by decide) ?_
    refine pw_iload_n 5 rfl rfl rfl ?_
    refine pw_iconst (v := nI 1) 6 rfl rfl (by decide) ?_
    refine pw_icmp_ne_t 19 rfl rfl (by decide) ?_
    refine pw_iload_n 20 rfl rfl rfl ?_
    refine pw_iconst (v := nI 2) 21 rfl rfl (by decide) ?_
    refine pw_icmp_ne_f 24 rfl rfl (fun e => e rfl) ?_
    refine pw_iload_n 25 rfl rfl rfl ?_
    refine pw_iconst (v := nI 2) 26 rfl rfl (by decide) ?_
    refine pw_icmp_eq 34 29 rfl rfl rfl (fun q => ?_) (fun q => ?_)
    · exact yes (by rw [ed 2 (by decide) q]; rfl)
    · refine pw_iload_n 30 rfl rfl rfl ?_
      refine pw_iconst (v := nI 4) 31 rfl rfl (by decide) ?_
      refine pw_icmp_ne 38 34 rfl rfl rfl (fun q2 => ?_) (fun q2 => ?_)
      · exact no (by unfold osrt; rw [decide_eq_false (nd 2 q), decide_eq_false (nd 4 q2)]; rfl)
      · exact yes (by rw [ed 4 (by decide) (Decidable.not_not.mp q2)]; rfl)
theorem pileM_loop {so : Nat} (hb : isMod sh k) (ho : okW a) (hs : so < 3) (hr : ruled (M (k + 2)) a.rs) (kk : Q (some (.int (nI (fits a.rs so a.rs.length)))) sh M N) :
    ∀ (d j : Nat), j + d = a.rs.length → PW mX11_pile 28 [.ref k, .int (nI so), .int (nI (fits a.rs so j)), .int (nI j)] [] sh M N Q := by
  have hb0 := hb
  obtain ⟨b0, a1, a2, a3, a4, a5, a6, a7, a8, a9, a10, a11, a12, a13, a14, a15, a16, a17, a18, a19, a20⟩ := hb
  have h10 : a.rs.length ≤ 10 := ho.1.2.1.1
  intro d
  induction d with
  | zero =>
    intro j hj
    have : j = a.rs.length := by omega
    subst this
    refine pw_iload_n 29 rfl rfl rfl ?_
    refine pw_aload_n 30 rfl rfl rfl ?_
    refine pw_getR 33 rfl rfl (by first | assumption | exact ⟨by decide, rfl⟩) rfl ?_
    refine pw_iconst (v := nI 0) 34 rfl rfl (by decide) ?_
    refine pw_iald _ 35 rfl rfl (by first | assumption | exact ⟨by decide, rfl, by decide⟩) (by with_reducible rfl) (by first | assumption | omega) ?_
    rw [hr.1]
    refine pw_icmp_ge_t 67 rfl rfl (nI_le (Nat.le_refl _) (by omega)) ?_
    refine pw_iload_n 68 rfl rfl rfl ?_
    exact pw_iret rfl rfl (kk)
  | succ d ih =>
    intro j hj
    have hj1 : j < a.rs.length := by omega
    have y1 : 1 + j < 151 := by omega
    have ih1 := ih (j + 1) (by omega)
    rw [fits] at ih1
    have hwf := gR_wf ho.1.2.1.2 hj1
    refine pw_iload_n 29 rfl rfl rfl ?_
    refine pw_aload_n 30 rfl rfl rfl ?_
    refine pw_getR 33 rfl rfl (by first | assumption | exact ⟨by decide, rfl⟩) rfl ?_
    refine pw_iconst (v := nI 0) 34 rfl rfl (by decide) ?_
    refine pw_iald _ 35 rfl rfl (by first | assumption | exact ⟨by decide, rfl, by decide⟩) (by with_reducible rfl) (by first | assumption | omega) ?_
    rw [hr.1]
    refine pw_icmp_ge_f 38 rfl rfl (nI_ge hj1 (by omega)) ?_
    refine pw_iload_n 39 rfl rfl rfl ?_
    refine pw_aload_n 40 rfl rfl rfl ?_
    refine pw_getR 43 rfl rfl (by first | assumption | exact ⟨by decide, rfl⟩) rfl ?_
    refine pw_iconst (v := nI 1) 44 rfl rfl (by decide) ?_
    refine pw_iload_n 45 rfl rfl rfl ?_
    first | refine pw_iaddN 46 rfl rfl (by with_reducible rfl) (by with_reducible rfl) ?_ | refine pw_iadd 46 rfl rfl ?_
    refine pw_iald _ 47 rfl rfl (by first | assumption | exact ⟨by decide, rfl, by decide⟩) (by with_reducible rfl) (by first | assumption | omega) ?_
    refine pw_iload_n 48 rfl rfl rfl ?_
    rw [(hr.2 j hj1).1]
    refine pw_cS2 51 rfl rfl rfl (Nat.le_of_ble_eq_true rfl) rfl rfl (Nat.le_of_ble_eq_true rfl) (c_isOfSortM hwf.1 hs (fun h => ?_) (fun h => ?_))
    · refine pw_pI ?_
      rw [if_pos h] at ih1
      skip
      refine pw_if_eq_f 54 rfl rfl (by decide) ?_
      refine pw_iconst (v := nI 1) 55 rfl rfl (by decide) ?_
      refine pw_goto rfl 59 rfl ?_
      first | refine pw_iaddN 60 rfl rfl (by with_reducible rfl) (by with_reducible rfl) ?_ | refine pw_iadd 60 rfl rfl ?_
      refine pw_istore2 61 rfl rfl rfl ?_
      first | refine pw_iincN3 64 rfl rfl rfl (by with_reducible rfl) ?_ | refine pw_iinc3 (w := _) 64 rfl rfl rfl rfl ?_
      refine pw_goto rfl 28 rfl ?_
      exact ih1
    · refine pw_pI ?_
      rw [if_neg (by rw [h]; decide)] at ih1
      skip
      refine pw_if_eq_t 58 rfl rfl (by decide) ?_
      refine pw_iconst (v := nI 0) 59 rfl rfl (by decide) ?_
      first | refine pw_iaddN 60 rfl rfl (by with_reducible rfl) (by with_reducible rfl) ?_ | refine pw_iadd 60 rfl rfl ?_
      refine pw_istore2 61 rfl rfl rfl ?_
      first | refine pw_iincN3 64 rfl rfl rfl (by with_reducible rfl) ?_ | refine pw_iinc3 (w := _) 64 rfl rfl rfl rfl ?_
      refine pw_goto rfl 28 rfl ?_
      exact ih1
theorem m_pile {so : Int32} (hb : isMod sh k) (hw : wfW a) (ho : okW a) (hx : modIs M N k a) (kk : mst k sh M N Q (.int (vPile a so).1) (vPile a so).2) : PW mX11_pile 0 [.ref k, .int so, .null, .null] [] sh M N Q := by
  have hb0 := hb
  obtain ⟨b0, a1, a2, a3, a4, a5, a6, a7, a8, a9, a10, a11, a12, a13, a14, a15, a16, a17, a18, a19, a20⟩ := hb
  unfold vPile at kk
  refine pw_iload_n 1 rfl rfl rfl ?_
  refine pw_i2l 2 rfl rfl ?_
  refine pw_lconst (v := lN 0) 3 rfl rfl (by decide) ?_
  refine pw_ldc2_w (v := lN 2) 6 rfl rfl rfl ?_
  refine pw_cS3 9 rfl rfl rfl (Nat.le_of_ble_eq_true rfl) rfl rfl (Nat.le_of_ble_eq_true rfl) (c_inX (b := 0) (c := 3) (by decide) (by decide) rfl (fun j h1 hj e => ?_) (fun hn => ?_))
  · refine pw_pI ?_
    subst e
    rw [ix_some hj (by decide)] at kk
    simp only at kk
    skip
    refine pw_if_ne_t 14 rfl rfl (by decide) ?_
    have e6 : ∀ x, x ≠ k → pmSt (pmSt M k 6 (nI 0)) k 7 (nI j) x = M x := fun x h => by rw [st_ne _ _ _ _ h, st_ne _ _ _ _ h]
    have k6 : ∀ i, i ≠ 6 → i ≠ 7 → pmSt (pmSt M k 6 (nI 0)) k 7 (nI j) k i = M k i := fun i h1 h2 => by rw [st_row _ _ _ _ h2, st_row _ _ _ _ h1]
    refine pw_aload_n 15 rfl rfl rfl ?_
    refine pw_iconst (v := nI 0) 16 rfl rfl (by decide) ?_
    refine pw_putI 19 rfl rfl (by first | assumption | exact ⟨by decide, rfl⟩) rfl (by decide) ?_
    refine pw_aload_n 20 rfl rfl rfl ?_
    refine pw_iload_n 21 rfl rfl rfl ?_
    refine pw_putI 24 rfl rfl (by first | assumption | exact ⟨by decide, rfl⟩) rfl (by decide) ?_
    refine pw_iconst (v := nI 0) 25 rfl rfl (by decide) ?_
    refine pw_istore2 26 rfl rfl rfl ?_
    refine pw_iconst (v := nI 0) 27 rfl rfl (by decide) ?_
    refine pw_istore3 28 rfl rfl rfl ?_
    refine pileM_loop hb0 ho hj (by rw [e6 (k + 2) (by omega)]; exact hx.2.1) (kk.go (fun x hx => e6 x (by omega)) (hx.mk4 (fun x h1 h2 => e6 x (by omega)) (k6 11 (by decide) (by decide)) (k6 12 (by decide) (by decide)) ⟨?_, fun i hi => ?_⟩ ?_ ?_ ?_ ?_ ?_ ?_)) _ 0 (Nat.zero_add _)
    · rw [k6 1 (by decide) (by decide)]; exact hx.1.1
    · rw [e6 (k + 1) (by omega)]; exact hx.1.2 i hi
    · rw [e6 (k + 2) (by omega)]; exact hx.2.1
    · rw [e6 (k + 3) (by omega)]; exact hx.2.2.1
    · rw [k6 5 (by decide) (by decide)]; exact hx.2.2.2.1.1
    · rw [e6 (k + 4) (by omega)]; exact hx.2.2.2.1.2
    · rw [st_row _ _ _ _ (by decide), st_same]
    · rw [st_same]; rfl
  · refine pw_pI ?_
    rw [ix_none (fun j hj => hn j (Nat.zero_le j) hj)] at kk
    skip
    refine pw_if_ne_f 12 rfl rfl (by decide) ?_
    refine pw_iconst (v := (-1)) 13 rfl rfl (by decide) ?_
    exact pw_iret rfl rfl (kk.at hx)
theorem m_put {r : Int32} (hb : isMod sh k) (hw : wfW a) (ho : okW a) (h4 : pop a.pset ≤ 4) (hx : modIs M N k a) (kk : mst k sh M N Q (.int (vPut a r).1) (vPut a r).2) : PW mX11_put 0 [.ref k, .int r] [] sh M N Q := by
  have hb0 := hb
  obtain ⟨b0, a1, a2, a3, a4, a5, a6, a7, a8, a9, a10, a11, a12, a13, a14, a15, a16, a17, a18, a19, a20⟩ := hb
  have h10 : a.rs.length ≤ 10 := ho.1.2.1.1
  have hset : a.pset < 1024 := hw.2.2.2.2.2.2
  have hm6 : M k 6 = nI a.pset := hx.2.2.2.2.1
  have hm7 : M k 7 = rI a.ps := hx.2.2.2.2.2.1
  unfold vPut at kk
  refine pw_aload_n 1 rfl rfl rfl ?_
  refine pw_iload_n 2 rfl rfl rfl ?_
  refine pw_cV1 5 rfl rfl (by first | assumption | exact ⟨by decide, rfl⟩) rfl (Nat.le_of_ble_eq_true rfl) rfl rfl (Nat.le_of_ble_eq_true rfl) (c_isRuleM hb0 hx.2.1 h10 (fun j hj e => ?_) (fun hn => ?_))
  · refine pw_pI ?_
    subst e
    have hn9 : ix (nI j) a.rs.length = some j := ix_some hj (by omega)
    rw [hn9] at kk
    simp only at kk
    have hj10 : j < 10 := by omega
    have y1 : 1 + j < 151 := by omega
    have hwf := gR_wf ho.1.2.1.2 hj
    skip
    refine pw_if_ne_t 10 rfl rfl (by decide) ?_
    refine pw_aload_n 11 rfl rfl rfl ?_
    refine pw_getI 14 rfl rfl (by first | assumption | exact ⟨by decide, rfl⟩) rfl ?_
    refine pw_bipush (v := (-4)) 16 rfl rfl (by decide) ?_
    rw [hm7]
    cases hps : a.ps with
    | none =>
      rw [hps] at kk
      simp only at kk
      skip
      refine pw_icmp_ne_f 19 rfl rfl (fun e => e rfl) ?_
      refine pw_bipush (v := (-11)) 21 rfl rfl (by decide) ?_
      exact pw_iret rfl rfl (kk.at hx)
    | some so =>
      rw [hps] at kk hm7
      simp only at kk
      have h3 := hw.2.2.2.2.2.1 so hps
      have e0 : rI (some so) = nI so := rfl
      rw [e0] at hm7
      rw [e0]
      skip
      refine pw_icmp_ne_t 22 rfl rfl (nI_m4 (by omega)) ?_
      refine pw_aload_n 23 rfl rfl rfl ?_
      refine pw_getI 26 rfl rfl (by first | assumption | exact ⟨by decide, rfl⟩) rfl ?_
      refine pw_iload_n 27 rfl rfl rfl ?_
      rw [hm6]
      refine pw_cS2 30 rfl rfl rfl (Nat.le_of_ble_eq_true rfl) rfl rfl (Nat.le_of_ble_eq_true rfl) (c_has hset hj10 ?_)
      refine pw_pI ?_
      by_cases q1 : a.pset.testBit j = true
      · rw [if_pos q1]
        rw [if_pos q1] at kk
        skip
        refine pw_if_eq_f 33 rfl rfl (by decide) ?_
        refine pw_bipush (v := (-2)) 35 rfl rfl (by decide) ?_
        exact pw_iret rfl rfl (kk.at hx)
      · rw [if_neg q1]
        rw [if_neg q1] at kk
        skip
        refine pw_if_eq_t 36 rfl rfl (by decide) ?_
        refine pw_aload_n 37 rfl rfl rfl ?_
        refine pw_getI 40 rfl rfl (by first | assumption | exact ⟨by decide, rfl⟩) rfl ?_
        rw [hm6]
        refine pw_cS1 43 rfl rfl rfl (Nat.le_of_ble_eq_true rfl) rfl rfl (Nat.le_of_ble_eq_true rfl) (c_bits hset ?_)
        refine pw_pI ?_
        by_cases q2 : 4 ≤ pop a.pset
        · rw [if_pos q2] at kk
          rw [show pop a.pset = 4 by omega]
          refine pw_iconst (v := nI 4) 44 rfl rfl (by decide) ?_
          refine pw_icmp_ne_f 47 rfl rfl (fun e => e rfl) ?_
          refine pw_bipush (v := (-13)) 49 rfl rfl (by decide) ?_
          exact pw_iret rfl rfl (kk.at hx)
        · rw [if_neg q2] at kk
          refine pw_iconst (v := nI 4) 44 rfl rfl (by decide) ?_
          refine pw_icmp_ne_t 50 rfl rfl (fun e => by have := (nI_eq (by omega) (by decide)).mp e; omega) ?_
          refine pw_aload_n 51 rfl rfl rfl ?_
          refine pw_getR 54 rfl rfl (by first | assumption | exact ⟨by decide, rfl⟩) rfl ?_
          refine pw_iconst (v := nI 1) 55 rfl rfl (by decide) ?_
          refine pw_iload_n 56 rfl rfl rfl ?_
          first | refine pw_iaddN 57 rfl rfl (by with_reducible rfl) (by with_reducible rfl) ?_ | refine pw_iadd 57 rfl rfl ?_
          refine pw_iald _ 58 rfl rfl (by first | assumption | exact ⟨by decide, rfl, by decide⟩) (by with_reducible rfl) (by first | assumption | omega) ?_
          rw [(hx.2.1.2 j hj).1]
          refine pw_aload_n 59 rfl rfl rfl ?_
          refine pw_getI 62 rfl rfl (by first | assumption | exact ⟨by decide, rfl⟩) rfl ?_
          rw [hm7]
          refine pw_cS2 65 rfl rfl rfl (Nat.le_of_ble_eq_true rfl) rfl rfl (Nat.le_of_ble_eq_true rfl) (c_isOfSortM hwf.1 h3 (fun h => ?_) (fun h => ?_))
          · refine pw_pI ?_
            rw [if_neg (by rw [h]; decide)] at kk
            have hor : a.pset ||| 2 ^ j < 1024 := Nat.or_lt_two_pow (n := 10) hset (Nat.pow_lt_pow_right (by decide) hj10)
            skip
            refine pw_if_ne_t 71 rfl rfl (by decide) ?_
            refine pw_aload_n 72 rfl rfl rfl ?_
            refine pw_dup 73 rfl rfl rfl ?_
            refine pw_getI 76 rfl rfl (by first | assumption | exact ⟨by decide, rfl⟩) rfl ?_
            rw [hm6]
            refine pw_iconst (v := nI 1) 77 rfl rfl (by decide) ?_
            refine pw_iload_n 78 rfl rfl rfl ?_
            refine pw_ishl 79 rfl rfl ?_
            refine pw_ior 80 rfl rfl ?_
            rw [or_bitS _ hset _ hj10]
            refine pw_putI 83 rfl rfl (by first | assumption | exact ⟨by decide, rfl⟩) rfl (by decide) ?_
            refine pw_aload_n 84 rfl rfl rfl ?_
            refine pw_getI 87 rfl rfl (by first | assumption | exact ⟨by decide, rfl⟩) rfl ?_
            rw [st_same]
            refine pw_cS1 90 rfl rfl rfl (Nat.le_of_ble_eq_true rfl) rfl rfl (Nat.le_of_ble_eq_true rfl) (c_bits hor ?_)
            refine pw_pI ?_
            skip
            have e6 : ∀ x, x ≠ k → pmSt M k 6 (nI (a.pset ||| 2 ^ j)) x = M x := fun x h => st_ne _ _ _ _ h
            have k6 : ∀ i, i ≠ 6 → pmSt M k 6 (nI (a.pset ||| 2 ^ j)) k i = M k i := fun i h1 => st_row _ _ _ _ h1
            refine pw_iret rfl rfl (kk.go (fun x hx => e6 x (by omega)) (hx.mk4 (fun x h1 h2 => e6 x (by omega)) (k6 11 (by decide)) (k6 12 (by decide)) ⟨?_, fun i hi => ?_⟩ ?_ ?_ ?_ ?_ (st_same _ _ _ _) ?_))
            · rw [k6 1 (by decide)]; exact hx.1.1
            · rw [e6 (k + 1) (by omega)]; exact hx.1.2 i hi
            · rw [e6 (k + 2) (by omega)]; exact hx.2.1
            · rw [e6 (k + 3) (by omega)]; exact hx.2.2.1
            · rw [k6 5 (by decide)]; exact hx.2.2.2.1.1
            · rw [e6 (k + 4) (by omega)]; exact hx.2.2.2.1.2
            · rw [k6 7 (by decide)]; exact hx.2.2.2.2.2.1
          · refine pw_pI ?_
            rw [if_pos h] at kk
            skip
            refine pw_if_ne_f 68 rfl rfl (by decide) ?_
            refine pw_bipush (v := (-15)) 70 rfl rfl (by decide) ?_
            exact pw_iret rfl rfl (kk.at hx)
  · refine pw_pI ?_
    have hn9 : ix r a.rs.length = none := ix_none hn
    rw [hn9] at kk
    skip
    refine pw_if_ne_f 8 rfl rfl (by decide) ?_
    refine pw_iconst (v := (-1)) 9 rfl rfl (by decide) ?_
    exact pw_iret rfl rfl (kk.at hx)
theorem m_passPile (hb : isMod sh k) (hw : wfW a) (ho : okW a) (hx : modIs M N k a) (kk : mst k sh M N Q (.int (vPassPile a).1) (vPassPile a).2) : PW mX11_passPile 0 [.ref k] [] sh M N Q := by
  have b0 := hb.1
  have hset : a.pset < 1024 := hw.2.2.2.2.2.2
  have hm6 : M k 6 = nI a.pset := hx.2.2.2.2.1
  have hm7 : M k 7 = rI a.ps := hx.2.2.2.2.2.1
  unfold vPassPile at kk
  refine pw_aload_n 1 rfl rfl rfl ?_
  refine pw_getI 4 rfl rfl (by first | assumption | exact ⟨by decide, rfl⟩) rfl ?_
  refine pw_bipush (v := (-4)) 6 rfl rfl (by decide) ?_
  rw [hm7]
  cases hps : a.ps with
  | none =>
    rw [hps] at kk
    simp only at kk
    skip
    refine pw_icmp_ne_f 9 rfl rfl (fun e => e rfl) ?_
    refine pw_bipush (v := (-11)) 11 rfl rfl (by decide) ?_
    refine pw_goto rfl 22 rfl ?_
    exact pw_iret rfl rfl (kk.at hx)
  | some so =>
    rw [hps] at kk
    simp only at kk
    have h3 := hw.2.2.2.2.2.1 so hps
    have e0 : rI (some so) = nI so := rfl
    rw [e0]
    skip
    refine pw_icmp_ne_t 14 rfl rfl (nI_m4 (by omega)) ?_
    refine pw_aload_n 15 rfl rfl rfl ?_
    refine pw_aload_n 16 rfl rfl rfl ?_
    refine pw_getI 19 rfl rfl (by first | assumption | exact ⟨by decide, rfl⟩) rfl ?_
    rw [hm6]
    refine pw_cV1 22 rfl rfl (by first | assumption | exact ⟨by decide, rfl⟩) rfl (Nat.le_of_ble_eq_true rfl) rfl rfl (Nat.le_of_ble_eq_true rfl) (c_passes hb hw ho hset hx (fun M1 N1 f1 n1 x1 => ?_))
    refine pw_pI ?_
    skip
    exact pw_iret rfl rfl (kk M1 N1 f1 n1 x1)
theorem undo_loop {n : Nat} (hb : isMod sh k) (hn : n ≤ 7) (h5 : M k 5 = nI n) (kk : ∀ M', (∀ x, x ≠ k + 3 → M' x = M x) → (∀ j, j < 122 → M' (k + 3) j = M (k + 4) (122 * n + j)) → PW mX11_undo 54 [.ref k, .int (nI 122)] [] sh M' N Q) :
    ∀ (d i : Nat) (M1 : pmM), i + d = 122 → (∀ x, x ≠ k + 3 → M1 x = M x) → (∀ j, j < i → M1 (k + 3) j = M (k + 4) (122 * n + j)) → PW mX11_undo 22 [.ref k, .int (nI i)] [] sh M1 N Q := by
  obtain ⟨b0, a1, a2, a3, a4, a5, a6, a7, a8, a9, a10, a11, a12, a13, a14, a15, a16, a17, a18, a19, a20⟩ := hb
  intro d
  induction d with
  | zero =>
    intro i M1 hi hf hv
    have : i = 122 := by omega
    subst this
    refine pw_iload_n 23 rfl rfl rfl ?_
    refine pw_bipush (v := nI 122) 25 rfl rfl (by decide) ?_
    refine pw_icmp_ge_t 54 rfl rfl (by decide) ?_
    exact kk M1 hf hv
  | succ d ih =>
    intro i M1 hi hf hv
    have y1 : 122 * n + i < 976 := by omega
    have y2 : i < 122 := by omega
    refine pw_iload_n 23 rfl rfl rfl ?_
    refine pw_bipush (v := nI 122) 25 rfl rfl (by decide) ?_
    refine pw_icmp_ge_f 28 rfl rfl (nI_ge (by omega) (by omega)) ?_
    refine pw_aload_n 29 rfl rfl rfl ?_
    refine pw_getR 32 rfl rfl (by first | assumption | exact ⟨by decide, rfl⟩) rfl ?_
    refine pw_iload_n 33 rfl rfl rfl ?_
    refine pw_aload_n 34 rfl rfl rfl ?_
    refine pw_getR 37 rfl rfl (by first | assumption | exact ⟨by decide, rfl⟩) rfl ?_
    refine pw_bipush (v := nI 122) 39 rfl rfl (by decide) ?_
    refine pw_aload_n 40 rfl rfl rfl ?_
    refine pw_getI 43 rfl rfl (by first | assumption | exact ⟨by decide, rfl⟩) rfl ?_
    rw [hf k (by omega), h5]
    first | refine pw_imulN 44 rfl rfl (by with_reducible rfl) (by with_reducible rfl) ?_ | refine pw_imul 44 rfl rfl ?_
    refine pw_iload_n 45 rfl rfl rfl ?_
    first | refine pw_iaddN 46 rfl rfl (by with_reducible rfl) (by with_reducible rfl) ?_ | refine pw_iadd 46 rfl rfl ?_
    refine pw_iald _ 47 rfl rfl (by first | assumption | exact ⟨by decide, rfl, by decide⟩) (by with_reducible rfl) (by first | assumption | omega) ?_
    refine pw_iast _ 48 rfl rfl (by first | assumption | exact ⟨by decide, rfl, by decide⟩) (by with_reducible rfl) (by first | assumption | omega) ?_
    first | refine pw_iincN1 51 rfl rfl rfl (by with_reducible rfl) ?_ | refine pw_iinc1 (w := _) 51 rfl rfl rfl rfl ?_
    refine pw_goto rfl 22 rfl ?_
    refine ih (i + 1) _ (by omega) (fun x hx => by rw [st_ne _ _ _ _ hx, hf x hx]) (fun j hj => ?_)
    by_cases q : j = i
    · subst q
      rw [st_same, hf (k + 4) (by omega)]
    · rw [st_row _ _ _ _ q]; exact hv j (by omega)
theorem m_undo (hb : isMod sh k) (hw : wfW a) (ho : okW a) (hx : modIs M N k a) (kk : mst k sh M N Q (.int (vUndo a).1) (vUndo a).2) : PW mX11_undo 0 [.ref k, .null] [] sh M N Q := by
  have hb0 := hb
  obtain ⟨b0, a1, a2, a3, a4, a5, a6, a7, a8, a9, a10, a11, a12, a13, a14, a15, a16, a17, a18, a19, a20⟩ := hb
  have h5 : M k 5 = nI a.now.2.2.length := hx.2.2.2.1.1
  have hp := hx.2.2.2.1.2
  have h8 : a.now.2.2.length ≤ 8 := ho.1.2.2.1
  have hl : ∀ x ∈ a.now.2.2, x.1.length ≤ 60 := fun x hx => (ho.1.2.2.2 x hx).1
  unfold vUndo at kk
  refine pw_aload_n 1 rfl rfl rfl ?_
  refine pw_getI 4 rfl rfl (by first | assumption | exact ⟨by decide, rfl⟩) rfl ?_
  rw [h5]
  cases hh : a.now.2.2 with
  | nil =>
    rw [hh] at kk
    simp only at kk
    skip
    refine pw_if_ne_f 7 rfl rfl (fun e => e rfl) ?_
    refine pw_bipush (v := (-4)) 9 rfl rfl (by decide) ?_
    exact pw_iret rfl rfl (kk.at hx)
  | cons m t =>
    rw [hh] at kk h5 hp h8 hl
    simp only at kk
    rw [List.length_cons] at h5 h8 ⊢
    skip
    refine pw_if_ne_t 10 rfl rfl (nI_ne0 (by omega) (by omega)) ?_
    refine pw_aload_n 11 rfl rfl rfl ?_
    refine pw_dup 12 rfl rfl rfl ?_
    refine pw_getI 15 rfl rfl (by first | assumption | exact ⟨by decide, rfl⟩) rfl ?_
    rw [h5]
    refine pw_iconst (v := nI 1) 16 rfl rfl (by decide) ?_
    first | refine pw_isubN 17 rfl rfl (by with_reducible rfl) (by with_reducible rfl) (by omega) ?_ | refine pw_isub 17 rfl rfl ?_
    refine pw_putI 20 rfl rfl (by first | assumption | exact ⟨by decide, rfl⟩) rfl (by decide) ?_
    refine pw_iconst (v := nI 0) 21 rfl rfl (by decide) ?_
    refine pw_istore1 22 rfl rfl rfl ?_
    rw [Nat.add_sub_cancel]
    have k6 : ∀ i, i ≠ 5 → pmSt M k 5 (nI t.length) k i = M k i := fun i h1 => st_row _ _ _ _ h1
    have e6 : ∀ x, x ≠ k → pmSt M k 5 (nI t.length) x = M x := fun x h => st_ne _ _ _ _ h
    refine undo_loop (n := t.length) hb0 (by omega) (st_same _ _ _ _) (fun M1 f1 e1 => ?_) 122 0 _ (by decide) (fun _ _ => rfl) (fun j hj => absurd hj (Nat.not_lt_zero j))
    have g6 : ∀ x, x ≠ k → x ≠ k + 3 → M1 x = M x := fun x h1 h2 => by rw [f1 x h2, e6 x h1]
    have g7 : ∀ i, i ≠ 5 → M1 k i = M k i := fun i h => by rw [f1 k (by omega), k6 i h]
    have g5 : M1 k 5 = nI t.length := by rw [f1 k (by omega), st_same]
    have h0 : held (M (k + 4)) (122 * t.length) m := by
      have := hp 0 m rfl
      rw [List.length_cons, show t.length + 1 - 1 - 0 = t.length by omega] at this
      exact this
    refine pw_aload_n 55 rfl rfl rfl ?_
    refine pw_getI 58 rfl rfl (by first | assumption | exact ⟨by decide, rfl⟩) rfl ?_
    rw [g5]
    refine pw_iret rfl rfl (kk.go (fun x hx => g6 x (by omega) (by omega)) (hx.mk4 (fun x h1 h2 => g6 x (by omega) (by omega)) (g7 11 (by decide)) (g7 12 (by decide)) ⟨?_, fun i hi => ?_⟩ ?_ ?_ g5 (fun i x hi => ?_) ?_ ?_))
    · rw [g7 1 (by decide)]; exact hx.1.1
    · rw [g6 (k + 1) (by omega) (by omega)]; exact hx.1.2 i hi
    · rw [g6 (k + 2) (by omega) (by omega)]; exact hx.2.1
    · refine held_mv h0 (hl m List.mem_cons_self) (fun i hi => ?_)
      rw [Nat.zero_add, e1 i hi, e6 (k + 4) (by omega)]
    · rw [g6 (k + 4) (by omega) (by omega)]
      have := hp (i + 1) x hi
      rw [List.length_cons, show t.length + 1 - 1 - (i + 1) = t.length - 1 - i by omega] at this
      exact this
    · rw [g7 6 (by decide)]; exact hx.2.2.2.2.1
    · rw [g7 7 (by decide)]; exact hx.2.2.2.2.2.1
end MDO
