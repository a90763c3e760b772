/-! the JDK's, Row's rest, Line, Moment -/
section LIN
variable {sh : pmS} {M : pmM} {N : pmN} {Q : pmPost} {k n : Nat} {xs : List Int32}
theorem c_min {x y : Nat} (hx : x < 2 ^ 31) (hy : y < 2 ^ 31) (kk : Q (some (.int (nI (min x y)))) sh M N) : PW mJ9_min_7cf53 0 [.int (nI x), .int (nI y)] [] sh M N Q := by
  refine pw_iload_n 1 rfl rfl rfl ?_
  refine pw_iload_n 2 rfl rfl rfl ?_
  refine pw_icmp_gt 9 5 rfl rfl rfl (fun h => ?_) (fun h => ?_)
  · have := (nI_ltI hy hx).mp h
    rw [Nat.min_eq_right (by omega)] at kk
    refine pw_iload_n 10 rfl rfl rfl ?_
    exact pw_iret rfl rfl (kk)
  · have : ¬ y < x := fun q => h ((nI_ltI hy hx).mpr q)
    rw [Nat.min_eq_left (by omega)] at kk
    refine pw_iload_n 6 rfl rfl rfl ?_
    refine pw_goto rfl 10 rfl ?_
    exact pw_iret rfl rfl (kk)
theorem c_max {x y : Nat} (hx : x < 2 ^ 31) (hy : y < 2 ^ 31) (kk : Q (some (.int (nI (max x y)))) sh M N) : PW mJ9_max_7cf53 0 [.int (nI x), .int (nI y)] [] sh M N Q := by
  refine pw_iload_n 1 rfl rfl rfl ?_
  refine pw_iload_n 2 rfl rfl rfl ?_
  refine pw_icmp_lt 9 5 rfl rfl rfl (fun h => ?_) (fun h => ?_)
  · have := (nI_ltI hx hy).mp h
    rw [Nat.max_eq_right (by omega)] at kk
    refine pw_iload_n 10 rfl rfl rfl ?_
    exact pw_iret rfl rfl (kk)
  · have : ¬ x < y := fun q => h ((nI_ltI hx hy).mpr q)
    rw [Nat.max_eq_left (by omega)] at kk
    refine pw_iload_n 6 rfl rfl rfl ?_
    refine pw_goto rfl 10 rfl ?_
    exact pw_iret rfl rfl (kk)
theorem c_Row_takeFrom {k2 n2 : Nat} (hr : isRow sh k n) (hr2 : isRow sh k2 n2) (hx : rowIs M k2 xs) (hl : xs.length ≤ n) (hl2 : xs.length ≤ n2) (kk : ∀ M', fr k (k + 2) M M' → rowIs M' k xs → Q none sh M' N) : PW mX4_takeFrom 0 [.ref k, .ref k2, .null] [] sh M N Q := by
  obtain ⟨h1, h2⟩ := hr
  obtain ⟨g1, g2⟩ := hr2
  have hn : n ≤ 1000 := h2.2.2
  have hn2 : n2 ≤ 1000 := g2.2.2
  refine pw_aload_n 1 rfl rfl rfl ?_
  refine pw_getI 4 rfl rfl (by first | assumption | exact ⟨by decide, rfl⟩) rfl ?_
  refine pw_aload_n 5 rfl rfl rfl ?_
  refine pw_getR 8 rfl rfl (by first | assumption | exact ⟨by decide, rfl⟩) rfl ?_
  refine pw_alen 9 rfl rfl (by first | assumption | exact ⟨by decide, rfl, by decide⟩) (by decide) ?_
  refine pw_aload_n 10 rfl rfl rfl ?_
  refine pw_getR 13 rfl rfl (by first | assumption | exact ⟨by decide, rfl⟩) rfl ?_
  refine pw_alen 14 rfl rfl (by first | assumption | exact ⟨by decide, rfl, by decide⟩) (by decide) ?_
  rw [hx.1]
  refine pw_cS2 17 rfl rfl rfl (Nat.le_of_ble_eq_true rfl) rfl rfl (Nat.le_of_ble_eq_true rfl) (c_min (by omega) (by omega) ?_)
  refine pw_pI ?_
  skip
  refine pw_cS2 20 rfl rfl rfl (Nat.le_of_ble_eq_true rfl) rfl rfl (Nat.le_of_ble_eq_true rfl) (c_min (by omega) (by omega) ?_)
  refine pw_pI ?_
  rw [show min xs.length (min n2 n) = xs.length by omega]
  refine pw_istore2 21 rfl rfl rfl ?_
  refine pw_iload_n 22 rfl rfl rfl ?_
  refine pw_if_lt_f 25 rfl rfl (nI_pos (by omega)) ?_
  refine pw_aload_n 26 rfl rfl rfl ?_
  refine pw_getR 29 rfl rfl (by first | assumption | exact ⟨by decide, rfl⟩) rfl ?_
  refine pw_iconst (v := nI 0) 30 rfl rfl (by decide) ?_
  refine pw_aload_n 31 rfl rfl rfl ?_
  refine pw_getR 34 rfl rfl (by first | assumption | exact ⟨by decide, rfl⟩) rfl ?_
  refine pw_iconst (v := nI 0) 35 rfl rfl (by decide) ?_
  refine pw_iload_n 36 rfl rfl rfl ?_
  refine pw_copyI 0 0 xs.length 39 rfl rfl g2 h2 rfl rfl rfl (by omega) (by omega) (Nat.le_of_ble_eq_true rfl) ?_
  refine pw_aload_n 40 rfl rfl rfl ?_
  refine pw_iload_n 41 rfl rfl rfl ?_
  refine pw_putI 44 rfl rfl (by first | assumption | exact ⟨by decide, rfl⟩) rfl (by decide) ?_
  refine pw_vret rfl (kk _ (fun x h => ?_) ⟨?_, fun i hi => ?_⟩)
  · rw [st_ne _ _ _ _ (by omega), va_up_ne _ _ (by omega)]
  · rw [st_same]
  · rw [st_ne _ _ _ _ (by omega), va_up_self, pk_cpy_in (by omega) (by omega)]
    rw [show 0 + (i - 0) = i by omega]
    exact hx.2 i hi
theorem c_Row_addTo (hr : isRow sh k n) (hx : rowIs M k xs) (hl : xs.length ≤ n) {j : Nat} (hj : j < xs.length) (v : Int32) (kk : ∀ M', fr (k + 1) (k + 2) M M' → rowIs M' k (xs.set j (xs.getD j 0 + v)) → Q none sh M' N) : PW mX4_addTo 0 [.ref k, .int (nI j), .int v] [] sh M N Q := by
  have hr0 := hr
  obtain ⟨h1, h2⟩ := hr
  have hn : n ≤ 1000 := h2.2.2
  refine pw_aload_n 1 rfl rfl rfl ?_
  refine pw_iload_n 2 rfl rfl rfl ?_
  refine pw_aload_n 3 rfl rfl rfl ?_
  refine pw_iload_n 4 rfl rfl rfl ?_
  refine pw_cV1 7 rfl rfl (by first | assumption | exact ⟨by decide, rfl⟩) rfl (Nat.le_of_ble_eq_true rfl) rfl rfl (Nat.le_of_ble_eq_true rfl) (c_Row_get hr0 hx hl (nI j) ?_)
  rw [gI_n (by omega)]
  refine pw_pI ?_
  refine pw_iload_n 8 rfl rfl rfl ?_
  first | refine pw_iaddN 9 rfl rfl (by with_reducible rfl) (by with_reducible rfl) ?_ | refine pw_iadd 9 rfl rfl ?_
  refine pw_cV2 12 rfl rfl (by first | assumption | exact ⟨by decide, rfl⟩) rfl (Nat.le_of_ble_eq_true rfl) rfl rfl (Nat.le_of_ble_eq_true rfl) (c_Row_set hr0 hx hl hj _ (fun M' f r => ?_))
  refine pw_pV ?_
  skip
  exact pw_vret rfl (kk M' f r)
theorem fill_loop {v : Int32} {m : Nat} (hr : isRow sh k n) (hm : m ≤ n) (kk : ∀ M', fr k (k + 2) M M' → rowIs M' k (List.replicate m v) → Q none sh M' N) :
    ∀ (d i : Nat) (M1 : pmM), i + d = m → fr k (k + 2) M M1 → rowIs M1 k (List.replicate i v) → PW mX4_fill 6 [.ref k, .int (nI m), .int v, .int (nI i)] [] sh M1 N Q := by
  have hr0 := hr
  obtain ⟨h1, h2⟩ := hr
  have hn : n ≤ 1000 := h2.2.2
  intro d
  induction d with
  | zero =>
    intro i M1 hi hf hx
    have : i = m := by omega
    subst this
    refine pw_iload_n 7 rfl rfl rfl ?_
    refine pw_iload_n 8 rfl rfl rfl ?_
    refine pw_icmp_ge_t 23 rfl rfl (nI_le (Nat.le_refl _) (by omega)) ?_
    skip
    exact pw_vret rfl (kk M1 hf hx)
  | succ d ih =>
    intro i M1 hi hf hx
    refine pw_iload_n 7 rfl rfl rfl ?_
    refine pw_iload_n 8 rfl rfl rfl ?_
    refine pw_icmp_ge_f 11 rfl rfl (nI_ge (by omega) (by omega)) ?_
    refine pw_aload_n 12 rfl rfl rfl ?_
    refine pw_iload_n 13 rfl rfl rfl ?_
    refine pw_cV1 16 rfl rfl (by first | assumption | exact ⟨by decide, rfl⟩) rfl (Nat.le_of_ble_eq_true rfl) rfl rfl (Nat.le_of_ble_eq_true rfl) (c_Row_add hr0 hx (by simp; omega) v (fun M' f r => ?_))
    refine pw_pI ?_
    refine pw_pop 17 rfl rfl rfl ?_
    first | refine pw_iincN3 20 rfl rfl rfl (by with_reducible rfl) ?_ | refine pw_iinc3 (w := _) 20 rfl rfl rfl rfl ?_
    refine pw_goto rfl 6 rfl ?_
    refine ih (i + 1) M' (by omega) (hf.tr f) ?_
    rw [List.replicate_succ']
    exact r
theorem c_Row_fill {v : Int32} {m : Nat} (hr : isRow sh k n) (hm : m ≤ n) (kk : ∀ M', fr k (k + 2) M M' → rowIs M' k (List.replicate m v) → Q none sh M' N) : PW mX4_fill 0 [.ref k, .int (nI m), .int v, .null] [] sh M N Q := by
  have hr0 := hr
  obtain ⟨h1, h2⟩ := hr
  refine pw_aload_n 1 rfl rfl rfl ?_
  refine pw_cV0 4 rfl rfl (by first | assumption | exact ⟨by decide, rfl⟩) rfl (Nat.le_of_ble_eq_true rfl) rfl rfl (Nat.le_of_ble_eq_true rfl) (c_Row_clear hr0 (fun M' f r => ?_))
  refine pw_pV ?_
  refine pw_iconst (v := nI 0) 5 rfl rfl (by decide) ?_
  refine pw_istore3 6 rfl rfl rfl ?_
  exact fill_loop hr0 hm kk m 0 M' (by omega) (f.wk (by omega) (by omega)) r
/-- the sum of a row -/
def sumI : List Int32 → Int32
  | [] => 0
  | x :: t => x + sumI t
theorem sum_loop (hr : isRow sh k n) (hx : rowIs M k xs) (hl : xs.length ≤ n) (s : Int32) (kk : Q (some (.int s)) sh M N) :
    ∀ (d i : Nat) (a : Int32), i + d = xs.length → a + sumI (xs.drop i) = s → PW mX4_sum 4 [.ref k, .int a, .int (nI i)] [] sh M N Q := by
  have hr0 := hr
  obtain ⟨h1, h2⟩ := hr
  have hn : n ≤ 1000 := h2.2.2
  intro d
  induction d with
  | zero =>
    intro i a hi ha
    refine pw_iload_n 5 rfl rfl rfl ?_
    refine pw_aload_n 6 rfl rfl rfl ?_
    refine pw_getI 9 rfl rfl (by first | assumption | exact ⟨by decide, rfl⟩) rfl ?_
    rw [hx.1]
    refine pw_icmp_ge_t 26 rfl rfl (nI_le (by omega) (by omega)) ?_
    rw [List.drop_eq_nil_of_le (by omega)] at ha
    have ha : a = s := by rw [← ha]; simp [sumI]
    subst ha
    refine pw_iload_n 27 rfl rfl rfl ?_
    exact pw_iret rfl rfl (kk)
  | succ d ih =>
    intro i a hi ha
    refine pw_iload_n 5 rfl rfl rfl ?_
    refine pw_aload_n 6 rfl rfl rfl ?_
    refine pw_getI 9 rfl rfl (by first | assumption | exact ⟨by decide, rfl⟩) rfl ?_
    rw [hx.1]
    refine pw_icmp_ge_f 12 rfl rfl (nI_ge (by omega) (by omega)) ?_
    refine pw_iload_n 13 rfl rfl rfl ?_
    refine pw_aload_n 14 rfl rfl rfl ?_
    refine pw_iload_n 15 rfl rfl rfl ?_
    refine pw_cV1 18 rfl rfl (by first | assumption | exact ⟨by decide, rfl⟩) rfl (Nat.le_of_ble_eq_true rfl) rfl rfl (Nat.le_of_ble_eq_true rfl) (c_Row_get hr0 hx hl (nI i) ?_)
    rw [gI_n (by omega)]
    refine pw_pI ?_
    first | refine pw_iaddN 19 rfl rfl (by with_reducible rfl) (by with_reducible rfl) ?_ | refine pw_iadd 19 rfl rfl ?_
    refine pw_istore1 20 rfl rfl rfl ?_
    first | refine pw_iincN2 23 rfl rfl rfl (by with_reducible rfl) ?_ | refine pw_iinc2 (w := _) 23 rfl rfl rfl rfl ?_
    refine pw_goto rfl 4 rfl ?_
    refine ih (i + 1) _ (by omega) ?_
    have hlt : i < xs.length := by omega
    rw [← ha, List.drop_eq_getElem_cons hlt, sumI, List.getD_eq_getElem?_getD, List.getElem?_eq_getElem hlt]
    simp [Int32.add_assoc]
theorem c_Row_sum (hr : isRow sh k n) (hx : rowIs M k xs) (hl : xs.length ≤ n) (kk : Q (some (.int (sumI xs))) sh M N) : PW mX4_sum 0 [.ref k, .null, .null] [] sh M N Q := by
  refine pw_iconst (v := nI 0) 1 rfl rfl (by decide) ?_
  refine pw_istore1 2 rfl rfl rfl ?_
  refine pw_iconst (v := nI 0) 3 rfl rfl (by decide) ?_
  refine pw_istore2 4 rfl rfl rfl ?_
  exact sum_loop hr hx hl (sumI xs) kk xs.length 0 (nI 0) (by omega) (by rw [List.drop_zero, nI_0, Int32.zero_add])
theorem same_loop {k2 n2 : Nat} {ys : List Int32} (hr : isRow sh k n) (hx : rowIs M k xs) (hl : xs.length ≤ n) (hr2 : isRow sh k2 n2) (hy : rowIs M k2 ys) (hl2 : ys.length ≤ n2) (he : xs.length = ys.length) (kk : Q (some (.int (if xs = ys then nI 1 else nI 0))) sh M N) :
    ∀ (d i : Nat), i + d = xs.length → (∀ j, j < i → xs.getD j 0 = ys.getD j 0) → PW mX4_isSame 15 [.ref k, .ref k2, .int (nI i)] [] sh M N Q := by
  have hr0 := hr
  have hr02 := hr2
  obtain ⟨h1, h2⟩ := hr
  obtain ⟨g1, g2⟩ := hr2
  have hn : n ≤ 1000 := h2.2.2
  intro d
  induction d with
  | zero =>
    intro i hi ha
    refine pw_iload_n 16 rfl rfl rfl ?_
    refine pw_aload_n 17 rfl rfl rfl ?_
    refine pw_getI 20 rfl rfl (by first | assumption | exact ⟨by decide, rfl⟩) rfl ?_
    rw [hx.1]
    refine pw_icmp_ge_t 44 rfl rfl (nI_le (by omega) (by omega)) ?_
    have e : xs = ys := by
      apply List.ext_getElem he
      intro j h1 h2
      have := ha j (by omega)
      simpa [List.getD_eq_getElem?_getD, List.getElem?_eq_getElem h1, List.getElem?_eq_getElem h2] using this
    rw [if_pos e] at kk
    refine pw_iconst (v := nI 1) 45 rfl rfl (by decide) ?_
    exact pw_zret rfl rfl (by first | exact Or.inl rfl | exact Or.inr rfl | assumption) (kk)
  | succ d ih =>
    intro i hi ha
    refine pw_iload_n 16 rfl rfl rfl ?_
    refine pw_aload_n 17 rfl rfl rfl ?_
    refine pw_getI 20 rfl rfl (by first | assumption | exact ⟨by decide, rfl⟩) rfl ?_
    rw [hx.1]
    refine pw_icmp_ge_f 23 rfl rfl (nI_ge (by omega) (by omega)) ?_
    refine pw_aload_n 24 rfl rfl rfl ?_
    refine pw_iload_n 25 rfl rfl rfl ?_
    refine pw_cV1 28 rfl rfl (by first | assumption | exact ⟨by decide, rfl⟩) rfl (Nat.le_of_ble_eq_true rfl) rfl rfl (Nat.le_of_ble_eq_true rfl) (c_Row_get hr0 hx hl (nI i) ?_)
    rw [gI_n (by omega)]
    refine pw_pI ?_
    refine pw_aload_n 29 rfl rfl rfl ?_
    refine pw_iload_n 30 rfl rfl rfl ?_
    refine pw_cV1 33 rfl rfl (by first | assumption | exact ⟨by decide, rfl⟩) rfl (Nat.le_of_ble_eq_true rfl) rfl rfl (Nat.le_of_ble_eq_true rfl) (c_Row_get hr02 hy hl2 (nI i) ?_)
    rw [gI_n (by omega)]
    refine pw_pI ?_
    skip
    refine pw_icmp_eq 38 36 rfl rfl rfl (fun h => ?_) (fun h => ?_)
    · first | refine pw_iincN2 41 rfl rfl rfl (by with_reducible rfl) ?_ | refine pw_iinc2 (w := _) 41 rfl rfl rfl rfl ?_
      refine pw_goto rfl 15 rfl ?_
      refine ih (i + 1) (by omega) (fun j hj => ?_)
      by_cases q : j = i
      · subst q; exact h
      · exact ha j (by omega)
    · rw [if_neg (fun q => h (by rw [q]))] at kk
      refine pw_iconst (v := nI 0) 37 rfl rfl (by decide) ?_
      exact pw_zret rfl rfl (by first | exact Or.inl rfl | exact Or.inr rfl | assumption) (kk)
theorem c_Row_isSame {k2 n2 : Nat} {ys : List Int32} (hr : isRow sh k n) (hx : rowIs M k xs) (hl : xs.length ≤ n) (hr2 : isRow sh k2 n2) (hy : rowIs M k2 ys) (hl2 : ys.length ≤ n2) (kk : Q (some (.int (if xs = ys then nI 1 else nI 0))) sh M N) : PW mX4_isSame 0 [.ref k, .ref k2, .null] [] sh M N Q := by
  have hr0 := hr
  have hr02 := hr2
  obtain ⟨h1, h2⟩ := hr
  obtain ⟨g1, g2⟩ := hr2
  have hn : n ≤ 1000 := h2.2.2
  have hn2 : n2 ≤ 1000 := g2.2.2
  refine pw_aload_n 1 rfl rfl rfl ?_
  refine pw_getI 4 rfl rfl (by first | assumption | exact ⟨by decide, rfl⟩) rfl ?_
  refine pw_aload_n 5 rfl rfl rfl ?_
  refine pw_cV0 8 rfl rfl (by first | assumption | exact ⟨by decide, rfl⟩) rfl (Nat.le_of_ble_eq_true rfl) rfl rfl (Nat.le_of_ble_eq_true rfl) (c_Row_size hr02 hy ?_)
  refine pw_pI ?_
  rw [hx.1]
  skip
  refine pw_icmp_eq 13 11 rfl rfl rfl (fun h => ?_) (fun h => ?_)
  · have he : xs.length = ys.length := (nI_eq (by omega) (by omega)).mp h
    refine pw_iconst (v := nI 0) 14 rfl rfl (by decide) ?_
    refine pw_istore2 15 rfl rfl rfl ?_
    exact same_loop hr0 hx hl hr02 hy hl2 he kk xs.length 0 (by omega) (fun j hj => absurd hj (Nat.not_lt_zero j))
  · rw [if_neg (fun q => h (by rw [q]))] at kk
    refine pw_iconst (v := nI 0) 12 rfl rfl (by decide) ?_
    exact pw_zret rfl rfl (by first | exact Or.inl rfl | exact Or.inr rfl | assumption) (kk)
/-- a Line: its two rows at k + 1 and k + 3 -/
def isLine (sh : pmS) (k n : Nat) : Prop := pmOb sh k 2 [some (some (k + 1)), some (some (k + 3))] ∧ isRow sh (k + 1) n ∧ isRow sh (k + 3) n
def lineIs (M : pmM) (k : Nat) (ls ss : List Int32) : Prop := rowIs M (k + 1) ls ∧ rowIs M (k + 3) ss
theorem lineIs.mv {M M' : pmM} {k a b : Nat} {ls ss : List Int32} (h : lineIs M k ls ss) (hf : fr a b M M') (hk : k + 5 ≤ a ∨ b ≤ k + 1) : lineIs M' k ls ss := ⟨h.1.mv hf (by omega), h.2.mv hf (by omega)⟩
variable {ls ss : List Int32}
theorem c_Line_size (hr : isLine sh k n) (hx : lineIs M k ls ss) (kk : Q (some (.int (nI ls.length))) sh M N) : PW mX2_size 0 [.ref k] [] sh M N Q := by
  obtain ⟨h1, h2, h3⟩ := hr
  have h2' := h2.1
  refine pw_aload_n 1 rfl rfl rfl ?_
  refine pw_getR 4 rfl rfl (by first | assumption | exact ⟨by decide, rfl⟩) rfl ?_
  refine pw_cV0 7 rfl rfl (by first | assumption | exact ⟨by decide, rfl⟩) rfl (Nat.le_of_ble_eq_true rfl) rfl rfl (Nat.le_of_ble_eq_true rfl) (c_Row_size h2 hx.1 ?_)
  refine pw_pI ?_
  skip
  exact pw_iret rfl rfl (kk)
theorem c_Line_clear (hr : isLine sh k n) (kk : ∀ M', fr (k + 1) (k + 5) M M' → lineIs M' k [] [] → Q none sh M' N) : PW mX2_clear 0 [.ref k] [] sh M N Q := by
  obtain ⟨h1, h2, h3⟩ := hr
  have h2' := h2.1
  have h3' := h3.1
  refine pw_aload_n 1 rfl rfl rfl ?_
  refine pw_getR 4 rfl rfl (by first | assumption | exact ⟨by decide, rfl⟩) rfl ?_
  refine pw_cV0 7 rfl rfl (by first | assumption | exact ⟨by decide, rfl⟩) rfl (Nat.le_of_ble_eq_true rfl) rfl rfl (Nat.le_of_ble_eq_true rfl) (c_Row_clear h2 (fun M1 f1 r1 => ?_))
  refine pw_pV ?_
  refine pw_aload_n 8 rfl rfl rfl ?_
  refine pw_getR 11 rfl rfl (by first | assumption | exact ⟨by decide, rfl⟩) rfl ?_
  refine pw_cV0 14 rfl rfl (by first | assumption | exact ⟨by decide, rfl⟩) rfl (Nat.le_of_ble_eq_true rfl) rfl rfl (Nat.le_of_ble_eq_true rfl) (c_Row_clear h3 (fun M2 f2 r2 => ?_))
  refine pw_pV ?_
  skip
  exact pw_vret rfl (kk M2 ((f1.wk (by omega) (by omega)).tr (f2.wk (by omega) (by omega))) ⟨r1.mv f2 (by omega), r2⟩)
theorem c_Line_add (hr : isLine sh k n) (hx : lineIs M k ls ss) (h1l : ls.length < n) (h2l : ss.length < n) (v w : Int32) (kk : ∀ M', fr (k + 1) (k + 5) M M' → lineIs M' k (ls ++ [v]) (ss ++ [w]) → Q none sh M' N) : PW mX2_add 0 [.ref k, .int v, .int w] [] sh M N Q := by
  obtain ⟨h1, h2, h3⟩ := hr
  have h2' := h2.1
  have h3' := h3.1
  refine pw_aload_n 1 rfl rfl rfl ?_
  refine pw_getR 4 rfl rfl (by first | assumption | exact ⟨by decide, rfl⟩) rfl ?_
  refine pw_iload_n 5 rfl rfl rfl ?_
  refine pw_cV1 8 rfl rfl (by first | assumption | exact ⟨by decide, rfl⟩) rfl (Nat.le_of_ble_eq_true rfl) rfl rfl (Nat.le_of_ble_eq_true rfl) (c_Row_add h2 hx.1 h1l v (fun M1 f1 r1 => ?_))
  refine pw_pI ?_
  refine pw_pop 9 rfl rfl rfl ?_
  refine pw_aload_n 10 rfl rfl rfl ?_
  refine pw_getR 13 rfl rfl (by first | assumption | exact ⟨by decide, rfl⟩) rfl ?_
  refine pw_iload_n 14 rfl rfl rfl ?_
  refine pw_cV1 17 rfl rfl (by first | assumption | exact ⟨by decide, rfl⟩) rfl (Nat.le_of_ble_eq_true rfl) rfl rfl (Nat.le_of_ble_eq_true rfl) (c_Row_add h3 (hx.2.mv f1 (by omega)) h2l w (fun M2 f2 r2 => ?_))
  refine pw_pI ?_
  refine pw_pop 18 rfl rfl rfl ?_
  exact pw_vret rfl (kk M2 ((f1.wk (by omega) (by omega)).tr (f2.wk (by omega) (by omega))) ⟨r1.mv f2 (by omega), r2⟩)
theorem c_Line_takeFrom {k2 n2 : Nat} (hr : isLine sh k n) (hr2 : isLine sh k2 n2) (hx : lineIs M k2 ls ss) (hd : k + 5 ≤ k2 + 1 ∨ k2 + 5 ≤ k + 1) (a1 : ls.length ≤ n) (a2 : ls.length ≤ n2) (a3 : ss.length ≤ n) (a4 : ss.length ≤ n2) (kk : ∀ M', fr (k + 1) (k + 5) M M' → lineIs M' k ls ss → Q none sh M' N) : PW mX2_takeFrom 0 [.ref k, .ref k2] [] sh M N Q := by
  obtain ⟨h1, h2, h3⟩ := hr
  obtain ⟨g1, g2, g3⟩ := hr2
  have h2' := h2.1
  have h3' := h3.1
  refine pw_aload_n 1 rfl rfl rfl ?_
  refine pw_getR 4 rfl rfl (by first | assumption | exact ⟨by decide, rfl⟩) rfl ?_
  refine pw_aload_n 5 rfl rfl rfl ?_
  refine pw_getR 8 rfl rfl (by first | assumption | exact ⟨by decide, rfl⟩) rfl ?_
  refine pw_cV1 11 rfl rfl (by first | assumption | exact ⟨by decide, rfl⟩) rfl (Nat.le_of_ble_eq_true rfl) rfl rfl (Nat.le_of_ble_eq_true rfl) (c_Row_takeFrom h2 g2 hx.1 a1 a2 (fun M1 f1 r1 => ?_))
  refine pw_pV ?_
  refine pw_aload_n 12 rfl rfl rfl ?_
  refine pw_getR 15 rfl rfl (by first | assumption | exact ⟨by decide, rfl⟩) rfl ?_
  refine pw_aload_n 16 rfl rfl rfl ?_
  refine pw_getR 19 rfl rfl (by first | assumption | exact ⟨by decide, rfl⟩) rfl ?_
  refine pw_cV1 22 rfl rfl (by first | assumption | exact ⟨by decide, rfl⟩) rfl (Nat.le_of_ble_eq_true rfl) rfl rfl (Nat.le_of_ble_eq_true rfl) (c_Row_takeFrom h3 g3 (hx.2.mv f1 (by omega)) a3 a4 (fun M2 f2 r2 => ?_))
  refine pw_pV ?_
  skip
  exact pw_vret rfl (kk M2 ((f1.wk (by omega) (by omega)).tr (f2.wk (by omega) (by omega))) ⟨r1.mv f2 (by omega), r2⟩)
/-- a Moment: its line at k + 1, which rules are on in its field 1 -/
def isMom (sh : pmS) (k : Nat) : Prop := pmOb sh k 3 [some (some (k + 1)), none] ∧ isLine sh (k + 1) 60
def momIs (M : pmM) (k : Nat) (ls ss : List Int32) (on : Nat) : Prop := lineIs M (k + 1) ls ss ∧ M k 1 = nI on ∧ ls.length ≤ 60 ∧ ss.length = ls.length
theorem momIs.mv {M M' : pmM} {k a b on : Nat} {ls ss : List Int32} (h : momIs M k ls ss on) (hf : fr a b M M') (hk : k + 6 ≤ a ∨ b ≤ k) : momIs M' k ls ss on := ⟨h.1.mv hf (by omega), by rw [hf k (by omega)]; exact h.2.1, h.2.2⟩
theorem c_Mom_takeFrom {k2 on : Nat} (hr : isMom sh k) (hr2 : isMom sh k2) (hx : momIs M k2 ls ss on) (hd : k + 6 ≤ k2 ∨ k2 + 6 ≤ k) (kk : ∀ M', fr k (k + 6) M M' → momIs M' k ls ss on → Q none sh M' N) : PW mX3_takeFrom 0 [.ref k, .ref k2] [] sh M N Q := by
  obtain ⟨h1, h2⟩ := hr
  obtain ⟨g1, g2⟩ := hr2
  obtain ⟨x1, x2, x3, x4⟩ := hx
  have h2' := h2.1
  refine pw_aload_n 1 rfl rfl rfl ?_
  refine pw_getR 4 rfl rfl (by first | assumption | exact ⟨by decide, rfl⟩) rfl ?_
  refine pw_aload_n 5 rfl rfl rfl ?_
  refine pw_getR 8 rfl rfl (by first | assumption | exact ⟨by decide, rfl⟩) rfl ?_
  refine pw_cV1 11 rfl rfl (by first | assumption | exact ⟨by decide, rfl⟩) rfl (Nat.le_of_ble_eq_true rfl) rfl rfl (Nat.le_of_ble_eq_true rfl) (c_Line_takeFrom h2 g2 x1 (by omega) (by omega) (by omega) (by omega) (by omega) (fun M1 f1 r1 => ?_))
  refine pw_pV ?_
  refine pw_aload_n 12 rfl rfl rfl ?_
  refine pw_aload_n 13 rfl rfl rfl ?_
  refine pw_getI 16 rfl rfl (by first | assumption | exact ⟨by decide, rfl⟩) rfl ?_
  refine pw_putI 19 rfl rfl (by first | assumption | exact ⟨by decide, rfl⟩) rfl (by decide) ?_
  rw [f1 k2 (by omega), x2]
  refine pw_vret rfl (kk _ (fun x h => ?_) ⟨r1.mv (fr_st M1 1 _ (Nat.le_refl k) (Nat.lt_succ_self k)) (by omega), st_same _ _ _ _, x3, x4⟩)
  rw [st_ne _ _ _ _ (by omega)]
  exact f1 x (by omega)
end LIN
