/-! helpers: the class's static methods, the JDK's -/
def wl (x : Int32) : Bool := decide (nI 97 ≤ x) && decide (x ≤ nI 122)
def ltr (x : Int32) : Bool := wl x || decide (x = nI 95)
def osrt (kd so : Nat) : Bool := decide (so = 0) || (decide (so = 1) && (decide (kd = 1) || decide (kd = 3))) || (decide (so = 2) && (decide (kd = 2) || decide (kd = 4)))
/-- floorMod by 8 -/
def fmd8 (z : Int32) : Int32 := if (z ^^^ nI 8) < 0 then (if z - z / nI 8 * nI 8 = 0 then z - z / nI 8 * nI 8 else z - z / nI 8 * nI 8 + nI 8) else z - z / nI 8 * nI 8
theorem fmd8_sub : ∀ a, a < 10 → ∀ b, b < 10 → fmd8 (nI a - nI b) = nI ((a + 16 - b) % 8) := by decide +kernel
theorem fmd8_n : ∀ a, a < 20 → fmd8 (nI a) = nI (a % 8) := by decide +kernel
def pop (s : Nat) : Nat := ((List.range 10).filter fun i => s.testBit i).length
def bcE1 (x : Int32) : Int32 := x - ((x.toUInt32 >>> ((nI 1).toUInt32 &&& Int32.toUInt32 31)).toInt32 &&& nI 1431655765)
def bcE2 (x : Int32) : Int32 := (x &&& nI 858993459) + ((x.toUInt32 >>> ((nI 2).toUInt32 &&& Int32.toUInt32 31)).toInt32 &&& nI 858993459)
def bcE3 (x : Int32) : Int32 := (x + (x.toUInt32 >>> ((nI 4).toUInt32 &&& Int32.toUInt32 31)).toInt32) &&& nI 252645135
def bcE4 (x : Int32) : Int32 := x + (x.toUInt32 >>> ((nI 8).toUInt32 &&& Int32.toUInt32 31)).toInt32
def bcE5 (x : Int32) : Int32 := (x + (x.toUInt32 >>> ((nI 16).toUInt32 &&& Int32.toUInt32 31)).toInt32) &&& nI 63
theorem bc_pop : ∀ s, s < 1024 → bcE5 (bcE4 (bcE3 (bcE2 (bcE1 (nI s))))) = nI (pop s) := by decide +kernel
section HLP
variable {sh : pmS} {M : pmM} {N : pmN} {Q : pmPost}
theorem c_isWithin {x : Int32} {b : Nat} (hb : b < 2 ^ 31) (ky : ∀ j, j < b → x = nI j → Q (some (.int (nI 1))) sh M N) (kn : (∀ j, j < b → x ≠ nI j) → Q (some (.int (nI 0))) sh M N) : PW mX10_isWithin 0 [.int x, .int (nI b)] [] sh M N Q := by
  refine pw_iload_n 1 rfl rfl rfl ?_
  refine pw_if_lt 13 4 rfl rfl rfl (fun h => ?_) (fun h => ?_)
  · refine pw_iconst (v := nI 0) 14 rfl rfl (by decide) ?_
    exact pw_zret rfl rfl (by first | exact Or.inl rfl | exact Or.inr rfl | assumption) (kn (fun j hj e => nI_pos (n := j) (by omega) (by rw [e] at h; exact h)))
  · obtain ⟨j, hj, rfl⟩ := nI_of h
    refine pw_iload_n 5 rfl rfl rfl ?_
    refine pw_iload_n 6 rfl rfl rfl ?_
    refine pw_icmp_ge 13 9 rfl rfl rfl (fun h2 => ?_) (fun h2 => ?_)
    · refine pw_iconst (v := nI 0) 14 rfl rfl (by decide) ?_
      exact pw_zret rfl rfl (by first | exact Or.inl rfl | exact Or.inr rfl | assumption) (kn (fun i hi e => by have := (nI_leI hb hj).mp h2; have := (nI_eq hj (by omega)).mp e; omega))
    · refine pw_iconst (v := nI 1) 10 rfl rfl (by decide) ?_
      refine pw_goto rfl 14 rfl ?_
      exact pw_zret rfl rfl (by first | exact Or.inl rfl | exact Or.inr rfl | assumption) (ky j (by rcases Nat.lt_or_ge j b with q | q; exact q; exact absurd ((nI_leI hb hj).mpr q) h2) rfl)
theorem c_isLaneOfSheet {s l : Int32} (ky : ∀ i j, i < 4 → j < 4 → s = nI i → l = nI j → Q (some (.int (nI 1))) sh M N) (kn : ((∀ i, i < 4 → s ≠ nI i) ∨ (∀ i, i < 4 → l ≠ nI i)) → Q (some (.int (nI 0))) sh M N) : PW mX10_isLaneOfSheet 0 [.int s, .int l] [] sh M N Q := by
  refine pw_iload_n 1 rfl rfl rfl ?_
  refine pw_iconst (v := nI 4) 2 rfl rfl (by decide) ?_
  refine pw_cS2 5 rfl rfl rfl (Nat.le_of_ble_eq_true rfl) rfl rfl (Nat.le_of_ble_eq_true rfl) (c_isWithin (by decide) (fun i hi e => ?_) (fun h => ?_))
  · refine pw_pI ?_
    skip
    refine pw_if_eq_f 8 rfl rfl (by decide) ?_
    refine pw_iload_n 9 rfl rfl rfl ?_
    refine pw_iconst (v := nI 4) 10 rfl rfl (by decide) ?_
    refine pw_cS2 13 rfl rfl rfl (Nat.le_of_ble_eq_true rfl) rfl rfl (Nat.le_of_ble_eq_true rfl) (c_isWithin (by decide) (fun j hj e2 => ?_) (fun h => ?_))
    · refine pw_pI ?_
      skip
      refine pw_if_eq_f 16 rfl rfl (by decide) ?_
      refine pw_iconst (v := nI 1) 17 rfl rfl (by decide) ?_
      refine pw_goto rfl 21 rfl ?_
      exact pw_zret rfl rfl (by first | exact Or.inl rfl | exact Or.inr rfl | assumption) (ky i j hi hj e e2)
    · refine pw_pI ?_
      skip
      refine pw_if_eq_t 20 rfl rfl (by decide) ?_
      refine pw_iconst (v := nI 0) 21 rfl rfl (by decide) ?_
      exact pw_zret rfl rfl (by first | exact Or.inl rfl | exact Or.inr rfl | assumption) (kn (Or.inr h))
  · refine pw_pI ?_
    skip
    refine pw_if_eq_t 20 rfl rfl (by decide) ?_
    refine pw_iconst (v := nI 0) 21 rfl rfl (by decide) ?_
    exact pw_zret rfl rfl (by first | exact Or.inl rfl | exact Or.inr rfl | assumption) (kn (Or.inl h))
theorem c_isWordLetter {x : Int32} (ky : wl x = true → Q (some (.int (nI 1))) sh M N) (kn : wl x = false → Q (some (.int (nI 0))) sh M N) : PW mX10_isWordLetter 0 [.int x] [] sh M N Q := by
  refine pw_iload_n 1 rfl rfl rfl ?_
  refine pw_bipush (v := nI 97) 3 rfl rfl (by decide) ?_
  refine pw_icmp_lt 16 6 rfl rfl rfl (fun h => ?_) (fun h => ?_)
  · refine pw_iconst (v := nI 0) 17 rfl rfl (by decide) ?_
    exact pw_zret rfl rfl (by first | exact Or.inl rfl | exact Or.inr rfl | assumption) (kn (by unfold wl; rw [decide_eq_false (Int32.not_le.mpr h)]; rfl))
  · have h := Int32.not_lt.mp h
    refine pw_iload_n 7 rfl rfl rfl ?_
    refine pw_bipush (v := nI 122) 9 rfl rfl (by decide) ?_
    refine pw_icmp_gt 16 12 rfl rfl rfl (fun h2 => ?_) (fun h2 => ?_)
    · refine pw_iconst (v := nI 0) 17 rfl rfl (by decide) ?_
      exact pw_zret rfl rfl (by first | exact Or.inl rfl | exact Or.inr rfl | assumption) (kn (by unfold wl; rw [decide_eq_false (Int32.not_le.mpr h2), Bool.and_false]))
    · refine pw_iconst (v := nI 1) 13 rfl rfl (by decide) ?_
      refine pw_goto rfl 17 rfl ?_
      exact pw_zret rfl rfl (by first | exact Or.inl rfl | exact Or.inr rfl | assumption) (ky (by unfold wl; rw [decide_eq_true h, decide_eq_true (Int32.not_lt.mp h2)]; rfl))
theorem c_isLetter {x : Int32} (ky : ltr x = true → Q (some (.int (nI 1))) sh M N) (kn : ltr x = false → Q (some (.int (nI 0))) sh M N) : PW mX10_isLetter 0 [.int x] [] sh M N Q := by
  refine pw_iload_n 1 rfl rfl rfl ?_
  refine pw_cS1 4 rfl rfl rfl (Nat.le_of_ble_eq_true rfl) rfl rfl (Nat.le_of_ble_eq_true rfl) (c_isWordLetter (fun h => ?_) (fun h => ?_))
  · refine pw_pI ?_
    skip
    refine pw_if_ne_t 13 rfl rfl (by decide) ?_
    refine pw_iconst (v := nI 1) 14 rfl rfl (by decide) ?_
    refine pw_goto rfl 18 rfl ?_
    exact pw_zret rfl rfl (by first | exact Or.inl rfl | exact Or.inr rfl | assumption) (ky (by unfold ltr; rw [h]; rfl))
  · refine pw_pI ?_
    skip
    refine pw_if_ne_f 7 rfl rfl (by decide) ?_
    refine pw_iload_n 8 rfl rfl rfl ?_
    refine pw_bipush (v := nI 95) 10 rfl rfl (by decide) ?_
    refine pw_icmp_ne 17 13 rfl rfl rfl (fun h2 => ?_) (fun h2 => ?_)
    · refine pw_iconst (v := nI 0) 18 rfl rfl (by decide) ?_
      exact pw_zret rfl rfl (by first | exact Or.inl rfl | exact Or.inr rfl | assumption) (kn (by unfold ltr; rw [h, decide_eq_false h2]; rfl))
    · refine pw_iconst (v := nI 1) 14 rfl rfl (by decide) ?_
      refine pw_goto rfl 18 rfl ?_
      exact pw_zret rfl rfl (by first | exact Or.inl rfl | exact Or.inr rfl | assumption) (ky (by unfold ltr; rw [decide_eq_true (Classical.not_not.mp h2), Bool.or_true]))
theorem c_isOfSort {kd so : Nat} (hk : kd < 5) (hs : so < 3) (kk : Q (some (.int (if osrt kd so then nI 1 else nI 0))) sh M N) : PW mX10_isOfSort 0 [.int (nI kd), .int (nI so)] [] sh M N Q := by
  have cmp : ∀ z, z < 5 → (nI kd = nI z ↔ kd = z) := fun z hz => nI_eq (by omega) (by omega)
  refine pw_iload_n 1 rfl rfl rfl ?_
  rcases (show so = 0 ∨ so = 1 ∨ so = 2 by omega) with rfl | rfl | rfl
  · refine pw_tsw 28 rfl (by decide) ?_
    refine pw_iconst (v := nI 1) 29 rfl rfl (by decide) ?_
    exact pw_zret rfl rfl (by first | exact Or.inl rfl | exact Or.inr rfl | assumption) (by simpa [osrt] using kk)
  · skip
    refine pw_tsw 30 rfl (by decide) ?_
    refine pw_iload_n 31 rfl rfl rfl ?_
    refine pw_iconst (v := nI 1) 32 rfl rfl (by decide) ?_
    refine pw_icmp_eq 40 35 rfl rfl rfl (fun h => ?_) (fun h => ?_)
    · rw [cmp 1 (by decide)] at h
      refine pw_iconst (v := nI 1) 41 rfl rfl (by decide) ?_
      refine pw_goto rfl 45 rfl ?_
      exact pw_zret rfl rfl (by first | exact Or.inl rfl | exact Or.inr rfl | assumption) (by simpa [osrt, h] using kk)
    · rw [cmp 1 (by decide)] at h
      refine pw_iload_n 36 rfl rfl rfl ?_
      refine pw_iconst (v := nI 3) 37 rfl rfl (by decide) ?_
      refine pw_icmp_ne 44 40 rfl rfl rfl (fun h2 => ?_) (fun h2 => ?_)
      · rw [cmp 3 (by decide)] at h2
        refine pw_iconst (v := nI 0) 45 rfl rfl (by decide) ?_
        exact pw_zret rfl rfl (by first | exact Or.inl rfl | exact Or.inr rfl | assumption) (by simpa [osrt, h, h2] using kk)
      · rw [cmp 3 (by decide)] at h2
        refine pw_iconst (v := nI 1) 41 rfl rfl (by decide) ?_
        refine pw_goto rfl 45 rfl ?_
        exact pw_zret rfl rfl (by first | exact Or.inl rfl | exact Or.inr rfl | assumption) (by simpa [osrt, h, Classical.not_not.mp h2] using kk)
  · skip
    refine pw_tsw 46 rfl (by decide) ?_
    refine pw_iload_n 47 rfl rfl rfl ?_
    refine pw_iconst (v := nI 2) 48 rfl rfl (by decide) ?_
    refine pw_icmp_eq 56 51 rfl rfl rfl (fun h => ?_) (fun h => ?_)
    · rw [cmp 2 (by decide)] at h
      refine pw_iconst (v := nI 1) 57 rfl rfl (by decide) ?_
      refine pw_goto rfl 61 rfl ?_
      exact pw_zret rfl rfl (by first | exact Or.inl rfl | exact Or.inr rfl | assumption) (by simpa [osrt, h] using kk)
    · rw [cmp 2 (by decide)] at h
      refine pw_iload_n 52 rfl rfl rfl ?_
      refine pw_iconst (v := nI 4) 53 rfl rfl (by decide) ?_
      refine pw_icmp_ne 60 56 rfl rfl rfl (fun h2 => ?_) (fun h2 => ?_)
      · rw [cmp 4 (by decide)] at h2
        refine pw_iconst (v := nI 0) 61 rfl rfl (by decide) ?_
        exact pw_zret rfl rfl (by first | exact Or.inl rfl | exact Or.inr rfl | assumption) (by simpa [osrt, h, h2] using kk)
      · rw [cmp 4 (by decide)] at h2
        refine pw_iconst (v := nI 1) 57 rfl rfl (by decide) ?_
        refine pw_goto rfl 61 rfl ?_
        exact pw_zret rfl rfl (by first | exact Or.inl rfl | exact Or.inr rfl | assumption) (by simpa [osrt, h, Classical.not_not.mp h2] using kk)
theorem power_loop {bs ex : Nat} (he : ex < 2 ^ 31) (kk : Q (some (.long (lN (bs ^ ex)))) sh M N) : ∀ (d i p : Nat), i + d = ex → p = bs ^ i → PW mX10_power 5 [.long (lN bs), .null, .int (nI ex), .long (lN p), .null, .int (nI i)] [] sh M N Q := by
  intro d
  induction d with
  | zero =>
    intro i p hi hp
    have : i = ex := by omega
    subst this; subst hp
    refine pw_iload 7 rfl rfl rfl ?_
    refine pw_iload_n 8 rfl rfl rfl ?_
    refine pw_icmp_ge_t 21 rfl rfl (nI_le (Nat.le_refl _) he) ?_
    refine pw_lload_n 22 rfl rfl rfl ?_
    exact pw_lret rfl (kk)
  | succ d ih =>
    intro i p hi hp
    refine pw_iload 7 rfl rfl rfl ?_
    refine pw_iload_n 8 rfl rfl rfl ?_
    refine pw_icmp_ge_f 11 rfl rfl (nI_ge (by omega) he) ?_
    refine pw_lload_n 12 rfl rfl rfl ?_
    refine pw_lload_n 13 rfl rfl rfl ?_
    refine pw_lmul 14 rfl rfl ?_
    rw [lN_mul]
    refine pw_lstore3 15 rfl rfl rfl ?_
    first | refine pw_iincN5 18 rfl rfl rfl (by with_reducible rfl) ?_ | refine pw_iinc5 (w := _) 18 rfl rfl rfl rfl ?_
    refine pw_goto rfl 5 rfl ?_
    exact ih (i + 1) _ (by omega) (by rw [hp, Nat.pow_succ])
theorem c_power {bs ex : Nat} (he : ex < 2 ^ 31) (kk : Q (some (.long (lN (bs ^ ex)))) sh M N) : PW mX10_power 0 [.long (lN bs), .null, .int (nI ex), .null, .null, .null] [] sh M N Q := by
  refine pw_lconst (v := lN 1) 1 rfl rfl (by decide) ?_
  refine pw_lstore3 2 rfl rfl rfl ?_
  refine pw_iconst (v := nI 0) 3 rfl rfl (by decide) ?_
  refine pw_istore5 5 rfl rfl rfl ?_
  exact power_loop he kk ex 0 1 (by omega) rfl
theorem lg_cmp0 {b : Nat} (hb : b < 2 ^ 63) : lg_cmp (lN b) (lN 0) = 0 ↔ b = 0 := by
  unfold lg_cmp
  have h1 : lN 0 < lN b ↔ 0 < b := pk_lLT (by decide) hb
  have h2 : lN b = lN 0 ↔ b = 0 := pk_lEQ hb (by decide)
  by_cases h : b = 0
  · subst h; simp [Int64.lt_irrefl]
  · have h3 : lN 0 < lN b := h1.mpr (by omega)
    simp [h3, h]
theorem gcd_loop (sh : pmS) (M : pmM) (N : pmN) (Q : pmPost) (x0 x1 : Int64) : ∀ (f a b i : Nat) (v9 : Value), pmIsL v9 = pmIsL v9 → a < 2 ^ 63 → b < 2 ^ 63 → b < 2 ^ f → i + 2 * f < 200 → Q (some (.long (lN (Nat.gcd b a)))) sh M N → PW mX10_commonDivisor 9 [.long x0, .null, .long x1, .null, .long (lN a), .null, .long (lN b), .null, .int (nI i), v9, .null] [] sh M N Q := by
  intro f
  have out : ∀ (a b i : Nat) (v9 : Value), i < 200 → b = 0 → a < 2 ^ 63 → Q (some (.long (lN (Nat.gcd b a)))) sh M N → PW mX10_commonDivisor 9 [.long x0, .null, .long x1, .null, .long (lN a), .null, .long (lN b), .null, .int (nI i), v9, .null] [] sh M N Q := by
    intro a b i v9 hi hb ha kk
    subst hb
    rw [Nat.gcd_zero_left] at kk
    refine pw_iload 11 rfl rfl rfl ?_
    refine pw_sipush (v := nI 200) 14 rfl rfl (by decide) ?_
    refine pw_icmp_ge_f 17 rfl rfl (nI_ge (by omega) (by omega)) ?_
    refine pw_lload 19 rfl rfl rfl ?_
    refine pw_lconst (v := lN 0) 20 rfl rfl (by decide) ?_
    refine pw_lcmp 21 rfl rfl ?_
    refine pw_if_eq_t 45 rfl rfl ((lg_cmp0 (by decide)).mpr rfl) ?_
    refine pw_lload 47 rfl rfl rfl ?_
    exact pw_lret rfl (kk)
  have stp : ∀ (a b i : Nat) (v9 : Value), i < 200 → 0 < b → a < 2 ^ 63 → b < 2 ^ 63 → (PW mX10_commonDivisor 9 [.long x0, .null, .long x1, .null, .long (lN b), .null, .long (lN (a % b)), .null, .int (nI (i + 1)), .long (lN (a % b)), .null] [] sh M N Q) → PW mX10_commonDivisor 9 [.long x0, .null, .long x1, .null, .long (lN a), .null, .long (lN b), .null, .int (nI i), v9, .null] [] sh M N Q := by
    intro a b i v9 hi hb ha hb2 kk
    refine pw_iload 11 rfl rfl rfl ?_
    refine pw_sipush (v := nI 200) 14 rfl rfl (by decide) ?_
    refine pw_icmp_ge_f 17 rfl rfl (nI_ge (by omega) (by omega)) ?_
    refine pw_lload 19 rfl rfl rfl ?_
    refine pw_lconst (v := lN 0) 20 rfl rfl (by decide) ?_
    refine pw_lcmp 21 rfl rfl ?_
    refine pw_if_eq_f 24 rfl rfl (fun q => by have := (lg_cmp0 hb2).mp q; omega) ?_
    refine pw_lload 26 rfl rfl rfl ?_
    refine pw_lload 28 rfl rfl rfl ?_
    refine pw_lrem 29 rfl rfl (fun q => ?_) ?_
    · have := (pk_lEQ hb2 (by decide : (0 : Nat) < 2 ^ 63)).mp q; omega
    rw [pk_lRem ha hb hb2]
    refine pw_lstore9 31 rfl rfl rfl ?_
    refine pw_lload 33 rfl rfl rfl ?_
    refine pw_lstore4 35 rfl rfl rfl ?_
    refine pw_lload 37 rfl rfl rfl ?_
    refine pw_lstore6 39 rfl rfl rfl ?_
    first | refine pw_iincN8 42 rfl rfl rfl (by with_reducible rfl) ?_ | refine pw_iinc8 (w := _) 42 rfl rfl rfl rfl ?_
    refine pw_goto rfl 9 rfl ?_
    exact kk
  induction f with
  | zero =>
    intro a b i v9 _ ha hb hf hi kk
    exact out a b i v9 (by omega) (by omega) ha kk
  | succ f ih =>
    intro a b i v9 _ ha hb hf hi kk
    by_cases h0 : b = 0
    · exact out a b i v9 (by omega) h0 ha kk
    · refine stp a b i v9 (by omega) (by omega) ha hb ?_
      have hr : a % b < b := Nat.mod_lt a (by omega)
      have e1 : Nat.gcd b a = Nat.gcd (a % b) b := Nat.gcd_rec b a
      rw [e1] at kk
      by_cases h1 : a % b = 0
      · exact out b (a % b) (i + 1) _ (by omega) h1 hb kk
      · refine stp b (a % b) (i + 1) _ (by omega) (by omega) hb (by omega) ?_
        have e2 : Nat.gcd (a % b) b = Nat.gcd (b % (a % b)) (a % b) := Nat.gcd_rec (a % b) b
        rw [e2] at kk
        have hh : b % (a % b) < 2 ^ f := by
          have h2 : b % (a % b) < a % b := Nat.mod_lt b (by omega)
          have h3 : b % (a % b) + a % b ≤ b := by
            have h4 := Nat.div_add_mod b (a % b)
            have h5 : 1 ≤ b / (a % b) := Nat.div_pos (by omega) (by omega)
            have h6 : a % b * 1 ≤ a % b * (b / (a % b)) := Nat.mul_le_mul_left _ h5
            omega
          rw [Nat.pow_succ] at hf
          omega
        exact ih (a % b) (b % (a % b)) (i + 1 + 1) _ rfl (by omega) (Nat.lt_trans (Nat.mod_lt b (by omega)) (by omega)) hh (by omega) kk
theorem c_commonDivisor {a b : Nat} (ha : a < 2 ^ 63) (hb : b < 2 ^ 63) (hf : b < 2 ^ 40) (kk : Q (some (.long (lN (Nat.gcd b a)))) sh M N) : PW mX10_commonDivisor 0 [.long (lN a), .null, .long (lN b), .null, .null, .null, .null, .null, .null, .null, .null] [] sh M N Q := by
  refine pw_lload_n 1 rfl rfl rfl ?_
  refine pw_lstore4 3 rfl rfl rfl ?_
  refine pw_lload_n 4 rfl rfl rfl ?_
  refine pw_lstore6 6 rfl rfl rfl ?_
  refine pw_iconst (v := nI 0) 7 rfl rfl (by decide) ?_
  refine pw_istore8 9 rfl rfl rfl ?_
  exact gcd_loop sh M N Q (lN a) (lN b) 40 a b 0 .null rfl ha hb hf (by decide) kk
theorem c_floorMod8 {z : Int32} (kk : Q (some (.int (fmd8 z))) sh M N) : PW mJ9_floorMod_7cf53 0 [.int z, .int (nI 8), .null] [] sh M N Q := by
  unfold fmd8 at kk
  refine pw_iload_n 1 rfl rfl rfl ?_
  refine pw_iload_n 2 rfl rfl rfl ?_
  refine pw_irem 3 rfl rfl (by decide) ?_
  refine pw_istore2 4 rfl rfl rfl ?_
  refine pw_iload_n 5 rfl rfl rfl ?_
  refine pw_iload_n 6 rfl rfl rfl ?_
  refine pw_ixor 7 rfl rfl ?_
  refine pw_if_ge 18 10 rfl rfl rfl (fun h => ?_) (fun h => ?_)
  · rw [if_neg (Int32.not_lt.mpr h)] at kk
    refine pw_iload_n 19 rfl rfl rfl ?_
    exact pw_iret rfl rfl (kk)
  · rw [if_pos (Int32.not_le.mp h)] at kk
    refine pw_iload_n 11 rfl rfl rfl ?_
    refine pw_if_eq 18 14 rfl rfl rfl (fun h2 => ?_) (fun h2 => ?_)
    · rw [if_pos h2] at kk
      refine pw_iload_n 19 rfl rfl rfl ?_
      exact pw_iret rfl rfl (kk)
    · rw [if_neg h2] at kk
      refine pw_iload_n 15 rfl rfl rfl ?_
      refine pw_iload_n 16 rfl rfl rfl ?_
      first | refine pw_iaddN 17 rfl rfl (by with_reducible rfl) (by with_reducible rfl) ?_ | refine pw_iadd 17 rfl rfl ?_
      exact pw_iret rfl rfl (kk)
theorem c_bitCount {s : Nat} (hs : s < 1024) (kk : Q (some (.int (nI (pop s)))) sh M N) : PW mJ6_bitCount_0f7a4 0 [.int (nI s)] [] sh M N Q := by
  rw [← bc_pop s hs] at kk
  refine pw_iload_n 1 rfl rfl rfl ?_
  refine pw_iload_n 2 rfl rfl rfl ?_
  refine pw_iconst (v := nI 1) 3 rfl rfl (by decide) ?_
  refine pw_iushr 4 rfl rfl ?_
  refine pw_ldc_w 7 rfl rfl ?_
  refine pw_iand 8 rfl rfl ?_
  first | refine pw_isubN 9 rfl rfl (by with_reducible rfl) (by with_reducible rfl) (by omega) ?_ | refine pw_isub 9 rfl rfl ?_
  refine pw_istore0 10 rfl rfl ?_
  refine pw_iload_n 11 rfl rfl rfl ?_
  refine pw_ldc_w 14 rfl rfl ?_
  refine pw_iand 15 rfl rfl ?_
  refine pw_iload_n 16 rfl rfl rfl ?_
  refine pw_iconst (v := nI 2) 17 rfl rfl (by decide) ?_
  refine pw_iushr 18 rfl rfl ?_
  refine pw_ldc_w 21 rfl rfl ?_
  refine pw_iand 22 rfl rfl ?_
  first | refine pw_iaddN 23 rfl rfl (by with_reducible rfl) (by with_reducible rfl) ?_ | refine pw_iadd 23 rfl rfl ?_
  refine pw_istore0 24 rfl rfl ?_
  refine pw_iload_n 25 rfl rfl rfl ?_
  refine pw_iload_n 26 rfl rfl rfl ?_
  refine pw_iconst (v := nI 4) 27 rfl rfl (by decide) ?_
  refine pw_iushr 28 rfl rfl ?_
  first | refine pw_iaddN 29 rfl rfl (by with_reducible rfl) (by with_reducible rfl) ?_ | refine pw_iadd 29 rfl rfl ?_
  refine pw_ldc_w 32 rfl rfl ?_
  refine pw_iand 33 rfl rfl ?_
  refine pw_istore0 34 rfl rfl ?_
  refine pw_iload_n 35 rfl rfl rfl ?_
  refine pw_iload_n 36 rfl rfl rfl ?_
  refine pw_bipush (v := nI 8) 38 rfl rfl (by decide) ?_
  refine pw_iushr 39 rfl rfl ?_
  first | refine pw_iaddN 40 rfl rfl (by with_reducible rfl) (by with_reducible rfl) ?_ | refine pw_iadd 40 rfl rfl ?_
  refine pw_istore0 41 rfl rfl ?_
  refine pw_iload_n 42 rfl rfl rfl ?_
  refine pw_iload_n 43 rfl rfl rfl ?_
  refine pw_bipush (v := nI 16) 45 rfl rfl (by decide) ?_
  refine pw_iushr 46 rfl rfl ?_
  first | refine pw_iaddN 47 rfl rfl (by with_reducible rfl) (by with_reducible rfl) ?_ | refine pw_iadd 47 rfl rfl ?_
  refine pw_istore0 48 rfl rfl ?_
  refine pw_iload_n 49 rfl rfl rfl ?_
  refine pw_bipush (v := nI 63) 51 rfl rfl (by decide) ?_
  refine pw_iand 52 rfl rfl ?_
  exact pw_iret rfl rfl (kk)
theorem lfill_loop {k n : Nat} {v : Int64} (ha : pmAy sh k 1 n []) (kk : Q none sh M (va_up N k (fun j => if j < n then v else N k j))) : ∀ (d i : Nat) (N1 : pmN), i + d = n → N1 = va_up N k (fun j => if j < i then v else N k j) → PW mJ7_fill_d0a16 6 [.ref k, .long v, .null, .int (nI i), .int (nI n)] [] sh M N1 Q := by
  have hn : n ≤ 1000 := ha.2.2
  intro d
  induction d with
  | zero =>
    intro i N1 hi hN
    have : i = n := by omega
    subst this; subst hN
    refine pw_iload_n 7 rfl rfl rfl ?_
    refine pw_iload 9 rfl rfl rfl ?_
    refine pw_icmp_ge_t 22 rfl rfl (nI_le (Nat.le_refl _) (by omega)) ?_
    skip
    exact pw_vret rfl (kk)
  | succ d ih =>
    intro i N1 hi hN
    refine pw_iload_n 7 rfl rfl rfl ?_
    refine pw_iload 9 rfl rfl rfl ?_
    refine pw_icmp_ge_f 12 rfl rfl (nI_ge (by omega) (by omega)) ?_
    have hlt : i < n := by omega
    refine pw_aload_n 13 rfl rfl rfl ?_
    refine pw_iload_n 14 rfl rfl rfl ?_
    refine pw_lload_n 15 rfl rfl rfl ?_
    refine pw_last _ 16 rfl rfl (by first | assumption | exact ⟨by decide, rfl, by decide⟩) (by with_reducible rfl) (by first | assumption | omega) ?_
    first | refine pw_iincN3 19 rfl rfl rfl (by with_reducible rfl) ?_ | refine pw_iinc3 (w := _) 19 rfl rfl rfl rfl ?_
    refine pw_goto rfl 6 rfl ?_
    refine ih (i + 1) _ (by omega) ?_
    subst hN
    funext x
    by_cases hx : x = k
    · subst hx
      simp only [pmStL, va_up_self]
      funext j
      unfold vp_updL
      by_cases hj : j = i
      · rw [if_pos hj, if_pos (by omega)]
      · rw [if_neg hj]
        show (if j < i then v else N x j) = _
        by_cases h3 : j < i
        · rw [if_pos h3, if_pos (by omega)]
        · rw [if_neg h3, if_neg (by omega)]
    · simp only [pmStL, va_up_ne _ _ hx]
theorem c_lfill {k n : Nat} {v : Int64} (ha : pmAy sh k 1 n []) (kk : Q none sh M (va_up N k (fun j => if j < n then v else N k j))) : PW mJ7_fill_d0a16 0 [.ref k, .long v, .null, .null, .null] [] sh M N Q := by
  refine pw_iconst (v := nI 0) 1 rfl rfl (by decide) ?_
  refine pw_istore3 2 rfl rfl rfl ?_
  refine pw_aload_n 3 rfl rfl rfl ?_
  refine pw_alen 4 rfl rfl (by first | assumption | exact ⟨by decide, rfl, by decide⟩) (by decide) ?_
  refine pw_istore4 6 rfl rfl rfl ?_
  refine lfill_loop ha kk n 0 N (by omega) ?_
  funext x
  by_cases hx : x = k
  · subst hx; rw [va_up_self]; funext j; rw [if_neg (Nat.not_lt_zero j)]
  · rw [va_up_ne _ _ hx]
end HLP
