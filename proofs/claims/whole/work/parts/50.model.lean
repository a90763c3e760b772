/-! THE REFERENCE: WHAT IT HOLDS -/
theorem lg_cmpL (x y : Int64) : lg_cmp x y < 0 ↔ x < y := by
  unfold lg_cmp
  by_cases h : x = y
  · subst h; simp [Int64.lt_irrefl]
  · rcases Int64.lt_or_lt_of_ne h with h1 | h1
    · have : ¬ y < x := fun h2 => Int64.lt_irrefl (Int64.lt_trans h1 h2)
      simp [h, h1, this]
    · have : ¬ x < y := fun h2 => Int64.lt_irrefl (Int64.lt_trans h1 h2)
      simp [h1, this]
theorem lg_cmpG (x y : Int64) : 0 < lg_cmp x y ↔ y < x := by
  unfold lg_cmp
  by_cases h : x = y
  · subst h; simp [Int64.lt_irrefl]
  · rcases Int64.lt_or_lt_of_ne h with h1 | h1
    · have : ¬ y < x := fun h2 => Int64.lt_irrefl (Int64.lt_trans h1 h2)
      simp [h, this]
    · simp [h1]
def isMod (sh : pmS) (k : Nat) : Prop := pmOb sh k 11 [some (some (k + 1)), none, some (some (k + 2)), some (some (k + 3)), some (some (k + 4)), none, none, none, some (some (k + 5)), some (some (k + 6)), some (some (k + 7)), none, none, some (some (k + 8)), some (some (k + 9)), some (some (k + 10)), some (some (k + 11)), some (some (k + 12)), none, some (some (k + 13)), some (some (k + 14)), none, some (some (k + 15)), some (some (k + 16)), none, some (some (k + 17)), some (some (k + 18)), some (some (k + 19)), some (some (k + 20))]
  ∧ pmAy sh (k + 1) 0 150 [] ∧ pmAy sh (k + 2) 0 151 [] ∧ pmAy sh (k + 3) 0 122 [] ∧ pmAy sh (k + 4) 0 976 [] ∧ pmAy sh (k + 5) 0 151 [] ∧ pmAy sh (k + 6) 0 122 [] ∧ pmAy sh (k + 7) 0 976 [] ∧ pmAy sh (k + 8) 2 4 [] ∧ pmAy sh (k + 9) 0 4 [] ∧ pmAy sh (k + 10) 0 4 [] ∧ pmAy sh (k + 11) 1 240 [] ∧ pmAy sh (k + 12) 1 60 [] ∧ pmAy sh (k + 13) 0 151 [] ∧ pmAy sh (k + 14) 0 60 [] ∧ pmAy sh (k + 15) 0 360 [] ∧ pmAy sh (k + 16) 0 360 [] ∧ pmAy sh (k + 17) 0 10 [] ∧ pmAy sh (k + 18) 0 60 [] ∧ pmAy sh (k + 19) 0 10 [] ∧ pmAy sh (k + 20) 0 122 []
/-- a row of rules -/
def ruled (f : Nat → Int32) (rs : List aR) : Prop := f 0 = nI rs.length ∧ ∀ r, r < rs.length → f (1 + r) = nI (gR rs r).1 ∧ f (11 + r) = nI (pPh rs r).length ∧ f (21 + r) = nI (pGf rs r).length ∧ (∀ i, i < (pPh rs r).length → f (31 + 6 * r + i) = (pPh rs r).getD i 0) ∧ ∀ i, i < (pGf rs r).length → f (91 + 6 * r + i) = (pGf rs r).getD i 0
/-- a line in a row, from a place on -/
def held (f : Nat → Int32) (o : Nat) (m : aM) : Prop := f o = nI m.1.length ∧ f (o + 1) = nI m.2.2 ∧ (∀ i, i < m.1.length → f (o + 2 + i) = m.1.getD i 0) ∧ ∀ i, i < m.1.length → f (o + 62 + i) = m.2.1.getD i 0
def pastIs (f : Nat → Int32) (hs : List aM) : Prop := ∀ i m, hs[i]? = some m → held f (122 * (hs.length - 1 - i)) m
def modIs (M : pmM) (N : pmN) (k : Nat) (a : aW) : Prop :=
  (M k 1 = nI a.tp.length ∧ ∀ i, i < a.tp.length → M (k + 1) i = a.tp.getD i 0) ∧ ruled (M (k + 2)) a.rs ∧ held (M (k + 3)) 0 a.now.1 ∧ (M k 5 = nI a.now.2.2.length ∧ pastIs (M (k + 4)) a.now.2.2) ∧ M k 6 = nI a.pset ∧ M k 7 = rI a.ps
  ∧ (M k 12 = nI (if a.img.isSome then 1 else 0) ∧ ∀ s, a.img = some s → ruled (M (k + 5)) s.2.1 ∧ held (M (k + 6)) 0 s.1 ∧ M k 11 = nI s.2.2.length ∧ pastIs (M (k + 7)) s.2.2)
  ∧ ∀ i, i < 4 → M (k + 8) i = nI (if (a.shs i).1 then 1 else 0) ∧ M (k + 9) i = nI (a.shs i).2.1 ∧ M (k + 10) i = nI (a.shs i).2.2.1 ∧ ∀ j, j < 60 → N (k + 11) (60 * i + j) = (a.shs i).2.2.2 j
section MDH
variable {sh : pmS} {M : pmM} {N : pmN} {Q : pmPost} {k : Nat} {a : aW}
theorem c_in {x lo hi : Int64} (ky : lo ≤ x → x ≤ hi → Q (some (.int (nI 1))) sh M N) (kn : ¬ (lo ≤ x ∧ x ≤ hi) → Q (some (.int (nI 0))) sh M N) : PW mX11_in 0 [.long x, .null, .long lo, .null, .long hi, .null] [] sh M N Q := by
  refine pw_lload_n 1 rfl rfl rfl ?_
  refine pw_lload_n 2 rfl rfl rfl ?_
  refine pw_lcmp 3 rfl rfl ?_
  refine pw_if_lt 17 6 rfl rfl rfl (fun q => ?_) (fun q => ?_)
  · have q := (lg_cmpL _ _).mp q
    refine pw_iconst (v := nI 0) 18 rfl rfl (by decide) ?_
    exact pw_zret rfl rfl (by first | exact Or.inl rfl | exact Or.inr rfl | assumption) (kn (fun e => Int64.not_lt.mpr e.1 q))
  · have q : lo ≤ x := Int64.not_lt.mp (fun e => q ((lg_cmpL _ _).mpr e))
    refine pw_lload_n 7 rfl rfl rfl ?_
    refine pw_lload 9 rfl rfl rfl ?_
    refine pw_lcmp 10 rfl rfl ?_
    refine pw_if_gt 17 13 rfl rfl rfl (fun q2 => ?_) (fun q2 => ?_)
    · have q2 := (lg_cmpG _ _).mp q2
      refine pw_iconst (v := nI 0) 18 rfl rfl (by decide) ?_
      exact pw_zret rfl rfl (by first | exact Or.inl rfl | exact Or.inr rfl | assumption) (kn (fun e => Int64.not_lt.mpr e.2 q2))
    · have q2 : x ≤ hi := Int64.not_lt.mp (fun e => q2 ((lg_cmpG _ _).mpr e))
      refine pw_iconst (v := nI 1) 14 rfl rfl (by decide) ?_
      refine pw_goto rfl 18 rfl ?_
      exact pw_zret rfl rfl (by first | exact Or.inl rfl | exact Or.inr rfl | assumption) (ky q q2)
theorem c_inX {x : Int32} {hi : Int64} {b c : Nat} (hb : b < 2 ^ 31) (hc : c ≤ 2 ^ 31) (hh : hi.toInt = (c : Int) - 1) (ky : ∀ j, b ≤ j → j < c → x = nI j → Q (some (.int (nI 1))) sh M N) (kn : (∀ j, b ≤ j → j < c → x ≠ nI j) → Q (some (.int (nI 0))) sh M N) : PW mX11_in 0 [.long x.toInt64, .null, .long (lN b), .null, .long hi, .null] [] sh M N Q := by
  have hx : x.toInt64.toInt = x.toInt := Int32.toInt_toInt64 x
  have hl : (lN b).toInt = (b : Int) := lN_toInt hb
  refine c_in (fun h1 h2 => ?_) (fun h => kn (fun j hj1 hj2 e => ?_))
  · have h1 := Int64.le_iff_toInt_le.mp h1
    have h2 := Int64.le_iff_toInt_le.mp h2
    rw [hx, hl] at h1
    rw [hx, hh] at h2
    rcases i_cases x with hn | ⟨j, hj, rfl⟩
    · have := neg_int hn; omega
    · rw [nI_int hj] at h1 h2
      exact ky j (by omega) (by omega) rfl
  · subst e
    refine h ⟨Int64.le_iff_toInt_le.mpr ?_, Int64.le_iff_toInt_le.mpr ?_⟩
    · rw [hx, hl, nI_int (by omega)]; omega
    · rw [hx, hh, nI_int (by omega)]; omega
theorem c_has {s r : Nat} (hs : s < 1024) (hr : r < 10) (kk : Q (some (.int (nI (if s.testBit r then 1 else 0)))) sh M N) : PW mX11_has 0 [.int (nI s), .int (nI r)] [] sh M N Q := by
  refine pw_iload_n 1 rfl rfl rfl ?_
  refine pw_iload_n 2 rfl rfl rfl ?_
  refine pw_ishr 3 rfl rfl ?_
  refine pw_iconst (v := nI 1) 4 rfl rfl (by decide) ?_
  refine pw_iand 5 rfl rfl ?_
  rw [bit_v _ hs _ hr]
  by_cases q : s.testBit r = true
  · rw [if_pos q] at kk ⊢
    refine pw_iconst (v := nI 1) 6 rfl rfl (by decide) ?_
    refine pw_icmp_ne_f 9 rfl rfl (by decide) ?_
    refine pw_iconst (v := nI 1) 10 rfl rfl (by decide) ?_
    refine pw_goto rfl 14 rfl ?_
    exact pw_zret rfl rfl (by first | exact Or.inl rfl | exact Or.inr rfl | assumption) (kk)
  · rw [if_neg q] at kk ⊢
    refine pw_iconst (v := nI 1) 6 rfl rfl (by decide) ?_
    refine pw_icmp_ne_t 13 rfl rfl (by decide) ?_
    refine pw_iconst (v := nI 0) 14 rfl rfl (by decide) ?_
    exact pw_zret rfl rfl (by first | exact Or.inl rfl | exact Or.inr rfl | assumption) (kk)
theorem pop_low : ∀ s, s < 1024 → s ≠ 0 → pop (s &&& (s - 1)) + 1 = pop s := by decide +kernel
theorem pop_0 : pop 0 = 0 := by decide
theorem bits_loop {x0 : Int32} {v : Nat} (kk : Q (some (.int (nI v))) sh M N) : ∀ (d s i : Nat), s < 1024 → pop s ≤ d → i + pop s = v → i + d ≤ 1000 → PW mX11_bits 4 [.int x0, .int (nI i), .int (nI s)] [] sh M N Q := by
  intro d
  induction d with
  | zero =>
    intro s i hs hp hv hd
    by_cases q : s = 0
    · subst q
      rw [pop_0, Nat.add_zero] at hv
      subst hv
      refine pw_iload_n 5 rfl rfl rfl ?_
      refine pw_if_eq_t 20 rfl rfl (rfl) ?_
      refine pw_iload_n 21 rfl rfl rfl ?_
      exact pw_iret rfl rfl (kk)
    · have := pop_low s hs q; omega
  | succ d ih =>
    intro s i hs hp hv hd
    by_cases q : s = 0
    · subst q
      rw [pop_0, Nat.add_zero] at hv
      subst hv
      refine pw_iload_n 5 rfl rfl rfl ?_
      refine pw_if_eq_t 20 rfl rfl (rfl) ?_
      refine pw_iload_n 21 rfl rfl rfl ?_
      exact pw_iret rfl rfl (kk)
    · have hl := pop_low s hs q
      refine pw_iload_n 5 rfl rfl rfl ?_
      refine pw_if_eq_f 8 rfl rfl (fun e => q ((nI_eq (b := 0) (by omega) (by decide)).mp e)) ?_
      first | refine pw_iincN1 11 rfl rfl rfl (by with_reducible rfl) ?_ | refine pw_iinc1 (w := _) 11 rfl rfl rfl rfl ?_
      refine pw_iload_n 12 rfl rfl rfl ?_
      refine pw_iload_n 13 rfl rfl rfl ?_
      refine pw_iconst (v := nI 1) 14 rfl rfl (by decide) ?_
      first | refine pw_isubN 15 rfl rfl (by with_reducible rfl) (by with_reducible rfl) (by omega) ?_ | refine pw_isub 15 rfl rfl ?_
      refine pw_iand 16 rfl rfl ?_
      rw [and_v]
      refine pw_istore2 17 rfl rfl rfl ?_
      refine pw_goto rfl 4 rfl ?_
      exact ih (s &&& (s - 1)) (i + 1) (Nat.lt_of_le_of_lt Nat.and_le_left hs) (by omega) (by omega) (by omega)
theorem c_bits {s : Nat} (hs : s < 1024) (kk : Q (some (.int (nI (pop s)))) sh M N) : PW mX11_bits 0 [.int (nI s), .null, .null] [] sh M N Q := by
  refine pw_iconst (v := nI 0) 1 rfl rfl (by decide) ?_
  refine pw_istore1 2 rfl rfl rfl ?_
  refine pw_iload_n 3 rfl rfl rfl ?_
  refine pw_istore2 4 rfl rfl rfl ?_
  exact bits_loop kk 10 s 0 hs (pop_le s) (Nat.zero_add _) (by decide)
theorem copies_loop {k1 k2 n1 n2 m : Nat} (h1 : pmAy sh k1 0 n1 []) (h2 : pmAy sh k2 0 n2 []) (hk : k1 ≠ k2) (hm1 : m ≤ n1) (hm2 : m ≤ n2) (kk : ∀ M', fr k2 (k2 + 1) M M' → (∀ i, M' k2 i = if i < m then M k1 i else M k2 i) → Q none sh M' N) :
    ∀ (d i : Nat) (M1 : pmM), i + d = m → fr k2 (k2 + 1) M M1 → (∀ j, M1 k2 j = if j < i then M k1 j else M k2 j) → PW mX11_copies 2 [.ref k1, .ref k2, .int (nI m), .int (nI i)] [] sh M1 N Q := by
  have hn1 : n1 ≤ 1000 := h1.2.2
  intro d
  induction d with
  | zero =>
    intro i M1 hi hf hv
    have : i = m := by omega
    subst this
    refine pw_iload_n 3 rfl rfl rfl ?_
    refine pw_iload_n 4 rfl rfl rfl ?_
    refine pw_icmp_ge_t 19 rfl rfl (nI_le (by omega) (by omega)) ?_
    skip
    exact pw_vret rfl (kk M1 hf hv)
  | succ d ih =>
    intro i M1 hi hf hv
    have hi1 : i < n1 := by omega
    have hi2 : i < n2 := by omega
    refine pw_iload_n 3 rfl rfl rfl ?_
    refine pw_iload_n 4 rfl rfl rfl ?_
    refine pw_icmp_ge_f 7 rfl rfl (nI_ge (by omega) (by omega)) ?_
    refine pw_aload_n 8 rfl rfl rfl ?_
    refine pw_iload_n 9 rfl rfl rfl ?_
    refine pw_aload_n 10 rfl rfl rfl ?_
    refine pw_iload_n 11 rfl rfl rfl ?_
    refine pw_iald _ 12 rfl rfl (by first | assumption | exact ⟨by decide, rfl, by decide⟩) (by with_reducible rfl) (by first | assumption | omega) ?_
    refine pw_iast _ 13 rfl rfl (by first | assumption | exact ⟨by decide, rfl, by decide⟩) (by with_reducible rfl) (by first | assumption | omega) ?_
    first | refine pw_iincN3 16 rfl rfl rfl (by with_reducible rfl) ?_ | refine pw_iinc3 (w := _) 16 rfl rfl rfl rfl ?_
    refine pw_goto rfl 2 rfl ?_
    refine ih (i + 1) _ (by omega) (hf.tr (fr_st M1 i _ (Nat.le_refl k2) (Nat.lt_succ_self k2))) (fun j => ?_)
    by_cases q : j = i
    · subst q
      rw [st_same, if_pos (Nat.lt_succ_self _), hf k1 (by omega)]
    · rw [st_row _ _ _ _ q, hv j]
      by_cases q2 : j < i
      · rw [if_pos q2, if_pos (by omega)]
      · rw [if_neg q2, if_neg (by omega)]
theorem c_copies {k1 k2 n1 n2 m : Nat} (h1 : pmAy sh k1 0 n1 []) (h2 : pmAy sh k2 0 n2 []) (hk : k1 ≠ k2) (hm1 : m ≤ n1) (hm2 : m ≤ n2) (kk : ∀ M', fr k2 (k2 + 1) M M' → (∀ i, M' k2 i = if i < m then M k1 i else M k2 i) → Q none sh M' N) : PW mX11_copies 0 [.ref k1, .ref k2, .int (nI m), .null] [] sh M N Q := by
  refine pw_iconst (v := nI 0) 1 rfl rfl (by decide) ?_
  refine pw_istore3 2 rfl rfl rfl ?_
  exact copies_loop h1 h2 hk hm1 hm2 kk m 0 M (Nat.zero_add _) fr.rf (fun j => by rw [if_neg (Nat.not_lt_zero j)])
theorem c_isSmall {x : Int32} (ky : wl x = true → Q (some (.int (nI 1))) sh M N) (kn : wl x = false → Q (some (.int (nI 0))) sh M N) : PW mX11_isSmall 0 [.int x] [] sh M N Q := by
  refine pw_iload_n 1 rfl rfl rfl ?_
  refine pw_i2l 2 rfl rfl ?_
  refine pw_ldc2_w (v := lN 97) 5 rfl rfl rfl ?_
  refine pw_ldc2_w (v := lN 122) 8 rfl rfl rfl ?_
  refine pw_cS3 11 rfl rfl rfl (Nat.le_of_ble_eq_true rfl) rfl rfl (Nat.le_of_ble_eq_true rfl) (c_inX (b := 97) (c := 123) (by decide) (by decide) rfl (fun j h1 h2 e => ?_) (fun hn => ?_))
  · refine pw_pI ?_
    subst e
    skip
    exact pw_zret rfl rfl (by first | exact Or.inl rfl | exact Or.inr rfl | assumption) (ky (by unfold wl; rw [decide_eq_true (nI_le h1 (by omega)), decide_eq_true (nI_le (by omega) (by decide))]; rfl))
  · refine pw_pI ?_
    skip
    refine pw_zret rfl rfl (Or.inl rfl) (kn ?_)
    cases hq : wl x with
    | false => rfl
    | true =>
      unfold wl at hq
      rw [Bool.and_eq_true, decide_eq_true_eq, decide_eq_true_eq] at hq
      rcases i_cases x with hx | ⟨j, hj, rfl⟩
      · exact absurd (Int32.lt_of_le_of_lt hq.1 hx) (by decide)
      · refine absurd rfl (hn j ?_ ?_)
        · exact Nat.le_of_not_lt (fun h => nI_ge h (by decide) hq.1)
        · exact Nat.lt_succ_of_le (Nat.le_of_not_lt (fun h => nI_ge h hj hq.2))
theorem c_isLetterM {x : Int32} (ky : ltr x = true → Q (some (.int (nI 1))) sh M N) (kn : ltr x = false → Q (some (.int (nI 0))) sh M N) : PW mX11_isLetter 0 [.int x] [] sh M N Q := by
  refine pw_iload_n 1 rfl rfl rfl ?_
  refine pw_cS1 4 rfl rfl rfl (Nat.le_of_ble_eq_true rfl) rfl rfl (Nat.le_of_ble_eq_true rfl) (c_isSmall (fun h => ?_) (fun h => ?_))
  · refine pw_pI ?_
    skip
    refine pw_if_ne_t 13 rfl rfl (by decide) ?_
    refine pw_iconst (v := nI 1) 14 rfl rfl (by decide) ?_
    refine pw_goto rfl 18 rfl ?_
    exact pw_zret rfl rfl (by first | exact Or.inl rfl | exact Or.inr rfl | assumption) (ky (by unfold ltr; rw [h]; rfl))
  · refine pw_pI ?_
    skip
    refine pw_if_ne_f 7 rfl rfl (by decide) ?_
    refine pw_iload_n 8 rfl rfl rfl ?_
    refine pw_bipush (v := nI 95) 10 rfl rfl (by decide) ?_
    refine pw_icmp_ne 17 13 rfl rfl rfl (fun q => ?_) (fun q => ?_)
    · refine pw_iconst (v := nI 0) 18 rfl rfl (by decide) ?_
      exact pw_zret rfl rfl (by first | exact Or.inl rfl | exact Or.inr rfl | assumption) (kn (by unfold ltr; rw [h, decide_eq_false q]; rfl))
    · refine pw_iconst (v := nI 1) 14 rfl rfl (by decide) ?_
      refine pw_goto rfl 18 rfl ?_
      exact pw_zret rfl rfl (by first | exact Or.inl rfl | exact Or.inr rfl | assumption) (ky (by unfold ltr; rw [decide_eq_true (Decidable.not_not.mp q), Bool.or_true]))
end MDH
