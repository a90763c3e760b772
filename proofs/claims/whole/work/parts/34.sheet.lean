/-! SHEETS -/
abbrev aH : Type := Bool × Nat × Nat × (Nat → Int64)
def isSheet (sh : pmS) (k : Nat) : Prop := pmOb sh k 6 [some (some (k + 1)), none, none, none] ∧ pmAy sh (k + 1) 1 60 []
def shIs (M : pmM) (N : pmN) (k : Nat) (h : aH) : Prop := M k 1 = nI (if h.1 then 1 else 0) ∧ M k 2 = nI h.2.1 ∧ M k 3 = nI h.2.2.1 ∧ h.2.1 < 4 ∧ h.2.2.1 ≤ 60 ∧ ∀ i, i < 60 → N (k + 1) i = h.2.2.2 i
theorem shIs.mv {M M' : pmM} {N N' : pmN} {k a b : Nat} {h : aH} (hx : shIs M N k h) (hf : fr a b M M') (hk : k + 2 ≤ a ∨ b ≤ k) (hN : N' (k + 1) = N (k + 1)) : shIs M' N' k h := by
  unfold shIs at *
  rw [hf k (by omega), hN]; exact hx
theorem lg_cmpE (x y : Int64) : lg_cmp x y = 0 ↔ x = y := by
  unfold lg_cmp
  by_cases h : x = y
  · subst h; simp [Int64.lt_irrefl]
  · rcases Int64.lt_or_lt_of_ne h with h1 | h1
    · have : ¬ y < x := fun h2 => Int64.lt_irrefl (Int64.lt_trans h1 h2)
      simp [h, h1, this]
    · have : ¬ x < y := fun h2 => Int64.lt_irrefl (Int64.lt_trans h1 h2)
      simp [h, h1, this]
/-- from one item on so many lie in it -/
def hol (s : Nat) (i n : Int32) : Bool := decide (0 ≤ i.toInt ∧ 0 ≤ n.toInt ∧ i.toInt + n.toInt ≤ s)
theorem nI_int {a : Nat} (h : a < 2 ^ 31) : (nI a).toInt = a := by
  unfold nI
  exact Int32.toInt_ofNat_of_lt h
theorem neg_int {x : Int32} (h : x < 0) : x.toInt < 0 := by
  have := Int32.lt_iff_toInt_lt.mp h
  simpa using this
theorem hol_yes {s a b : Nat} (hs : s < 2 ^ 31) (h : a + b ≤ s) : hol s (nI a) (nI b) = true := by
  unfold hol
  rw [nI_int (by omega), nI_int (by omega)]
  exact decide_eq_true (by omega)
theorem hol_no {s : Nat} {i n : Int32} (h : ∀ a b, a + b ≤ s → i = nI a → n ≠ nI b) : hol s i n = false := by
  unfold hol
  refine decide_eq_false (fun q => ?_)
  rcases i_cases i with hi | ⟨a, ha, rfl⟩
  · have := neg_int hi; omega
  rcases i_cases n with hn | ⟨b, hb, rfl⟩
  · have := neg_int hn; omega
  rw [nI_int ha, nI_int hb] at q
  exact h a b (by omega) rfl rfl
theorem hol_ex {s : Nat} {i n : Int32} (h : hol s i n = true) : ∃ a b, a + b ≤ s ∧ i = nI a ∧ n = nI b := by
  refine Classical.byContradiction (fun q => ?_)
  have := hol_no (s := s) (i := i) (n := n) (fun a b h1 h2 h3 => q ⟨a, b, h1, h2, h3⟩)
  rw [this] at h; cases h
/-- the lowest bits -/
def cutL (la : Nat) (v : Int64) : Int64 := if la = 0 then v.toInt32.toInt8.toInt32.toInt64 else if la = 1 then v.toInt32.toInt16.toInt32.toInt64 else if la = 2 then v.toInt32.toInt64 else v
def rfs (h : aH) (la i n : Int32) : Int32 := if h.1 = false then -11 else if nI h.2.1 ≠ la then -12 else if hol h.2.2.1 i n then 0 else -13
def wrt (h : aH) (j : Nat) (v : Int64) : aH := (h.1, h.2.1, h.2.2.1, fun i => if i = j then v else h.2.2.2 i)
def tls (h : aH) (xs : List Int32) (i n : Int32) : Bool := decide (nI xs.length = n) && hol h.2.2.1 i n && decide (∀ k, k < xs.length → h.2.2.2 (i.toNatClampNeg + k) = (xs.getD k 0).toInt64)
section SHT
variable {sh : pmS} {M : pmM} {N : pmN} {Q : pmPost} {k : Nat} {h : aH}
theorem c_Sheet_holds {i n : Int32} (hb : isSheet sh k) (hx : shIs M N k h) (ky : ∀ a b, a + b ≤ h.2.2.1 → i = nI a → n = nI b → Q (some (.int (nI 1))) sh M N) (kn : hol h.2.2.1 i n = false → Q (some (.int (nI 0))) sh M N) : PW mX6_holds 0 [.ref k, .int i, .int n] [] sh M N Q := by
  obtain ⟨h1, h2⟩ := hb
  obtain ⟨x1, x2, x3, x4, x5, x6⟩ := hx
  have no : (∀ a b, a + b ≤ h.2.2.1 → i = nI a → n ≠ nI b) → PW mX6_holds 30 [.ref k, .int i, .int n] [] sh M N Q := by
    intro q
    refine pw_iconst (v := nI 0) 31 rfl rfl (by decide) ?_
    exact pw_zret rfl rfl (by first | exact Or.inl rfl | exact Or.inr rfl | assumption) (kn (hol_no q))
  refine pw_iload_n 1 rfl rfl rfl ?_
  refine pw_if_lt 30 4 rfl rfl rfl (fun q1 => ?_) (fun q1 => ?_)
  · exact no (fun a b hab e _ => by rw [e] at q1; exact nI_pos (by omega) q1)
  · obtain ⟨a, ha, rfl⟩ := nI_of q1
    refine pw_iload_n 5 rfl rfl rfl ?_
    refine pw_if_lt 30 8 rfl rfl rfl (fun q2 => ?_) (fun q2 => ?_)
    · exact no (fun a b hab _ e => by rw [e] at q2; exact nI_pos (by omega) q2)
    · obtain ⟨b, hb, rfl⟩ := nI_of q2
      refine pw_iload_n 9 rfl rfl rfl ?_
      refine pw_aload_n 10 rfl rfl rfl ?_
      refine pw_getI 13 rfl rfl (by first | assumption | exact ⟨by decide, rfl⟩) rfl ?_
      rw [x3]
      refine pw_icmp_gt 30 16 rfl rfl rfl (fun q3 => ?_) (fun q3 => ?_)
      · refine no (fun a' b' hab _ e => ?_)
        have := (nI_ltI (by omega) (by omega)).mp q3
        have := (nI_eq hb (by omega)).mp e
        omega
      · have q3 : b ≤ h.2.2.1 := Nat.le_of_not_lt (fun q => q3 (nI_lt q hb))
        refine pw_iload_n 17 rfl rfl rfl ?_
        refine pw_aload_n 18 rfl rfl rfl ?_
        refine pw_getI 21 rfl rfl (by first | assumption | exact ⟨by decide, rfl⟩) rfl ?_
        refine pw_iload_n 22 rfl rfl rfl ?_
        rw [x3]
        first | refine pw_isubN 23 rfl rfl (by with_reducible rfl) (by with_reducible rfl) (by omega) ?_ | refine pw_isub 23 rfl rfl ?_
        refine pw_icmp_gt 30 26 rfl rfl rfl (fun q4 => ?_) (fun q4 => ?_)
        · refine no (fun a' b' hab e1 e2 => ?_)
          have := (nI_ltI (by omega) (by omega)).mp q4
          have := (nI_eq ha (by omega)).mp e1
          have := (nI_eq hb (by omega)).mp e2
          omega
        · have q4 : a ≤ h.2.2.1 - b := Nat.le_of_not_lt (fun q => q4 (nI_lt q ha))
          refine pw_iconst (v := nI 1) 27 rfl rfl (by decide) ?_
          refine pw_goto rfl 31 rfl ?_
          exact pw_zret rfl rfl (by first | exact Or.inl rfl | exact Or.inr rfl | assumption) (ky a b (by omega) rfl rfl)
theorem c_Sheet_refusal {la i n : Int32} (hb : isSheet sh k) (hx : shIs M N k h) (kk : Q (some (.int (rfs h la i n))) sh M N) : PW mX6_refusal 0 [.ref k, .int la, .int i, .int n] [] sh M N Q := by
  have hb0 := hb
  have hx0 := hx
  obtain ⟨h1, h2⟩ := hb
  obtain ⟨x1, x2, x3, x4, x5, x6⟩ := hx
  unfold rfs at kk
  refine pw_aload_n 1 rfl rfl rfl ?_
  refine pw_getI 4 rfl rfl (by first | assumption | exact ⟨by decide, rfl⟩) rfl ?_
  rw [x1]
  by_cases q : h.1 = false
  · rw [if_pos q] at kk
    rw [q]
    skip
    refine pw_if_ne_f 7 rfl rfl (by decide) ?_
    refine pw_bipush (v := (-11)) 9 rfl rfl (by decide) ?_
    exact pw_iret rfl rfl (kk)
  · rw [if_neg q] at kk
    have q : h.1 = true := by simpa using q
    rw [q]
    skip
    refine pw_if_ne_t 10 rfl rfl (by decide) ?_
    refine pw_aload_n 11 rfl rfl rfl ?_
    refine pw_getI 14 rfl rfl (by first | assumption | exact ⟨by decide, rfl⟩) rfl ?_
    refine pw_iload_n 15 rfl rfl rfl ?_
    rw [x2]
    refine pw_icmp_eq 21 18 rfl rfl rfl (fun q2 => ?_) (fun q2 => ?_)
    · rw [if_neg (fun e => e q2)] at kk
      refine pw_aload_n 22 rfl rfl rfl ?_
      refine pw_iload_n 23 rfl rfl rfl ?_
      refine pw_iload_n 24 rfl rfl rfl ?_
      refine pw_cV2 27 rfl rfl (by first | assumption | exact ⟨by decide, rfl⟩) rfl (Nat.le_of_ble_eq_true rfl) rfl rfl (Nat.le_of_ble_eq_true rfl) (c_Sheet_holds hb0 hx0 (fun a b hab e1 e2 => ?_) (fun hn => ?_))
      · refine pw_pI ?_
        rw [e1, e2, hol_yes (by omega) hab] at kk
        skip
        refine pw_if_eq_f 30 rfl rfl (by decide) ?_
        refine pw_iconst (v := nI 0) 31 rfl rfl (by decide) ?_
        refine pw_goto rfl 36 rfl ?_
        exact pw_iret rfl rfl (kk)
      · refine pw_pI ?_
        rw [hn] at kk
        skip
        refine pw_if_eq_t 34 rfl rfl (by decide) ?_
        refine pw_bipush (v := (-13)) 36 rfl rfl (by decide) ?_
        exact pw_iret rfl rfl (kk)
    · rw [if_pos q2] at kk
      refine pw_bipush (v := (-12)) 20 rfl rfl (by decide) ?_
      exact pw_iret rfl rfl (kk)
theorem c_Sheet_lowestBits {v : Int64} (hb : isSheet sh k) (hx : shIs M N k h) (kk : Q (some (.long (cutL h.2.1 v))) sh M N) : PW mX6_lowestBits 0 [.ref k, .long v, .null] [] sh M N Q := by
  obtain ⟨h1, h2⟩ := hb
  obtain ⟨x1, x2, x3, x4, x5, x6⟩ := hx
  refine pw_aload_n 1 rfl rfl rfl ?_
  refine pw_getI 4 rfl rfl (by first | assumption | exact ⟨by decide, rfl⟩) rfl ?_
  rw [x2]
  unfold cutL at kk
  have c : h.2.1 = 0 ∨ h.2.1 = 1 ∨ h.2.1 = 2 ∨ h.2.1 = 3 := by omega
  rcases c with c | c | c | c
  · rw [c] at kk ⊢
    skip
    refine pw_tsw 32 rfl (rfl) ?_
    refine pw_lload_n 33 rfl rfl rfl ?_
    refine pw_l2i 34 rfl rfl ?_
    refine pw_i2b 35 rfl rfl ?_
    refine pw_i2l 36 rfl rfl ?_
    exact pw_lret rfl (kk)
  · rw [c] at kk ⊢
    skip
    refine pw_tsw 37 rfl (rfl) ?_
    refine pw_lload_n 38 rfl rfl rfl ?_
    refine pw_l2i 39 rfl rfl ?_
    refine pw_i2s 40 rfl rfl ?_
    refine pw_i2l 41 rfl rfl ?_
    exact pw_lret rfl (kk)
  · rw [c] at kk ⊢
    skip
    refine pw_tsw 42 rfl (rfl) ?_
    refine pw_lload_n 43 rfl rfl rfl ?_
    refine pw_l2i 44 rfl rfl ?_
    refine pw_i2l 45 rfl rfl ?_
    exact pw_lret rfl (kk)
  · rw [c] at kk ⊢
    skip
    refine pw_tsw 46 rfl (rfl) ?_
    refine pw_lload_n 47 rfl rfl rfl ?_
    exact pw_lret rfl (kk)
theorem c_Sheet_write {j : Nat} {v : Int64} (hb : isSheet sh k) (hx : shIs M N k h) (hj : j < h.2.2.1) (kk : ∀ N', (∀ x, x ≠ k + 1 → N' x = N x) → shIs M N' k (wrt h j (cutL h.2.1 v)) → Q none sh M N') : PW mX6_write 0 [.ref k, .int (nI j), .long v, .null] [] sh M N Q := by
  have hb0 := hb
  have hx0 := hx
  obtain ⟨h1, h2⟩ := hb
  obtain ⟨x1, x2, x3, x4, x5, x6⟩ := hx
  refine pw_aload_n 1 rfl rfl rfl ?_
  refine pw_iload_n 2 rfl rfl rfl ?_
  refine pw_iconst (v := nI 1) 3 rfl rfl (by decide) ?_
  refine pw_cV2 6 rfl rfl (by first | assumption | exact ⟨by decide, rfl⟩) rfl (Nat.le_of_ble_eq_true rfl) rfl rfl (Nat.le_of_ble_eq_true rfl) (c_Sheet_holds hb0 hx0 (fun a b hab e1 e2 => ?_) (fun hn => absurd (hol_yes (by omega) (show j + 1 ≤ h.2.2.1 by omega)) (by rw [hn]; decide)))
  refine pw_pI ?_
  skip
  refine pw_if_eq_f 9 rfl rfl (by decide) ?_
  refine pw_aload_n 10 rfl rfl rfl ?_
  refine pw_getR 13 rfl rfl (by first | assumption | exact ⟨by decide, rfl⟩) rfl ?_
  refine pw_iload_n 14 rfl rfl rfl ?_
  refine pw_aload_n 15 rfl rfl rfl ?_
  refine pw_lload_n 16 rfl rfl rfl ?_
  refine pw_cV1 19 rfl rfl (by first | assumption | exact ⟨by decide, rfl⟩) rfl (Nat.le_of_ble_eq_true rfl) rfl rfl (Nat.le_of_ble_eq_true rfl) (c_Sheet_lowestBits hb0 hx0 ?_)
  refine pw_pJ ?_
  refine pw_last _ 20 rfl rfl (by first | assumption | exact ⟨by decide, rfl, by decide⟩) (by with_reducible rfl) (by first | assumption | omega) ?_
  refine pw_vret rfl (kk _ (fun x hx => by unfold pmStL; rw [va_up_ne _ _ hx]) ⟨x1, x2, x3, x4, x5, fun i hi => ?_⟩)
  unfold pmStL wrt
  rw [va_up_self]
  unfold vp_updL
  by_cases q : i = j
  · simp [q]
  · simp [q, x6 i hi]
theorem c_Sheet_begin {la n : Nat} (hb : isSheet sh k) (hx : shIs M N k h) (hl : la < 4) (hn : n ≤ 60) (kk : ∀ M' N', fr k (k + 2) M M' → (∀ x, x ≠ k + 1 → N' x = N x) → shIs M' N' k (true, la, n, fun _ => 0) → Q none sh M' N') : PW mX6_begin 0 [.ref k, .int (nI la), .int (nI n)] [] sh M N Q := by
  obtain ⟨h1, h2⟩ := hb
  refine pw_aload_n 1 rfl rfl rfl ?_
  refine pw_getR 4 rfl rfl (by first | assumption | exact ⟨by decide, rfl⟩) rfl ?_
  refine pw_lconst (v := lN 0) 5 rfl rfl (by decide) ?_
  refine pw_cS2 8 rfl rfl rfl (Nat.le_of_ble_eq_true rfl) rfl rfl (Nat.le_of_ble_eq_true rfl) (c_lfill h2 ?_)
  refine pw_pV ?_
  refine pw_aload_n 9 rfl rfl rfl ?_
  refine pw_iconst (v := nI 1) 10 rfl rfl (by decide) ?_
  refine pw_putZ 13 rfl rfl (by first | assumption | exact ⟨by decide, rfl⟩) rfl (by decide) (by first | exact Or.inl rfl | exact Or.inr rfl | assumption) ?_
  refine pw_aload_n 14 rfl rfl rfl ?_
  refine pw_iload_n 15 rfl rfl rfl ?_
  refine pw_putI 18 rfl rfl (by first | assumption | exact ⟨by decide, rfl⟩) rfl (by decide) ?_
  refine pw_aload_n 19 rfl rfl rfl ?_
  refine pw_iload_n 20 rfl rfl rfl ?_
  refine pw_putI 23 rfl rfl (by first | assumption | exact ⟨by decide, rfl⟩) rfl (by decide) ?_
  refine pw_vret rfl (kk _ _ (fun x hx => ?_) (fun x hx => va_up_ne _ _ hx) ⟨?_, ?_, ?_, hl, hn, fun i hi => ?_⟩)
  · rw [st_ne _ _ _ _ (by omega), st_ne _ _ _ _ (by omega), st_ne _ _ _ _ (by omega)]
  · rw [st_row _ _ _ _ (by decide), st_row _ _ _ _ (by decide), st_same]; rfl
  · rw [st_row _ _ _ _ (by decide), st_same]
  · rw [st_same]
  · rw [va_up_self, if_pos hi]; rfl
theorem tells_loop {kr m a n : Nat} {xs : List Int32} (hb : isSheet sh k) (hx : shIs M N k h) (hr : isRow sh kr m) (hy : rowIs M kr xs) (hm : xs.length ≤ m) (hn : xs.length = n) (ha : a + n ≤ h.2.2.1) (ky : (∀ j, j < n → h.2.2.2 (a + j) = (xs.getD j 0).toInt64) → Q (some (.int (nI 1))) sh M N) (kn : ¬ (∀ j, j < n → h.2.2.2 (a + j) = (xs.getD j 0).toInt64) → Q (some (.int (nI 0))) sh M N) :
    ∀ (d i : Nat), i + d = n → (∀ j, j < i → h.2.2.2 (a + j) = (xs.getD j 0).toInt64) → PW mX6_tells 22 [.ref k, .ref kr, .int (nI a), .int (nI n), .int (nI i)] [] sh M N Q := by
  obtain ⟨h1, h2⟩ := hb
  obtain ⟨x1, x2, x3, x4, x5, x6⟩ := hx
  have hr1 := hr.1
  intro d
  induction d with
  | zero =>
    intro i hi hs
    refine pw_iload 24 rfl rfl rfl ?_
    refine pw_iload_n 25 rfl rfl rfl ?_
    refine pw_icmp_ge_t 56 rfl rfl (nI_le (by omega) (by omega)) ?_
    refine pw_iconst (v := nI 1) 57 rfl rfl (by decide) ?_
    exact pw_zret rfl rfl (by first | exact Or.inl rfl | exact Or.inr rfl | assumption) (ky (fun j hj => hs j (by omega)))
  | succ d ih =>
    intro i hi hs
    refine pw_iload 24 rfl rfl rfl ?_
    refine pw_iload_n 25 rfl rfl rfl ?_
    refine pw_icmp_ge_f 28 rfl rfl (nI_ge (by omega) (by omega)) ?_
    refine pw_aload_n 29 rfl rfl rfl ?_
    refine pw_getR 32 rfl rfl (by first | assumption | exact ⟨by decide, rfl⟩) rfl ?_
    refine pw_iload_n 33 rfl rfl rfl ?_
    refine pw_iload 35 rfl rfl rfl ?_
    first | refine pw_iaddN 36 rfl rfl (by with_reducible rfl) (by with_reducible rfl) ?_ | refine pw_iadd 36 rfl rfl ?_
    refine pw_lald _ 37 rfl rfl (by first | assumption | exact ⟨by decide, rfl, by decide⟩) (by with_reducible rfl) (by first | assumption | omega) ?_
    refine pw_aload_n 38 rfl rfl rfl ?_
    refine pw_iload 40 rfl rfl rfl ?_
    rw [x6 _ (by omega)]
    refine pw_cV1 43 rfl rfl (by first | assumption | exact ⟨by decide, rfl⟩) rfl (Nat.le_of_ble_eq_true rfl) rfl rfl (Nat.le_of_ble_eq_true rfl) (c_Row_get hr hy hm _ ?_)
    rw [gI_n (by omega)]
    refine pw_pI ?_
    refine pw_i2l 44 rfl rfl ?_
    refine pw_lcmp 45 rfl rfl ?_
    refine pw_if_eq 50 48 rfl rfl rfl (fun q => ?_) (fun q => ?_)
    · first | refine pw_iincN4 53 rfl rfl rfl (by with_reducible rfl) ?_ | refine pw_iinc4 (w := _) 53 rfl rfl rfl rfl ?_
      refine pw_goto rfl 22 rfl ?_
      refine ih (i + 1) (by omega) (fun j hj => ?_)
      by_cases e : j = i
      · subst e; exact (lg_cmpE _ _).mp q
      · exact hs j (by omega)
    · refine pw_iconst (v := nI 0) 49 rfl rfl (by decide) ?_
      exact pw_zret rfl rfl (by first | exact Or.inl rfl | exact Or.inr rfl | assumption) (kn (fun e => q ((lg_cmpE _ _).mpr (e i (by omega)))))
theorem c_Sheet_tells {kr m a n : Nat} {xs : List Int32} (hb : isSheet sh k) (hx : shIs M N k h) (hr : isRow sh kr m) (hy : rowIs M kr xs) (hm : xs.length ≤ m) (ha : a + n ≤ h.2.2.1) (ky : xs.length = n → (∀ j, j < n → h.2.2.2 (a + j) = (xs.getD j 0).toInt64) → Q (some (.int (nI 1))) sh M N) (kn : ¬ (xs.length = n ∧ ∀ j, j < n → h.2.2.2 (a + j) = (xs.getD j 0).toInt64) → Q (some (.int (nI 0))) sh M N) : PW mX6_tells 0 [.ref k, .ref kr, .int (nI a), .int (nI n), .null] [] sh M N Q := by
  have h1 := hb.1
  have hr1 := hr.1
  have x5 := hx.2.2.2.2.1
  have hm1 : m ≤ 1000 := hr.2.2.2
  refine pw_aload_n 1 rfl rfl rfl ?_
  refine pw_cV0 4 rfl rfl (by first | assumption | exact ⟨by decide, rfl⟩) rfl (Nat.le_of_ble_eq_true rfl) rfl rfl (Nat.le_of_ble_eq_true rfl) (c_Row_size hr hy ?_)
  refine pw_pI ?_
  refine pw_iload_n 5 rfl rfl rfl ?_
  refine pw_icmp_ne 17 8 rfl rfl rfl (fun q => ?_) (fun q => ?_)
  · refine pw_iconst (v := nI 0) 18 rfl rfl (by decide) ?_
    exact pw_zret rfl rfl (by first | exact Or.inl rfl | exact Or.inr rfl | assumption) (kn (fun e => q (by rw [e.1])))
  · have q : xs.length = n := (nI_eq (by omega) (by omega)).mp (Decidable.not_not.mp q)
    refine pw_aload_n 9 rfl rfl rfl ?_
    refine pw_iload_n 10 rfl rfl rfl ?_
    refine pw_iload_n 11 rfl rfl rfl ?_
    refine pw_cV2 14 rfl rfl (by first | assumption | exact ⟨by decide, rfl⟩) rfl (Nat.le_of_ble_eq_true rfl) rfl rfl (Nat.le_of_ble_eq_true rfl) (c_Sheet_holds hb hx (fun a' b' hab e1 e2 => ?_) (fun hn => absurd (hol_yes (by omega) ha) (by rw [hn]; decide)))
    refine pw_pI ?_
    skip
    refine pw_if_ne_t 19 rfl rfl (by decide) ?_
    refine pw_iconst (v := nI 0) 20 rfl rfl (by decide) ?_
    refine pw_istore4 22 rfl rfl rfl ?_
    exact tells_loop hb hx hr hy hm q ha (ky q) (fun e => kn (fun e2 => e e2.2)) n 0 (by omega) (fun j hj => absurd hj (Nat.not_lt_zero j))
end SHT
