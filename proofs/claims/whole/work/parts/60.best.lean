/-! THE LONGEST, OF LIKE ONES THE FIRST -/
def bstF (f : Nat → Bool) (L : Nat → Nat) : Nat → Option Nat
  | 0 => none
  | n + 1 => match bstF f L n with
    | none => if f n = true then some n else none
    | some b => if f n = true ∧ L b < L n then some n else some b
def bstOk (f : Nat → Bool) (L : Nat → Nat) (n : Nat) : Option Nat → Prop
  | none => ∀ k, k < n → f k = false
  | some r => r < n ∧ f r = true ∧ ∀ k, k < n → f k = true → L k ≤ L r ∧ (L k = L r → r ≤ k)
theorem bstOk_one {f : Nat → Bool} {L : Nat → Nat} {n : Nat} {x y : Option Nat} (hx : bstOk f L n x) (hy : bstOk f L n y) : x = y := by
  cases x with
  | none =>
    cases y with
    | none => rfl
    | some r => have h1 := hx r hy.1; rw [hy.2.1] at h1; cases h1
  | some q =>
    cases y with
    | none => have h1 := hy q hx.1; rw [hx.2.1] at h1; cases h1
    | some r =>
      have h1 := hx.2.2 r hy.1 hy.2.1
      have h2 := hy.2.2 q hx.1 hx.2.1
      have e : L q = L r := Nat.le_antisymm h2.1 h1.1
      have h3 := h1.2 e.symm
      have h4 := h2.2 e
      rw [Nat.le_antisymm h3 h4]
theorem bstF_ok (f : Nat → Bool) (L : Nat → Nat) : ∀ n, bstOk f L n (bstF f L n)
  | 0 => fun k hk => absurd hk (Nat.not_lt_zero k)
  | n + 1 => by
    have ih := bstF_ok f L n
    rw [bstF]
    cases hb : bstF f L n with
    | none =>
      rw [hb] at ih
      simp only
      by_cases q : f n = true
      · rw [if_pos q]
        refine ⟨Nat.lt_succ_self n, q, fun k hk hf => ?_⟩
        by_cases e : k = n
        · subst e; exact ⟨Nat.le_refl _, fun _ => Nat.le_refl _⟩
        · have := ih k (by omega); rw [hf] at this; cases this
      · rw [if_neg q]
        intro k hk
        by_cases e : k = n
        · subst e; simpa using q
        · exact ih k (by omega)
    | some b =>
      rw [hb] at ih
      simp only
      obtain ⟨h1, h2, h3⟩ := ih
      by_cases q : f n = true ∧ L b < L n
      · rw [if_pos q]
        refine ⟨Nat.lt_succ_self n, q.1, fun k hk hf => ?_⟩
        by_cases e : k = n
        · subst e; exact ⟨Nat.le_refl _, fun _ => Nat.le_refl _⟩
        · have := h3 k (by omega) hf
          exact ⟨by omega, fun h => by omega⟩
      · rw [if_neg q]
        refine ⟨by omega, h2, fun k hk hf => ?_⟩
        by_cases e : k = n
        · subst e
          have : ¬ L b < L k := fun h => q ⟨hf, h⟩
          exact ⟨by omega, fun _ => by omega⟩
        · exact h3 k (by omega) hf
theorem sel_find {rs : List aR} {f : Nat → Bool} {L : Nat} : match (sel rs L).find? f with
    | none => ∀ k, k < rs.length → (pPh rs k).length = L → f k = false
    | some r => r < rs.length ∧ (pPh rs r).length = L ∧ f r = true ∧ ∀ k, k < rs.length → (pPh rs k).length = L → f k = true → r ≤ k := by
  cases h : (sel rs L).find? f with
  | none =>
    simp only
    intro k hk hl
    have := List.find?_eq_none.mp h k (mem_sel.mpr ⟨hk, hl⟩)
    simpa using this
  | some r =>
    simp only
    have h1 := mem_sel.mp (List.mem_of_find?_eq_some h)
    have h2 := List.find?_some h
    refine ⟨h1.1, h1.2, h2, fun k hk hl hf => ?_⟩
    unfold sel at h
    rw [List.find?_filter, List.find?_range_eq_some] at h
    refine Nat.le_of_not_lt (fun q => ?_)
    have := h.2.2 k q
    rw [decide_eq_true hl, hf] at this
    simp at this
theorem ordF_find {rs : List aR} {f : Nat → Bool} : ∀ c, c ≤ 6 → match (ordF rs c).find? f with
    | none => ∀ k, k < rs.length → 6 - c < (pPh rs k).length → (pPh rs k).length ≤ 6 → f k = false
    | some r => r < rs.length ∧ 6 - c < (pPh rs r).length ∧ f r = true ∧ ∀ k, k < rs.length → (pPh rs k).length ≤ 6 → f k = true → (pPh rs k).length ≤ (pPh rs r).length ∧ ((pPh rs k).length = (pPh rs r).length → r ≤ k)
  | 0, _ => by
    simp only [ordF, List.find?_nil]
    intro k _ h1 h2
    omega
  | c + 1, hc => by
    have ih := ordF_find (rs := rs) (f := f) c (by omega)
    have hs := sel_find (rs := rs) (f := f) (L := 6 - c)
    rw [ordF, List.find?_append]
    cases h1 : (ordF rs c).find? f with
    | some r =>
      rw [h1] at ih
      simp only [Option.some_or] at ih ⊢
      exact ⟨ih.1, by omega, ih.2.2⟩
    | none =>
      rw [h1] at ih
      simp only [Option.none_or] at ih ⊢
      cases h2 : (sel rs (6 - c)).find? f with
      | none =>
        rw [h2] at hs
        simp only at hs ⊢
        intro k hk l1 l2
        by_cases e : (pPh rs k).length = 6 - c
        · exact hs k hk e
        · exact ih k hk (by omega) l2
      | some r =>
        rw [h2] at hs
        simp only at hs ⊢
        obtain ⟨s1, s2, s3, s4⟩ := hs
        refine ⟨s1, by omega, s3, fun k hk l2 hf => ?_⟩
        have l3 : ¬ 6 - c < (pPh rs k).length := fun l3 => by
          have := ih k hk l3 l2
          rw [hf] at this; cases this
        exact ⟨by omega, fun e => s4 k hk (by omega) hf⟩
theorem ord_bst {rs : List aR} (hw : ∀ r ∈ rs, wfR r) (f : Nat → Bool) : bstF f (fun r => (pPh rs r).length) rs.length = (ord rs).find? f := by
  have hl : ∀ k, k < rs.length → 1 ≤ (pPh rs k).length ∧ (pPh rs k).length ≤ 6 := by
    intro k hk
    have e : gR rs k = rs[k] := by unfold gR; rw [List.getD_eq_getElem?_getD, List.getElem?_eq_getElem hk]; rfl
    have := hw _ (List.getElem_mem hk)
    unfold pPh
    rw [e]; exact ⟨this.2.1, this.2.2.1⟩
  refine bstOk_one (bstF_ok f _ rs.length) ?_
  have h := ordF_find (rs := rs) (f := f) 6 (Nat.le_refl 6)
  unfold ord
  cases hq : (ordF rs 6).find? f with
  | none =>
    rw [hq] at h
    exact fun k hk => h k hk (by have := (hl k hk).1; omega) (hl k hk).2
  | some r =>
    rw [hq] at h
    exact ⟨h.1, h.2.2.1, fun k hk hf => h.2.2.2 k hk (hl k hk).2 hf⟩
theorem bst_cong {f g : Nat → Bool} {L : Nat → Nat} : ∀ {n : Nat}, (∀ r, r < n → f r = g r) → bstF f L n = bstF g L n
  | 0, _ => rfl
  | n + 1, h => by rw [bstF, bstF, bst_cong (fun r hr => h r (by omega)), h n (by omega)]
theorem bstF_lt {f : Nat → Bool} {L : Nat → Nat} {n b : Nat} (h : bstF f L n = some b) : b < n ∧ f b = true := by
  have := bstF_ok f L n
  rw [h] at this
  exact ⟨this.1, this.2.1⟩
