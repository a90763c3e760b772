/-! MEMORY: rows, frames -/
theorem st_same (M : pmM) (k j : Nat) (v : Int32) : pmSt M k j v k j = v := by simp [pmSt, va_up, upd]
theorem st_row (M : pmM) (k j : Nat) (v : Int32) {i : Nat} (h : i ≠ j) : pmSt M k j v k i = M k i := by simp [pmSt, va_up, upd, h]
theorem st_ne (M : pmM) (k j : Nat) (v : Int32) {x : Nat} (h : x ≠ k) : pmSt M k j v x = M x := va_up_ne _ _ h
/-- outside a .. b nothing has changed -/
def fr (a b : Nat) (M M' : pmM) : Prop := ∀ x, (x < a ∨ b ≤ x) → M' x = M x
theorem fr.rf {a b : Nat} {M : pmM} : fr a b M M := fun _ _ => rfl
theorem fr.tr {a b : Nat} {M M1 M2 : pmM} (h : fr a b M M1) (h2 : fr a b M1 M2) : fr a b M M2 := fun x hx => (h2 x hx).trans (h x hx)
theorem fr.wk {a b c d : Nat} {M M1 : pmM} (h : fr a b M M1) (h1 : c ≤ a) (h2 : b ≤ d) : fr c d M M1 := fun x hx => h x (by omega)
theorem fr.at {a b : Nat} {M M1 : pmM} (h : fr a b M M1) {x : Nat} (hx : x < a ∨ b ≤ x) : M1 x = M x := h x hx
theorem fr_st {a b k : Nat} (M : pmM) (j : Nat) (v : Int32) (h1 : a ≤ k) (h2 : k < b) : fr a b M (pmSt M k j v) := fun x hx => st_ne M k j v (by omega)
/-- a Row: the object at k, its array at k + 1, of n places -/
def isRow (sh : pmS) (k n : Nat) : Prop := pmOb sh k 4 [some (some (k + 1)), none] ∧ pmAy sh (k + 1) 0 n []
/-- what a row holds -/
def rowIs (M : pmM) (k : Nat) (xs : List Int32) : Prop := M k 1 = nI xs.length ∧ ∀ i, i < xs.length → M (k + 1) i = xs.getD i 0
theorem rowIs.mv {M M' : pmM} {k a b : Nat} {xs : List Int32} (h : rowIs M k xs) (hf : fr a b M M') (hk : k + 1 < a ∨ b ≤ k) : rowIs M' k xs := by
  refine ⟨?_, fun i hi => ?_⟩
  · rw [hf k (by omega)]; exact h.1
  · rw [hf (k + 1) (by omega)]; exact h.2 i hi
theorem rowIs.eq {M M' : pmM} {k : Nat} {xs : List Int32} (h : rowIs M k xs) (h1 : M' k = M k) (h2 : M' (k + 1) = M (k + 1)) : rowIs M' k xs := ⟨by rw [h1]; exact h.1, fun i hi => by rw [h2]; exact h.2 i hi⟩
def gI (xs : List Int32) (i : Int32) : Int32 := if i < 0 then 0 else xs.getD i.toNatClampNeg 0
theorem gI_n {xs : List Int32} {j : Nat} (h : j < 2 ^ 31) : gI xs (nI j) = xs.getD j 0 := by
  unfold gI
  rw [if_neg (nI_pos h), nI_clamp h]
theorem gI_neg {xs : List Int32} {i : Int32} (h : i < 0) : gI xs i = 0 := by
  unfold gI; rw [if_pos h]
theorem getD_out {xs : List Int32} {j : Nat} (h : xs.length ≤ j) : xs.getD j 0 = 0 := by
  rw [List.getD_eq_getElem?_getD, List.getElem?_eq_none h]; rfl
theorem getD_app {xs : List Int32} {v : Int32} {i : Nat} : (xs ++ [v]).getD i 0 = if i < xs.length then xs.getD i 0 else if i = xs.length then v else 0 := by
  simp only [List.getD_eq_getElem?_getD]
  by_cases h : i < xs.length
  · rw [if_pos h, List.getElem?_append_left h]
  · rw [if_neg h]
    by_cases h2 : i = xs.length
    · subst h2; simp
    · rw [if_neg h2, List.getElem?_eq_none (by simp; omega)]; rfl
theorem getD_set {xs : List Int32} {v : Int32} {i j : Nat} (hj : j < xs.length) : (xs.set j v).getD i 0 = if i = j then v else xs.getD i 0 := by
  simp only [List.getD_eq_getElem?_getD]
  by_cases h : i = j
  · subst h; rw [if_pos rfl, List.getElem?_set_self hj]; rfl
  · rw [if_neg h, List.getElem?_set_ne (Ne.symm h)]
/-- an int is below 0, or the number of a natural one -/
theorem i_cases (x : Int32) : x < 0 ∨ ∃ j : Nat, j < 2 ^ 31 ∧ x = nI j := by
  by_cases h : x < 0
  · exact Or.inl h
  · exact Or.inr (nI_of h)
