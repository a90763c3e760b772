/-! SUMS OVER SETS -/
def pb (s : Nat) : Nat → Nat
  | 0 => 0
  | b + 1 => pb s b + (if s.testBit b then 1 else 0)
theorem pb_pop (s : Nat) : pop s = pb s 10 := by
  have h : ∀ b, ((List.range b).filter fun i => s.testBit i).length = pb s b := by
    intro b
    induction b with
    | zero => rfl
    | succ b ih =>
      rw [List.range_succ, List.filter_append, List.length_append, ih, pb]
      by_cases q : s.testBit b = true
      · simp [q]
      · simp [q]
  exact h 10
/-- what is told of a set of rules that are on, the choice being D -/
def wP (x y D T : Nat) : Nat → Nat
  | 0 => 1
  | b + 1 => wP x y D T b * (if D.testBit b then (if T.testBit b then x else y) else 1)
/-- the sum over all subsets, bit by bit -/
def gS (x y D : Nat) (F : Nat → Bool) : Nat → Nat → Nat
  | 0, t => if F t then 1 else 0
  | b + 1, t => if D.testBit b then x * gS x y D F b (2 * t + 1) + y * gS x y D F b (2 * t) else gS x y D F b (2 * t)
def sb (D : Nat) : Nat → List Nat
  | 0 => [0]
  | b + 1 => sb D b ++ (if D.testBit b then (sb D b).map (· + 2 ^ b) else [])
theorem its_sb : ∀ C, C < 1024 → its C (2 ^ pop C) C = (sb C 10).reverse := by decide +kernel
theorem sb_lt (D : Nat) : ∀ b, ∀ T ∈ sb D b, T < 2 ^ b
  | 0, T, h => by
    have : T = 0 := by simpa [sb] using h
    subst this; decide
  | b + 1, T, h => by
    rw [sb, List.mem_append] at h
    rw [Nat.pow_succ]
    rcases h with h | h
    · have := sb_lt D b T h; omega
    · split at h
      · obtain ⟨S, hS, rfl⟩ := List.mem_map.mp h
        have := sb_lt D b S hS; omega
      · simp at h
theorem wP_low {x y D T T' : Nat} : ∀ b, (∀ i, i < b → T.testBit i = T'.testBit i) → wP x y D T b = wP x y D T' b
  | 0, _ => rfl
  | b + 1, h => by rw [wP, wP, wP_low b (fun i hi => h i (by omega)), h b (by omega)]
theorem bit_hi {T b : Nat} (h : T < 2 ^ b) : T.testBit b = false := Nat.testBit_lt_two_pow h
theorem bit_add {T b : Nat} (h : T < 2 ^ b) : (T + 2 ^ b).testBit b = true := by
  rw [Nat.add_comm, Nat.testBit_two_pow_add_eq, bit_hi h]; rfl
theorem bit_addL {T b i : Nat} (hi : i < b) : (T + 2 ^ b).testBit i = T.testBit i := by
  rw [Nat.add_comm, Nat.testBit_two_pow_add_gt hi]
/-- the sum over a list -/
def sL (h : Nat → Nat) : List Nat → Nat
  | [] => 0
  | s :: l => h s + sL h l
theorem sL_app (h : Nat → Nat) : ∀ l l', sL h (l ++ l') = sL h l + sL h l'
  | [], l' => by simp [sL]
  | s :: l, l' => by rw [List.cons_append, sL, sL, sL_app h l l']; omega
theorem sL_map (h g : Nat → Nat) : ∀ l, sL h (l.map g) = sL (fun s => h (g s)) l
  | [] => rfl
  | s :: l => by rw [List.map_cons, sL, sL, sL_map h g l]
theorem sL_cong {h g : Nat → Nat} : ∀ l, (∀ s ∈ l, h s = g s) → sL h l = sL g l
  | [], _ => rfl
  | s :: l, e => by rw [sL, sL, e s List.mem_cons_self, sL_cong l (fun s hs => e s (List.mem_cons_of_mem _ hs))]
theorem sL_mul (h : Nat → Nat) (z : Nat) : ∀ l, sL (fun s => z * h s) l = z * sL h l
  | [] => by simp [sL]
  | s :: l => by rw [sL, sL, sL_mul h z l, Nat.mul_add]
theorem sL_rev (h : Nat → Nat) : ∀ l, sL h l.reverse = sL h l
  | [] => rfl
  | s :: l => by rw [List.reverse_cons, sL_app, sL_rev h l, sL, sL, sL]; omega
theorem sb_gS (x y D : Nat) (F : Nat → Bool) : ∀ b t, sL (fun T => wP x y D T b * (if F (2 ^ b * t + T) then 1 else 0)) (sb D b) = gS x y D F b t
  | 0, t => by simp [sb, sL, wP, gS]
  | b + 1, t => by
    rw [sb, sL_app, gS]
    have e0 : ∀ T, 2 ^ b * (2 * t) + T = 2 ^ (b + 1) * t + T := fun T => by
      rw [Nat.pow_succ, Nat.mul_assoc]
    have e1 : ∀ T, 2 ^ b * (2 * t + 1) + T = 2 ^ (b + 1) * t + (T + 2 ^ b) := fun T => by
      rw [Nat.pow_succ, Nat.mul_add, Nat.mul_one, Nat.mul_assoc]; omega
    by_cases q : D.testBit b = true
    · rw [if_pos q, if_pos q, sL_map]
      rw [← sb_gS x y D F b (2 * t + 1), ← sb_gS x y D F b (2 * t), ← sL_mul, ← sL_mul, Nat.add_comm]
      congr 1
      · refine sL_cong _ (fun T hT => ?_)
        have hlt := sb_lt D b T hT
        rw [wP, if_pos q, bit_add hlt, if_pos rfl, wP_low b (fun i hi => bit_addL hi), e1 T]
        rw [Nat.mul_comm (wP x y D T b) x, Nat.mul_assoc]
      · refine sL_cong _ (fun T hT => ?_)
        have hlt := sb_lt D b T hT
        rw [wP, if_pos q, bit_hi hlt, if_neg (by decide), e0 T]
        rw [Nat.mul_comm (wP x y D T b) y, Nat.mul_assoc]
    · rw [if_neg q, if_neg q, ← sb_gS x y D F b (2 * t)]
      simp only [sL, Nat.add_zero]
      refine sL_cong _ (fun T hT => ?_)
      rw [wP, if_neg q, Nat.mul_one, e0 T]
/-- the sum over all numbers -/
theorem rng_gS (x y D : Nat) (F : Nat → Bool) : ∀ b t, sL (fun T => (if T &&& D = T then wP x y D T b else 0) * (if F (2 ^ b * t + T) then 1 else 0)) (List.range (2 ^ b)) = gS x y D F b t
  | 0, t => by simp [sL, wP, gS]
  | b + 1, t => by
    rw [Nat.pow_succ, Nat.mul_two, List.range_add, sL_app, sL_map, gS]
    have e0 : ∀ T, 2 ^ b * (2 * t) + T = (2 ^ b + 2 ^ b) * t + T := fun T => by
      rw [← Nat.mul_two, Nat.mul_assoc]
    have e1 : ∀ T, 2 ^ b * (2 * t + 1) + T = (2 ^ b + 2 ^ b) * t + (2 ^ b + T) := fun T => by
      rw [← Nat.mul_two, Nat.mul_add, Nat.mul_one, Nat.mul_assoc]; omega
    have sub : ∀ T, T < 2 ^ b → ((2 ^ b + T) &&& D = 2 ^ b + T ↔ D.testBit b = true ∧ T &&& D = T) := by
      intro T hT
      constructor
      · intro h
        have hb : ∀ i, (2 ^ b + T).testBit i = true → D.testBit i = true := fun i hi => by
          rw [← h, Nat.testBit_and, Bool.and_eq_true] at hi; exact hi.2
        refine ⟨hb b (by rw [Nat.add_comm]; exact bit_add hT), ?_⟩
        apply Nat.eq_of_testBit_eq
        intro i
        rw [Nat.testBit_and]
        by_cases hi : i < b
        · have := hb i
          rw [Nat.add_comm, bit_addL hi] at this
          cases h1 : T.testBit i
          · rfl
          · rw [this h1]; rfl
        · rw [Nat.testBit_lt_two_pow (Nat.lt_of_lt_of_le hT (Nat.pow_le_pow_right (by decide) (by omega)))]; rfl
      · rintro ⟨h1, h2⟩
        apply Nat.eq_of_testBit_eq
        intro i
        rw [Nat.testBit_and]
        by_cases hi : i < b
        · rw [Nat.add_comm, bit_addL hi, ← Nat.testBit_and, h2]
        · by_cases hb : i = b
          · subst hb; rw [h1, Bool.and_true]
          · have h3 : 2 ^ b + T < 2 ^ i := by
              have : 2 ^ (b + 1) ≤ 2 ^ i := Nat.pow_le_pow_right (by decide) (by omega)
              rw [Nat.pow_succ] at this
              omega
            rw [Nat.testBit_lt_two_pow h3]; rfl
    by_cases q : D.testBit b = true
    · rw [if_pos q, ← rng_gS x y D F b (2 * t + 1), ← rng_gS x y D F b (2 * t), ← sL_mul, ← sL_mul, Nat.add_comm]
      congr 1
      · refine sL_cong _ (fun T hT => ?_)
        have hlt := List.mem_range.mp hT
        rw [wP, if_pos q, Nat.add_comm (2 ^ b) T, bit_add hlt, if_pos rfl, wP_low b (fun i hi => bit_addL hi), ← Nat.add_comm (2 ^ b) T, e1 T]
        by_cases q2 : T &&& D = T
        · rw [if_pos q2, if_pos ((sub T hlt).mpr ⟨q, q2⟩), Nat.mul_comm (wP x y D T b) x, Nat.mul_assoc]
        · rw [if_neg q2, if_neg (fun h => q2 ((sub T hlt).mp h).2)]; simp
      · refine sL_cong _ (fun T hT => ?_)
        have hlt := List.mem_range.mp hT
        by_cases q2 : T &&& D = T
        · rw [if_pos q2, if_pos q2, wP, if_pos q, bit_hi hlt, if_neg (show ¬ false = true by decide), e0 T, Nat.mul_comm (wP x y D T b) y, Nat.mul_assoc]
        · rw [if_neg q2, if_neg q2]; simp
    · rw [if_neg q, ← rng_gS x y D F b (2 * t)]
      have z : sL (fun s => (if (2 ^ b + s) &&& D = 2 ^ b + s then wP x y D (2 ^ b + s) (b + 1) else 0) * (if F ((2 ^ b + 2 ^ b) * t + (2 ^ b + s)) then 1 else 0)) (List.range (2 ^ b)) = sL (fun s => 0 * s) (List.range (2 ^ b)) := by
        refine sL_cong _ (fun T hT => ?_)
        rw [if_neg (fun h => q ((sub T (List.mem_range.mp hT)).mp h).1), Nat.zero_mul, Nat.zero_mul]
      rw [z, sL_mul, Nat.zero_mul, Nat.add_zero]
      refine sL_cong _ (fun T hT => ?_)
      rw [wP, if_neg q, Nat.mul_one, e0 T]
theorem gS_cong {x y D : Nat} {F : Nat → Bool} : ∀ b t t', (∀ T, T < 2 ^ b → F (2 ^ b * t + T) = F (2 ^ b * t' + T)) → gS x y D F b t = gS x y D F b t'
  | 0, t, t', h => by
    have := h 0 (by decide)
    simp only [Nat.pow_zero, Nat.one_mul, Nat.add_zero] at this
    rw [gS, gS, this]
  | b + 1, t, t', h => by
    have e0 : ∀ t T, 2 ^ b * (2 * t) + T = 2 ^ (b + 1) * t + T := fun t T => by
      rw [Nat.pow_succ, Nat.mul_assoc]
    have e1 : ∀ t T, 2 ^ b * (2 * t + 1) + T = 2 ^ (b + 1) * t + (2 ^ b + T) := fun t T => by
      rw [Nat.pow_succ, Nat.mul_add, Nat.mul_one, Nat.mul_assoc]; omega
    have hp : 2 ^ (b + 1) = 2 ^ b + 2 ^ b := by rw [Nat.pow_succ, Nat.mul_two]
    rw [gS, gS, gS_cong b (2 * t + 1) (2 * t' + 1) (fun T hT => by rw [e1, e1]; exact h _ (by omega)), gS_cong b (2 * t) (2 * t') (fun T hT => by rw [e0, e0]; exact h _ (by omega))]
/-- rules that don't matter only count ten times each -/
theorem gS_free {x y C S : Nat} {F : Nat → Bool} (hxy : x + y = 10) (hCS : ∀ i, C.testBit i = true → S.testBit i = true) (hF : ∀ T, F T = F (T &&& C)) : ∀ b t, gS x y S F b t = gS x y C F b t * 10 ^ (pb S b - pb C b) ∧ pb C b ≤ pb S b
  | 0, t => ⟨by simp [gS, pb], Nat.le_refl _⟩
  | b + 1, t => by
    have h1 := gS_free hxy hCS hF b (2 * t + 1)
    have h0 := gS_free hxy hCS hF b (2 * t)
    rw [gS, gS, pb, pb]
    by_cases qC : C.testBit b = true
    · have qS := hCS b qC
      rw [if_pos qC, if_pos qS, if_pos qC, if_pos qS, h1.1, h0.1, show pb S b + 1 - (pb C b + 1) = pb S b - pb C b by omega]
      refine ⟨?_, by have := h0.2; omega⟩
      rw [Nat.add_mul, Nat.mul_assoc, Nat.mul_assoc]
    · by_cases qS : S.testBit b = true
      · rw [if_neg qC, if_pos qS, if_neg qC, if_pos qS]
        have e : gS x y S F b (2 * t + 1) = gS x y S F b (2 * t) := by
          refine gS_cong b _ _ (fun T hT => ?_)
          rw [hF, hF (2 ^ b * (2 * t) + T)]
          congr 1
          apply Nat.eq_of_testBit_eq
          intro i
          rw [Nat.testBit_and, Nat.testBit_and, Nat.testBit_two_pow_mul_add _ hT, Nat.testBit_two_pow_mul_add _ hT]
          by_cases hi : i < b
          · rw [if_pos hi, if_pos hi]
          · rw [if_neg hi, if_neg hi]
            by_cases hb : i = b
            · subst hb
              have : C.testBit i = false := by simpa using qC
              rw [this, Bool.and_false, Bool.and_false]
            · obtain ⟨z, rfl⟩ : ∃ z, i = b + (z + 1) := ⟨i - b - 1, by omega⟩
              rw [Nat.add_sub_cancel_left, Nat.testBit_succ, Nat.testBit_succ, show (2 * t + 1) / 2 = 2 * t / 2 by omega]
        refine ⟨?_, by have := h0.2; omega⟩
        have h2 := h0.2
        rw [e, ← Nat.add_mul, hxy, h0.1, show pb S b + 1 - (pb C b + 0) = (pb S b - pb C b) + 1 by omega, Nat.pow_succ]
        rw [Nat.mul_comm 10, Nat.mul_assoc]
      · rw [if_neg qC, if_neg qS, if_neg qC, if_neg qS]
        exact ⟨by rw [h0.1]; rfl, by have := h0.2; omega⟩
theorem gS_high {x y C : Nat} {F : Nat → Bool} {n : Nat} (hC : C < 2 ^ n) : ∀ d, gS x y C F (n + d) 0 = gS x y C F n 0
  | 0 => rfl
  | d + 1 => by
    rw [show n + (d + 1) = (n + d) + 1 by omega, gS, if_neg (by
      rw [Nat.testBit_lt_two_pow (Nat.lt_of_lt_of_le hC (Nat.pow_le_pow_right (by decide) (by omega)))]; decide), Nat.mul_zero, gS_high hC d]
theorem pb_high {C n : Nat} (hC : C < 2 ^ n) : ∀ d, pb C (n + d) = pb C n
  | 0 => rfl
  | d + 1 => by
    rw [show n + (d + 1) = (n + d) + 1 by omega, pb, Nat.testBit_lt_two_pow (Nat.lt_of_lt_of_le hC (Nat.pow_le_pow_right (by decide) (by omega))), pb_high hC d]; rfl
theorem pb_le (s : Nat) : ∀ b, pb s b ≤ b
  | 0 => Nat.le_refl 0
  | b + 1 => by
    have := pb_le s b
    rw [pb]; split <;> omega
/-- a weight by how many are on -/
theorem wP_pow {x y C T : Nat} (hT : ∀ i, T.testBit i = true → C.testBit i = true) : ∀ b, wP x y C T b = x ^ pb T b * y ^ (pb C b - pb T b) ∧ pb T b ≤ pb C b
  | 0 => ⟨by simp [wP, pb], Nat.le_refl _⟩
  | b + 1 => by
    have ih := wP_pow (x := x) (y := y) hT b
    rw [wP, pb, pb, ih.1]
    have h2 := ih.2
    by_cases qC : C.testBit b = true
    · by_cases qT : T.testBit b = true
      · rw [if_pos qC, if_pos qT, if_pos qT, if_pos qC, show pb C b + 1 - (pb T b + 1) = pb C b - pb T b by omega, Nat.pow_succ]
        refine ⟨?_, by omega⟩
        rw [Nat.mul_right_comm]
      · rw [if_pos qC, if_neg qT, if_neg qT, if_pos qC, show pb C b + 1 - (pb T b + 0) = pb C b - pb T b + 1 by omega, Nat.pow_succ, Nat.mul_assoc]
        exact ⟨rfl, by omega⟩
    · have qT : ¬ T.testBit b = true := fun h => qC (hT b h)
      rw [if_neg qC, if_neg qT, if_neg qC, Nat.mul_one]
      exact ⟨rfl, by omega⟩
theorem sb_sub (D : Nat) : ∀ b, ∀ T ∈ sb D b, ∀ i, T.testBit i = true → D.testBit i = true
  | 0, T, h, i, hi => by
    have : T = 0 := by simpa [sb] using h
    subst this; simp at hi
  | b + 1, T, h, i, hi => by
    rw [sb, List.mem_append] at h
    rcases h with h | h
    · exact sb_sub D b T h i hi
    · by_cases q : D.testBit b = true
      · rw [if_pos q] at h
        obtain ⟨S, hS, rfl⟩ := List.mem_map.mp h
        have hlt := sb_lt D b S hS
        by_cases h1 : i < b
        · rw [bit_addL h1] at hi; exact sb_sub D b S hS i hi
        · by_cases h2 : i = b
          · subst h2; exact q
          · have h3 : S + 2 ^ b < 2 ^ i := by
              have : 2 ^ (b + 1) ≤ 2 ^ i := Nat.pow_le_pow_right (by decide) (by omega)
              rw [Nat.pow_succ] at this
              omega
            rw [Nat.testBit_lt_two_pow h3] at hi; cases hi
      · rw [if_neg q] at h; simp at h
/-- the class's sum -/
theorem abF_set {T : List Nat} {c z p : Nat} (hp : p < T.length) : ∀ q, abF (T.set p (T.getD p 0 + 1)) c z q = abF T c z q + (if p < q then (10 - c) ^ p * c ^ (z - p) else 0)
  | 0 => by rw [abF, abF, if_neg (Nat.not_lt_zero p)]
  | q + 1 => by
    rw [abF, abF, abF_set hp q]
    by_cases e : q = p
    · subst e
      have : (T.set q (T.getD q 0 + 1)).getD q 0 = T.getD q 0 + 1 := by
        simp only [List.getD_eq_getElem?_getD]
        rw [List.getElem?_set_self hp]; rfl
      rw [this, if_neg (Nat.lt_irrefl q), if_pos (Nat.lt_succ_self q), Nat.add_mul, Nat.add_mul, Nat.one_mul]
      omega
    · have : (T.set p (T.getD p 0 + 1)).getD q 0 = T.getD q 0 := by
        simp only [List.getD_eq_getElem?_getD]
        rw [List.getElem?_set_ne (Ne.symm e)]
      rw [this]
      by_cases h : p < q
      · rw [if_pos h, if_pos (by omega)]; omega
      · rw [if_neg h, if_neg (by omega)]; omega
theorem tlN_sum {f : Nat → Bool} {c z : Nat} (hz : z ≤ 10) : ∀ (l : List Nat) (T : List Nat), T.length = 11 → (∀ s ∈ l, pop s ≤ z) → abF (tlN f l T) c z (z + 1) = abF T c z (z + 1) + sL (fun s => (10 - c) ^ pop s * c ^ (z - pop s) * (if f s then 1 else 0)) l
  | [], T, _, _ => rfl
  | s :: l, T, hT, hs => by
    have h1 := hs s List.mem_cons_self
    rw [tlN, sL]
    by_cases q : f s = true
    · rw [if_pos q, if_pos q, tlN_sum hz l _ (by rw [List.length_set]; exact hT) (fun x hx => hs x (List.mem_cons_of_mem _ hx)), abF_set (by omega), if_pos (by omega), Nat.mul_one]
      omega
    · rw [if_neg q, if_neg q, tlN_sum hz l T hT (fun x hx => hs x (List.mem_cons_of_mem _ hx)), Nat.mul_zero]
      omega
theorem abF_zero (c z : Nat) : ∀ q, abF (List.replicate 11 0) c z q = 0
  | 0 => rfl
  | q + 1 => by
    have : (List.replicate 11 0).getD q 0 = 0 := by
      rw [List.getD_eq_getElem?_getD, List.getElem?_replicate]; split <;> rfl
    rw [abF, abF_zero c z q, this, Nat.zero_mul, Nat.zero_mul]
theorem up_gS {C c : Nat} {f : Nat → Bool} (hC : C < 1024) : abF (tlN f (its C (2 ^ pop C) C) (List.replicate 11 0)) c (pop C) (pop C + 1) = gS (10 - c) c C f 10 0 := by
  rw [its_sb C hC, tlN_sum (pop_le C) _ _ rfl, abF_zero, Nat.zero_add, sL_rev, ← sb_gS]
  · refine sL_cong _ (fun T hT => ?_)
    have h := wP_pow (x := 10 - c) (y := c) (sb_sub C 10 T hT) 10
    rw [h.1, pb_pop, pb_pop, Nat.mul_zero, Nat.zero_add]
  · intro s hs
    rw [pb_pop, pb_pop]
    exact (wP_pow (x := 0) (y := 0) (sb_sub C 10 s (List.mem_reverse.mp hs)) 10).2
/-- rules that stand nowhere don't matter -/
theorem trc_free {rs : List aR} {kd : List Nat} {ls : List Int32} (hw : ∀ r ∈ rs, wfR r) (h10 : rs.length ≤ 10) : ∀ (f p s s' : Nat), (∀ r, r < rs.length → (∃ p, p < ls.length ∧ stB (kd.getD r 0) (pPh rs r) ls p = true) → s.testBit r = s'.testBit r) → trc rs kd ls f p s = trc rs kd ls f p s'
  | 0, p, s, s', _ => rfl
  | f + 1, p, s, s', h => by
    rw [trc, trc]
    by_cases q : p < ls.length
    · have e : usd rs kd ls s p = usd rs kd ls s' p := by
        unfold usd
        rw [← ord_bst hw, ← ord_bst hw]
        refine bst_cong (fun r hr => ?_)
        unfold okB
        cases hb : stB (kd.getD r 0) (pPh rs r) ls p with
        | false => rw [Bool.and_false, Bool.and_false]
        | true => rw [h r hr ⟨p, q, hb⟩]
      rw [if_pos q, if_pos q, e]
      congr 1
      refine trc_free hw h10 f _ _ _ (fun r hr hs => ?_)
      cases usd rs kd ls s' p with
      | none => exact h r hr hs
      | some u =>
        unfold lef
        simp only
        by_cases q4 : kd.getD u 0 = 4
        · rw [if_pos q4, if_pos q4, clr_bit, clr_bit, h r hr hs]
        · rw [if_neg q4, if_neg q4]; exact h r hr hs
    · rw [if_neg q, if_neg q]
theorem mL_free {a : aW} (ho : okW a) (s : Nat) : a.mL s = a.mL (s &&& stN a.rs (kds a.rs) a.ls a.ls.length) := by
  have e : a.tc s = a.tc (s &&& stN a.rs (kds a.rs) a.ls a.ls.length) := by
    refine trc_free ho.1.2.1.2 ho.1.2.1.1 _ _ _ _ (fun r hr hs => ?_)
    have hr : r < a.rs.length := hr
    rw [Nat.testBit_and]
    unfold stN
    rw [bs_bit, decide_eq_true hr, decide_eq_true hs]; simp
  show outL a.rs (kds a.rs) a.ls (a.tc s) = outL a.rs (kds a.rs) a.ls (a.tc (s &&& stN a.rs (kds a.rs) a.ls a.ls.length))
  rw [e]
/-- what the reference sums up -/
def oF (a : aW) (m T : Nat) : Bool := decide ((a.mL (T &&& a.on)).length ≤ m)
theorem odds_eq {a : aW} (hw : wfW a) (ho : okW a) {m c : Nat} (hc : c ≤ 10) : gS (10 - c) c a.on (oF a m) a.rs.length 0 = a.up m c * 10 ^ (pb a.on a.rs.length - pop a.ch) ∧ pop a.ch ≤ pb a.on a.rs.length := by
  have hon : a.on < 1024 := on_1024 hw ho
  have hon2 : a.on < 2 ^ a.rs.length := hw.2.2.1.1
  have h10 : a.rs.length ≤ 10 := ho.1.2.1.1
  have hch : a.ch < 1024 := Nat.lt_of_le_of_lt Nat.and_le_right hon
  have hch2 : a.ch < 2 ^ a.rs.length := Nat.lt_of_le_of_lt Nat.and_le_right hon2
  have hsub : ∀ i, a.ch.testBit i = true → a.on.testBit i = true := fun i hi => by
    rw [Nat.testBit_and, Bool.and_eq_true] at hi; exact hi.2
  have hF : ∀ T, oF a m T = oF a m (T &&& a.ch) := by
    intro T
    unfold oF
    have e : a.mL (T &&& a.on) = a.mL ((T &&& a.ch) &&& a.on) := by
      rw [mL_free ho (T &&& a.on)]
      congr 1
      apply Nat.eq_of_testBit_eq
      intro i
      simp only [Nat.testBit_and]
      cases T.testBit i <;> cases a.on.testBit i <;> cases (stN a.rs (kds a.rs) a.ls a.ls.length).testBit i <;> rfl
    rw [e]
  have h := gS_free (x := 10 - c) (y := c) (F := oF a m) (by omega) hsub hF a.rs.length 0
  have e1 : pop a.ch = pb a.ch a.rs.length := by
    rw [pb_pop]
    have := pb_high hch2 (10 - a.rs.length)
    rw [show a.rs.length + (10 - a.rs.length) = 10 by omega] at this
    exact this
  have e2 : a.up m c = gS (10 - c) c a.ch (oF a m) a.rs.length 0 := by
    have h1 := gS_high (x := 10 - c) (y := c) (F := oF a m) hch2 (10 - a.rs.length)
    rw [show a.rs.length + (10 - a.rs.length) = 10 by omega] at h1
    rw [← h1, ← up_gS hch]
    show abF (tlN (fun s => decide ((a.mL s).length ≤ m)) (its a.ch (2 ^ pop a.ch) a.ch) (List.replicate 11 0)) c (pop a.ch) (pop a.ch + 1) = _
    congr 1
    have : ∀ l T, (∀ s ∈ l, ∀ i, s.testBit i = true → a.ch.testBit i = true) → tlN (fun s => decide ((a.mL s).length ≤ m)) l T = tlN (oF a m) l T := by
      intro l
      induction l with
      | nil => intro T _; rfl
      | cons s l ih =>
        intro T hs
        rw [tlN, tlN, ih _ (fun x hx => hs x (List.mem_cons_of_mem _ hx))]
        have e : s &&& a.on = s := by
          apply Nat.eq_of_testBit_eq
          intro i
          rw [Nat.testBit_and]
          cases h1 : s.testBit i
          · rfl
          · rw [hsub i (hs s List.mem_cons_self i h1)]; rfl
        have : oF a m s = decide ((a.mL s).length ≤ m) := by unfold oF; rw [e]
        rw [this]
    refine this _ _ (fun s hs => ?_)
    rw [its_sb a.ch hch] at hs
    exact sb_sub a.ch 10 s (List.mem_reverse.mp hs)
  rw [h.1, ← e2, ← e1]
  exact ⟨rfl, by rw [e1]; exact h.2⟩
