/-! A PASS, as numbers and lists -/
abbrev gR (rs : List aR) (r : Nat) : aR := rs.getD r (0, [], [])
abbrev pPh (rs : List aR) (r : Nat) : List Int32 := (gR rs r).2.1
abbrev pGf (rs : List aR) (r : Nat) : List Int32 := (gR rs r).2.2
theorem gR_of {rs : List aR} {i : Nat} {r : aR} (h : rs[i]? = some r) : gR rs i = r := by
  unfold gR; rw [List.getD_eq_getElem?_getD, h]; rfl
/-- a set out of a question -/
def bs (f : Nat → Bool) : Nat → Nat
  | 0 => 0
  | n + 1 => bs f n + (if f n then 2 ^ n else 0)
theorem bs_lt (f : Nat → Bool) : ∀ n, bs f n < 2 ^ n
  | 0 => by simp [bs]
  | n + 1 => by
    have := bs_lt f n
    rw [bs, Nat.pow_succ]
    split <;> omega
theorem bs_bit (f : Nat → Bool) : ∀ n i, (bs f n).testBit i = (decide (i < n) && f i)
  | 0, i => by simp [bs]
  | n + 1, i => by
    have ih := bs_bit f n
    have hl := bs_lt f n
    rw [bs]
    by_cases hf : f n = true
    · rw [if_pos hf, Nat.add_comm]
      by_cases h1 : i = n
      · subst h1
        rw [Nat.testBit_two_pow_add_eq, Nat.testBit_lt_two_pow hl]
        simp [hf]
      · by_cases h2 : i < n
        · rw [Nat.testBit_two_pow_add_gt h2, ih]
          simp [h2, show i < n + 1 by omega]
        · have h3 : 2 ^ n + bs f n < 2 ^ i := by
            have : 2 ^ (n + 1) ≤ 2 ^ i := Nat.pow_le_pow_right (by decide) (by omega)
            rw [Nat.pow_succ] at this
            omega
          rw [Nat.testBit_lt_two_pow h3]
          simp [show ¬ i < n + 1 by omega]
    · have hf : f n = false := by simpa using hf
      rw [if_neg (by rw [hf]; decide), Nat.add_zero, ih]
      by_cases h1 : i = n
      · subst h1; simp [hf]
      · by_cases h2 : i < n
        · simp [h2, show i < n + 1 by omega]
        · simp [h2, show ¬ i < n + 1 by omega]
theorem bs_cong {f g : Nat → Bool} : ∀ {n : Nat}, (∀ i, i < n → f i = g i) → bs f n = bs g n
  | 0, _ => rfl
  | n + 1, h => by rw [bs, bs, bs_cong (fun i hi => h i (by omega)), h n (by omega)]
def clr (s r : Nat) : Nat := bs (fun i => s.testBit i && decide (i ≠ r)) 10
theorem clr_bit {s r i : Nat} : (clr s r).testBit i = (decide (i < 10) && (s.testBit i && decide (i ≠ r))) := bs_bit _ 10 i
theorem clr_lt (s r : Nat) : clr s r < 1024 := bs_lt _ 10
theorem clr_v : ∀ s, s < 1024 → ∀ r, r < 10 → nI s &&& ((nI 1 <<< (nI r &&& 31)) ^^^ (-1)) = nI (clr s r) := by decide +kernel
theorem bit_v : ∀ s, s < 1024 → ∀ r, r < 10 → (nI s >>> (nI r &&& 31)) &&& nI 1 = nI (if s.testBit r then 1 else 0) := by decide +kernel
theorem and_v (a b : Nat) : nI a &&& nI b = nI (a &&& b) := by
  apply Int32.toBitVec_inj.mp
  simp [nI]
theorem lt_1024 {s n : Nat} (h : s < 2 ^ n) (hn : n ≤ 10) : s < 1024 := Nat.lt_of_lt_of_le h (Nat.pow_le_pow_right (by decide) hn)
theorem bit_out {s i : Nat} (h : s < 1024) (hi : 10 ≤ i) : s.testBit i = false := by
  have h1 : 2 ^ 10 ≤ 2 ^ i := Nat.pow_le_pow_right (by decide) hi
  exact Nat.testBit_lt_two_pow (Nat.lt_of_lt_of_le h h1)
theorem set_ext {s t : Nat} (hs : s < 1024) (ht : t < 1024) (h : ∀ i, i < 10 → s.testBit i = t.testBit i) : s = t := by
  apply Nat.eq_of_testBit_eq
  intro i
  by_cases hi : i < 10
  · exact h i hi
  · rw [bit_out hs (by omega), bit_out ht (by omega)]
theorem getD_map (f : Nat → Int32) (l : List Nat) (i : Nat) : (l.map f).getD i 0 = if i < l.length then f (l.getD i 0) else 0 := by
  simp only [List.getD_eq_getElem?_getD, List.getElem?_map]
  by_cases h : i < l.length
  · rw [if_pos h, List.getElem?_eq_getElem h]; rfl
  · rw [if_neg h, List.getElem?_eq_none (by omega)]; rfl
theorem getD_mapN (l : List Nat) (i : Nat) : (l.map nI).getD i 0 = nI (l.getD i 0) := by
  rw [getD_map]
  by_cases h : i < l.length
  · rw [if_pos h]
  · rw [if_neg h, List.getD_eq_getElem?_getD, List.getElem?_eq_none (by omega)]; rfl
/-- it stands, in a line that is all there -/
def mtB (ph ls : List Int32) (p m : Nat) : Bool := decide (∀ j, j < m → ph.getD j 0 = ls.getD (p + j) 0)
theorem mtB_iff {ph ls : List Int32} {p m : Nat} : mtB ph ls p m = true ↔ mtc ph ls p m := by unfold mtB mtc; simp
def stB (kd : Nat) (ph ls : List Int32) (p : Nat) : Bool := !(decide (kd ≠ 0) && ahd ls p) && decide (p + ph.length ≤ ls.length) && mtB ph ls p ph.length && !((decide (kd = 1) || decide (kd = 3)) && decide (p + ph.length < ls.length) && wl (ls.getD (p + ph.length) 0))
theorem stA_B {kd p d : Nat} {ph ls : List Int32} (h : stA kd ph ls p ls.length false d) : d = if stB kd ph ls p then 1 else 0 := by
  unfold stB
  rcases h with ⟨rfl, h1, h2⟩ | ⟨h0, ⟨rfl, h1⟩ | ⟨h1, ⟨h2, h3⟩ | ⟨h2, ⟨h3, rfl⟩ | ⟨h3, ⟨h4, rfl⟩ | ⟨h4, rfl⟩⟩⟩⟩⟩
  · simp [h1, h2]
  · by_cases q : p + ph.length ≤ ls.length
    · rw [Nat.min_eq_left q, show p + ph.length - p = ph.length by omega] at h1
      have : mtB ph ls p ph.length = false := by
        cases hq : mtB ph ls p ph.length with
        | false => rfl
        | true => exact absurd (mtB_iff.mp hq) h1
      simp [this]
    · simp [q]
  · simp [show ¬ p + ph.length ≤ ls.length by omega, h3]
  · rw [Nat.min_eq_left h2, show p + ph.length - p = ph.length by omega] at h1
    have e1 : (decide (kd ≠ 0) && ahd ls p) = false := by
      cases hq : (decide (kd ≠ 0) && ahd ls p) with
      | false => rfl
      | true => rw [Bool.and_eq_true, decide_eq_true_eq] at hq; exact absurd hq h0
    have e2 : (decide (kd = 1) || decide (kd = 3)) = false := by
      cases hq : (decide (kd = 1) || decide (kd = 3)) with
      | false => rfl
      | true => rw [Bool.or_eq_true, decide_eq_true_eq, decide_eq_true_eq] at hq; exact absurd hq h3
    rw [e1, e2, decide_eq_true h2, mtB_iff.mpr h1]; rfl
  · rw [Nat.min_eq_left h2, show p + ph.length - p = ph.length by omega] at h1
    have e1 : (decide (kd ≠ 0) && ahd ls p) = false := by
      cases hq : (decide (kd ≠ 0) && ahd ls p) with
      | false => rfl
      | true => rw [Bool.and_eq_true, decide_eq_true_eq] at hq; exact absurd hq h0
    rw [e1, decide_eq_true h2, mtB_iff.mpr h1, decide_eq_false (show ¬ p + ph.length < ls.length by omega)]; simp
  · rw [Nat.min_eq_left h2, show p + ph.length - p = ph.length by omega] at h1
    have e1 : (decide (kd ≠ 0) && ahd ls p) = false := by
      cases hq : (decide (kd ≠ 0) && ahd ls p) with
      | false => rfl
      | true => rw [Bool.and_eq_true, decide_eq_true_eq] at hq; exact absurd hq h0
    have e2 : (decide (kd = 1) || decide (kd = 3)) = true := by rw [Bool.or_eq_true, decide_eq_true_eq, decide_eq_true_eq]; exact h3
    rw [e1, e2, decide_eq_true h2, mtB_iff.mpr h1, decide_eq_true h4]
    cases wl (ls.getD (p + ph.length) 0) <;> rfl
/-- the rules by their phrases' lengths: the longest first -/
def sel (rs : List aR) (L : Nat) : List Nat := (List.range rs.length).filter fun k => decide ((pPh rs k).length = L)
def ordF (rs : List aR) : Nat → List Nat
  | 0 => []
  | c + 1 => ordF rs c ++ sel rs (6 - c)
def ord (rs : List aR) : List Nat := ordF rs 6
theorem mem_sel {rs : List aR} {L k : Nat} : k ∈ sel rs L ↔ k < rs.length ∧ (pPh rs k).length = L := by
  unfold sel; rw [List.mem_filter, List.mem_range, decide_eq_true_eq]
theorem mem_ordF {rs : List aR} : ∀ {c k : Nat}, c ≤ 6 → (k ∈ ordF rs c ↔ k < rs.length ∧ 6 - c < (pPh rs k).length ∧ (pPh rs k).length ≤ 6)
  | 0, k, _ => by simp only [ordF, List.not_mem_nil, false_iff]; omega
  | c + 1, k, hc => by
    rw [ordF, List.mem_append, mem_ordF (by omega), mem_sel]
    omega
theorem mem_ord {rs : List aR} {k : Nat} : k ∈ ord rs ↔ k < rs.length ∧ 1 ≤ (pPh rs k).length ∧ (pPh rs k).length ≤ 6 := by
  unfold ord; rw [mem_ordF (Nat.le_refl 6)]; omega
theorem sel_len (rs : List aR) (L : Nat) : (sel rs L).length ≤ rs.length := by
  have := List.length_filter_le (fun k => decide ((pPh rs k).length = L)) (List.range rs.length)
  rwa [List.length_range] at this
theorem cnt_nil (f : Nat → Nat) : ∀ c, (((List.range c).map fun i => (([] : List Nat).filter fun k => decide (f k = 6 - i)).length).sum) = 0
  | 0 => rfl
  | c + 1 => by rw [List.range_succ, List.map_append, List.sum_append, cnt_nil f c]; rfl
theorem cnt_cons (a : Nat) (t : List Nat) (f : Nat → Nat) : ∀ c, c ≤ 6 → (((List.range c).map fun i => ((a :: t).filter fun k => decide (f k = 6 - i)).length).sum) = (((List.range c).map fun i => (t.filter fun k => decide (f k = 6 - i)).length).sum) + (if 6 - c < f a ∧ f a ≤ 6 then 1 else 0)
  | 0, _ => by rw [if_neg (by omega)]; rfl
  | c + 1, hc => by
    rw [List.range_succ, List.map_append, List.map_append, List.sum_append, List.sum_append, cnt_cons a t f c (by omega)]
    simp only [List.map_cons, List.map_nil, List.sum_cons, List.sum_nil]
    by_cases q : f a = 6 - c
    · rw [List.filter_cons_of_pos (by simpa using q), List.length_cons]
      rw [if_neg (by omega), if_pos (by omega)]
      omega
    · rw [List.filter_cons_of_neg (by simpa using q)]
      by_cases q2 : 6 - c < f a ∧ f a ≤ 6
      · rw [if_pos q2, if_pos (by omega)]; omega
      · rw [if_neg q2, if_neg (by omega)]; omega
theorem cnt_le (l : List Nat) (f : Nat → Nat) (c : Nat) (hc : c ≤ 6) : (((List.range c).map fun i => (l.filter fun k => decide (f k = 6 - i)).length).sum) ≤ l.length := by
  induction l with
  | nil => rw [cnt_nil]; exact Nat.zero_le _
  | cons a t ih =>
    rw [cnt_cons a t f c hc, List.length_cons]
    split <;> omega
theorem ordF_len (rs : List aR) {c : Nat} (hc : c ≤ 6) : (ordF rs c).length ≤ rs.length := by
  have e : ∀ c, (ordF rs c).length = (((List.range c).map fun i => (sel rs (6 - i)).length).sum) := by
    intro c
    induction c with
    | zero => rfl
    | succ c ih => rw [ordF, List.length_append, ih, List.range_succ, List.map_append, List.sum_append]; simp
  rw [e]
  have := cnt_le (List.range rs.length) (fun k => (pPh rs k).length) c hc
  rwa [List.length_range] at this
/-- which rule is used at a place -/
def okB (rs : List aR) (kd : List Nat) (ls : List Int32) (s p r : Nat) : Bool := s.testBit r && stB (kd.getD r 0) (pPh rs r) ls p
def usd (rs : List aR) (kd : List Nat) (ls : List Int32) (s p : Nat) : Option Nat := (ord rs).find? (okB rs kd ls s p)
def adv (rs : List aR) : Option Nat → Nat
  | none => 1
  | some r => (pPh rs r).length
def lef (kd : List Nat) (s : Nat) : Option Nat → Nat
  | none => s
  | some r => if kd.getD r 0 = 4 then clr s r else s
theorem usd_some {rs : List aR} {kd : List Nat} {ls : List Int32} {s p r : Nat} (h : usd rs kd ls s p = some r) : r < rs.length ∧ 1 ≤ (pPh rs r).length ∧ (pPh rs r).length ≤ 6 ∧ okB rs kd ls s p r = true := by
  have h1 := List.mem_of_find?_eq_some h
  have h2 := List.find?_some h
  have h3 := mem_ord.mp h1
  exact ⟨h3.1, h3.2.1, h3.2.2, h2⟩
theorem adv_pos {rs : List aR} {kd : List Nat} {ls : List Int32} {s p : Nat} : 1 ≤ adv rs (usd rs kd ls s p) := by
  cases h : usd rs kd ls s p with
  | none => exact Nat.le_refl 1
  | some r => exact (usd_some h).2.1
theorem lef_lt {kd : List Nat} {s : Nat} (hs : s < 1024) (o : Option Nat) : lef kd s o < 1024 := by
  cases o with
  | none => exact hs
  | some r => unfold lef; simp only; split; exact clr_lt s r; exact hs
def trc (rs : List aR) (kd : List Nat) (ls : List Int32) : Nat → Nat → Nat → List (Nat × Option Nat)
  | 0, _, _ => []
  | f + 1, p, s => if p < ls.length then (p, usd rs kd ls s p) :: trc rs kd ls f (p + adv rs (usd rs kd ls s p)) (lef kd s (usd rs kd ls s p)) else []
theorem trc_same (rs : List aR) (kd : List Nat) (ls : List Int32) : ∀ (f g p s : Nat), ls.length - p ≤ f → ls.length - p ≤ g → trc rs kd ls f p s = trc rs kd ls g p s
  | 0, 0, p, s, _, _ => rfl
  | 0, g + 1, p, s, h, _ => by rw [trc, trc, if_neg (by omega)]
  | f + 1, 0, p, s, _, h => by rw [trc, trc, if_neg (by omega)]
  | f + 1, g + 1, p, s, h1, h2 => by
    rw [trc, trc]
    by_cases q : p < ls.length
    · have := adv_pos (rs := rs) (kd := kd) (ls := ls) (s := s) (p := p)
      rw [if_pos q, if_pos q, trc_same rs kd ls f g _ _ (by omega) (by omega)]
    · rw [if_neg q, if_neg q]
/-- what is done, place by place -/
def tr (rs : List aR) (kd : List Nat) (ls : List Int32) (p s : Nat) : List (Nat × Option Nat) := trc rs kd ls (ls.length - p) p s
theorem tr_go {rs : List aR} {kd : List Nat} {ls : List Int32} {p s : Nat} (h : p < ls.length) : tr rs kd ls p s = (p, usd rs kd ls s p) :: tr rs kd ls (p + adv rs (usd rs kd ls s p)) (lef kd s (usd rs kd ls s p)) := by
  have := adv_pos (rs := rs) (kd := kd) (ls := ls) (s := s) (p := p)
  unfold tr
  rw [trc_same rs kd ls (ls.length - p) (ls.length - p - 1 + 1) p s (Nat.le_refl _) (by omega), trc, if_pos h]
  rw [trc_same rs kd ls (ls.length - p - 1) _ _ _ (by omega) (Nat.le_refl _)]
theorem tr_end {rs : List aR} {kd : List Nat} {ls : List Int32} {p s : Nat} (h : ls.length ≤ p) : tr rs kd ls p s = [] := by
  unfold tr
  rw [show ls.length - p = 0 by omega, trc]
def oL (rs : List aR) (kd : List Nat) (ls : List Int32) : Nat × Option Nat → List Int32
  | (p, none) => [ls.getD p 0]
  | (_, some r) => giv (kd.getD r 0) (pGf rs r)
def oS (rs : List aR) (ss : List Int32) : Nat × Option Nat → List Int32
  | (p, none) => [ss.getD p 0]
  | (p, some r) => List.replicate (pGf rs r).length (ss.getD p 0)
def outL (rs : List aR) (kd : List Nat) (ls : List Int32) (t : List (Nat × Option Nat)) : List Int32 := t.flatMap (oL rs kd ls)
def outS (rs : List aR) (ss : List Int32) (t : List (Nat × Option Nat)) : List Int32 := t.flatMap (oS rs ss)
def uAt : List (Nat × Option Nat) → List Int32 → List Int32
  | [], U => U
  | (_, none) :: t, U => uAt t U
  | (p, some r) :: t, U => uAt t (U.set p (nI r))
def uCt : List (Nat × Option Nat) → List Int32 → List Int32
  | [], V => V
  | (_, none) :: t, V => uCt t V
  | (_, some r) :: t, V => uCt t (V.set r (V.getD r 0 + nI 1))
def cnt : List (Nat × Option Nat) → Nat
  | [] => 0
  | (_, none) :: t => cnt t
  | (_, some _) :: t => cnt t + 1
theorem out_len (rs : List aR) (kd : List Nat) (ls ss : List Int32) : ∀ t, (outL rs kd ls t).length = (outS rs ss t).length
  | [] => rfl
  | (p, none) :: t => by
    have := out_len rs kd ls ss t
    simp only [outL, outS, List.flatMap_cons, List.length_append] at this ⊢
    rw [this]; rfl
  | (p, some r) :: t => by
    have := out_len rs kd ls ss t
    simp only [outL, outS, List.flatMap_cons, List.length_append] at this ⊢
    rw [this]
    simp [oL, oS, giv_len]
theorem outL_le {rs : List aR} (kd : List Nat) (ls : List Int32) (hw : ∀ r, (pGf rs r).length ≤ 6) : ∀ (f p s : Nat), (outL rs kd ls (trc rs kd ls f p s)).length ≤ 6 * f
  | 0, p, s => by simp [trc, outL]
  | f + 1, p, s => by
    rw [trc]
    by_cases h : p < ls.length
    · rw [if_pos h]
      have ih := outL_le kd ls hw f (p + adv rs (usd rs kd ls s p)) (lef kd s (usd rs kd ls s p))
      simp only [outL, List.flatMap_cons, List.length_append] at ih ⊢
      have : (oL rs kd ls (p, usd rs kd ls s p)).length ≤ 6 := by
        cases hq : usd rs kd ls s p with
        | none => simp [oL]
        | some r => simp only [oL, giv_len]; exact hw r
      omega
    · rw [if_neg h]; simp [outL]
theorem uAt_len : ∀ t U, (uAt t U).length = U.length
  | [], U => rfl
  | (_, none) :: t, U => uAt_len t U
  | (p, some r) :: t, U => by rw [uAt, uAt_len, List.length_set]
theorem uCt_len : ∀ t V, (uCt t V).length = V.length
  | [], V => rfl
  | (_, none) :: t, V => uCt_len t V
  | (p, some r) :: t, V => by rw [uCt, uCt_len, List.length_set]
