/-! WHAT IS KEPT -/
theorem nomem {α : Type} {x : α} {p : Prop} (h : x ∈ ([] : List α)) : p := absurd h List.not_mem_nil
def wfX (a : aW) : Prop := wfW a ∧ pop a.pset ≤ 4
theorem ix_lt {x : Int32} {b j : Nat} (h : ix x b = some j) : j < b := by
  unfold ix at h
  by_cases q : x < 0
  · rw [if_pos q] at h; cases h
  · rw [if_neg q] at h
    by_cases q2 : x.toNatClampNeg < b
    · rw [if_pos q2] at h; cases h; exact q2
    · rw [if_neg q2] at h; cases h
theorem ltr_sm {x : Int32} (h : ltr x = true) : sm x := by
  unfold ltr at h
  rw [Bool.or_eq_true, decide_eq_true_eq] at h
  rcases h with h | h
  · unfold wl at h
    rw [Bool.and_eq_true, decide_eq_true_eq, decide_eq_true_eq] at h
    rcases i_cases x with hx | ⟨j, hj, rfl⟩
    · exact absurd (Int32.lt_of_le_of_lt h.1 hx) (by decide)
    · have := (nI_leI hj (by decide)).mp h.2
      exact ⟨j, by omega, rfl⟩
  · exact ⟨95, by decide, h⟩
theorem rdL_sm (tp : List Int32) : ∀ (m p : Nat), ∀ x ∈ (rdL tp m p).1, sm x
  | 0, p, x, h => by simp [rdL] at h
  | m + 1, p, x, h => by
    rw [rdL] at h
    by_cases q : ltO (cur tp p) = true
    · rw [if_pos q] at h
      rcases List.mem_cons.mp h with h | h
      · cases hc : cur tp p with
        | none => rw [hc] at q; cases q
        | some c =>
          rw [hc] at q h
          have h : x = c := h
          rw [h]; exact ltr_sm q
      · exact rdL_sm tp m _ x h
    · rw [if_neg q] at h; simp at h
theorem rdR_sm {tp : List Int32} {p : Nat} {r : aR} (h : (rdR tp p).1 = some r) : ∀ x ∈ r.2.2, sm x := by
  unfold rdR at h
  cases hk : kindO (cur tp p) with
  | none => rw [hk] at h; cases h
  | some kd =>
    rw [hk] at h
    simp only at h
    by_cases q1 : cur tp (sk tp p + 1) = some (nI 58)
    · rw [if_pos q1] at h
      by_cases q2 : (rdL tp 6 (sk tp (sk tp p + 1) + 1)).1 = []
      · rw [if_pos q2] at h; cases h
      · rw [if_neg q2] at h
        by_cases q3 : cur tp (rdL tp 6 (sk tp (sk tp p + 1) + 1)).2 = some (nI 61)
        · rw [if_pos q3] at h
          cases h
          exact rdL_sm tp 6 _
        · rw [if_neg q3] at h; cases h
    · rw [if_neg q1] at h; cases h
theorem rdRs_sm (tp : List Int32) : ∀ (n p : Nat) (acc : List aR), (∀ r ∈ acc, ∀ x ∈ r.2.2, sm x) → ∀ rs, (rdRs tp n p acc).1 = some rs → ∀ r ∈ rs, ∀ x ∈ r.2.2, sm x
  | 0, p, acc, ha, rs, h => by
    rw [rdRs] at h
    by_cases q : cur tp p = none
    · simp only [if_pos q] at h; cases h; exact ha
    · simp only [if_neg q] at h; cases h
  | n + 1, p, acc, ha, rs, h => by
    rw [rdRs] at h
    by_cases q0 : cur tp p = some (nI 59)
    · rw [if_pos q0] at h
      cases hr : rdR tp (sk tp p + 1) with
      | mk o q =>
        rw [hr] at h
        cases o with
        | none => simp only at h; cases h
        | some r =>
          simp only at h
          have hr1 : (rdR tp (sk tp p + 1)).1 = some r := by rw [hr]
          refine rdRs_sm tp n q (acc ++ [r]) (fun y hy => ?_) rs h
          rcases List.mem_append.mp hy with hy | hy
          · exact ha y hy
          · rw [List.mem_singleton.mp hy]; exact rdR_sm hr1
    · rw [if_neg q0] at h
      by_cases q : cur tp p = none
      · simp only [if_pos q] at h; cases h; exact ha
      · simp only [if_neg q] at h; cases h
theorem plc_sm {n : Nat} (hn : n ≤ 60) : ∀ x ∈ plc n, sm x := by
  intro x hx
  unfold plc at hx
  obtain ⟨i, hi, rfl⟩ := List.mem_map.mp hx
  exact ⟨i, by have := List.mem_range.mp hi; omega, rfl⟩
theorem pop_or : ∀ s, s < 1024 → ∀ j, j < 10 → pop (s ||| 2 ^ j) ≤ pop s + 1 := by decide +kernel
section KPT
variable {a : aW}
theorem k_type {x : Int32} (h : wfX a) : wfX (vType a x).2 := by
  unfold vType
  by_cases q : x < nI 32 ∨ nI 126 < x
  · rw [if_pos q]; exact h
  · rw [if_neg q]
    by_cases q2 : a.tp.length = 150
    · rw [if_pos q2]; exact h
    · rw [if_neg q2]
      obtain ⟨⟨h1, h2, h3⟩, h4⟩ := h
      refine ⟨⟨?_, fun y hy => ?_, h3⟩, h4⟩
      · show (a.tp ++ [x]).length ≤ 150
        rw [List.length_append, List.length_singleton]; omega
      · rcases List.mem_append.mp hy with hy | hy
        · exact h2 y hy
        · rw [List.mem_singleton.mp hy]
          intro hn
          exact q (Or.inl (Int32.lt_trans hn (by decide)))
theorem k_tp (h : wfX a) : wfX (wTp a []) := ⟨⟨Nat.zero_le _, fun y hy => nomem hy, h.1.2.2⟩, h.2⟩
theorem k_job (h : wfX a) : wfX (vJob a).2 := by
  unfold vJob
  have hrl := rdL_len a.tp 60 0
  cases hr : rdRs a.tp 10 (rdL a.tp 60 0).2 [] with
  | mk o q =>
    cases o with
    | none => exact k_tp h
    | some rs =>
      have hr1 : (rdRs a.tp 10 (rdL a.tp 60 0).2 []).1 = some rs := by rw [hr]
      obtain ⟨⟨h1, h2, h3, h4, h5, h6, h7⟩, h8⟩ := h
      have hp : 0 < 2 ^ rs.length := Nat.two_pow_pos _
      show wfX (wPs (wNow (wTp a []) (((rdL a.tp 60 0).1, plc (rdL a.tp 60 0).1.length, 2 ^ rs.length - 1), rs, [])) none)
      refine ⟨⟨Nat.zero_le _, fun y hy => nomem hy, ⟨?_, fun m hm => nomem hm⟩, ⟨⟨rdL_sm _ _ _, plc_sm hrl.1⟩, fun m hm => nomem hm, rdRs_sm _ _ _ _ (fun r hr => nomem hr) rs hr1⟩, h5, fun s hs => ?_, h7⟩, h8⟩
      · show 2 ^ rs.length - 1 < 2 ^ rs.length
        omega
      · have hs : (none : Option Nat) = some s := hs
        cases hs
theorem k_rule (h : wfX a) : wfX (vRule a).2 := by
  unfold vRule
  cases hr : rdR a.tp 0 with
  | mk o q =>
    cases o with
    | none => exact k_tp h
    | some r =>
      have hr1 : (rdR a.tp 0).1 = some r := by rw [hr]
      simp only
      by_cases q1 : cur a.tp q = none
      · rw [if_pos q1]
        by_cases q2 : a.rs.length = 10
        · rw [if_pos q2]; exact k_tp h
        · rw [if_neg q2]
          obtain ⟨⟨h1, h2, h3, h4, h5, h6, h7⟩, h8⟩ := h
          refine ⟨⟨Nat.zero_le _, fun y hy => nomem hy, ⟨?_, fun m hm => nomem hm⟩, ⟨h4.1, fun m hm => nomem hm, fun y hy => ?_⟩, h5, h6, h7⟩, h8⟩
          · show a.on + 2 ^ a.rs.length < 2 ^ (a.rs ++ [r]).length
            have h9 : a.on < 2 ^ a.rs.length := h3.1
            rw [List.length_append, List.length_singleton, Nat.pow_succ]; omega
          · rcases List.mem_append.mp hy with hy | hy
            · exact h4.2.2 y hy
            · rw [List.mem_singleton.mp hy]; exact rdR_sm hr1
      · rw [if_neg q1]; exact k_tp h
theorem k_note {m : aM} (h : wfX a) (h1 : smM m) (h2 : m.2.2 < 2 ^ a.rs.length) : wfX (wNow a (m, a.rs, noted a)) := by
  obtain ⟨⟨g1, g2, g3, g4, g5, g6, g7⟩, g8⟩ := h
  refine ⟨⟨g1, g2, ⟨h2, fun y hy => ?_⟩, ⟨h1, fun y hy => ?_, g4.2.2⟩, g5, g6, g7⟩, g8⟩
  · have hy := List.mem_of_mem_take hy
    rcases List.mem_cons.mp hy with hy | hy
    · rw [hy]; exact g3.1
    · exact g3.2 y hy
  · have hy := List.mem_of_mem_take hy
    rcases List.mem_cons.mp hy with hy | hy
    · rw [hy]; exact g4.1
    · exact g4.2.1 y hy
theorem k_change {p x : Int32} (h : wfX a) : wfX (vChange a p x).2 := by
  unfold vChange
  cases ix p a.ls.length with
  | none => exact h
  | some i =>
    simp only
    by_cases q : ltr x = false
    · rw [if_pos q]; exact h
    · rw [if_neg q]
      by_cases q2 : a.ls.getD i 0 = x
      · rw [if_pos q2]; exact h
      · rw [if_neg q2]
        have hl : ltr x = true := by simpa using q
        refine k_note h ⟨fun y hy => ?_, h.1.2.2.2.1.1.2⟩ h.1.2.2.1.1
        rcases List.mem_or_eq_of_mem_set hy with hy | hy
        · exact h.1.2.2.2.1.1.1 y hy
        · rw [hy]; exact ltr_sm hl
theorem k_turn {r : Int32} (h : wfX a) : wfX (vTurn a r).2 := by
  unfold vTurn
  cases hi : ix r a.rs.length with
  | none => exact h
  | some j =>
    have hj := ix_lt hi
    refine k_note h h.1.2.2.2.1.1 ?_
    exact Nat.xor_lt_two_pow h.1.2.2.1.1 (Nat.pow_lt_pow_right (by decide) hj)
theorem k_go {s : Nat} (h : wfX a) : wfX (vGo a s).2 := by
  unfold vGo
  by_cases q : 60 < (a.mL (s &&& a.on)).length
  · rw [if_pos q]; exact h
  · rw [if_neg q]
    exact k_note h ⟨sm_outL h.1.2.2.2.1.1.1 h.1.2.2.2.1.2.2 _, sm_outS h.1.2.2.2.1.1.2 _⟩ h.1.2.2.1.1
theorem k_pass {s : Int32} (h : wfX a) : wfX (vPass a s).2 := by
  unfold vPass
  cases ix s (2 ^ a.rs.length) with
  | none => exact h
  | some j => exact k_go h
theorem k_passPile (h : wfX a) : wfX (vPassPile a).2 := by
  unfold vPassPile
  cases a.ps with
  | none => exact h
  | some s => exact k_go h
theorem k_pile {s : Int32} (h : wfX a) : wfX (vPile a s).2 := by
  unfold vPile
  cases hi : ix s 3 with
  | none => exact h
  | some j =>
    have hj := ix_lt hi
    obtain ⟨⟨g1, g2, g3, g4, g5, g6, g7⟩, g8⟩ := h
    exact ⟨⟨g1, g2, g3, g4, g5, fun s hs => by cases hs; exact hj, by show 0 < 1024; decide⟩, by show pop 0 ≤ 4; decide⟩
theorem k_put {r : Int32} (ho : okW a) (h : wfX a) : wfX (vPut a r).2 := by
  unfold vPut
  cases hi : ix r a.rs.length with
  | none => exact h
  | some j =>
    have hj := ix_lt hi
    have h10 : a.rs.length ≤ 10 := ho.1.2.1.1
    simp only
    cases a.ps with
    | none => exact h
    | some so =>
      simp only
      by_cases q1 : a.pset.testBit j = true
      · rw [if_pos q1]; exact h
      · rw [if_neg q1]
        by_cases q2 : 4 ≤ pop a.pset
        · rw [if_pos q2]; exact h
        · rw [if_neg q2]
          by_cases q3 : osrt (gR a.rs j).1 so = false
          · rw [if_pos q3]; exact h
          · rw [if_neg q3]
            obtain ⟨⟨g1, g2, g3, g4, g5, g6, g7⟩, g8⟩ := h
            refine ⟨⟨g1, g2, g3, g4, g5, g6, Nat.or_lt_two_pow (n := 10) g7 (Nat.pow_lt_pow_right (by decide) (by omega))⟩, ?_⟩
            have := pop_or a.pset g7 j (by omega)
            show pop (a.pset ||| 2 ^ j) ≤ 4
            omega
theorem k_undo (h : wfX a) : wfX (vUndo a).2 := by
  unfold vUndo
  cases hh : a.now.2.2 with
  | nil => exact h
  | cons m t =>
    obtain ⟨⟨g1, g2, g3, g4, g5, g6, g7⟩, g8⟩ := h
    refine ⟨⟨g1, g2, ⟨g3.2 m (by rw [hh]; exact List.mem_cons_self), fun y hy => g3.2 y (by rw [hh]; exact List.mem_cons_of_mem _ hy)⟩, ⟨g4.2.1 m (by rw [hh]; exact List.mem_cons_self), fun y hy => g4.2.1 y (by rw [hh]; exact List.mem_cons_of_mem _ hy), g4.2.2⟩, g5, g6, g7⟩, g8⟩
theorem k_image (h : wfX a) : wfX (vImage a).2 := by
  unfold vImage
  obtain ⟨⟨g1, g2, g3, g4, g5, g6, g7⟩, g8⟩ := h
  exact ⟨⟨g1, g2, g3, g4, fun s hs => by cases hs; exact ⟨g3, g4⟩, g6, g7⟩, g8⟩
theorem k_restore (h : wfX a) : wfX (vRestore a).2 := by
  unfold vRestore
  cases hi : a.img with
  | none => exact h
  | some s =>
    obtain ⟨⟨g1, g2, g3, g4, g5, g6, g7⟩, g8⟩ := h
    obtain ⟨i1, i2⟩ := g5 s hi
    show wfX (wPs (wNow a s) none)
    refine ⟨⟨g1, g2, i1, i2, g5, fun z hs => ?_, g7⟩, g8⟩
    have hs : (none : Option Nat) = some z := hs
    cases hs
theorem k_sh {i : Nat} {x : aH} (h : wfX a) : wfX (wSh a i x) := h
theorem k_sheet {s la n : Int32} (h : wfX a) : wfX (vSheet a s la n).2 := by
  unfold vSheet
  cases ix s 4 with
  | none => exact h
  | some i =>
    cases ix la 4 with
    | none => exact h
    | some l =>
      simp only
      by_cases q1 : nI 60 < n
      · rw [if_pos q1]; exact h
      · rw [if_neg q1]
        by_cases q2 : n < 0
        · rw [if_pos q2]; exact h
        · rw [if_neg q2]; exact k_sh h
theorem k_drop {s : Int32} (h : wfX a) : wfX (vDrop a s).2 := by
  unfold vDrop
  cases ix s 4 with
  | none => exact h
  | some i =>
    simp only
    by_cases q : (a.shs i).1 = false
    · rw [if_pos q]; exact h
    · rw [if_neg q]; exact k_sh h
theorem k_item {s la i : Int32} {v : Int64} (h : wfX a) : wfX (vItem a s la i v).2 := by
  unfold vItem
  cases ix s 4 with
  | none => exact h
  | some t =>
    cases ix la 4 with
    | none => exact h
    | some l =>
      simp only
      by_cases q : rfs (a.shs t) la i (nI 1) ≠ 0
      · rw [if_pos q]; exact h
      · rw [if_neg q]; exact k_sh h
theorem k_copy {s i t j n : Int32} (h : wfX a) : wfX (vCopy a s i t j n).2 := by
  unfold vCopy
  cases ix s 4 with
  | none => exact h
  | some u =>
    cases ix t 4 with
    | none => exact h
    | some w =>
      simp only
      by_cases q1 : ¬ ((a.shs u).1 = true ∧ (a.shs w).1 = true)
      · rw [if_pos q1]; exact h
      · rw [if_neg q1]
        by_cases q2 : (a.shs u).2.1 ≠ (a.shs w).2.1
        · rw [if_pos q2]; exact h
        · rw [if_neg q2]
          by_cases q3 : ¬ (hol (a.shs u).2.2.1 i n = true ∧ hol (a.shs w).2.2.1 j n = true)
          · rw [if_pos q3]; exact h
          · rw [if_neg q3]; exact k_sh h
theorem k_film {w s la i : Int32} (h : wfX a) : wfX (vFilm a w s la i).2 := by
  unfold vFilm
  cases ix w 2 with
  | none => exact h
  | some j =>
    cases ix s 4 with
    | none => exact h
    | some t =>
      cases ix la 4 with
      | none => exact h
      | some l =>
        simp only
        by_cases q : rfs (a.shs t) la i (nI (if j = 0 then a.mL a.on else a.mS a.on).length) ≠ 0
        · rw [if_pos q]; exact h
        · rw [if_neg q]; exact k_sh h
end KPT
theorem modIs.same {M M' : pmM} {N N' : pmN} {k : Nat} {a : aW} (h : modIs M N k a) (e : ∀ x, k ≤ x → M' x = M x) (eN : ∀ x, k ≤ x → N' x = N x) : modIs M' N' k a := by
  unfold modIs at *
  rw [e k (by omega), e (k + 1) (by omega), e (k + 2) (by omega), e (k + 3) (by omega), e (k + 4) (by omega), e (k + 5) (by omega), e (k + 6) (by omega), e (k + 7) (by omega), e (k + 8) (by omega), e (k + 9) (by omega), e (k + 10) (by omega), eN (k + 11) (by omega)]
  exact h
theorem appIs.frr {M M' : pmM} {N N' : pmN} {k u v : Nat} {a : aW} (h : appIs M N k a) (hf : fr u v M M') (hu : k + 323 ≤ u) (hN : ∀ x, x < u → N' x = N x) : appIs M' N' k a := by
  obtain ⟨h1, h2, h3, h4, h5, h6, h7⟩ := h
  refine ⟨h1.mv hf (by omega), h2.mv hf (by omega), fun s hs => (h3 s hs).mv hf (by omega), ?_, ?_, ?_, fun i hi => (h7 i hi).mv hf (by omega) (hN _ (by omega))⟩
  · rw [hf k (by omega)]; exact h4
  · rw [hf k (by omega)]; exact h5
  · rw [hf k (by omega)]; exact h6
theorem isApp.mvS {sh sh' : pmS} {k : Nat} (h : isApp sh k) (e : ∀ x, k ≤ x → x < k + 323 → sh'[x]? = sh[x]?) : isApp sh' k := by
  obtain ⟨b0, b1, b2, b3, b4, b5, b6, b7, b8, b9, b10⟩ := h
  refine ⟨⟨b0.1, by rw [e k (by omega) (by omega)]; exact b0.2⟩, b1.mvS (fun x h1 h2 => e x (by omega) (by omega)), b2.mvS (fun x h1 h2 => e x (by omega) (by omega)), b3.mvS (fun x h1 h2 => e x (by omega) (by omega)), b4.mvS (fun x h1 h2 => e x (by omega) (by omega)), b5.mvS (fun x h1 h2 => e x (by omega) (by omega)), b6.mvS (fun x h1 h2 => e x (by omega) (by omega)), b7.mvS (fun x h1 h2 => e x (by omega) (by omega)), b8.mvS (fun x h1 h2 => e x (by omega) (by omega)), ⟨b9.1, by rw [e (k + 314) (by omega) (by omega)]; exact b9.2.1, b9.2.2⟩, fun i hi => (b10 i hi).mvS (fun x h1 h2 => e x (by omega) (by omega))⟩
/-- at first -/
def a00 : aW := ([], (([], [], 0), [], []), none, none, 0, fun _ => (false, 0, 0, fun _ => 0))
theorem a00_wf : wfX a00 := by
  refine ⟨⟨Nat.zero_le _, fun y hy => nomem (α := Int32) hy, ⟨by decide, fun m hm => nomem (α := aM) hm⟩, ⟨⟨fun y hy => nomem (α := Int32) hy, fun y hy => nomem (α := Int32) hy⟩, fun m hm => nomem (α := aM) hm, fun r hr => nomem (α := aR) hr⟩, fun s hs => ?_, fun s hs => ?_, by decide⟩, by decide⟩
  · have hs : (none : Option aS) = some s := hs
    cases hs
  · have hs : (none : Option Nat) = some s := hs
    cases hs
theorem zrow {M : pmM} {k : Nat} (h : M k = fun _ => 0) : rowIs M k [] := ⟨by rw [h]; rfl, fun i hi => absurd hi (Nat.not_lt_zero i)⟩
theorem zmom {M : pmM} {k : Nat} (h : ∀ x, k ≤ x → x < k + 6 → M x = fun _ => 0) : momIs M k [] [] 0 := ⟨⟨zrow (h _ (by omega) (by omega)), zrow (h _ (by omega) (by omega))⟩, by rw [h k (by omega) (by omega)]; rfl, Nat.zero_le _, rfl⟩
theorem a00_app {M : pmM} {N : pmN} {k : Nat} (h : fz M N k) : appIs (pmSt M k 10 (-4)) N k a00 := by
  have e : ∀ x, k < x → pmSt M k 10 (-4) x = fun _ => 0 := fun x hx => by rw [st_ne _ _ _ _ (by omega)]; exact (h x (by omega)).1
  have z : ∀ j, j ≠ 10 → pmSt M k 10 (-4) k j = 0 := fun j hj => by rw [st_row _ _ _ _ hj, (h k (by omega)).1]
  refine ⟨zrow (e _ (by omega)), ⟨zmom (fun x h1 h2 => e x (by omega)), ⟨by rw [e _ (by omega)]; rfl, Nat.zero_le _, fun i r hi => by have hi : ([] : List aR)[i]? = some r := hi; simp at hi⟩, ⟨0, by decide, by rw [e _ (by omega)]; rfl, by rw [e _ (by omega)]; rfl, Nat.zero_le _, fun i m hi => by have hi : ([] : List aM)[i]? = some m := hi; simp at hi⟩⟩, fun s hs => (by have hs : (none : Option aS) = some s := hs; cases hs), by rw [z 3 (by decide)]; rfl, st_same _ _ _ _, by rw [z 11 (by decide)]; rfl, fun i hi => ⟨by rw [e _ (by omega)]; rfl, by rw [e _ (by omega)]; rfl, by rw [e _ (by omega)]; rfl, show 0 < 4 by decide, show 0 ≤ 60 by decide, fun j hj => by rw [(h _ (by omega)).2]; rfl⟩⟩
theorem a00_mod {M : pmM} {N : pmN} {k : Nat} (h : fz M N k) : modIs (pmSt M k 7 (-4)) N k a00 := by
  have e : ∀ x, k < x → pmSt M k 7 (-4) x = fun _ => 0 := fun x hx => by rw [st_ne _ _ _ _ (by omega)]; exact (h x (by omega)).1
  have z : ∀ j, j ≠ 7 → pmSt M k 7 (-4) k j = 0 := fun j hj => by rw [st_row _ _ _ _ hj, (h k (by omega)).1]
  refine ⟨⟨by rw [z 1 (by decide)]; rfl, fun i hi => absurd hi (Nat.not_lt_zero i)⟩, ⟨by rw [e _ (by omega)]; rfl, fun r hr => absurd hr (Nat.not_lt_zero r)⟩, ⟨by rw [e _ (by omega)]; rfl, by rw [e _ (by omega)]; rfl, fun i hi => absurd hi (Nat.not_lt_zero i), fun i hi => absurd hi (Nat.not_lt_zero i)⟩, ⟨by rw [z 5 (by decide)]; rfl, fun i m hi => by have hi : ([] : List aM)[i]? = some m := hi; simp at hi⟩, by rw [z 6 (by decide)]; rfl, st_same _ _ _ _, ⟨by rw [z 12 (by decide)]; rfl, fun s hs => by have hs : (none : Option aS) = some s := hs; cases hs⟩, fun i hi => ⟨by rw [e _ (by omega)]; rfl, by rw [e _ (by omega)]; rfl, by rw [e _ (by omega)]; rfl, fun j hj => by rw [(h _ (by omega)).2]; rfl⟩⟩
