/-! WHAT A RUN KEEPS: it makes cells at the end alone; the script stays -/
def pmKp (sh sh' : pmS) (M M' : pmM) : Prop := sh.length ≤ sh'.length ∧ pmTo sh ≤ pmTo sh' ∧ (0 < sh.length → M' 0 = M 0 ∧ sh'[0]? = sh[0]?)
theorem pmKp.rf {sh : pmS} {M : pmM} : pmKp sh sh M M := ⟨Nat.le_refl _, Nat.le_refl _, fun _ => ⟨rfl, rfl⟩⟩
theorem pmKp.tr {sh sh1 sh2 : pmS} {M M1 M2 : pmM} (h : pmKp sh sh1 M M1) (h2 : pmKp sh1 sh2 M1 M2) : pmKp sh sh2 M M2 :=
  ⟨Nat.le_trans h.1 h2.1, Nat.le_trans h.2.1 h2.2.1, fun q => ⟨(h2.2.2 (Nat.lt_of_lt_of_le q h.1)).1.trans (h.2.2 q).1, (h2.2.2 (Nat.lt_of_lt_of_le q h.1)).2.trans (h.2.2 q).2⟩⟩
theorem pmKp.st {sh : pmS} {M M' : pmM} (h : M' 0 = M 0) : pmKp sh sh M M' := ⟨Nat.le_refl _, Nat.le_refl _, fun _ => ⟨h, rfl⟩⟩
theorem pmKp.app {sh : pmS} {M M' : pmM} {x : (Nat × Nat × List (Option Nat)) ⊕ (Nat × List (Option (Option Nat)))} (h : ∀ y, y ≠ sh.length → M' y = M y) : pmKp sh (sh ++ [x]) M M' :=
  ⟨by simp, by rw [pmTo_app]; omega, fun q => ⟨h 0 (by omega), by rw [List.getElem?_append_left q]⟩⟩
theorem pmKp.set {sh : pmS} {M : pmM} {k : Nat} {x y : (Nat × Nat × List (Option Nat)) ⊕ (Nat × List (Option (Option Nat)))} (h : sh[k + 1]? = some x) (he : pmTo [y] = pmTo [x]) : pmKp sh (sh.set (k + 1) y) M M := by
  refine ⟨by simp, Nat.le_of_eq (pmTo_set_aux _ sh (k + 1) x y h ?_).symm, fun _ => ⟨rfl, by rw [List.getElem?_set_ne (by omega)]⟩⟩
  simpa [pmTo] using he
set_option maxHeartbeats 4000000 in
theorem pmEx_kp {i : Instr} {a b : Nat} {ls st ls' st' : List Value} {sh sh' : pmS} {M M' : pmM} {N N' : pmN} (h : pmEx i a b ls st sh M N = some (ls', st', sh', M', N')) : pmKp sh sh' M M' := by
  cases i <;> simp only [pmEx] at h <;> (repeat' split at h) <;> first
    | (cases h; done)
    | (simp only [Option.some.injEq, Prod.mk.injEq] at h; obtain ⟨rfl, rfl, rfl, rfl, rfl⟩ := h; first
        | exact pmKp.rf
        | exact pmKp.st (va_up_ne _ _ (by omega))
        | exact pmKp.app (fun y hy => va_up_ne _ _ hy)
        | exact pmKp.app (fun y hy => rfl)
        | (exact pmKp.set (by assumption) (by simp [pmTo])))
set_option maxHeartbeats 4000000 in
theorem pmNx_go {mi pc pc' : Nat} {ls st ls' st' : List Value} {sh sh' : pmS} {M M' : pmM} {N N' : pmN} (h : pmNx mi pc ls st sh M N = some (.inr (.inl (pc', ls', st', sh', M', N')))) : pmKp sh sh' M M' := by
  unfold pmNx at h
  split at h
  · cases h
  · rename_i i len a b c hc
    split at h
    all_goals (repeat' split at h)
    all_goals first
      | (cases h; done)
      | (simp only [Option.some.injEq, Sum.inr.injEq, Sum.inl.injEq, Prod.mk.injEq] at h; obtain ⟨rfl, rfl, rfl, rfl, rfl, rfl⟩ := h; exact pmKp.rf)
      | (rename_i x hq; simp only [Option.some.injEq, Sum.inr.injEq, Sum.inl.injEq, Prod.mk.injEq] at h; obtain ⟨rfl, rfl⟩ := h; exact pmEx_kp hq)
theorem pmNx_ret {mi pc : Nat} {ls st : List Value} {sh sh' : pmS} {M M' : pmM} {N N' : pmN} {r : Option Value} (h : pmNx mi pc ls st sh M N = some (.inl (r, sh', M', N'))) : sh' = sh ∧ M' = M ∧ N' = N := by
  unfold pmNx at h
  split at h
  · cases h
  · split at h
    all_goals (repeat' split at h)
    all_goals first
      | (cases h; done)
      | (simp only [Option.some.injEq, Sum.inl.injEq, Prod.mk.injEq] at h; obtain ⟨-, rfl, rfl, rfl⟩ := h; exact ⟨rfl, rfl, rfl⟩)
theorem pr_kp : ∀ (n mi pc : Nat) (ls st : List Value) (sh : pmS) (M : pmM) (N : pmN) (r : Option Value) (sh' : pmS) (M' : pmM) (N' : pmN), pr n mi pc ls st sh M N = some (r, sh', M', N') → pmKp sh sh' M M' := by
  intro n
  induction n with
  | zero => intro mi pc ls st sh M N r sh' M' N' h; cases h
  | succ n ih =>
    intro mi pc ls st sh M N r sh' M' N' h
    rw [pr] at h
    cases hn : pmNx mi pc ls st sh M N with
    | none => rw [hn] at h; cases h
    | some x =>
      rw [hn] at h
      match x, hn, h with
      | .inl x, hn, h =>
        cases h
        obtain ⟨rfl, rfl, rfl⟩ := pmNx_ret hn
        exact pmKp.rf
      | .inr (.inl (pc1, ls1, st1, sh1, M1, N1)), hn, h => exact (pmNx_go hn).tr (ih _ _ _ _ _ _ _ _ _ _ _ h)
      | .inr (.inr (mj, as, rest)), hn, h =>
        simp only at h
        cases hc : pr n mj 0 (pmEn as (pmL mj)) [] sh M N with
        | none => rw [hc] at h; cases h
        | some y =>
          obtain ⟨r1, sh1, M1, N1⟩ := y
          rw [hc] at h
          exact (ih _ _ _ _ _ _ _ _ _ _ _ hc).tr (ih _ _ _ _ _ _ _ _ _ _ _ h)
/-- more fuel, the same answer -/
theorem pr_up : ∀ (n mi pc : Nat) (ls st : List Value) (sh : pmS) (M : pmM) (N : pmN) (x : pmR), pr n mi pc ls st sh M N = some x → pr (n + 1) mi pc ls st sh M N = some x := by
  intro n
  induction n with
  | zero => intro mi pc ls st sh M N x h; cases h
  | succ n ih =>
    intro mi pc ls st sh M N x h
    rw [pr] at h
    rw [pr]
    cases hn : pmNx mi pc ls st sh M N with
    | none => rw [hn] at h; cases h
    | some y =>
      rw [hn] at h
      match y, hn, h with
      | .inl y, hn, h => exact h
      | .inr (.inl (pc1, ls1, st1, sh1, M1, N1)), hn, h => exact ih _ _ _ _ _ _ _ _ h
      | .inr (.inr (mj, as, rest)), hn, h =>
        simp only at h ⊢
        cases hc : pr n mj 0 (pmEn as (pmL mj)) [] sh M N with
        | none => rw [hc] at h; cases h
        | some z =>
          obtain ⟨r1, sh1, M1, N1⟩ := z
          rw [hc] at h
          rw [ih _ _ _ _ _ _ _ _ hc]
          exact ih _ _ _ _ _ _ _ _ h
theorem pr_le {n k mi pc : Nat} {ls st : List Value} {sh : pmS} {M : pmM} {N : pmN} {x : pmR} (h : pr n mi pc ls st sh M N = some x) (hk : n ≤ k) : pr k mi pc ls st sh M N = some x := by
  induction hk with
  | refl => exact h
  | step _ ih => exact pr_up _ _ _ _ _ _ _ _ _ ih
