/-! THE TAPE: how it is read -/
def skp (tp : List Int32) : Nat → Nat → Nat
  | 0, p => p
  | f + 1, p => if p < tp.length ∧ tp.getD p 0 = nI 32 then skp tp f (p + 1) else p
/-- behind blanks -/
def sk (tp : List Int32) (p : Nat) : Nat := skp tp (tp.length - p) p
theorem sk_blank {tp : List Int32} {p : Nat} (h : p < tp.length) (h2 : tp.getD p 0 = nI 32) : sk tp p = sk tp (p + 1) := by
  unfold sk
  rw [show tp.length - p = (tp.length - (p + 1)) + 1 by omega, skp, if_pos ⟨h, h2⟩]
theorem sk_not {tp : List Int32} {p : Nat} (h : ¬ (p < tp.length ∧ tp.getD p 0 = nI 32)) : sk tp p = p := by
  unfold sk
  cases hq : tp.length - p with
  | zero => rfl
  | succ f => rw [skp, if_neg h]
theorem sk_spec (tp : List Int32) : ∀ (d p : Nat), tp.length - p = d → p ≤ sk tp p ∧ (p ≤ tp.length → sk tp p ≤ tp.length) ∧ ¬ (sk tp p < tp.length ∧ tp.getD (sk tp p) 0 = nI 32)
  | 0, p, hd => by
    have h : ¬ (p < tp.length ∧ tp.getD p 0 = nI 32) := by omega
    rw [sk_not h]
    exact ⟨Nat.le_refl _, fun q => q, h⟩
  | d + 1, p, hd => by
    by_cases h : p < tp.length ∧ tp.getD p 0 = nI 32
    · rw [sk_blank h.1 h.2]
      have ih := sk_spec tp d (p + 1) (by omega)
      exact ⟨by omega, fun q => ih.2.1 (by omega), ih.2.2⟩
    · rw [sk_not h]
      exact ⟨Nat.le_refl _, fun q => q, h⟩
theorem sk_idem (tp : List Int32) (p : Nat) : sk tp (sk tp p) = sk tp p := sk_not (sk_spec tp _ p rfl).2.2
theorem sk_le {tp : List Int32} {p : Nat} (h : p ≤ tp.length) : sk tp p ≤ tp.length := (sk_spec tp _ p rfl).2.1 h
/-- the sign there; none -/
def cur (tp : List Int32) (p : Nat) : Option Int32 := tp[sk tp p]?
def ltO : Option Int32 → Bool
  | some c => ltr c
  | none => false
def kindC (c : Int32) : Option Nat := if c = nI 112 then some 0 else if c = nI 119 then some 1 else if c = nI 102 then some 2 else if c = nI 116 then some 3 else if c = nI 111 then some 4 else none
def kindO : Option Int32 → Option Nat
  | some c => kindC c
  | none => none
theorem kindO_lt {o : Option Int32} {k : Nat} (h : kindO o = some k) : k < 5 := by
  cases o with
  | none => cases h
  | some c =>
    simp only [kindO, kindC] at h
    repeat' split at h
    all_goals first | (cases h; decide) | cases h
/-- letters, m at most -/
def rdL (tp : List Int32) : Nat → Nat → List Int32 × Nat
  | 0, p => ([], p)
  | m + 1, p => if ltO (cur tp p) = true then (((cur tp p).getD 0) :: (rdL tp m (sk tp p + 1)).1, (rdL tp m (sk tp p + 1)).2) else ([], sk tp p)
def rdR (tp : List Int32) (p : Nat) : Option aR × Nat := match kindO (cur tp p) with
  | none => (none, sk tp p)
  | some kd => if cur tp (sk tp p + 1) = some (nI 58) then
      (if (rdL tp 6 (sk tp (sk tp p + 1) + 1)).1 = [] then (none, (rdL tp 6 (sk tp (sk tp p + 1) + 1)).2)
       else if cur tp (rdL tp 6 (sk tp (sk tp p + 1) + 1)).2 = some (nI 61) then
         (some (kd, (rdL tp 6 (sk tp (sk tp p + 1) + 1)).1, (rdL tp 6 (sk tp (rdL tp 6 (sk tp (sk tp p + 1) + 1)).2 + 1)).1), (rdL tp 6 (sk tp (rdL tp 6 (sk tp (sk tp p + 1) + 1)).2 + 1)).2)
       else (none, sk tp (rdL tp 6 (sk tp (sk tp p + 1) + 1)).2))
    else (none, sk tp (sk tp p + 1))
def rdRs (tp : List Int32) : Nat → Nat → List aR → Option (List aR) × Nat
  | 0, p, acc => (if cur tp p = none then some acc else none, sk tp p)
  | n + 1, p, acc => if cur tp p = some (nI 59) then (match rdR tp (sk tp p + 1) with
      | (some r, q) => rdRs tp n q (acc ++ [r])
      | (none, q) => (none, q)) else (if cur tp p = none then some acc else none, sk tp p)
theorem cur_lt {tp : List Int32} {p : Nat} {c : Int32} (h : cur tp p = some c) : sk tp p < tp.length ∧ tp.getD (sk tp p) 0 = c := by
  unfold cur at h
  refine ⟨(List.getElem?_eq_some_iff.mp h).1, ?_⟩
  rw [List.getD_eq_getElem?_getD, h]; rfl
theorem rdL_len (tp : List Int32) : ∀ (m p : Nat), (rdL tp m p).1.length ≤ m ∧ (p ≤ tp.length → (rdL tp m p).2 ≤ tp.length)
  | 0, p => ⟨Nat.le_refl _, fun h => h⟩
  | m + 1, p => by
    rw [rdL]
    by_cases h : ltO (cur tp p) = true
    · rw [if_pos h]
      have ih := rdL_len tp m (sk tp p + 1)
      refine ⟨by simp only [List.length_cons]; omega, fun _ => ih.2 ?_⟩
      cases hc : cur tp p with
      | none => rw [hc] at h; cases h
      | some c => have := (cur_lt hc).1; omega
    · rw [if_neg h]
      exact ⟨Nat.zero_le _, fun q => sk_le q⟩
theorem rdR_ok {tp : List Int32} {p : Nat} (hp : p ≤ tp.length) : (∀ r, (rdR tp p).1 = some r → wfR r) ∧ (rdR tp p).2 ≤ tp.length := by
  unfold rdR
  cases hk : kindO (cur tp p) with
  | none => exact ⟨fun r h => (by cases h), sk_le hp⟩
  | some kd =>
    simp only
    have h1 : sk tp p + 1 ≤ tp.length := by
      cases hc : cur tp p with
      | none => rw [hc] at hk; cases hk
      | some c => have := (cur_lt hc).1; omega
    by_cases h2 : cur tp (sk tp p + 1) = some (nI 58)
    · rw [if_pos h2]
      have h3 := (cur_lt h2).1
      have l1 := rdL_len tp 6 (sk tp (sk tp p + 1) + 1)
      have l1' := l1.2 (by omega)
      by_cases h4 : (rdL tp 6 (sk tp (sk tp p + 1) + 1)).1 = []
      · rw [if_pos h4]; exact ⟨fun r h => (by cases h), l1'⟩
      · rw [if_neg h4]
        by_cases h5 : cur tp (rdL tp 6 (sk tp (sk tp p + 1) + 1)).2 = some (nI 61)
        · rw [if_pos h5]
          have h6 := (cur_lt h5).1
          have l2 := rdL_len tp 6 (sk tp (rdL tp 6 (sk tp (sk tp p + 1) + 1)).2 + 1)
          refine ⟨fun r h => ?_, l2.2 (by omega)⟩
          cases h
          exact ⟨kindO_lt hk, List.length_pos_iff.mpr h4, l1.1, l2.1⟩
        · rw [if_neg h5]; exact ⟨fun r h => (by cases h), sk_le l1'⟩
    · rw [if_neg h2]; exact ⟨fun r h => (by cases h), sk_le h1⟩
theorem rdRs_ok (tp : List Int32) : ∀ (n p : Nat) (acc : List aR), p ≤ tp.length → (∀ r ∈ acc, wfR r) → (∀ rs, (rdRs tp n p acc).1 = some rs → (∀ r ∈ rs, wfR r) ∧ rs.length ≤ acc.length + n) ∧ (rdRs tp n p acc).2 ≤ tp.length
  | 0, p, acc, hp, ha => by
    rw [rdRs]
    refine ⟨fun rs h => ?_, sk_le hp⟩
    simp only at h
    split at h
    · cases h; exact ⟨ha, Nat.le_refl _⟩
    · cases h
  | n + 1, p, acc, hp, ha => by
    rw [rdRs]
    by_cases h : cur tp p = some (nI 59)
    · rw [if_pos h]
      have h1 := (cur_lt h).1
      have h2 := rdR_ok (tp := tp) (p := sk tp p + 1) (by omega)
      cases hr : rdR tp (sk tp p + 1) with
      | mk o q =>
        rw [hr] at h2
        cases o with
        | none => exact ⟨fun rs h => (by cases h), h2.2⟩
        | some r =>
          have ih := rdRs_ok tp n q (acc ++ [r]) h2.2 (fun x hx => by
            rcases List.mem_append.mp hx with h | h
            · exact ha x h
            · rw [List.mem_singleton.mp h]; exact h2.1 r rfl)
          refine ⟨fun rs h => ?_, ih.2⟩
          have := ih.1 rs h
          refine ⟨this.1, ?_⟩
          have := this.2
          rw [List.length_append] at this
          simp at this
          omega
    · rw [if_neg h]
      refine ⟨fun rs h => ?_, sk_le hp⟩
      simp only at h
      split at h
      · cases h; exact ⟨ha, by omega⟩
      · cases h
def isTape (sh : pmS) (k : Nat) : Prop := pmOb sh k 8 [some (some (k + 1)), none] ∧ isRow sh (k + 1) 150
/-- the sign as the class has it: -1 at the end -/
def cX (tp : List Int32) (p : Nat) : Int32 := (cur tp p).getD (-1)
theorem cX_eq {tp : List Int32} {p s : Nat} (hs : s < 1000) : cX tp p = nI s ↔ cur tp p = some (nI s) := by
  unfold cX
  cases cur tp p with
  | none =>
    simp only [Option.getD_none]
    refine ⟨fun h => ?_, fun h => by cases h⟩
    exfalso
    have h2 := congrArg Int32.toInt h
    rw [nI_toInt (by omega)] at h2
    have h3 : (-1 : Int32).toInt = -1 := by decide
    omega
  | some c => simp
theorem cX_end {tp : List Int32} (ht : ∀ x ∈ tp, ¬ x < 0) {p : Nat} : cX tp p = -1 ↔ cur tp p = none := by
  unfold cX
  cases h : cur tp p with
  | none => simp
  | some c =>
    simp only [Option.getD_some, reduceCtorEq, iff_false]
    intro q
    have := ht c (by unfold cur at h; exact List.mem_of_getElem? h)
    rw [q] at this
    exact this (by decide)
theorem cX_ltr {tp : List Int32} {p : Nat} : ltr (cX tp p) = ltO (cur tp p) := by
  unfold cX
  cases cur tp p with
  | none => decide
  | some c => rfl
theorem cX_kind {tp : List Int32} {p : Nat} : kindC (cX tp p) = kindO (cur tp p) := by
  unfold cX
  cases cur tp p with
  | none => decide
  | some c => rfl
section TAP
variable {sh : pmS} {M : pmM} {N : pmN} {Q : pmPost} {k : Nat} {tp : List Int32}
theorem c_Tape_next_loop (hb : isTape sh k) (hl : tp.length ≤ 150) : ∀ (d p : Nat) (M : pmM), tp.length - p = d → rowIs M (k + 1) tp → p ≤ tp.length → M k 1 = nI p → (∀ M', fr k (k + 1) M M' → M' k 1 = nI (sk tp p) → Q (some (.int (cX tp p))) sh M' N) → PW mX8_next 0 [.ref k] [] sh M N Q := by
  obtain ⟨h1, h2⟩ := hb
  have h2' := h2.1
  have out : ∀ (p : Nat) (M : pmM), rowIs M (k + 1) tp → p ≤ tp.length → M k 1 = nI p → ¬ (p < tp.length ∧ tp.getD p 0 = nI 32) → (∀ M', fr k (k + 1) M M' → M' k 1 = nI (sk tp p) → Q (some (.int (cX tp p))) sh M' N) → PW mX8_next 43 [.ref k] [] sh M N Q := by
    intro p M hx hp hM hn kk
    have e := sk_not hn
    refine pw_aload_n 44 rfl rfl rfl ?_
    refine pw_getI 47 rfl rfl (by first | assumption | exact ⟨by decide, rfl⟩) rfl ?_
    refine pw_aload_n 48 rfl rfl rfl ?_
    refine pw_getR 51 rfl rfl (by first | assumption | exact ⟨by decide, rfl⟩) rfl ?_
    refine pw_cV0 54 rfl rfl (by first | assumption | exact ⟨by decide, rfl⟩) rfl (Nat.le_of_ble_eq_true rfl) rfl rfl (Nat.le_of_ble_eq_true rfl) (c_Row_size h2 hx ?_)
    refine pw_pI ?_
    rw [hM]
    skip
    refine pw_icmp_ge 71 57 rfl rfl rfl (fun h => ?_) (fun h => ?_)
    · have h := (nI_leI (by omega) (by omega)).mp h
      have e2 : cX tp p = -1 := by
        unfold cX cur
        rw [e, List.getElem?_eq_none h]; rfl
      have kk2 := kk M fr.rf (by rw [e]; exact hM)
      rw [e2] at kk2
      refine pw_iconst (v := (-1)) 72 rfl rfl (by decide) ?_
      exact pw_iret rfl rfl (kk2)
    · have h : p < tp.length := by
        rcases Nat.lt_or_ge p tp.length with q | q
        · exact q
        · exact absurd (nI_le q (by omega)) h
      refine pw_aload_n 58 rfl rfl rfl ?_
      refine pw_getR 61 rfl rfl (by first | assumption | exact ⟨by decide, rfl⟩) rfl ?_
      refine pw_aload_n 62 rfl rfl rfl ?_
      refine pw_getI 65 rfl rfl (by first | assumption | exact ⟨by decide, rfl⟩) rfl ?_
      rw [hM]
      refine pw_cV1 68 rfl rfl (by first | assumption | exact ⟨by decide, rfl⟩) rfl (Nat.le_of_ble_eq_true rfl) rfl rfl (Nat.le_of_ble_eq_true rfl) (c_Row_get h2 hx hl _ ?_)
      rw [gI_n (by omega)]
      refine pw_pI ?_
      have e2 : cX tp p = tp.getD p 0 := by
        unfold cX cur
        rw [e, List.getD_eq_getElem?_getD, List.getElem?_eq_getElem h]; rfl
      have kk2 := kk M fr.rf (by rw [e]; exact hM)
      rw [e2] at kk2
      refine pw_goto rfl 72 rfl ?_
      exact pw_iret rfl rfl (kk2)
  intro d
  induction d with
  | zero =>
    intro p M hd hx hp hM kk
    refine pw_aload_n 1 rfl rfl rfl ?_
    refine pw_getI 4 rfl rfl (by first | assumption | exact ⟨by decide, rfl⟩) rfl ?_
    refine pw_aload_n 5 rfl rfl rfl ?_
    refine pw_getR 8 rfl rfl (by first | assumption | exact ⟨by decide, rfl⟩) rfl ?_
    refine pw_cV0 11 rfl rfl (by first | assumption | exact ⟨by decide, rfl⟩) rfl (Nat.le_of_ble_eq_true rfl) rfl rfl (Nat.le_of_ble_eq_true rfl) (c_Row_size h2 hx ?_)
    refine pw_pI ?_
    rw [hM]
    skip
    refine pw_icmp_ge_t 43 rfl rfl (nI_le (by omega) (by omega)) ?_
    exact out p M hx hp hM (by omega) kk
  | succ d ih =>
    intro p M hd hx hp hM kk
    refine pw_aload_n 1 rfl rfl rfl ?_
    refine pw_getI 4 rfl rfl (by first | assumption | exact ⟨by decide, rfl⟩) rfl ?_
    refine pw_aload_n 5 rfl rfl rfl ?_
    refine pw_getR 8 rfl rfl (by first | assumption | exact ⟨by decide, rfl⟩) rfl ?_
    refine pw_cV0 11 rfl rfl (by first | assumption | exact ⟨by decide, rfl⟩) rfl (Nat.le_of_ble_eq_true rfl) rfl rfl (Nat.le_of_ble_eq_true rfl) (c_Row_size h2 hx ?_)
    refine pw_pI ?_
    rw [hM]
    skip
    refine pw_icmp_ge_f 14 rfl rfl (nI_ge (by omega) (by omega)) ?_
    refine pw_aload_n 15 rfl rfl rfl ?_
    refine pw_getR 18 rfl rfl (by first | assumption | exact ⟨by decide, rfl⟩) rfl ?_
    refine pw_aload_n 19 rfl rfl rfl ?_
    refine pw_getI 22 rfl rfl (by first | assumption | exact ⟨by decide, rfl⟩) rfl ?_
    rw [hM]
    refine pw_cV1 25 rfl rfl (by first | assumption | exact ⟨by decide, rfl⟩) rfl (Nat.le_of_ble_eq_true rfl) rfl rfl (Nat.le_of_ble_eq_true rfl) (c_Row_get h2 hx hl _ ?_)
    rw [gI_n (by omega)]
    refine pw_pI ?_
    refine pw_bipush (v := nI 32) 27 rfl rfl (by decide) ?_
    refine pw_icmp_ne 43 30 rfl rfl rfl (fun h => ?_) (fun h => ?_)
    · exact out p M hx hp hM (fun q => h q.2) kk
    · have h := Classical.not_not.mp h
      refine pw_aload_n 31 rfl rfl rfl ?_
      refine pw_dup 32 rfl rfl rfl ?_
      refine pw_getI 35 rfl rfl (by first | assumption | exact ⟨by decide, rfl⟩) rfl ?_
      refine pw_iconst (v := nI 1) 36 rfl rfl (by decide) ?_
      rw [hM]
      first | refine pw_iaddN 37 rfl rfl (by with_reducible rfl) (by with_reducible rfl) ?_ | refine pw_iadd 37 rfl rfl ?_
      refine pw_putI 40 rfl rfl (by first | assumption | exact ⟨by decide, rfl⟩) rfl (by decide) ?_
      refine pw_goto rfl 0 rfl ?_
      have f0 : fr k (k + 1) M (pmSt M k 1 (nI (p + 1))) := fr_st M 1 _ (Nat.le_refl k) (Nat.lt_succ_self k)
      have e := sk_blank (show p < tp.length by omega) h
      refine ih (p + 1) _ (by omega) (hx.mv f0 (by omega)) (by omega) (st_same _ _ _ _) (fun M' f1 e1 => ?_)
      have kk2 := kk M' (f0.tr f1) (by rw [e]; exact e1)
      unfold cX cur at kk2 ⊢
      rw [e] at kk2
      exact kk2
theorem c_Tape_next {p : Nat} (hb : isTape sh k) (hl : tp.length ≤ 150) (hx : rowIs M (k + 1) tp) (hp : p ≤ tp.length) (hM : M k 1 = nI p) (kk : ∀ M', fr k (k + 1) M M' → M' k 1 = nI (sk tp p) → Q (some (.int (cX tp p))) sh M' N) : PW mX8_next 0 [.ref k] [] sh M N Q :=
  c_Tape_next_loop hb hl _ p M rfl hx hp hM kk
theorem c_Tape_rewind (hb : isTape sh k) (kk : ∀ M', fr k (k + 1) M M' → M' k 1 = nI 0 → Q none sh M' N) : PW mX8_rewind 0 [.ref k] [] sh M N Q := by
  obtain ⟨h1, h2⟩ := hb
  refine pw_aload_n 1 rfl rfl rfl ?_
  refine pw_iconst (v := nI 0) 2 rfl rfl (by decide) ?_
  refine pw_putI 5 rfl rfl (by first | assumption | exact ⟨by decide, rfl⟩) rfl (by decide) ?_
  exact pw_vret rfl (kk _ (fr_st M 1 _ (Nat.le_refl k) (Nat.lt_succ_self k)) (st_same _ _ _ _))
theorem c_Tape_takes {p s : Nat} (hb : isTape sh k) (hl : tp.length ≤ 150) (hx : rowIs M (k + 1) tp) (hp : p ≤ tp.length) (hM : M k 1 = nI p) (hs : s < 1000) (ky : ∀ M', fr k (k + 1) M M' → cur tp p = some (nI s) → M' k 1 = nI (sk tp p + 1) → Q (some (.int (nI 1))) sh M' N) (kn : ∀ M', fr k (k + 1) M M' → ¬ cur tp p = some (nI s) → M' k 1 = nI (sk tp p) → Q (some (.int (nI 0))) sh M' N) : PW mX8_takes 0 [.ref k, .int (nI s)] [] sh M N Q := by
  have hb0 := hb
  obtain ⟨h1, h2⟩ := hb
  refine pw_aload_n 1 rfl rfl rfl ?_
  refine pw_cV0 4 rfl rfl (by first | assumption | exact ⟨by decide, rfl⟩) rfl (Nat.le_of_ble_eq_true rfl) rfl rfl (Nat.le_of_ble_eq_true rfl) (c_Tape_next hb0 hl hx hp hM (fun M1 f1 e1 => ?_))
  refine pw_pI ?_
  refine pw_iload_n 5 rfl rfl rfl ?_
  refine pw_icmp_eq 10 8 rfl rfl rfl (fun h => ?_) (fun h => ?_)
  · rw [cX_eq hs] at h
    refine pw_aload_n 11 rfl rfl rfl ?_
    refine pw_dup 12 rfl rfl rfl ?_
    refine pw_getI 15 rfl rfl (by first | assumption | exact ⟨by decide, rfl⟩) rfl ?_
    refine pw_iconst (v := nI 1) 16 rfl rfl (by decide) ?_
    rw [e1]
    first | refine pw_iaddN 17 rfl rfl (by with_reducible rfl) (by with_reducible rfl) ?_ | refine pw_iadd 17 rfl rfl ?_
    refine pw_putI 20 rfl rfl (by first | assumption | exact ⟨by decide, rfl⟩) rfl (by decide) ?_
    refine pw_iconst (v := nI 1) 21 rfl rfl (by decide) ?_
    exact pw_zret rfl rfl (Or.inr rfl) (ky _ (f1.tr (fr_st M1 1 _ (Nat.le_refl k) (Nat.lt_succ_self k))) h (st_same _ _ _ _))
  · rw [cX_eq hs] at h
    refine pw_iconst (v := nI 0) 9 rfl rfl (by decide) ?_
    exact pw_zret rfl rfl (by first | exact Or.inl rfl | exact Or.inr rfl | assumption) (kn M1 f1 h e1)
theorem c_Tape_fault {p : Nat} (hb : isTape sh k) (hl : tp.length ≤ 150) (hx : rowIs M (k + 1) tp) (hp : p ≤ tp.length) (hM : M k 1 = nI p) (kk : ∀ M', fr k (k + 1) M M' → Q (some (.int ((-20) - nI (sk tp p)))) sh M' N) : PW mX8_fault 0 [.ref k] [] sh M N Q := by
  have hb0 := hb
  obtain ⟨h1, h2⟩ := hb
  refine pw_aload_n 1 rfl rfl rfl ?_
  refine pw_cV0 4 rfl rfl (by first | assumption | exact ⟨by decide, rfl⟩) rfl (Nat.le_of_ble_eq_true rfl) rfl rfl (Nat.le_of_ble_eq_true rfl) (c_Tape_next hb0 hl hx hp hM (fun M1 f1 e1 => ?_))
  refine pw_pI ?_
  refine pw_pop 5 rfl rfl rfl ?_
  refine pw_bipush (v := (-20)) 7 rfl rfl (by decide) ?_
  refine pw_aload_n 8 rfl rfl rfl ?_
  refine pw_getI 11 rfl rfl (by first | assumption | exact ⟨by decide, rfl⟩) rfl ?_
  rw [e1]
  refine pw_isub 12 rfl rfl ?_
  skip
  exact pw_iret rfl rfl (kk M1 f1)
theorem rdL_loop {kr n : Nat} (hb : isTape sh k) (hl : tp.length ≤ 150) (hr : isRow sh kr n) (hd : kr + 2 ≤ k ∨ k + 3 ≤ kr) (kk : ∀ (M' : pmM) (xs : List Int32) (q : Nat), (∀ x, x ≠ k → (x < kr ∨ kr + 2 ≤ x) → M' x = M x) → rowIs M' kr xs → M' k 1 = nI q → rdL tp n 0 = rdL tp n 0 → Q none sh M' N → Q none sh M' N) (p0 : Nat) (kf : ∀ M', (∀ x, x ≠ k → (x < kr ∨ kr + 2 ≤ x) → M' x = M x) → rowIs M' kr (rdL tp n p0).1 → M' k 1 = nI (rdL tp n p0).2 → Q none sh M' N) :
    ∀ (d i p : Nat) (xs : List Int32) (M1 : pmM), i + d = n → xs.length = i → p ≤ tp.length → (∀ x, x ≠ k → (x < kr ∨ kr + 2 ≤ x) → M1 x = M x) → rowIs M1 (k + 1) tp → rowIs M1 kr xs → M1 k 1 = nI p → ((xs ++ (rdL tp d p).1, (rdL tp d p).2) = rdL tp n p0) → PW mX8_readLetters 6 [.ref k, .ref kr, .int (nI i)] [] sh M1 N Q := by
  have hb0 := hb
  obtain ⟨h1, h2⟩ := hb
  have hr0 := hr
  obtain ⟨r1, r2⟩ := hr
  have hn := r2.2.2
  intro d
  induction d with
  | zero =>
    intro i p xs M1 hi hxl hp hf hx hxr hM he
    refine pw_iload_n 7 rfl rfl rfl ?_
    refine pw_aload_n 8 rfl rfl rfl ?_
    refine pw_cV0 11 rfl rfl (by first | assumption | exact ⟨by decide, rfl⟩) rfl (Nat.le_of_ble_eq_true rfl) rfl rfl (Nat.le_of_ble_eq_true rfl) (c_Row_most hr0 ?_)
    refine pw_pI ?_
    skip
    refine pw_icmp_ge_t 49 rfl rfl (nI_le (by omega) (by omega)) ?_
    skip
    rw [rdL, List.append_nil] at he
    exact pw_vret rfl (kf M1 hf (by rw [← he]; exact hxr) (by rw [← he]; exact hM))
  | succ d ih =>
    intro i p xs M1 hi hxl hp hf hx hxr hM he
    refine pw_iload_n 7 rfl rfl rfl ?_
    refine pw_aload_n 8 rfl rfl rfl ?_
    refine pw_cV0 11 rfl rfl (by first | assumption | exact ⟨by decide, rfl⟩) rfl (Nat.le_of_ble_eq_true rfl) rfl rfl (Nat.le_of_ble_eq_true rfl) (c_Row_most hr0 ?_)
    refine pw_pI ?_
    skip
    refine pw_icmp_ge_f 14 rfl rfl (nI_ge (by omega) (by omega)) ?_
    refine pw_aload_n 15 rfl rfl rfl ?_
    refine pw_cV0 18 rfl rfl (by first | assumption | exact ⟨by decide, rfl⟩) rfl (Nat.le_of_ble_eq_true rfl) rfl rfl (Nat.le_of_ble_eq_true rfl) (c_Tape_next hb0 hl hx hp hM (fun M2 f2 e2 => ?_))
    refine pw_pI ?_
    have hf2 : ∀ x, x ≠ k → (x < kr ∨ kr + 2 ≤ x) → M2 x = M x := fun x ha hb => by rw [f2 x (by omega)]; exact hf x ha hb
    skip
    rw [rdL] at he
    refine pw_cS1 21 rfl rfl rfl (Nat.le_of_ble_eq_true rfl) rfl rfl (Nat.le_of_ble_eq_true rfl) (c_isLetter (fun hq => ?_) (fun hq => ?_))
    · refine pw_pI ?_
      rw [cX_ltr] at hq
      rw [if_pos hq] at he
      skip
      refine pw_if_eq_f 24 rfl rfl (by decide) ?_
      refine pw_aload_n 25 rfl rfl rfl ?_
      refine pw_aload_n 26 rfl rfl rfl ?_
      refine pw_cV0 29 rfl rfl (by first | assumption | exact ⟨by decide, rfl⟩) rfl (Nat.le_of_ble_eq_true rfl) rfl rfl (Nat.le_of_ble_eq_true rfl) (c_Tape_next hb0 hl (hx.mv f2 (by omega)) (sk_le hp) e2 (fun M3 f3 e3 => ?_))
      rw [sk_idem] at e3
      have e4 : cX tp (sk tp p) = (cur tp p).getD 0 := by
        unfold cX cur
        rw [sk_idem]
        cases hc : tp[sk tp p]? with
        | none => unfold cur at hq; rw [hc] at hq; cases hq
        | some c => rfl
      rw [e4]
      refine pw_pI ?_
      skip
      refine pw_cV1 32 rfl rfl (by first | assumption | exact ⟨by decide, rfl⟩) rfl (Nat.le_of_ble_eq_true rfl) rfl rfl (Nat.le_of_ble_eq_true rfl) (c_Row_add hr0 ((hxr.mv f2 (by omega)).mv f3 (by omega)) (by omega) _ (fun M4 f4 r4 => ?_))
      refine pw_pI ?_
      refine pw_pop 33 rfl rfl rfl ?_
      refine pw_aload_n 34 rfl rfl rfl ?_
      refine pw_dup 35 rfl rfl rfl ?_
      refine pw_getI 38 rfl rfl (by first | assumption | exact ⟨by decide, rfl⟩) rfl ?_
      refine pw_iconst (v := nI 1) 39 rfl rfl (by decide) ?_
      rw [f4 k (by omega), e3]
      first | refine pw_iaddN 40 rfl rfl (by with_reducible rfl) (by with_reducible rfl) ?_ | refine pw_iadd 40 rfl rfl ?_
      refine pw_putI 43 rfl rfl (by first | assumption | exact ⟨by decide, rfl⟩) rfl (by decide) ?_
      first | refine pw_iincN2 46 rfl rfl rfl (by with_reducible rfl) ?_ | refine pw_iinc2 (w := _) 46 rfl rfl rfl rfl ?_
      refine pw_goto rfl 6 rfl ?_
      have f5 : fr k (k + 1) M4 (pmSt M4 k 1 (nI (sk tp p + 1))) := fr_st M4 1 _ (Nat.le_refl k) (Nat.lt_succ_self k)
      have hlt : sk tp p < tp.length := by
        cases hc : cur tp p with
        | none => rw [hc] at hq; cases hq
        | some c => exact (cur_lt hc).1
      refine ih (i + 1) (sk tp p + 1) (xs ++ [(cur tp p).getD 0]) _ (by omega) (by simp; omega) (by omega) (fun x ha hb => ?_) ?_ (r4.mv f5 (by omega)) (st_same _ _ _ _) ?_
      · rw [f5 x (by omega), f4 x hb, f3 x (by omega)]; exact hf2 x ha hb
      · exact (((hx.mv f2 (by omega)).mv f3 (by omega)).mv f4 (by omega)).mv f5 (by omega)
      · rw [← he, List.append_assoc]; rfl
    · refine pw_pI ?_
      rw [cX_ltr] at hq
      rw [if_neg (by rw [hq]; decide), List.append_nil] at he
      skip
      refine pw_if_eq_t 49 rfl rfl (by decide) ?_
      skip
      exact pw_vret rfl (kf M2 hf2 (by rw [← he]; exact hxr.mv f2 (by omega)) (by rw [← he]; exact e2))
theorem c_Tape_readLetters {kr n p : Nat} (hb : isTape sh k) (hl : tp.length ≤ 150) (hx : rowIs M (k + 1) tp) (hp : p ≤ tp.length) (hM : M k 1 = nI p) (hr : isRow sh kr n) (hd : kr + 2 ≤ k ∨ k + 3 ≤ kr) (kf : ∀ M', (∀ x, x ≠ k → (x < kr ∨ kr + 2 ≤ x) → M' x = M x) → rowIs M' kr (rdL tp n p).1 → M' k 1 = nI (rdL tp n p).2 → Q none sh M' N) : PW mX8_readLetters 0 [.ref k, .ref kr, .null] [] sh M N Q := by
  have hr0 := hr
  obtain ⟨r1, r2⟩ := hr
  refine pw_aload_n 1 rfl rfl rfl ?_
  refine pw_cV0 4 rfl rfl (by first | assumption | exact ⟨by decide, rfl⟩) rfl (Nat.le_of_ble_eq_true rfl) rfl rfl (Nat.le_of_ble_eq_true rfl) (c_Row_clear hr0 (fun M1 f1 x1 => ?_))
  refine pw_pV ?_
  refine pw_iconst (v := nI 0) 5 rfl rfl (by decide) ?_
  refine pw_istore2 6 rfl rfl rfl ?_
  exact rdL_loop (M := M) hb hl hr0 hd (fun _ _ _ _ _ _ _ q => q) p kf n 0 p [] M1 (by omega) rfl hp (fun x ha hb => f1 x (by omega)) (hx.mv f1 (by omega)) x1 (by rw [f1 k (by omega)]; exact hM) rfl
end TAP
