theorem sumI_set : ∀ (V : List Int32) (r : Nat), r < V.length → sumI (V.set r (V.getD r 0 + nI 1)) = sumI V + nI 1
  | [], r, h => absurd h (Nat.not_lt_zero r)
  | x :: t, 0, _ => by
    have e : (x :: t).set 0 ((x :: t).getD 0 0 + nI 1) = (x + nI 1) :: t := rfl
    rw [e, sumI, sumI, Int32.add_assoc, Int32.add_comm (nI 1), ← Int32.add_assoc]
  | x :: t, r + 1, h => by
    have e : (x :: t).set (r + 1) ((x :: t).getD (r + 1) 0 + nI 1) = x :: t.set r (t.getD r 0 + nI 1) := rfl
    rw [e, sumI, sumI, sumI_set t r (by simpa using h), Int32.add_assoc]
/-- what a going over leaves -/
def gvn (M : pmM) (k : Nat) (OL OS OU OV : List Int32) : Prop := M k 24 = nI OL.length ∧ (∀ i, i < OL.length → M (k + 15) i = OL.getD i 0 ∧ M (k + 16) i = OS.getD i 0) ∧ (∀ i, i < OU.length → M (k + 18) i = OU.getD i 0) ∧ ∀ r, r < OV.length → M (k + 17) r = OV.getD r 0
def frG (k : Nat) (M M' : pmM) : Prop := (∀ x, x ≠ k → (x < k + 15 ∨ k + 19 ≤ x) → M' x = M x) ∧ ∀ j, j ≠ 24 → M' k j = M k j
theorem frG.rf {k : Nat} {M : pmM} : frG k M M := ⟨fun _ _ _ => rfl, fun _ _ => rfl⟩
theorem frG.tr {k : Nat} {M M1 M2 : pmM} (h : frG k M M1) (h2 : frG k M1 M2) : frG k M M2 := ⟨fun x hx hy => (h2.1 x hx hy).trans (h.1 x hx hy), fun j hj => (h2.2 j hj).trans (h.2 j hj)⟩
theorem frG_st {k x : Nat} (M : pmM) (j : Nat) (v : Int32) (h1 : k + 15 ≤ x) (h2 : x < k + 19) : frG k M (pmSt M x j v) := ⟨fun y _ hy => st_ne M x j v (by omega), fun i _ => by rw [st_ne M x j v (by omega)]⟩
section MGO
variable {sh : pmS} {M : pmM} {N : pmN} {Q : pmPost} {k : Nat} {rs : List aR} {kd : List Nat} {ls ss : List Int32} {on : Nat}
/-- a rule stands, its uses being known -/
def fB (rs : List aR) (kd : List Nat) (ls : List Int32) (st on p : Nat) (c : Nat → Nat) (r : Nat) : Bool := st.testBit r && (on.testBit r && (stB (kd.getD r 0) (pPh rs r) ls p && !(decide (kd.getD r 0 = 4) && decide (c r ≠ 0))))
theorem fB_usd {st s p : Nat} {c : Nat → Nat} (hw : ∀ r ∈ rs, wfR r) (h : ∀ r, r < rs.length → s.testBit r = (st.testBit r && on.testBit r && !(decide (kd.getD r 0 = 4) && decide (c r ≠ 0)))) : bstF (fB rs kd ls st on p c) (fun r => (pPh rs r).length) rs.length = usd rs kd ls s p := by
  unfold usd
  rw [← ord_bst hw]
  refine bst_cong (fun r hr => ?_)
  unfold fB okB
  rw [h r hr]
  cases st.testBit r <;> cases on.testBit r <;> cases stB (kd.getD r 0) (pPh rs r) ls p <;> simp
theorem ruleAt_loop {kt st p : Nat} {c : Nat → Nat} (hb : isMod sh k) (ht : pmAy sh kt 0 122 []) (hr : ruled (M (k + 2)) rs) (hw : ∀ r ∈ rs, wfR r) (h10 : rs.length ≤ 10) (hl : lnAt (M kt) ls ss on) (h60 : ls.length ≤ 60) (hp : p < ls.length) (hst : st < 1024) (hon : on < 1024) (hk : ∀ r, r < rs.length → M (k + 19) r = nI (kd.getD r 0) ∧ kd.getD r 0 < 5) (hu : ∀ r, r < rs.length → M (k + 17) r = nI (c r) ∧ c r < 1000) (kk : Q (some (.int (rI (bstF (fB rs kd ls st on p c) (fun r => (pPh rs r).length) rs.length)))) sh M N) :
    ∀ (d j : Nat) (v : Value), j + d = rs.length → PW mX11_ruleAt 7 [.ref k, .ref kt, .int (nI st), .int (nI p), .int (rI (bstF (fB rs kd ls st on p c) (fun r => (pPh rs r).length) j)), .int (nI j), v] [] sh M N Q := by
  have hb0 := hb
  obtain ⟨b0, a1, a2, a3, a4, a5, a6, a7, a8, a9, a10, a11, a12, a13, a14, a15, a16, a17, a18, a19, a20⟩ := hb
  intro d
  induction d with
  | zero =>
    intro j v hj
    have : j = rs.length := by omega
    subst this
    refine pw_iload 9 rfl rfl rfl ?_
    refine pw_aload_n 10 rfl rfl rfl ?_
    refine pw_getR 13 rfl rfl (by first | assumption | exact ⟨by decide, rfl⟩) rfl ?_
    refine pw_iconst (v := nI 0) 14 rfl rfl (by decide) ?_
    refine pw_iald _ 15 rfl rfl (by first | assumption | exact ⟨by decide, rfl, by decide⟩) (by with_reducible rfl) (by first | assumption | omega) ?_
    rw [hr.1]
    refine pw_icmp_ge_t 106 rfl rfl (nI_le (Nat.le_refl _) (by omega)) ?_
    refine pw_iload 108 rfl rfl rfl ?_
    exact pw_iret rfl rfl (kk)
  | succ d ih =>
    intro j v hj
    have hj1 : j < rs.length := by omega
    have hx2 : 11 + j < 151 := by omega
    have no : fB rs kd ls st on p c j = false → PW mX11_ruleAt 53 [.ref k, .ref kt, .int (nI st), .int (nI p), .int (rI (bstF (fB rs kd ls st on p c) (fun r => (pPh rs r).length) j)), .int (nI j), v] [] sh M N Q := by
      intro hf
      have e : bstF (fB rs kd ls st on p c) (fun r => (pPh rs r).length) (j + 1) = bstF (fB rs kd ls st on p c) (fun r => (pPh rs r).length) j := by
        rw [bstF]
        cases bstF (fB rs kd ls st on p c) (fun r => (pPh rs r).length) j with
        | none => simp only [hf]; rfl
        | some b => simp [hf]
      have ih1 := ih (j + 1) (.int (nI 0)) (by omega)
      rw [e] at ih1
      refine pw_iconst (v := nI 0) 54 rfl rfl (by decide) ?_
      refine pw_istore6 56 rfl rfl rfl ?_
      refine pw_iload 58 rfl rfl rfl ?_
      refine pw_if_eq_t 96 rfl rfl (rfl) ?_
      refine pw_iload 98 rfl rfl rfl ?_
      refine pw_istore4 100 rfl rfl rfl ?_
      first | refine pw_iincN5 103 rfl rfl rfl (by with_reducible rfl) ?_ | refine pw_iinc5 (w := _) 103 rfl rfl rfl rfl ?_
      refine pw_goto rfl 7 rfl ?_
      exact ih1
    have yes : fB rs kd ls st on p c j = true → PW mX11_ruleAt 49 [.ref k, .ref kt, .int (nI st), .int (nI p), .int (rI (bstF (fB rs kd ls st on p c) (fun r => (pPh rs r).length) j)), .int (nI j), v] [] sh M N Q := by
      intro hf
      have ih1 := ih (j + 1) (.int (nI 1)) (by omega)
      rw [bstF] at ih1
      cases hq : bstF (fB rs kd ls st on p c) (fun r => (pPh rs r).length) j with
      | none =>
        rw [hq] at ih1
        simp only [hf, if_true] at ih1
        refine pw_iconst (v := nI 1) 50 rfl rfl (by decide) ?_
        refine pw_goto rfl 54 rfl ?_
        refine pw_istore6 56 rfl rfl rfl ?_
        refine pw_iload 58 rfl rfl rfl ?_
        refine pw_if_eq_f 61 rfl rfl (by decide) ?_
        refine pw_iload 63 rfl rfl rfl ?_
        refine pw_bipush (v := (-4)) 65 rfl rfl (by decide) ?_
        refine pw_icmp_eq_t 91 rfl rfl (rfl) ?_
        refine pw_iload 93 rfl rfl rfl ?_
        refine pw_goto rfl 98 rfl ?_
        refine pw_istore4 100 rfl rfl rfl ?_
        first | refine pw_iincN5 103 rfl rfl rfl (by with_reducible rfl) ?_ | refine pw_iinc5 (w := _) 103 rfl rfl rfl rfl ?_
        refine pw_goto rfl 7 rfl ?_
        exact ih1
      | some b =>
        rw [hq] at ih1
        have hb1 := (bstF_lt hq).1
        have hx3 : 11 + b < 151 := by omega
        have hwj := gR_wf hw hj1
        have hwb := gR_wf hw (show b < rs.length by omega)
        have hlj : (pPh rs j).length ≤ 6 := hwj.2.2.1
        have hlb : (pPh rs b).length ≤ 6 := hwb.2.2.1
        simp only [hf, true_and] at ih1
        have eb : rI (some b) = nI b := rfl
        rw [eb]
        refine pw_iconst (v := nI 1) 50 rfl rfl (by decide) ?_
        refine pw_goto rfl 54 rfl ?_
        refine pw_istore6 56 rfl rfl rfl ?_
        refine pw_iload 58 rfl rfl rfl ?_
        refine pw_if_eq_f 61 rfl rfl (by decide) ?_
        refine pw_iload 63 rfl rfl rfl ?_
        refine pw_bipush (v := (-4)) 65 rfl rfl (by decide) ?_
        refine pw_icmp_eq_f 68 rfl rfl (nI_m4 (by omega)) ?_
        refine pw_aload_n 69 rfl rfl rfl ?_
        refine pw_getR 72 rfl rfl (by first | assumption | exact ⟨by decide, rfl⟩) rfl ?_
        refine pw_bipush (v := nI 11) 74 rfl rfl (by decide) ?_
        refine pw_iload 76 rfl rfl rfl ?_
        first | refine pw_iaddN 77 rfl rfl (by with_reducible rfl) (by with_reducible rfl) ?_ | refine pw_iadd 77 rfl rfl ?_
        refine pw_iald _ 78 rfl rfl (by first | assumption | exact ⟨by decide, rfl, by decide⟩) (by with_reducible rfl) (by first | assumption | omega) ?_
        rw [(hr.2 j hj1).2.1]
        refine pw_aload_n 79 rfl rfl rfl ?_
        refine pw_getR 82 rfl rfl (by first | assumption | exact ⟨by decide, rfl⟩) rfl ?_
        refine pw_bipush (v := nI 11) 84 rfl rfl (by decide) ?_
        refine pw_iload 86 rfl rfl rfl ?_
        first | refine pw_iaddN 87 rfl rfl (by with_reducible rfl) (by with_reducible rfl) ?_ | refine pw_iadd 87 rfl rfl ?_
        refine pw_iald _ 88 rfl rfl (by first | assumption | exact ⟨by decide, rfl, by decide⟩) (by with_reducible rfl) (by first | assumption | omega) ?_
        rw [(hr.2 b (by omega)).2.1]
        refine pw_icmp_le 96 91 rfl rfl rfl (fun q => ?_) (fun q => ?_)
        · have q := (nI_leI (by omega) (by omega)).mp q
          rw [if_neg (by omega)] at ih1
          refine pw_iload 98 rfl rfl rfl ?_
          refine pw_istore4 100 rfl rfl rfl ?_
          first | refine pw_iincN5 103 rfl rfl rfl (by with_reducible rfl) ?_ | refine pw_iinc5 (w := _) 103 rfl rfl rfl rfl ?_
          refine pw_goto rfl 7 rfl ?_
          exact ih1
        · have q : ¬ (pPh rs j).length ≤ (pPh rs b).length := fun h => q ((nI_leI (by omega) (by omega)).mpr h)
          rw [if_pos (by omega)] at ih1
          refine pw_iload 93 rfl rfl rfl ?_
          refine pw_goto rfl 98 rfl ?_
          refine pw_istore4 100 rfl rfl rfl ?_
          first | refine pw_iincN5 103 rfl rfl rfl (by with_reducible rfl) ?_ | refine pw_iinc5 (w := _) 103 rfl rfl rfl rfl ?_
          refine pw_goto rfl 7 rfl ?_
          exact ih1
    refine pw_iload 9 rfl rfl rfl ?_
    refine pw_aload_n 10 rfl rfl rfl ?_
    refine pw_getR 13 rfl rfl (by first | assumption | exact ⟨by decide, rfl⟩) rfl ?_
    refine pw_iconst (v := nI 0) 14 rfl rfl (by decide) ?_
    refine pw_iald _ 15 rfl rfl (by first | assumption | exact ⟨by decide, rfl, by decide⟩) (by with_reducible rfl) (by first | assumption | omega) ?_
    rw [hr.1]
    refine pw_icmp_ge_f 18 rfl rfl (nI_ge hj1 (by omega)) ?_
    refine pw_iload_n 19 rfl rfl rfl ?_
    refine pw_iload 21 rfl rfl rfl ?_
    refine pw_cS2 24 rfl rfl rfl (Nat.le_of_ble_eq_true rfl) rfl rfl (Nat.le_of_ble_eq_true rfl) (c_has hst (by omega) ?_)
    refine pw_pI ?_
    by_cases q1 : st.testBit j = true
    · rw [if_pos q1]
      skip
      refine pw_if_eq_f 27 rfl rfl (by decide) ?_
      refine pw_aload_n 28 rfl rfl rfl ?_
      refine pw_iconst (v := nI 1) 29 rfl rfl (by decide) ?_
      refine pw_iald _ 30 rfl rfl (by first | assumption | exact ⟨by decide, rfl, by decide⟩) (by with_reducible rfl) (by first | assumption | omega) ?_
      refine pw_iload 32 rfl rfl rfl ?_
      rw [hl.2.1]
      refine pw_cS2 35 rfl rfl rfl (Nat.le_of_ble_eq_true rfl) rfl rfl (Nat.le_of_ble_eq_true rfl) (c_has hon (by omega) ?_)
      refine pw_pI ?_
      by_cases q2 : on.testBit j = true
      · rw [if_pos q2]
        skip
        refine pw_if_eq_f 38 rfl rfl (by decide) ?_
        refine pw_aload_n 39 rfl rfl rfl ?_
        refine pw_aload_n 40 rfl rfl rfl ?_
        refine pw_iload 42 rfl rfl rfl ?_
        refine pw_iload_n 43 rfl rfl rfl ?_
        refine pw_cV3 46 rfl rfl (by first | assumption | exact ⟨by decide, rfl⟩) rfl (Nat.le_of_ble_eq_true rfl) rfl rfl (Nat.le_of_ble_eq_true rfl) (c_standsM hb0 ht hr hw h10 hl h60 hj1 hp (hk j hj1).1 (hk j hj1).2 (hu j hj1).1 (hu j hj1).2 (fun h => ?_) (fun h => ?_))
        · refine pw_pI ?_
          skip
          refine pw_if_eq_f 49 rfl rfl (by decide) ?_
          exact yes (by unfold fB; rw [q1, q2, h]; rfl)
        · refine pw_pI ?_
          skip
          refine pw_if_eq_t 53 rfl rfl (by decide) ?_
          exact no (by unfold fB; rw [q1, q2, h]; rfl)
      · rw [if_neg q2]
        have q2 : on.testBit j = false := by simpa using q2
        skip
        refine pw_if_eq_t 53 rfl rfl (by decide) ?_
        exact no (by unfold fB; rw [q1, q2]; rfl)
    · rw [if_neg q1]
      have q1 : st.testBit j = false := by simpa using q1
      skip
      refine pw_if_eq_t 53 rfl rfl (by decide) ?_
      exact no (by unfold fB; rw [q1]; rfl)
theorem c_ruleAt {kt st p s : Nat} {c : Nat → Nat} (hb : isMod sh k) (ht : pmAy sh kt 0 122 []) (hr : ruled (M (k + 2)) rs) (hw : ∀ r ∈ rs, wfR r) (h10 : rs.length ≤ 10) (hl : lnAt (M kt) ls ss on) (h60 : ls.length ≤ 60) (hp : p < ls.length) (hst : st < 1024) (hon : on < 1024) (hk : ∀ r, r < rs.length → M (k + 19) r = nI (kd.getD r 0) ∧ kd.getD r 0 < 5) (hu : ∀ r, r < rs.length → M (k + 17) r = nI (c r) ∧ c r < 1000) (hs : ∀ r, r < rs.length → s.testBit r = (st.testBit r && on.testBit r && !(decide (kd.getD r 0 = 4) && decide (c r ≠ 0)))) (kk : Q (some (.int (rI (usd rs kd ls s p)))) sh M N) : PW mX11_ruleAt 0 [.ref k, .ref kt, .int (nI st), .int (nI p), .null, .null, .null] [] sh M N Q := by
  rw [← fB_usd hw hs] at kk
  refine pw_bipush (v := (-4)) 2 rfl rfl (by decide) ?_
  refine pw_istore4 4 rfl rfl rfl ?_
  refine pw_iconst (v := nI 0) 5 rfl rfl (by decide) ?_
  refine pw_istore5 7 rfl rfl rfl ?_
  exact ruleAt_loop hb ht hr hw h10 hl h60 hp hst hon hk hu kk _ 0 _ (Nat.zero_add _)
theorem gz_one {kt st : Nat} (hb : isMod sh k) (kk : ∀ M', (∀ x, x ≠ k + 17 → M' x = M x) → (∀ j, j < 10 → M' (k + 17) j = nI 0) → PW mX11_goesOver 31 [.ref k, .ref kt, .int (nI st), .int (nI 0), .int (nI 10), .null, .null] [] sh M' N Q) :
    ∀ (d i : Nat) (M1 : pmM), i + d = 10 → (∀ x, x ≠ k + 17 → M1 x = M x) → (∀ j, j < i → M1 (k + 17) j = nI 0) → PW mX11_goesOver 10 [.ref k, .ref kt, .int (nI st), .int (nI 0), .int (nI i), .null, .null] [] sh M1 N Q := by
  obtain ⟨b0, a1, a2, a3, a4, a5, a6, a7, a8, a9, a10, a11, a12, a13, a14, a15, a16, a17, a18, a19, a20⟩ := hb
  intro d
  induction d with
  | zero =>
    intro i M1 hi hf hv
    have : i = 10 := by omega
    subst this
    refine pw_iload 12 rfl rfl rfl ?_
    refine pw_bipush (v := nI 10) 14 rfl rfl (by decide) ?_
    refine pw_icmp_ge_t 31 rfl rfl (by decide) ?_
    exact kk M1 hf hv
  | succ d ih =>
    intro i M1 hi hf hv
    have hx : i < 10 := by omega
    refine pw_iload 12 rfl rfl rfl ?_
    refine pw_bipush (v := nI 10) 14 rfl rfl (by decide) ?_
    refine pw_icmp_ge_f 17 rfl rfl (nI_ge (by omega) (by omega)) ?_
    refine pw_aload_n 18 rfl rfl rfl ?_
    refine pw_getR 21 rfl rfl (by first | assumption | exact ⟨by decide, rfl⟩) rfl ?_
    refine pw_iload 23 rfl rfl rfl ?_
    refine pw_iconst (v := nI 0) 24 rfl rfl (by decide) ?_
    refine pw_iast _ 25 rfl rfl (by first | assumption | exact ⟨by decide, rfl, by decide⟩) (by with_reducible rfl) (by first | assumption | omega) ?_
    first | refine pw_iincN4 28 rfl rfl rfl (by with_reducible rfl) ?_ | refine pw_iinc4 (w := _) 28 rfl rfl rfl rfl ?_
    refine pw_goto rfl 10 rfl ?_
    refine ih (i + 1) _ (by omega) (fun x hx => by rw [st_ne _ _ _ _ hx, hf x hx]) (fun j hj => ?_)
    by_cases q : j = i
    · subst q; exact st_same _ _ _ _
    · rw [st_row _ _ _ _ q]; exact hv j (by omega)
theorem gz_two {kt st : Nat} (hb : isMod sh k) (kk : ∀ M', (∀ x, x ≠ k + 18 → M' x = M x) → (∀ j, j < 60 → M' (k + 18) j = -4) → PW mX11_goesOver 56 [.ref k, .ref kt, .int (nI st), .int (nI 0), .int (nI 60), .null, .null] [] sh M' N Q) :
    ∀ (d i : Nat) (M1 : pmM), i + d = 60 → (∀ x, x ≠ k + 18 → M1 x = M x) → (∀ j, j < i → M1 (k + 18) j = -4) → PW mX11_goesOver 34 [.ref k, .ref kt, .int (nI st), .int (nI 0), .int (nI i), .null, .null] [] sh M1 N Q := by
  obtain ⟨b0, a1, a2, a3, a4, a5, a6, a7, a8, a9, a10, a11, a12, a13, a14, a15, a16, a17, a18, a19, a20⟩ := hb
  intro d
  induction d with
  | zero =>
    intro i M1 hi hf hv
    have : i = 60 := by omega
    subst this
    refine pw_iload 36 rfl rfl rfl ?_
    refine pw_bipush (v := nI 60) 38 rfl rfl (by decide) ?_
    refine pw_icmp_ge_t 56 rfl rfl (by decide) ?_
    exact kk M1 hf hv
  | succ d ih =>
    intro i M1 hi hf hv
    have hx : i < 60 := by omega
    refine pw_iload 36 rfl rfl rfl ?_
    refine pw_bipush (v := nI 60) 38 rfl rfl (by decide) ?_
    refine pw_icmp_ge_f 41 rfl rfl (nI_ge (by omega) (by omega)) ?_
    refine pw_aload_n 42 rfl rfl rfl ?_
    refine pw_getR 45 rfl rfl (by first | assumption | exact ⟨by decide, rfl⟩) rfl ?_
    refine pw_iload 47 rfl rfl rfl ?_
    refine pw_bipush (v := (-4)) 49 rfl rfl (by decide) ?_
    refine pw_iast _ 50 rfl rfl (by first | assumption | exact ⟨by decide, rfl, by decide⟩) (by with_reducible rfl) (by first | assumption | omega) ?_
    first | refine pw_iincN4 53 rfl rfl rfl (by with_reducible rfl) ?_ | refine pw_iinc4 (w := _) 53 rfl rfl rfl rfl ?_
    refine pw_goto rfl 34 rfl ?_
    refine ih (i + 1) _ (by omega) (fun x hx => by rw [st_ne _ _ _ _ hx, hf x hx]) (fun j hj => ?_)
    by_cases q : j = i
    · subst q; exact st_same _ _ _ _
    · rw [st_row _ _ _ _ q]; exact hv j (by omega)
/-- the letters that came so far -/
def cme (M : pmM) (k : Nat) (A B : List Int32) : Prop := M k 24 = nI A.length ∧ B.length = A.length ∧ ∀ i, i < A.length → M (k + 15) i = A.getD i 0 ∧ M (k + 16) i = B.getD i 0
theorem cme_app {M M' : pmM} {A B : List Int32} {v w : Int32} (h : cme M k A B) (h1 : M' k 24 = nI (A.length + 1)) (h2 : M' (k + 15) = upd (M (k + 15)) A.length v) (h3 : M' (k + 16) = upd (M (k + 16)) A.length w) : cme M' k (A ++ [v]) (B ++ [w]) := by
  obtain ⟨e1, e2, e3⟩ := h
  refine ⟨by rw [h1, List.length_append]; rfl, by rw [List.length_append, List.length_append, e2]; rfl, fun i hi => ?_⟩
  rw [List.length_append, List.length_singleton] at hi
  rw [h2, h3, getD_app, getD_app, e2]
  by_cases q : i = A.length
  · subst q
    rw [if_neg (by omega), if_pos rfl, if_neg (by omega), if_pos rfl]
    exact ⟨upd_at, upd_at⟩
  · rw [if_pos (by omega), if_pos (by omega), upd_no q, upd_no q]
    exact e3 i (by omega)
theorem gift_loop {kt p r : Nat} {x2 x3 : Int32} {A B : List Int32} (hb : isMod sh k) (ht : pmAy sh kt 0 122 []) (hkt : kt = k + 3 ∨ kt = k + 20) (hr : ruled (M (k + 2)) rs) (hw : ∀ r ∈ rs, wfR r) (h10 : rs.length ≤ 10) (hl : lnAt (M kt) ls ss on) (h60 : ls.length ≤ 60) (hp : p < ls.length) (hr1 : r < rs.length) (hk : M (k + 19) r = nI (kd.getD r 0) ∧ kd.getD r 0 < 5) (hA : A.length ≤ 354)
    (kk : ∀ M', (∀ x, x ≠ k → x ≠ k + 15 → x ≠ k + 16 → M' x = M x) → (∀ j, j ≠ 24 → M' k j = M k j) → cme M' k (A ++ giv (kd.getD r 0) (pGf rs r)) (B ++ List.replicate (pGf rs r).length (ss.getD p 0)) → PW mX11_goesOver 159 [.ref k, .ref kt, .int x2, .int x3, .int (nI p), .int (nI r), .int (nI (pGf rs r).length)] [] sh M' N Q) :
    ∀ (d i : Nat) (M1 : pmM), i + d = (pGf rs r).length → (∀ x, x ≠ k → x ≠ k + 15 → x ≠ k + 16 → M1 x = M x) → (∀ j, j ≠ 24 → M1 k j = M k j) → cme M1 k (A ++ (giv (kd.getD r 0) (pGf rs r)).take i) (B ++ List.replicate i (ss.getD p 0)) → PW mX11_goesOver 119 [.ref k, .ref kt, .int x2, .int x3, .int (nI p), .int (nI r), .int (nI i)] [] sh M1 N Q := by
  have hb0 := hb
  obtain ⟨b0, a1, a2, a3, a4, a5, a6, a7, a8, a9, a10, a11, a12, a13, a14, a15, a16, a17, a18, a19, a20⟩ := hb
  have hl6 : (pGf rs r).length ≤ 6 := (gR_wf hw hr1).2.2.2
  have hgl := giv_len (kd.getD r 0) (pGf rs r)
  have hx1 : 21 + r < 151 := by omega
  have hx2 : 62 + p < 122 := by omega
  intro d
  induction d with
  | zero =>
    intro i M1 hi hf hg hc
    have : i = (pGf rs r).length := by omega
    subst this
    rw [List.take_of_length_le (by omega)] at hc
    refine pw_iload 121 rfl rfl rfl ?_
    refine pw_aload_n 122 rfl rfl rfl ?_
    refine pw_getR 125 rfl rfl (by first | assumption | exact ⟨by decide, rfl⟩) rfl ?_
    refine pw_bipush (v := nI 21) 127 rfl rfl (by decide) ?_
    refine pw_iload 129 rfl rfl rfl ?_
    first | refine pw_iaddN 130 rfl rfl (by with_reducible rfl) (by with_reducible rfl) ?_ | refine pw_iadd 130 rfl rfl ?_
    refine pw_iald _ 131 rfl rfl (by first | assumption | exact ⟨by decide, rfl, by decide⟩) (by with_reducible rfl) (by first | assumption | omega) ?_
    rw [hf (k + 2) (by omega) (by omega) (by omega), (hr.2 r hr1).2.2.1]
    refine pw_icmp_ge_t 159 rfl rfl (nI_le (by omega) (by omega)) ?_
    exact kk M1 hf hg hc
  | succ d ih =>
    intro i M1 hi hf hg hc
    have hlt : i < (pGf rs r).length := by omega
    have e2 : M1 (k + 2) = M (k + 2) := hf (k + 2) (by omega) (by omega) (by omega)
    have e3 : M1 kt = M kt := hf kt (by omega) (by omega) (by omega)
    refine pw_iload 121 rfl rfl rfl ?_
    refine pw_aload_n 122 rfl rfl rfl ?_
    refine pw_getR 125 rfl rfl (by first | assumption | exact ⟨by decide, rfl⟩) rfl ?_
    refine pw_bipush (v := nI 21) 127 rfl rfl (by decide) ?_
    refine pw_iload 129 rfl rfl rfl ?_
    first | refine pw_iaddN 130 rfl rfl (by with_reducible rfl) (by with_reducible rfl) ?_ | refine pw_iadd 130 rfl rfl ?_
    refine pw_iald _ 131 rfl rfl (by first | assumption | exact ⟨by decide, rfl, by decide⟩) (by with_reducible rfl) (by first | assumption | omega) ?_
    rw [e2, (hr.2 r hr1).2.2.1]
    refine pw_icmp_ge_f 134 rfl rfl (nI_ge (by omega) (by omega)) ?_
    refine pw_aload_n 135 rfl rfl rfl ?_
    refine pw_aload_n 136 rfl rfl rfl ?_
    refine pw_iload 138 rfl rfl rfl ?_
    refine pw_iload 140 rfl rfl rfl ?_
    refine pw_cV2 143 rfl rfl (by first | assumption | exact ⟨by decide, rfl⟩) rfl (Nat.le_of_ble_eq_true rfl) rfl rfl (Nat.le_of_ble_eq_true rfl) (c_givenBy hb0 (by rw [e2]; exact hr) hw h10 hr1 hlt (by rw [hf (k + 19) (by omega) (by omega) (by omega)]; exact hk.1) hk.2 ?_)
    refine pw_pI ?_
    refine pw_aload_n 144 rfl rfl rfl ?_
    refine pw_bipush (v := nI 62) 146 rfl rfl (by decide) ?_
    refine pw_iload 148 rfl rfl rfl ?_
    first | refine pw_iaddN 149 rfl rfl (by with_reducible rfl) (by with_reducible rfl) ?_ | refine pw_iadd 149 rfl rfl ?_
    refine pw_iald _ 150 rfl rfl (by first | assumption | exact ⟨by decide, rfl, by decide⟩) (by with_reducible rfl) (by first | assumption | omega) ?_
    rw [e3, hl.2.2.2 p hp]
    refine pw_cV2 153 rfl rfl (by first | assumption | exact ⟨by decide, rfl⟩) rfl (Nat.le_of_ble_eq_true rfl) rfl rfl (Nat.le_of_ble_eq_true rfl) (c_comesIn hb0 (n := (A ++ (giv (kd.getD r 0) (pGf rs r)).take i).length) (by rw [List.length_append, List.length_take]; omega) hc.1 (fun M2 f2 g2 n2 m2 o2 => ?_))
    refine pw_pV ?_
    first | refine pw_iincN6 156 rfl rfl rfl (by with_reducible rfl) ?_ | refine pw_iinc6 (w := _) 156 rfl rfl rfl rfl ?_
    refine pw_goto rfl 119 rfl ?_
    refine ih (i + 1) M2 (by omega) (fun x h1 h2 h3 => by rw [f2 x h1 h2 h3, hf x h1 h2 h3]) (fun j hj => by rw [g2 j hj, hg j hj]) ?_
    have h9 := cme_app hc n2 m2 o2
    rw [List.append_assoc, List.append_assoc, ← take_getD (by omega), ← List.replicate_succ'] at h9
    exact h9
theorem over_loop {kt st s0 : Nat} (hb : isMod sh k) (ht : pmAy sh kt 0 122 []) (hkt : kt = k + 3 ∨ kt = k + 20) (hr : ruled (M (k + 2)) rs) (hw : ∀ r ∈ rs, wfR r) (h10 : rs.length ≤ 10) (hl : lnAt (M kt) ls ss on) (h60 : ls.length ≤ 60) (hst : st < 1024) (hon : on < 1024) (hk : ∀ r, r < rs.length → M (k + 19) r = nI (kd.getD r 0) ∧ kd.getD r 0 < 5)
    {OL OS OU OV : List Int32} (kk : ∀ M', frG k M M' → gvn M' k OL OS OU OV → Q (some (.int (sumI OV))) sh M' N) :
    ∀ (d p s : Nat) (A B U V : List Int32) (c : Nat → Nat) (M1 : pmM) (v5 v6 : Value), ls.length - p ≤ d → p ≤ 66 → frG k M M1 → cme M1 k A B → A.length ≤ 6 * p → U.length = ls.length → (∀ i, i < ls.length → M1 (k + 18) i = U.getD i 0) → (∀ i, p ≤ i → i < ls.length → U.getD i 0 = -4) → V.length = rs.length → (∀ r, r < rs.length → M1 (k + 17) r = V.getD r 0 ∧ V.getD r 0 = nI (c r) ∧ c r ≤ p) → (∀ r, r < rs.length → s.testBit r = (st.testBit r && on.testBit r && !(decide (kd.getD r 0 = 4) && decide (c r ≠ 0)))) →
      A ++ outL rs kd ls (tr rs kd ls p s) = OL → B ++ outS rs ss (tr rs kd ls p s) = OS → uAt (tr rs kd ls p s) U = OU → uCt (tr rs kd ls p s) V = OV → PW mX11_goesOver 59 [.ref k, .ref kt, .int (nI st), .int (sumI V), .int (nI p), v5, v6] [] sh M1 N Q := by
  have hb0 := hb
  obtain ⟨b0, a1, a2, a3, a4, a5, a6, a7, a8, a9, a10, a11, a12, a13, a14, a15, a16, a17, a18, a19, a20⟩ := hb
  intro d
  induction d with
  | zero =>
    intro p s A B U V c M1 v5 v6 hd hp hf hc hA hU hu hU2 hV hv hs e1 e2 e3 e4
    rw [tr_end (by omega)] at e1 e2 e3 e4
    have e1 : A = OL := by rw [← e1]; simp [outL]
    have e2 : B = OS := by rw [← e2]; simp [outS]
    have e3 : U = OU := e3
    have e4 : V = OV := e4
    subst e1 e2 e3 e4
    refine pw_iload 61 rfl rfl rfl ?_
    refine pw_aload_n 62 rfl rfl rfl ?_
    refine pw_iconst (v := nI 0) 63 rfl rfl (by decide) ?_
    refine pw_iald _ 64 rfl rfl (by first | assumption | exact ⟨by decide, rfl, by decide⟩) (by with_reducible rfl) (by first | assumption | omega) ?_
    rw [hf.1 kt (by omega) (by omega), hl.1]
    refine pw_icmp_ge_t 191 rfl rfl (nI_le (by omega) (by omega)) ?_
    refine pw_iload_n 192 rfl rfl rfl ?_
    exact pw_iret rfl rfl (kk M1 hf ⟨hc.1, hc.2.2, fun i hi => hu i (by omega), fun r hr => (hv r (by omega)).1⟩)
  | succ d ih =>
    intro p s A B U V c M1 v5 v6 hd hp hf hc hA hU hu hU2 hV hv hs e1 e2 e3 e4
    have l1 : lnAt (M1 kt) ls ss on := by rw [hf.1 kt (by omega) (by omega)]; exact hl
    have r1 : ruled (M1 (k + 2)) rs := by rw [hf.1 (k + 2) (by omega) (by omega)]; exact hr
    have k1 : ∀ r, r < rs.length → M1 (k + 19) r = nI (kd.getD r 0) ∧ kd.getD r 0 < 5 := by rw [hf.1 (k + 19) (by omega) (by omega)]; exact hk
    refine pw_iload 61 rfl rfl rfl ?_
    refine pw_aload_n 62 rfl rfl rfl ?_
    refine pw_iconst (v := nI 0) 63 rfl rfl (by decide) ?_
    refine pw_iald _ 64 rfl rfl (by first | assumption | exact ⟨by decide, rfl, by decide⟩) (by with_reducible rfl) (by first | assumption | omega) ?_
    rw [l1.1]
    by_cases hlt : p < ls.length
    · have hx1 : 2 + p < 122 := by omega
      have hx2 : 62 + p < 122 := by omega
      have hx3 : p < 60 := by omega
      have hadv := adv_pos (rs := rs) (kd := kd) (ls := ls) (s := s) (p := p)
      rw [tr_go hlt] at e1 e2 e3 e4
      skip
      refine pw_icmp_ge_f 67 rfl rfl (nI_ge hlt (by omega)) ?_
      refine pw_aload_n 68 rfl rfl rfl ?_
      refine pw_aload_n 69 rfl rfl rfl ?_
      refine pw_iload_n 70 rfl rfl rfl ?_
      refine pw_iload 72 rfl rfl rfl ?_
      refine pw_cV3 75 rfl rfl (by first | assumption | exact ⟨by decide, rfl⟩) rfl (Nat.le_of_ble_eq_true rfl) rfl rfl (Nat.le_of_ble_eq_true rfl) (c_ruleAt (c := c) (s := s) hb0 ht r1 hw h10 l1 h60 hlt hst hon k1 (fun r hr => ⟨by rw [(hv r hr).1, (hv r hr).2.1], by have := (hv r hr).2.2; omega⟩) hs ?_)
      refine pw_pI ?_
      cases hq : usd rs kd ls s p with
      | none =>
        rw [hq] at e1 e2 e3 e4
        have e0 : rI (none : Option Nat) = -4 := rfl
        rw [e0]
        refine pw_istore5 77 rfl rfl rfl ?_
        refine pw_aload_n 78 rfl rfl rfl ?_
        refine pw_getR 81 rfl rfl (by first | assumption | exact ⟨by decide, rfl⟩) rfl ?_
        refine pw_iload 83 rfl rfl rfl ?_
        refine pw_iload 85 rfl rfl rfl ?_
        refine pw_iast _ 86 rfl rfl (by first | assumption | exact ⟨by decide, rfl, by decide⟩) (by with_reducible rfl) (by first | assumption | omega) ?_
        refine pw_iload 88 rfl rfl rfl ?_
        refine pw_bipush (v := (-4)) 90 rfl rfl (by decide) ?_
        refine pw_icmp_ne_f 93 rfl rfl (fun e => e rfl) ?_
        have e9 : ∀ x, x ≠ k + 18 → pmSt M1 (k + 18) p (-4) x = M1 x := fun x hx => st_ne _ _ _ _ hx
        refine pw_aload_n 94 rfl rfl rfl ?_
        refine pw_aload_n 95 rfl rfl rfl ?_
        refine pw_iconst (v := nI 2) 96 rfl rfl (by decide) ?_
        refine pw_iload 98 rfl rfl rfl ?_
        first | refine pw_iaddN 99 rfl rfl (by with_reducible rfl) (by with_reducible rfl) ?_ | refine pw_iadd 99 rfl rfl ?_
        refine pw_iald _ 100 rfl rfl (by first | assumption | exact ⟨by decide, rfl, by decide⟩) (by with_reducible rfl) (by first | assumption | omega) ?_
        rw [e9 kt (by omega), l1.2.2.1 p hlt]
        refine pw_aload_n 101 rfl rfl rfl ?_
        refine pw_bipush (v := nI 62) 103 rfl rfl (by decide) ?_
        refine pw_iload 105 rfl rfl rfl ?_
        first | refine pw_iaddN 106 rfl rfl (by with_reducible rfl) (by with_reducible rfl) ?_ | refine pw_iadd 106 rfl rfl ?_
        refine pw_iald _ 107 rfl rfl (by first | assumption | exact ⟨by decide, rfl, by decide⟩) (by with_reducible rfl) (by first | assumption | omega) ?_
        rw [e9 kt (by omega), l1.2.2.2 p hlt]
        refine pw_cV2 110 rfl rfl (by first | assumption | exact ⟨by decide, rfl⟩) rfl (Nat.le_of_ble_eq_true rfl) rfl rfl (Nat.le_of_ble_eq_true rfl) (c_comesIn hb0 (n := A.length) (by omega) (by rw [e9 k (by omega)]; exact hc.1) (fun M2 f2 g2 n2 m2 o2 => ?_))
        refine pw_pV ?_
        rw [e9 (k + 15) (by omega)] at m2
        rw [e9 (k + 16) (by omega)] at o2
        first | refine pw_iincN4 113 rfl rfl rfl (by with_reducible rfl) ?_ | refine pw_iinc4 (w := _) 113 rfl rfl rfl rfl ?_
        refine pw_goto rfl 188 rfl ?_
        refine pw_goto rfl 59 rfl ?_
        refine ih (p + 1) s (A ++ [ls.getD p 0]) (B ++ [ss.getD p 0]) U V c M2 _ _ (by omega) (by omega) ?_ (cme_app hc n2 m2 o2) (by rw [List.length_append, List.length_singleton]; omega) hU (fun i hi => ?_) (fun i h1 h2 => hU2 i (by omega) h2) hV (fun r hr => ?_) hs ?_ ?_ e3 e4
        · exact ⟨fun x h1 h2 => by rw [f2 x h1 (by omega) (by omega), e9 x (by omega), hf.1 x h1 h2], fun j hj => by rw [g2 j hj, e9 k (by omega), hf.2 j hj]⟩
        · rw [f2 (k + 18) (by omega) (by omega) (by omega)]
          by_cases q : i = p
          · subst q; rw [st_same, hU2 i (Nat.le_refl _) hi]
          · rw [st_row _ _ _ _ q]; exact hu i hi
        · rw [f2 (k + 17) (by omega) (by omega) (by omega), e9 (k + 17) (by omega)]
          exact ⟨(hv r hr).1, (hv r hr).2.1, by have := (hv r hr).2.2; omega⟩
        · rw [← e1, List.append_assoc]; rfl
        · rw [← e2, List.append_assoc]; rfl
      | some r =>
        rw [hq] at e1 e2 e3 e4 hadv
        have hus := usd_some hq
        have hr1 := hus.1
        have h6 : (pPh rs r).length ≤ 6 := hus.2.2.1
        have hx4 : 11 + r < 151 := by omega
        have hx5 : r < 10 := by omega
        have hg6 : (pGf rs r).length ≤ 6 := (gR_wf hw hr1).2.2.2
        have e0 : rI (some r) = nI r := rfl
        rw [e0]
        refine pw_istore5 77 rfl rfl rfl ?_
        refine pw_aload_n 78 rfl rfl rfl ?_
        refine pw_getR 81 rfl rfl (by first | assumption | exact ⟨by decide, rfl⟩) rfl ?_
        refine pw_iload 83 rfl rfl rfl ?_
        refine pw_iload 85 rfl rfl rfl ?_
        refine pw_iast _ 86 rfl rfl (by first | assumption | exact ⟨by decide, rfl, by decide⟩) (by with_reducible rfl) (by first | assumption | omega) ?_
        refine pw_iload 88 rfl rfl rfl ?_
        refine pw_bipush (v := (-4)) 90 rfl rfl (by decide) ?_
        refine pw_icmp_ne_t 116 rfl rfl (nI_m4 (by omega)) ?_
        have e9 : ∀ x, x ≠ k + 18 → pmSt M1 (k + 18) p (nI r) x = M1 x := fun x hx => st_ne _ _ _ _ hx
        refine pw_iconst (v := nI 0) 117 rfl rfl (by decide) ?_
        refine pw_istore6 119 rfl rfl rfl ?_
        refine gift_loop (kd := kd) (A := A) (B := B) (ss := ss) (ls := ls) (on := on) hb0 ht hkt (by rw [e9 (k + 2) (by omega)]; exact r1) hw h10 (by rw [e9 kt (by omega)]; exact l1) h60 hlt hr1 (by rw [e9 (k + 19) (by omega)]; exact k1 r hr1) (by omega) (fun M2 f2 g2 c2 => ?_) _ 0 _ (Nat.zero_add _) (fun _ _ _ _ => rfl) (fun _ _ => rfl) (by rw [List.take_zero, List.replicate_zero, List.append_nil, List.append_nil]; exact ⟨by rw [e9 k (by omega)]; exact hc.1, hc.2.1, by rw [e9 (k + 15) (by omega), e9 (k + 16) (by omega)]; exact hc.2.2⟩)
        have u2 : M2 (k + 17) = M1 (k + 17) := by rw [f2 (k + 17) (by omega) (by omega) (by omega), e9 (k + 17) (by omega)]
        have r2 : M2 (k + 2) = M1 (k + 2) := by rw [f2 (k + 2) (by omega) (by omega) (by omega), e9 (k + 2) (by omega)]
        refine pw_aload_n 160 rfl rfl rfl ?_
        refine pw_getR 163 rfl rfl (by first | assumption | exact ⟨by decide, rfl⟩) rfl ?_
        refine pw_iload 165 rfl rfl rfl ?_
        refine pw_dup2 166 rfl rfl ⟨rfl, rfl⟩ ?_
        refine pw_iald _ 167 rfl rfl (by first | assumption | exact ⟨by decide, rfl, by decide⟩) (by with_reducible rfl) (by first | assumption | omega) ?_
        rw [u2, (hv r hr1).1]
        refine pw_iconst (v := nI 1) 168 rfl rfl (by decide) ?_
        first | refine pw_iaddN 169 rfl rfl (by with_reducible rfl) (by with_reducible rfl) ?_ | refine pw_iadd 169 rfl rfl ?_
        refine pw_iast _ 170 rfl rfl (by first | assumption | exact ⟨by decide, rfl, by decide⟩) (by with_reducible rfl) (by first | assumption | omega) ?_
        first | refine pw_iincN3 173 rfl rfl rfl (by with_reducible rfl) ?_ | refine pw_iinc3 (w := _) 173 rfl rfl rfl rfl ?_
        refine pw_iload 175 rfl rfl rfl ?_
        refine pw_aload_n 176 rfl rfl rfl ?_
        refine pw_getR 179 rfl rfl (by first | assumption | exact ⟨by decide, rfl⟩) rfl ?_
        refine pw_bipush (v := nI 11) 181 rfl rfl (by decide) ?_
        refine pw_iload 183 rfl rfl rfl ?_
        first | refine pw_iaddN 184 rfl rfl (by with_reducible rfl) (by with_reducible rfl) ?_ | refine pw_iadd 184 rfl rfl ?_
        refine pw_iald _ 185 rfl rfl (by first | assumption | exact ⟨by decide, rfl, by decide⟩) (by with_reducible rfl) (by first | assumption | omega) ?_
        rw [st_ne _ _ _ _ (by omega), r2, (r1.2 r hr1).2.1]
        first | refine pw_iaddN 186 rfl rfl (by with_reducible rfl) (by with_reducible rfl) ?_ | refine pw_iadd 186 rfl rfl ?_
        refine pw_istore4 188 rfl rfl rfl ?_
        refine pw_goto rfl 59 rfl ?_
        have e8 : ∀ x, x ≠ k + 17 → pmSt M2 (k + 17) r (V.getD r 0 + nI 1) x = M2 x := fun x hx => st_ne _ _ _ _ hx
        have hsum : sumI V + Int32.ofInt 1 = sumI (V.set r (V.getD r 0 + nI 1)) := by rw [sumI_set V r (by omega)]; rfl
        rw [hsum]
        have had : adv rs (some r) = (pPh rs r).length := rfl
        rw [had] at e1 e2 e3 e4 hadv
        refine ih (p + (pPh rs r).length) (lef kd s (some r)) (A ++ giv (kd.getD r 0) (pGf rs r)) (B ++ List.replicate (pGf rs r).length (ss.getD p 0)) (U.set p (nI r)) (V.set r (V.getD r 0 + nI 1)) (fun x => if x = r then c r + 1 else c x) _ _ _ (by omega) (by omega) ?_ ⟨by rw [e8 k (by omega)]; exact c2.1, c2.2.1, by rw [e8 (k + 15) (by omega), e8 (k + 16) (by omega)]; exact c2.2.2⟩ ?_ (by rw [List.length_set]; exact hU) (fun i hi => ?_) (fun i h1 h2 => ?_) (by rw [List.length_set]; exact hV) (fun x hx => ?_) (fun x hx => ?_) ?_ ?_ e3 e4
        · exact ⟨fun x h1 h2 => by rw [e8 x (by omega), f2 x h1 (by omega) (by omega), e9 x (by omega), hf.1 x h1 h2], fun j hj => by rw [e8 k (by omega), g2 j hj, e9 k (by omega), hf.2 j hj]⟩
        · rw [List.length_append, giv_len]; omega
        · rw [e8 (k + 18) (by omega), f2 (k + 18) (by omega) (by omega) (by omega), getD_set (by omega)]
          by_cases q : i = p
          · subst q; rw [st_same, if_pos rfl]
          · rw [st_row _ _ _ _ q, if_neg q]; exact hu i hi
        · rw [getD_set (by omega), if_neg (by omega)]; exact hU2 i (by omega) h2
        · rw [getD_set (by omega)]
          by_cases q : x = r
          · subst q
            simp only [if_true]
            rw [st_same]
            exact ⟨rfl, by rw [(hv x hx).2.1, nI_add], by have := (hv x hx).2.2; omega⟩
          · simp only [if_neg q]
            rw [st_row _ _ _ _ q, u2]
            exact ⟨(hv x hx).1, (hv x hx).2.1, by have := (hv x hx).2.2; omega⟩
        · have hsx := hs x hx
          unfold lef
          simp only
          by_cases q : x = r
          · subst q
            simp only [if_true]
            by_cases q4 : kd.getD x 0 = 4
            · rw [if_pos q4, clr_bit, decide_eq_true q4]; simp
            · rw [if_neg q4, hsx, decide_eq_false q4]; simp
          · simp only [if_neg q]
            by_cases q4 : kd.getD r 0 = 4
            · rw [if_pos q4, clr_bit, hsx, decide_eq_true (show x < 10 by omega), decide_eq_true q]; simp
            · rw [if_neg q4, hsx]
        · rw [← e1, List.append_assoc]; rfl
        · rw [← e2, List.append_assoc]; rfl
    · rw [tr_end (by omega)] at e1 e2 e3 e4
      have e1 : A = OL := by rw [← e1]; simp [outL]
      have e2 : B = OS := by rw [← e2]; simp [outS]
      have e3 : U = OU := e3
      have e4 : V = OV := e4
      subst e1 e2 e3 e4
      skip
      refine pw_icmp_ge_t 191 rfl rfl (nI_le (by omega) (by omega)) ?_
      refine pw_iload_n 192 rfl rfl rfl ?_
      exact pw_iret rfl rfl (kk M1 hf ⟨hc.1, hc.2.2, fun i hi => hu i (by omega), fun r hr => (hv r (by omega)).1⟩)
theorem c_goesOver {kt st s : Nat} (hb : isMod sh k) (ht : pmAy sh kt 0 122 []) (hkt : kt = k + 3 ∨ kt = k + 20) (hr : ruled (M (k + 2)) rs) (hw : ∀ r ∈ rs, wfR r) (h10 : rs.length ≤ 10) (hl : lnAt (M kt) ls ss on) (h60 : ls.length ≤ 60) (hst : st < 1024) (hon : on < 1024) (hk : ∀ r, r < rs.length → M (k + 19) r = nI (kd.getD r 0) ∧ kd.getD r 0 < 5) (hs : ∀ r, r < rs.length → s.testBit r = (st.testBit r && on.testBit r))
    (kk : ∀ M', frG k M M' → gvn M' k (outL rs kd ls (tr rs kd ls 0 s)) (outS rs ss (tr rs kd ls 0 s)) (uAt (tr rs kd ls 0 s) (List.replicate ls.length (-4))) (uCt (tr rs kd ls 0 s) (List.replicate rs.length 0)) → Q (some (.int (sumI (uCt (tr rs kd ls 0 s) (List.replicate rs.length 0))))) sh M' N) : PW mX11_goesOver 0 [.ref k, .ref kt, .int (nI st), .null, .null, .null, .null] [] sh M N Q := by
  have hb0 := hb
  obtain ⟨b0, a1, a2, a3, a4, a5, a6, a7, a8, a9, a10, a11, a12, a13, a14, a15, a16, a17, a18, a19, a20⟩ := hb
  have z0 : ∀ (n i : Nat) (v : Int32), i < n → (List.replicate n v).getD i 0 = v := fun n i v h => by
    rw [List.getD_eq_getElem?_getD, List.getElem?_replicate, if_pos h]; rfl
  have zs : ∀ n : Nat, sumI (List.replicate n (0 : Int32)) = nI 0 := by
    intro n
    induction n with
    | zero => rfl
    | succ n ih => rw [List.replicate_succ, sumI, ih]; rfl
  refine pw_iconst (v := nI 0) 1 rfl rfl (by decide) ?_
  refine pw_istore3 2 rfl rfl rfl ?_
  refine pw_aload_n 3 rfl rfl rfl ?_
  refine pw_iconst (v := nI 0) 4 rfl rfl (by decide) ?_
  refine pw_putI 7 rfl rfl (by first | assumption | exact ⟨by decide, rfl⟩) rfl (by decide) ?_
  refine pw_iconst (v := nI 0) 8 rfl rfl (by decide) ?_
  refine pw_istore4 10 rfl rfl rfl ?_
  refine gz_one hb0 (fun M1 f1 u1 => ?_) 10 0 _ (by decide) (fun _ _ => rfl) (fun j hj => absurd hj (Nat.not_lt_zero j))
  refine pw_iconst (v := nI 0) 32 rfl rfl (by decide) ?_
  refine pw_istore4 34 rfl rfl rfl ?_
  refine gz_two hb0 (fun M2 f2 u2 => ?_) 60 0 _ (by decide) (fun _ _ => rfl) (fun j hj => absurd hj (Nat.not_lt_zero j))
  refine pw_iconst (v := nI 0) 57 rfl rfl (by decide) ?_
  refine pw_istore4 59 rfl rfl rfl ?_
  have g : frG k M M2 := ⟨fun x h1 h2 => by rw [f2 x (by omega), f1 x (by omega), st_ne _ _ _ _ h1], fun j hj => by rw [f2 k (by omega), f1 k (by omega), st_row _ _ _ _ hj]⟩
  have := over_loop (s0 := s) (kd := kd) hb0 ht hkt hr hw h10 hl h60 hst hon hk kk ls.length 0 s [] [] (List.replicate ls.length (-4)) (List.replicate rs.length 0) (fun _ => 0) M2 .null .null (by omega) (by omega) g ⟨by rw [f2 k (by omega), f1 k (by omega), st_same]; rfl, rfl, fun i hi => absurd hi (Nat.not_lt_zero i)⟩ (by simp) (by simp) (fun i hi => by rw [u2 i (by omega), z0 _ _ _ hi]) (fun i _ h => z0 _ _ _ h) (by simp) (fun r hr => by rw [f2 (k + 17) (by omega), u1 r (by omega), z0 _ _ _ hr]; exact ⟨rfl, rfl, Nat.le_refl 0⟩) (fun r hr => by rw [hs r hr]; simp) (List.nil_append _) (List.nil_append _) rfl rfl
  rw [zs] at this
  exact this
theorem c_becomes {kt : Nat} {A B : List Int32} (hb : isMod sh k) (ht : pmAy sh kt 0 122 []) (hkt : kt = k + 3 ∨ kt = k + 20) (h60 : A.length ≤ 60) (hc : M k 24 = nI A.length) (hv : ∀ i, i < A.length → M (k + 15) i = A.getD i 0 ∧ M (k + 16) i = B.getD i 0) (hon : M kt 1 = nI on) (kk : ∀ M', fr kt (kt + 1) M M' → lnAt (M' kt) A B on → Q none sh M' N) : PW mX11_becomes 0 [.ref k, .ref kt, .null] [] sh M N Q := by
  have hb0 := hb
  obtain ⟨b0, a1, a2, a3, a4, a5, a6, a7, a8, a9, a10, a11, a12, a13, a14, a15, a16, a17, a18, a19, a20⟩ := hb
  have loop : ∀ (d i : Nat) (M1 : pmM), i + d = A.length → fr kt (kt + 1) M M1 → M1 kt 0 = nI A.length → M1 kt 1 = nI on → (∀ j, j < i → M1 kt (2 + j) = A.getD j 0 ∧ M1 kt (62 + j) = B.getD j 0) → PW mX11_becomes 9 [.ref k, .ref kt, .int (nI i)] [] sh M1 N Q := by
    intro d
    induction d with
    | zero =>
      intro i M1 hi hf h0 h1 hw
      have : i = A.length := by omega
      subst this
      refine pw_iload_n 10 rfl rfl rfl ?_
      refine pw_aload_n 11 rfl rfl rfl ?_
      refine pw_getI 14 rfl rfl (by first | assumption | exact ⟨by decide, rfl⟩) rfl ?_
      rw [hf k (by omega), hc]
      refine pw_icmp_ge_t 46 rfl rfl (nI_le (by omega) (by omega)) ?_
      skip
      exact pw_vret rfl (kk M1 hf ⟨h0, h1, fun j hj => (hw j hj).1, fun j hj => (hw j hj).2⟩)
    | succ d ih =>
      intro i M1 hi hf h0 h1 hw
      have hx1 : 2 + i < 122 := by omega
      have hx2 : 62 + i < 122 := by omega
      have hx3 : i < 360 := by omega
      refine pw_iload_n 10 rfl rfl rfl ?_
      refine pw_aload_n 11 rfl rfl rfl ?_
      refine pw_getI 14 rfl rfl (by first | assumption | exact ⟨by decide, rfl⟩) rfl ?_
      rw [hf k (by omega), hc]
      refine pw_icmp_ge_f 17 rfl rfl (nI_ge (by omega) (by omega)) ?_
      refine pw_aload_n 18 rfl rfl rfl ?_
      refine pw_iconst (v := nI 2) 19 rfl rfl (by decide) ?_
      refine pw_iload_n 20 rfl rfl rfl ?_
      first | refine pw_iaddN 21 rfl rfl (by with_reducible rfl) (by with_reducible rfl) ?_ | refine pw_iadd 21 rfl rfl ?_
      refine pw_aload_n 22 rfl rfl rfl ?_
      refine pw_getR 25 rfl rfl (by first | assumption | exact ⟨by decide, rfl⟩) rfl ?_
      refine pw_iload_n 26 rfl rfl rfl ?_
      refine pw_iald _ 27 rfl rfl (by first | assumption | exact ⟨by decide, rfl, by decide⟩) (by with_reducible rfl) (by first | assumption | omega) ?_
      rw [hf (k + 15) (by omega), (hv i (by omega)).1]
      refine pw_iast _ 28 rfl rfl (by first | assumption | exact ⟨by decide, rfl, by decide⟩) (by with_reducible rfl) (by first | assumption | omega) ?_
      refine pw_aload_n 29 rfl rfl rfl ?_
      refine pw_bipush (v := nI 62) 31 rfl rfl (by decide) ?_
      refine pw_iload_n 32 rfl rfl rfl ?_
      first | refine pw_iaddN 33 rfl rfl (by with_reducible rfl) (by with_reducible rfl) ?_ | refine pw_iadd 33 rfl rfl ?_
      refine pw_aload_n 34 rfl rfl rfl ?_
      refine pw_getR 37 rfl rfl (by first | assumption | exact ⟨by decide, rfl⟩) rfl ?_
      refine pw_iload_n 38 rfl rfl rfl ?_
      refine pw_iald _ 39 rfl rfl (by first | assumption | exact ⟨by decide, rfl, by decide⟩) (by with_reducible rfl) (by first | assumption | omega) ?_
      rw [st_ne _ _ _ _ (by omega), hf (k + 16) (by omega), (hv i (by omega)).2]
      refine pw_iast _ 40 rfl rfl (by first | assumption | exact ⟨by decide, rfl, by decide⟩) (by with_reducible rfl) (by first | assumption | omega) ?_
      first | refine pw_iincN2 43 rfl rfl rfl (by with_reducible rfl) ?_ | refine pw_iinc2 (w := _) 43 rfl rfl rfl rfl ?_
      refine pw_goto rfl 9 rfl ?_
      refine ih (i + 1) _ (by omega) ((hf.tr (fr_st _ _ _ (by omega) (by omega))).tr (fr_st _ _ _ (by omega) (by omega))) ?_ ?_ (fun j hj => ?_)
      · rw [st_row _ _ _ _ (by omega), st_row _ _ _ _ (by omega)]; exact h0
      · rw [st_row _ _ _ _ (by omega), st_row _ _ _ _ (by omega)]; exact h1
      · by_cases q : j = i
        · subst q
          exact ⟨by rw [st_row _ _ _ _ (by omega), st_same], by rw [st_same]⟩
        · rw [st_row _ _ _ _ (by omega), st_row _ _ _ _ (by omega), st_row _ _ _ _ (by omega), st_row _ _ _ _ (by omega)]
          exact hw j (by omega)
  refine pw_aload_n 1 rfl rfl rfl ?_
  refine pw_iconst (v := nI 0) 2 rfl rfl (by decide) ?_
  refine pw_aload_n 3 rfl rfl rfl ?_
  refine pw_getI 6 rfl rfl (by first | assumption | exact ⟨by decide, rfl⟩) rfl ?_
  rw [hc]
  refine pw_iast _ 7 rfl rfl (by first | assumption | exact ⟨by decide, rfl, by decide⟩) (by with_reducible rfl) (by first | assumption | omega) ?_
  refine pw_iconst (v := nI 0) 8 rfl rfl (by decide) ?_
  refine pw_istore2 9 rfl rfl rfl ?_
  exact loop _ 0 _ (Nat.zero_add _) (fr_st _ _ _ (by omega) (by omega)) (st_same _ _ _ _) (by rw [st_row _ _ _ _ (by decide)]; exact hon) (fun j hj => absurd hj (Nat.not_lt_zero j))
end MGO
