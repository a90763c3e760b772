/-! THE CLASS AS A WHOLE: WHAT IT HOLDS, AND WHAT ITS METHODS DO -/
abbrev aW : Type := List Int32 × aS × Option aS × Option Nat × Nat × (Nat → aH)
abbrev aW.tp (a : aW) : List Int32 := a.1
abbrev aW.now (a : aW) : aS := a.2.1
abbrev aW.img (a : aW) : Option aS := a.2.2.1
abbrev aW.ps (a : aW) : Option Nat := a.2.2.2.1
abbrev aW.pset (a : aW) : Nat := a.2.2.2.2.1
abbrev aW.shs (a : aW) : Nat → aH := a.2.2.2.2.2
abbrev wTp (a : aW) (x : List Int32) : aW := (x, a.2)
abbrev wNow (a : aW) (x : aS) : aW := (a.1, x, a.2.2)
abbrev wImg (a : aW) (x : Option aS) : aW := (a.1, a.2.1, x, a.2.2.2)
abbrev wPs (a : aW) (x : Option Nat) : aW := (a.1, a.2.1, a.2.2.1, x, a.2.2.2.2)
abbrev wSet (a : aW) (x : Nat) : aW := (a.1, a.2.1, a.2.2.1, a.2.2.2.1, x, a.2.2.2.2.2)
abbrev wSh (a : aW) (i : Nat) (x : aH) : aW := (a.1, a.2.1, a.2.2.1, a.2.2.2.1, a.2.2.2.2.1, fun j => if j = i then x else a.2.2.2.2.2 j)
def isApp (sh : pmS) (k : Nat) : Prop := pmOb sh k 10 [some (some (k + 1)), some (some (k + 4)), some (some (k + 118)), none, some (some (k + 232)), some (some (k + 234)), some (some (k + 291)), some (some (k + 307)), some (some (k + 312)), some (some (k + 314)), none, none] ∧ isTape sh (k + 1) ∧ isState sh (k + 4) ∧ isState sh (k + 118) ∧ isRow sh (k + 232) 60 ∧ isBook sh (k + 234) ∧ isWalk sh (k + 291) (k + 11) ∧ isLine sh (k + 307) 60 ∧ isRow sh (k + 312) 11 ∧ pmAy sh (k + 314) 5 4 [some (k + 315), some (k + 317), some (k + 319), some (k + 321)] ∧ ∀ i, i < 4 → isSheet sh (k + 315 + 2 * i)
def appIs (M : pmM) (N : pmN) (k : Nat) (a : aW) : Prop := rowIs M (k + 2) a.tp ∧ stIs M (k + 4) a.now ∧ (∀ s, a.img = some s → stIs M (k + 118) s) ∧ M k 3 = nI (if a.img.isSome then 1 else 0) ∧ M k 10 = rI a.ps ∧ M k 11 = nI a.pset ∧ ∀ i, i < 4 → shIs M N (k + 315 + 2 * i) (a.shs i)
/-- a number below 127 -/
def sm (x : Int32) : Prop := ∃ j, j < 127 ∧ x = nI j
def smM (m : aM) : Prop := (∀ x ∈ m.1, sm x) ∧ (∀ x ∈ m.2.1, sm x)
def smS (s : aS) : Prop := smM s.1 ∧ (∀ m ∈ s.2.2, smM m) ∧ ∀ r ∈ s.2.1, ∀ x ∈ r.2.2, sm x
def wfW (a : aW) : Prop := a.tp.length ≤ 150 ∧ (∀ x ∈ a.tp, ¬ x < 0) ∧ wfS a.now ∧ smS a.now ∧ (∀ s, a.img = some s → wfS s ∧ smS s) ∧ (∀ s, a.ps = some s → s < 3) ∧ a.pset < 1024
abbrev aW.rs (a : aW) : List aR := a.now.2.1
abbrev aW.ls (a : aW) : List Int32 := a.now.1.1
abbrev aW.ss (a : aW) : List Int32 := a.now.1.2.1
abbrev aW.on (a : aW) : Nat := a.now.1.2.2
/-- what a pass does, a set of rules being on -/
abbrev aW.tc (a : aW) (s : Nat) : List (Nat × Option Nat) := tr a.rs (kds a.rs) a.ls 0 s
abbrev aW.mL (a : aW) (s : Nat) : List Int32 := outL a.rs (kds a.rs) a.ls (a.tc s)
abbrev aW.mS (a : aW) (s : Nat) : List Int32 := outS a.rs a.ss (a.tc s)
abbrev aW.us (a : aW) (s : Nat) : List Int32 := uCt (a.tc s) (List.replicate a.rs.length 0)
theorem appIs.scr {M M' : pmM} {N : pmN} {k u v : Nat} {a : aW} (h : appIs M N k a) (hf : fr u v M M') (hu : k + 232 ≤ u) (hv : v ≤ k + 315) : appIs M' N k a := by
  obtain ⟨h1, h2, h3, h4, h5, h6, h7⟩ := h
  refine ⟨h1.mv hf (by omega), h2.mv hf (by omega), fun s hs => (h3 s hs).mv hf (by omega), ?_, ?_, ?_, fun i hi => (h7 i hi).mv hf (by omega) rfl⟩
  · rw [hf k (by omega)]; exact h4
  · rw [hf k (by omega)]; exact h5
  · rw [hf k (by omega)]; exact h6
theorem appIs.tap {M M' : pmM} {N : pmN} {k : Nat} {a : aW} (h : appIs M N k a) (hf : fr (k + 1) (k + 2) M M') : appIs M' N k a := by
  obtain ⟨h1, h2, h3, h4, h5, h6, h7⟩ := h
  refine ⟨h1.mv hf (by omega), h2.mv hf (by omega), fun s hs => (h3 s hs).mv hf (by omega), ?_, ?_, ?_, fun i hi => (h7 i hi).mv hf (by omega) rfl⟩
  · rw [hf k (by omega)]; exact h4
  · rw [hf k (by omega)]; exact h5
  · rw [hf k (by omega)]; exact h6
theorem appIs.tape {M M' : pmM} {N : pmN} {k : Nat} {a : aW} {xs : List Int32} (h : appIs M N k a) (hf : fr (k + 1) (k + 4) M M') (hr : rowIs M' (k + 2) xs) : appIs M' N k (wTp a xs) := by
  obtain ⟨h1, h2, h3, h4, h5, h6, h7⟩ := h
  refine ⟨hr, h2.mv hf (by omega), fun s hs => (h3 s hs).mv hf (by omega), ?_, ?_, ?_, fun i hi => (h7 i hi).mv hf (by omega) rfl⟩
  · rw [hf k (by omega)]; exact h4
  · rw [hf k (by omega)]; exact h5
  · rw [hf k (by omega)]; exact h6
theorem appIs.now {M M' : pmM} {N : pmN} {k : Nat} {a : aW} {s : aS} (h : appIs M N k a) (hf : fr (k + 5) (k + 118) M M') (hs : stIs M' (k + 4) s) : appIs M' N k (wNow a s) := by
  obtain ⟨h1, h2, h3, h4, h5, h6, h7⟩ := h
  refine ⟨h1.mv hf (by omega), hs, fun s hs => (h3 s hs).mv hf (by omega), ?_, ?_, ?_, fun i hi => (h7 i hi).mv hf (by omega) rfl⟩
  · rw [hf k (by omega)]; exact h4
  · rw [hf k (by omega)]; exact h5
  · rw [hf k (by omega)]; exact h6
/-- a pile's sort -/
theorem appIs.sort {M : pmM} {N : pmN} {k : Nat} {a : aW} (h : appIs M N k a) (o : Option Nat) : appIs (pmSt M k 10 (rI o)) N k (wPs a o) := by
  obtain ⟨h1, h2, h3, h4, h5, h6, h7⟩ := h
  have hf : fr k (k + 1) M (pmSt M k 10 (rI o)) := fr_st M 10 _ (Nat.le_refl k) (Nat.lt_succ_self k)
  refine ⟨h1.mv hf (by omega), h2.mv hf (by omega), fun s hs => (h3 s hs).mv hf (by omega), ?_, ?_, ?_, fun i hi => (h7 i hi).mv hf (by omega) rfl⟩
  · rw [st_row _ _ _ _ (by decide)]; exact h4
  · rw [st_same]
  · rw [st_row _ _ _ _ (by decide)]; exact h6
theorem appIs.set {M : pmM} {N : pmN} {k : Nat} {a : aW} (h : appIs M N k a) (s : Nat) : appIs (pmSt M k 11 (nI s)) N k (wSet a s) := by
  obtain ⟨h1, h2, h3, h4, h5, h6, h7⟩ := h
  have hf : fr k (k + 1) M (pmSt M k 11 (nI s)) := fr_st M 11 _ (Nat.le_refl k) (Nat.lt_succ_self k)
  refine ⟨h1.mv hf (by omega), h2.mv hf (by omega), fun s hs => (h3 s hs).mv hf (by omega), ?_, ?_, ?_, fun i hi => (h7 i hi).mv hf (by omega) rfl⟩
  · rw [st_row _ _ _ _ (by decide)]; exact h4
  · rw [st_row _ _ _ _ (by decide)]; exact h5
  · rw [st_same]
/-- what is shown of a method of the class: an answer, and what is held then -/
def pst (k : Nat) (sh : pmS) (M : pmM) (N : pmN) (Q : pmPost) (v : Value) (a : aW) : Prop := ∀ M' N', fr k (k + 323) M M' → (∀ x, (x < k ∨ k + 323 ≤ x) → N' x = N x) → appIs M' N' k a → Q (some v) sh M' N'
section APP
variable {sh : pmS} {M : pmM} {N : pmN} {Q : pmPost} {k : Nat} {a : aW}
theorem pst.at {v : Value} (h : pst k sh M N Q v a) (hx : appIs M N k a) : Q (some v) sh M N := h M N fr.rf (fun _ _ => rfl) hx
theorem pst.go {M1 : pmM} {v : Value} (h : pst k sh M N Q v a) (hf : fr k (k + 323) M M1) (hx : appIs M1 N k a) : Q (some v) sh M1 N := h M1 N hf (fun _ _ => rfl) hx
theorem wf_on (hw : wfW a) (hx : appIs M N k a) : a.on < 1024 := lt_1024 hw.2.2.1.1 hx.2.1.2.1.2.1
def vType (a : aW) (x : Int32) : Int32 × aW := if x < nI 32 ∨ nI 126 < x then (-1, a) else if a.tp.length = 150 then (-3, a) else (nI (a.tp.length + 1), wTp a (a.tp ++ [x]))
theorem c_type {x : Int32} (hb : isApp sh k) (hw : wfW a) (hx : appIs M N k a) (kk : pst k sh M N Q (.int (vType a x).1) (vType a x).2) : PW mX10_type 0 [.ref k, .int x] [] sh M N Q := by
  obtain ⟨b0, b1, b2, b3, b4, b5, b6, b7, b8, b9, b10⟩ := hb
  obtain ⟨t1, t2⟩ := b1
  have t2' := t2.1
  have hl := hw.1
  unfold vType at kk
  have bad : (x < nI 32 ∨ nI 126 < x) → PW mX10_type 12 [.ref k, .int x] [] sh M N Q := by
    intro q
    rw [if_pos q] at kk
    refine pw_iconst (v := (-1)) 13 rfl rfl (by decide) ?_
    exact pw_iret rfl rfl (kk.at hx)
  refine pw_iload_n 1 rfl rfl rfl ?_
  refine pw_bipush (v := nI 32) 3 rfl rfl (by decide) ?_
  refine pw_icmp_lt 12 6 rfl rfl rfl (fun q1 => ?_) (fun q1 => ?_)
  · exact bad (Or.inl q1)
  · refine pw_iload_n 7 rfl rfl rfl ?_
    refine pw_bipush (v := nI 126) 9 rfl rfl (by decide) ?_
    refine pw_icmp_le 14 12 rfl rfl rfl (fun q2 => ?_) (fun q2 => ?_)
    · have q : ¬ (x < nI 32 ∨ nI 126 < x) := fun q => q.elim q1 (fun h => Int32.not_lt.mpr q2 h)
      rw [if_neg q] at kk
      by_cases h : a.tp.length = 150
      · rw [if_pos h] at kk
        refine pw_aload_n 15 rfl rfl rfl ?_
        refine pw_getR 18 rfl rfl (by first | assumption | exact ⟨by decide, rfl⟩) rfl ?_
        refine pw_getR 21 rfl rfl (by first | assumption | exact ⟨by decide, rfl⟩) rfl ?_
        refine pw_iload_n 22 rfl rfl rfl ?_
        refine pw_cV1 25 rfl rfl (by first | assumption | exact ⟨by decide, rfl⟩) rfl (Nat.le_of_ble_eq_true rfl) rfl rfl (Nat.le_of_ble_eq_true rfl) (c_Row_addFull t2 hx.1 h x ?_)
        refine pw_pI ?_
        skip
        refine pw_if_eq_t 41 rfl rfl (by decide) ?_
        refine pw_bipush (v := (-3)) 43 rfl rfl (by decide) ?_
        exact pw_iret rfl rfl (kk.at hx)
      · rw [if_neg h] at kk
        refine pw_aload_n 15 rfl rfl rfl ?_
        refine pw_getR 18 rfl rfl (by first | assumption | exact ⟨by decide, rfl⟩) rfl ?_
        refine pw_getR 21 rfl rfl (by first | assumption | exact ⟨by decide, rfl⟩) rfl ?_
        refine pw_iload_n 22 rfl rfl rfl ?_
        refine pw_cV1 25 rfl rfl (by first | assumption | exact ⟨by decide, rfl⟩) rfl (Nat.le_of_ble_eq_true rfl) rfl rfl (Nat.le_of_ble_eq_true rfl) (c_Row_add t2 hx.1 (by omega) x (fun M1 f1 r1 => ?_))
        refine pw_pI ?_
        skip
        refine pw_if_eq_f 28 rfl rfl (by decide) ?_
        refine pw_aload_n 29 rfl rfl rfl ?_
        refine pw_getR 32 rfl rfl (by first | assumption | exact ⟨by decide, rfl⟩) rfl ?_
        refine pw_getR 35 rfl rfl (by first | assumption | exact ⟨by decide, rfl⟩) rfl ?_
        refine pw_cV0 38 rfl rfl (by first | assumption | exact ⟨by decide, rfl⟩) rfl (Nat.le_of_ble_eq_true rfl) rfl rfl (Nat.le_of_ble_eq_true rfl) (c_Row_size t2 r1 ?_)
        refine pw_pI ?_
        rw [List.length_append, List.length_singleton]
        refine pw_goto rfl 43 rfl ?_
        exact pw_iret rfl rfl (kk.go (f1.wk (by omega) (by omega)) (hx.tape (f1.wk (by omega) (by omega)) r1))
    · exact bad (Or.inr (Int32.not_le.mp q2))
theorem c_whatComes (hb : isApp sh k) (hw : wfW a) (hx : appIs M N k a) (kk : ∀ M', fr (k + 292) (k + 307) M M' → gone M' (k + 291) a.rs (kds a.rs) a.ls a.ss a.on → appIs M' N k a → Q (some (.ref (k + 302))) sh M' N) : PW mX10_whatComes 0 [.ref k] [] sh M N Q := by
  obtain ⟨b0, b1, b2, b3, b4, b5, b6, b7, b8, b9, b10⟩ := hb
  have s0 := b2.1
  have s1 := b2.2.1.1
  have s2 := b2.2.1.2
  have s3 := b2.2.2.1
  have wk0 := b6.1
  have hm := hx.2.1.1
  have hbk := hx.2.1.2.1
  have hon := wf_on hw hx
  refine pw_aload_n 1 rfl rfl rfl ?_
  refine pw_getR 4 rfl rfl (by first | assumption | exact ⟨by decide, rfl⟩) rfl ?_
  refine pw_aload_n 5 rfl rfl rfl ?_
  refine pw_getR 8 rfl rfl (by first | assumption | exact ⟨by decide, rfl⟩) rfl ?_
  refine pw_getR 11 rfl rfl (by first | assumption | exact ⟨by decide, rfl⟩) rfl ?_
  refine pw_getR 14 rfl rfl (by first | assumption | exact ⟨by decide, rfl⟩) rfl ?_
  refine pw_cV1 17 rfl rfl (by first | assumption | exact ⟨by decide, rfl⟩) rfl (Nat.le_of_ble_eq_true rfl) rfl rfl (Nat.le_of_ble_eq_true rfl) (c_prepare b6 s3 hbk (by omega) s2 hm.1 hm.2.2.1 (by omega) hm.2.2.1 (fun M1 f1 r1 => ?_))
  refine pw_pV ?_
  have hx1 := hx.scr f1 (by omega) (by omega)
  have hm1 := hx1.2.1.1
  have hbk1 := hx1.2.1.2.1
  refine pw_aload_n 18 rfl rfl rfl ?_
  refine pw_getR 21 rfl rfl (by first | assumption | exact ⟨by decide, rfl⟩) rfl ?_
  refine pw_aload_n 22 rfl rfl rfl ?_
  refine pw_getR 25 rfl rfl (by first | assumption | exact ⟨by decide, rfl⟩) rfl ?_
  refine pw_getR 28 rfl rfl (by first | assumption | exact ⟨by decide, rfl⟩) rfl ?_
  refine pw_getR 31 rfl rfl (by first | assumption | exact ⟨by decide, rfl⟩) rfl ?_
  refine pw_aload_n 32 rfl rfl rfl ?_
  refine pw_getR 35 rfl rfl (by first | assumption | exact ⟨by decide, rfl⟩) rfl ?_
  refine pw_getR 38 rfl rfl (by first | assumption | exact ⟨by decide, rfl⟩) rfl ?_
  refine pw_getI 41 rfl rfl (by first | assumption | exact ⟨by decide, rfl⟩) rfl ?_
  rw [hm1.2.1]
  refine pw_cV2 44 rfl rfl (by first | assumption | exact ⟨by decide, rfl⟩) rfl (Nat.le_of_ble_eq_true rfl) rfl rfl (Nat.le_of_ble_eq_true rfl) (c_go b6 s3 hbk1 (by omega) (kds_ok hbk1) r1 s2 hm1.1 hm1.2.2.2 hm1.2.2.1 (by omega) hm1.2.2.1 hon (fun M2 f2 r2 => ?_))
  refine pw_pV ?_
  refine pw_aload_n 45 rfl rfl rfl ?_
  refine pw_getR 48 rfl rfl (by first | assumption | exact ⟨by decide, rfl⟩) rfl ?_
  refine pw_getR 51 rfl rfl (by first | assumption | exact ⟨by decide, rfl⟩) rfl ?_
  exact pw_aret rfl (kk M2 ((f1.wk (by omega) (by omega)).tr (f2.wk (by omega) (by omega))) r2 (hx1.scr f2 (by omega) (by omega)))
end APP
