/-! THE REFERENCE READS -/
def tpIs (M : pmM) (k : Nat) (tp : List Int32) : Prop := M k 1 = nI tp.length ∧ ∀ i, i < tp.length → M (k + 1) i = tp.getD i 0
/-- only the place of reading has moved -/
def frP (k : Nat) (M M' : pmM) : Prop := (∀ x, x ≠ k → M' x = M x) ∧ ∀ j, j ≠ 18 → M' k j = M k j
theorem frP.rf {k : Nat} {M : pmM} : frP k M M := ⟨fun _ _ => rfl, fun _ _ => rfl⟩
theorem frP.tr {k : Nat} {M M1 M2 : pmM} (h : frP k M M1) (h2 : frP k M1 M2) : frP k M M2 := ⟨fun x hx => (h2.1 x hx).trans (h.1 x hx), fun j hj => (h2.2 j hj).trans (h.2 j hj)⟩
theorem frP_st (k : Nat) (M : pmM) (v : Int32) : frP k M (pmSt M k 18 v) := ⟨fun _ hx => st_ne M k 18 v hx, fun _ hj => st_row M k 18 v hj⟩
theorem tpIs.mv {M M' : pmM} {k : Nat} {tp : List Int32} (h : tpIs M k tp) (hf : frP k M M') : tpIs M' k tp := ⟨by rw [hf.2 1 (by decide)]; exact h.1, fun i hi => by rw [hf.1 (k + 1) (by omega)]; exact h.2 i hi⟩
def hX (tp : List Int32) (p : Nat) : Int32 := (cur tp p).getD (-4)
theorem hX_eq {tp : List Int32} {p s : Nat} (hs : s < 1000) : hX tp p = nI s ↔ cur tp p = some (nI s) := by
  unfold hX
  cases h : cur tp p with
  | none => exact ⟨fun q => absurd q.symm (nI_m4 hs), fun q => by cases q⟩
  | some c => exact ⟨fun q => congrArg some q, fun q => by cases q; rfl⟩
theorem hX_end {tp : List Int32} (ht : ∀ x ∈ tp, ¬ x < 0) {p : Nat} : hX tp p = -4 ↔ cur tp p = none := by
  unfold hX
  cases h : cur tp p with
  | none => exact ⟨fun _ => rfl, fun _ => rfl⟩
  | some c =>
    refine ⟨fun q => ?_, fun q => by cases q⟩
    have q : c = -4 := q
    have : c ∈ tp := List.mem_of_getElem? h
    exact absurd (ht c this) (by rw [q]; decide)
theorem hX_ltr {tp : List Int32} {p : Nat} : ltr (hX tp p) = ltO (cur tp p) := by
  unfold hX
  cases cur tp p with
  | none => exact (by decide : ltr (-4) = false)
  | some c => rfl
theorem hX_kind {tp : List Int32} {p : Nat} : kindC (hX tp p) = kindO (cur tp p) := by
  unfold hX
  cases cur tp p with
  | none => exact (by decide : kindC (-4) = none)
  | some c => rfl
section MRD
variable {sh : pmS} {M : pmM} {N : pmN} {Q : pmPost} {k : Nat} {tp : List Int32}
theorem here_loop (hb : isMod sh k) (hl : tp.length ≤ 150) : ∀ (d p : Nat) (M : pmM), tp.length - p = d → tpIs M k tp → p ≤ tp.length → M k 18 = nI p → (∀ M', frP k M M' → M' k 18 = nI (sk tp p) → Q (some (.int (hX tp p))) sh M' N) → PW mX11_here 0 [.ref k] [] sh M N Q := by
  have b0 := hb.1
  have b1 := hb.2.1
  intro d
  induction d with
  | zero =>
    intro p M hd ht hp hM kk
    have e : sk tp p = p := sk_not (by omega)
    have hc : hX tp p = -4 := by unfold hX cur; rw [e, List.getElem?_eq_none (by omega)]; rfl
    rw [e, hc] at kk
    refine pw_aload_n 1 rfl rfl rfl ?_
    refine pw_getI 4 rfl rfl (by first | assumption | exact ⟨by decide, rfl⟩) rfl ?_
    refine pw_aload_n 5 rfl rfl rfl ?_
    refine pw_getI 8 rfl rfl (by first | assumption | exact ⟨by decide, rfl⟩) rfl ?_
    rw [hM, ht.1]
    refine pw_icmp_ge_t 38 rfl rfl (nI_le (by omega) (by omega)) ?_
    refine pw_aload_n 39 rfl rfl rfl ?_
    refine pw_getI 42 rfl rfl (by first | assumption | exact ⟨by decide, rfl⟩) rfl ?_
    refine pw_aload_n 43 rfl rfl rfl ?_
    refine pw_getI 46 rfl rfl (by first | assumption | exact ⟨by decide, rfl⟩) rfl ?_
    rw [hM, ht.1]
    refine pw_icmp_ge_t 61 rfl rfl (nI_le (by omega) (by omega)) ?_
    refine pw_bipush (v := (-4)) 63 rfl rfl (by decide) ?_
    exact pw_iret rfl rfl (kk M frP.rf hM)
  | succ d ih =>
    intro p M hd ht hp hM kk
    have hp2 : p < tp.length := by omega
    have hp3 : p < 150 := by omega
    refine pw_aload_n 1 rfl rfl rfl ?_
    refine pw_getI 4 rfl rfl (by first | assumption | exact ⟨by decide, rfl⟩) rfl ?_
    refine pw_aload_n 5 rfl rfl rfl ?_
    refine pw_getI 8 rfl rfl (by first | assumption | exact ⟨by decide, rfl⟩) rfl ?_
    rw [hM, ht.1]
    refine pw_icmp_ge_f 11 rfl rfl (nI_ge hp2 (by omega)) ?_
    refine pw_aload_n 12 rfl rfl rfl ?_
    refine pw_getR 15 rfl rfl (by first | assumption | exact ⟨by decide, rfl⟩) rfl ?_
    refine pw_aload_n 16 rfl rfl rfl ?_
    refine pw_getI 19 rfl rfl (by first | assumption | exact ⟨by decide, rfl⟩) rfl ?_
    rw [hM]
    refine pw_iald _ 20 rfl rfl (by first | assumption | exact ⟨by decide, rfl, by decide⟩) (by with_reducible rfl) (by first | assumption | omega) ?_
    refine pw_bipush (v := nI 32) 22 rfl rfl (by decide) ?_
    rw [ht.2 p hp2]
    refine pw_icmp_ne 38 25 rfl rfl rfl (fun q => ?_) (fun q => ?_)
    · have e : sk tp p = p := sk_not (fun h => q h.2)
      have hg : tp.getD p 0 = tp[p] := by rw [List.getD_eq_getElem?_getD, List.getElem?_eq_getElem hp2]; rfl
      have hc : hX tp p = tp.getD p 0 := by unfold hX cur; rw [e, List.getElem?_eq_getElem hp2, hg]; rfl
      rw [e, hc] at kk
      refine pw_aload_n 39 rfl rfl rfl ?_
      refine pw_getI 42 rfl rfl (by first | assumption | exact ⟨by decide, rfl⟩) rfl ?_
      refine pw_aload_n 43 rfl rfl rfl ?_
      refine pw_getI 46 rfl rfl (by first | assumption | exact ⟨by decide, rfl⟩) rfl ?_
      rw [hM, ht.1]
      refine pw_icmp_ge_f 49 rfl rfl (nI_ge hp2 (by omega)) ?_
      refine pw_aload_n 50 rfl rfl rfl ?_
      refine pw_getR 53 rfl rfl (by first | assumption | exact ⟨by decide, rfl⟩) rfl ?_
      refine pw_aload_n 54 rfl rfl rfl ?_
      refine pw_getI 57 rfl rfl (by first | assumption | exact ⟨by decide, rfl⟩) rfl ?_
      rw [hM]
      refine pw_iald _ 58 rfl rfl (by first | assumption | exact ⟨by decide, rfl, by decide⟩) (by with_reducible rfl) (by first | assumption | omega) ?_
      refine pw_goto rfl 63 rfl ?_
      rw [ht.2 p hp2]
      exact pw_iret rfl rfl (kk M frP.rf hM)
    · have e : sk tp p = sk tp (p + 1) := sk_blank hp2 (Decidable.not_not.mp q)
      have hc : hX tp p = hX tp (p + 1) := by unfold hX cur; rw [e]
      rw [e, hc] at kk
      refine pw_aload_n 26 rfl rfl rfl ?_
      refine pw_dup 27 rfl rfl rfl ?_
      refine pw_getI 30 rfl rfl (by first | assumption | exact ⟨by decide, rfl⟩) rfl ?_
      refine pw_iconst (v := nI 1) 31 rfl rfl (by decide) ?_
      rw [hM]
      first | refine pw_iaddN 32 rfl rfl (by with_reducible rfl) (by with_reducible rfl) ?_ | refine pw_iadd 32 rfl rfl ?_
      refine pw_putI 35 rfl rfl (by first | assumption | exact ⟨by decide, rfl⟩) rfl (by decide) ?_
      refine pw_goto rfl 0 rfl ?_
      refine ih (p + 1) _ (by omega) (ht.mv (frP_st k M _)) (by omega) (st_same _ _ _ _) (fun M' f' p' => kk M' ((frP_st k M _).tr f') p')
theorem c_here {p : Nat} (hb : isMod sh k) (hl : tp.length ≤ 150) (ht : tpIs M k tp) (hp : p ≤ tp.length) (hM : M k 18 = nI p) (kk : ∀ M', frP k M M' → M' k 18 = nI (sk tp p) → Q (some (.int (hX tp p))) sh M' N) : PW mX11_here 0 [.ref k] [] sh M N Q := here_loop hb hl _ p M rfl ht hp hM kk
theorem c_kindOfM {x : Int32} (ky : ∀ d, kindC x = some d → d < 5 → Q (some (.int (nI d))) sh M N) (kn : kindC x = none → Q (some (.int (-4))) sh M N) : PW mX11_kindOf 0 [.int x] [] sh M N Q := by
  unfold kindC at ky kn
  refine pw_iload_n 1 rfl rfl rfl ?_
  refine pw_bipush (v := nI 112) 3 rfl rfl (by decide) ?_
  refine pw_icmp_ne 10 6 rfl rfl rfl (fun q1 => ?_) (fun q1 => ?_)
  · rw [if_neg q1] at ky kn
    refine pw_iload_n 11 rfl rfl rfl ?_
    refine pw_bipush (v := nI 119) 13 rfl rfl (by decide) ?_
    refine pw_icmp_ne 20 16 rfl rfl rfl (fun q2 => ?_) (fun q2 => ?_)
    · rw [if_neg q2] at ky kn
      refine pw_iload_n 21 rfl rfl rfl ?_
      refine pw_bipush (v := nI 102) 23 rfl rfl (by decide) ?_
      refine pw_icmp_ne 30 26 rfl rfl rfl (fun q3 => ?_) (fun q3 => ?_)
      · rw [if_neg q3] at ky kn
        refine pw_iload_n 31 rfl rfl rfl ?_
        refine pw_bipush (v := nI 116) 33 rfl rfl (by decide) ?_
        refine pw_icmp_ne 40 36 rfl rfl rfl (fun q4 => ?_) (fun q4 => ?_)
        · rw [if_neg q4] at ky kn
          refine pw_iload_n 41 rfl rfl rfl ?_
          refine pw_bipush (v := nI 111) 43 rfl rfl (by decide) ?_
          refine pw_icmp_ne 50 46 rfl rfl rfl (fun q5 => ?_) (fun q5 => ?_)
          · rw [if_neg q5] at ky kn
            refine pw_bipush (v := (-4)) 52 rfl rfl (by decide) ?_
            exact pw_iret rfl rfl (kn rfl)
          · rw [if_pos (Decidable.not_not.mp q5)] at ky
            refine pw_iconst (v := nI 4) 47 rfl rfl (by decide) ?_
            refine pw_goto rfl 52 rfl ?_
            exact pw_iret rfl rfl (ky 4 rfl (by decide))
        · rw [if_pos (Decidable.not_not.mp q4)] at ky
          refine pw_iconst (v := nI 3) 37 rfl rfl (by decide) ?_
          refine pw_goto rfl 52 rfl ?_
          exact pw_iret rfl rfl (ky 3 rfl (by decide))
      · rw [if_pos (Decidable.not_not.mp q3)] at ky
        refine pw_iconst (v := nI 2) 27 rfl rfl (by decide) ?_
        refine pw_goto rfl 52 rfl ?_
        exact pw_iret rfl rfl (ky 2 rfl (by decide))
    · rw [if_pos (Decidable.not_not.mp q2)] at ky
      refine pw_iconst (v := nI 1) 17 rfl rfl (by decide) ?_
      refine pw_goto rfl 52 rfl ?_
      exact pw_iret rfl rfl (ky 1 rfl (by decide))
  · rw [if_pos (Decidable.not_not.mp q1)] at ky
    refine pw_iconst (v := nI 0) 7 rfl rfl (by decide) ?_
    refine pw_goto rfl 52 rfl ?_
    exact pw_iret rfl rfl (ky 0 rfl (by decide))
theorem c_takesM {p s : Nat} (hb : isMod sh k) (hl : tp.length ≤ 150) (ht : tpIs M k tp) (hp : p ≤ tp.length) (hM : M k 18 = nI p) (hs : s < 1000) (ky : ∀ M', frP k M M' → cur tp p = some (nI s) → M' k 18 = nI (sk tp p + 1) → Q (some (.int (nI 1))) sh M' N) (kn : ∀ M', frP k M M' → ¬ cur tp p = some (nI s) → M' k 18 = nI (sk tp p) → Q (some (.int (nI 0))) sh M' N) : PW mX11_takes 0 [.ref k, .int (nI s), .null] [] sh M N Q := by
  have b0 := hb.1
  refine pw_aload_n 1 rfl rfl rfl ?_
  refine pw_cV0 4 rfl rfl (by first | assumption | exact ⟨by decide, rfl⟩) rfl (Nat.le_of_ble_eq_true rfl) rfl rfl (Nat.le_of_ble_eq_true rfl) (c_here hb hl ht hp hM (fun M1 f1 p1 => ?_))
  refine pw_pI ?_
  refine pw_iload_n 5 rfl rfl rfl ?_
  refine pw_icmp_ne 12 8 rfl rfl rfl (fun q => ?_) (fun q => ?_)
  · refine pw_iconst (v := nI 0) 13 rfl rfl (by decide) ?_
    refine pw_istore2 14 rfl rfl rfl ?_
    refine pw_aload_n 15 rfl rfl rfl ?_
    refine pw_dup 16 rfl rfl rfl ?_
    refine pw_getI 19 rfl rfl (by first | assumption | exact ⟨by decide, rfl⟩) rfl ?_
    refine pw_iload_n 20 rfl rfl rfl ?_
    refine pw_if_eq_t 27 rfl rfl (rfl) ?_
    refine pw_iconst (v := nI 0) 28 rfl rfl (by decide) ?_
    rw [p1]
    first | refine pw_iaddN 29 rfl rfl (by with_reducible rfl) (by with_reducible rfl) ?_ | refine pw_iadd 29 rfl rfl ?_
    refine pw_putI 32 rfl rfl (by first | assumption | exact ⟨by decide, rfl⟩) rfl (by decide) ?_
    refine pw_iload_n 33 rfl rfl rfl ?_
    refine pw_zret rfl rfl (Or.inl rfl) (kn _ (f1.tr (frP_st k M1 _)) (fun e => q ((hX_eq hs).mpr e)) (st_same _ _ _ _))
  · refine pw_iconst (v := nI 1) 9 rfl rfl (by decide) ?_
    refine pw_goto rfl 13 rfl ?_
    refine pw_istore2 14 rfl rfl rfl ?_
    refine pw_aload_n 15 rfl rfl rfl ?_
    refine pw_dup 16 rfl rfl rfl ?_
    refine pw_getI 19 rfl rfl (by first | assumption | exact ⟨by decide, rfl⟩) rfl ?_
    refine pw_iload_n 20 rfl rfl rfl ?_
    refine pw_if_eq_f 23 rfl rfl (by decide) ?_
    refine pw_iconst (v := nI 1) 24 rfl rfl (by decide) ?_
    refine pw_goto rfl 28 rfl ?_
    rw [p1]
    first | refine pw_iaddN 29 rfl rfl (by with_reducible rfl) (by with_reducible rfl) ?_ | refine pw_iadd 29 rfl rfl ?_
    refine pw_putI 32 rfl rfl (by first | assumption | exact ⟨by decide, rfl⟩) rfl (by decide) ?_
    refine pw_iload_n 33 rfl rfl rfl ?_
    refine pw_zret rfl rfl (Or.inr rfl) (ky _ (f1.tr (frP_st k M1 _)) ((hX_eq hs).mp (Decidable.not_not.mp q)) (st_same _ _ _ _))
end MRD
