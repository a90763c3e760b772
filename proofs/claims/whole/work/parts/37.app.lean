/-- a number as a place below a bound -/
def ix (x : Int32) (b : Nat) : Option Nat := if x < 0 then none else if x.toNatClampNeg < b then some x.toNatClampNeg else none
theorem ix_some {b j : Nat} (h : j < b) (hb : b < 2 ^ 31) : ix (nI j) b = some j := by
  unfold ix
  rw [if_neg (nI_pos (by omega)), nI_clamp (by omega), if_pos h]
theorem ix_none {b : Nat} {x : Int32} (h : ∀ j, j < b → x ≠ nI j) : ix x b = none := by
  unfold ix
  rcases i_cases x with hx | ⟨j, hj, rfl⟩
  · rw [if_pos hx]
  · rw [if_neg (nI_pos hj), nI_clamp hj, if_neg (fun q => h j q rfl)]
theorem ix_ex {b : Nat} (hb : b < 2 ^ 31) (x : Int32) : (∃ j, j < b ∧ x = nI j ∧ ix x b = some j) ∨ ((∀ j, j < b → x ≠ nI j) ∧ ix x b = none) := by
  by_cases h : ∃ j, j < b ∧ x = nI j
  · obtain ⟨j, hj, rfl⟩ := h
    exact Or.inl ⟨j, hj, rfl, ix_some hj hb⟩
  · have h2 : ∀ j, j < b → x ≠ nI j := fun j hj e => h ⟨j, hj, e⟩
    exact Or.inr ⟨h2, ix_none h2⟩
theorem ts_out {pc n : Nat} {d : Int} {offs : Array Int} {x : Int32} (q : Nat) (h : ∀ j, j < n + 1 → x ≠ nI j) (hn : n < 1000) (hq : (pc : Int) + d = q) : pmTs pc d 0 n offs x = some q := by
  unfold pmTs
  have h1 : x.toInt < 0 ∨ (n : Int) < x.toInt := by
    rcases i_cases x with hx | ⟨j, hj, rfl⟩
    · exact Or.inl (neg_int hx)
    · refine Or.inr ?_
      rw [nI_int hj]
      have : ¬ j < n + 1 := fun q => h j q rfl
      omega
  simp only [if_pos h1, Option.bind_some]
  rw [if_pos (by omega), hq]; rfl
def vRule (a : aW) : Int32 × aW := match rdR a.tp 0 with
  | (some r, q) => if cur a.tp q = none then (if a.rs.length = 10 then (-3, wTp a []) else (nI a.rs.length, wNow (wTp a []) ((a.ls, a.ss, a.on + 2 ^ a.rs.length), a.rs ++ [r], []))) else ((-20) - nI (sk a.tp q), wTp a [])
  | (none, q) => ((-20) - nI (sk a.tp q), wTp a [])
def vOf (a : aW) (r w : Int32) : Int32 := match ix r a.rs.length with
  | none => -1
  | some j => if w = nI 0 then nI (gR a.rs j).1 else if w = nI 1 then nI (pPh a.rs j).length else if w = nI 2 then nI (pGf a.rs j).length else if w = nI 3 then nI (if a.on.testBit j then 1 else 0) else if w = nI 4 then (a.us a.on).getD j 0 else -1
def vSpelt (a : aW) (r w x : Int32) : Int32 := match ix r a.rs.length, ix w 2, ix x 6 with
  | some j, some 0, some i => if i < (pPh a.rs j).length then (pPh a.rs j).getD i 0 else -4
  | some j, some _, some i => if i < (pGf a.rs j).length then (giv (gR a.rs j).1 (pGf a.rs j)).getD i 0 else -4
  | _, _, _ => -1
def vAt (a : aW) (p w : Int32) : Int32 := match ix p a.ls.length, ix w 2 with
  | some i, some 0 => a.ls.getD i 0
  | some i, some _ => a.ss.getD i 0
  | _, _ => -1
section APR
variable {sh : pmS} {M : pmM} {N : pmN} {Q : pmPost} {k : Nat} {a : aW}
theorem c_rule (hb : isApp sh k) (hw : wfW a) (hx : appIs M N k a) (kk : pst k sh M N Q (.int (vRule a).1) (vRule a).2) : PW mX10_rule 0 [.ref k, .null, .null, .null] [] sh M N Q := by
  obtain ⟨b0, b1, b2, b3, b4, b5, b6, b7, b8, b9, b10⟩ := hb
  have t0 := b1.1
  have t1 := b1.2
  have t1' := t1.1
  have s0 := b2.1
  have s3 := b2.2.2.1
  have s3' := s3.1
  have b5' := b5.1
  have d0 := b5.2.2 0 (by decide)
  have d0' := d0.1
  have hl := hw.1
  have ht := hw.2.1
  have hok := rdR_ok (tp := a.tp) (p := 0) (Nat.zero_le _)
  have h10 : a.rs.length ≤ 10 := hx.2.1.2.1.2.1
  unfold vRule at kk
  have fin : ∀ (M3 M0 : pmM) (p : Nat), (∀ x, (x < k ∨ k + 323 ≤ x) → M3 x = M x) → p ≤ a.tp.length → M3 (k + 1) 1 = nI p → appIs M3 N k a → pst k sh M N Q (.int ((-20) - nI (sk a.tp p))) (wTp a []) → PW mX10_rule 44 [.ref k, .ref (k + 234 + 7 + 5 * 0), .int (nI 0), .null] [] sh M3 N Q := by
    intro M3 M0 p f3 hp p3 x3 kk
    refine pw_aload_n 45 rfl rfl rfl ?_
    refine pw_getR 48 rfl rfl (by first | assumption | exact ⟨by decide, rfl⟩) rfl ?_
    refine pw_cV0 51 rfl rfl (by first | assumption | exact ⟨by decide, rfl⟩) rfl (Nat.le_of_ble_eq_true rfl) rfl rfl (Nat.le_of_ble_eq_true rfl) (c_Tape_fault b1 hl x3.1 hp p3 (fun M4 f4 => ?_))
    refine pw_pI ?_
    have x4 := x3.tap f4
    refine pw_istore3 52 rfl rfl rfl ?_
    refine pw_aload_n 53 rfl rfl rfl ?_
    refine pw_getR 56 rfl rfl (by first | assumption | exact ⟨by decide, rfl⟩) rfl ?_
    refine pw_getR 59 rfl rfl (by first | assumption | exact ⟨by decide, rfl⟩) rfl ?_
    refine pw_cV0 62 rfl rfl (by first | assumption | exact ⟨by decide, rfl⟩) rfl (Nat.le_of_ble_eq_true rfl) rfl rfl (Nat.le_of_ble_eq_true rfl) (c_Row_clear t1 (fun M5 f5 r5 => ?_))
    refine pw_pV ?_
    refine pw_iload_n 63 rfl rfl rfl ?_
    refine pw_if_ne_f 66 rfl rfl (by decide) ?_
    refine pw_iload_n 67 rfl rfl rfl ?_
    refine pw_iret rfl rfl (kk.go ?_ (x4.tape (f5.wk (by omega) (by omega)) r5))
    intro x hx
    rw [f5 x (by omega), f4 x (by omega), f3 x hx]
  refine pw_aload_n 1 rfl rfl rfl ?_
  refine pw_getR 4 rfl rfl (by first | assumption | exact ⟨by decide, rfl⟩) rfl ?_
  refine pw_iconst (v := nI 0) 5 rfl rfl (by decide) ?_
  refine pw_cV1 8 rfl rfl (by first | assumption | exact ⟨by decide, rfl⟩) rfl (Nat.le_of_ble_eq_true rfl) rfl rfl (Nat.le_of_ble_eq_true rfl) (c_Book_get b5 (i := 0) (by decide) ?_)
  refine pw_pR ?_
  refine pw_astore1 9 rfl rfl rfl ?_
  refine pw_aload_n 10 rfl rfl rfl ?_
  refine pw_getR 13 rfl rfl (by first | assumption | exact ⟨by decide, rfl⟩) rfl ?_
  refine pw_cV0 16 rfl rfl (by first | assumption | exact ⟨by decide, rfl⟩) rfl (Nat.le_of_ble_eq_true rfl) rfl rfl (Nat.le_of_ble_eq_true rfl) (c_Tape_rewind b1 (fun M1 f1 p1 => ?_))
  refine pw_pV ?_
  have x1 := hx.tap f1
  refine pw_aload_n 17 rfl rfl rfl ?_
  refine pw_getR 20 rfl rfl (by first | assumption | exact ⟨by decide, rfl⟩) rfl ?_
  refine pw_aload_n 21 rfl rfl rfl ?_
  refine pw_cV1 24 rfl rfl (by first | assumption | exact ⟨by decide, rfl⟩) rfl (Nat.le_of_ble_eq_true rfl) rfl rfl (Nat.le_of_ble_eq_true rfl) (c_Tape_readRule b1 hl x1.1 (Nat.zero_le _) p1 d0 (by omega) (fun M2 f2 p2 e2 => ?_) (fun r M2 f2 p2 e2 r2 => ?_))
  · refine pw_pI ?_
    have x2 := x1.mvs (fun x h1 h2 => f2 x h1 (by omega))
    skip
    refine pw_if_eq_t 42 rfl rfl (by decide) ?_
    refine pw_iconst (v := nI 0) 43 rfl rfl (by decide) ?_
    refine pw_istore2 44 rfl rfl rfl ?_
    have e : rdR a.tp 0 = (none, (rdR a.tp 0).2) := Prod.ext e2 rfl
    rw [e] at kk
    exact fin M2 M (rdR a.tp 0).2 (fun x hx => by rw [f2 x (by omega) (by omega), f1 x (by omega)]) hok.2 p2 x2 kk
  · refine pw_pI ?_
    have x2 := x1.mvs (fun x h1 h2 => f2 x h1 (by omega))
    have e : rdR a.tp 0 = (some r, (rdR a.tp 0).2) := Prod.ext e2 rfl
    rw [e] at kk
    skip
    refine pw_if_eq_f 27 rfl rfl (by decide) ?_
    refine pw_aload_n 28 rfl rfl rfl ?_
    refine pw_getR 31 rfl rfl (by first | assumption | exact ⟨by decide, rfl⟩) rfl ?_
    refine pw_cV0 34 rfl rfl (by first | assumption | exact ⟨by decide, rfl⟩) rfl (Nat.le_of_ble_eq_true rfl) rfl rfl (Nat.le_of_ble_eq_true rfl) (c_Tape_next b1 hl x2.1 hok.2 p2 (fun M3 f3 p3 => ?_))
    refine pw_pI ?_
    have x3 := x2.tap f3
    have f13 : ∀ x, (x < k ∨ k + 323 ≤ x) → M3 x = M x := fun x hx => by rw [f3 x (by omega), f2 x (by omega) (by omega), f1 x (by omega)]
    refine pw_iconst (v := (-1)) 35 rfl rfl (by decide) ?_
    refine pw_icmp_ne 42 38 rfl rfl rfl (fun q => ?_) (fun q => ?_)
    · have q : ¬ cur a.tp (rdR a.tp 0).2 = none := fun e => q ((cX_end ht).mpr e)
      simp only [if_neg q] at kk
      refine pw_iconst (v := nI 0) 43 rfl rfl (by decide) ?_
      refine pw_istore2 44 rfl rfl rfl ?_
      refine fin M3 M (sk a.tp (rdR a.tp 0).2) f13 (sk_le hok.2) p3 x3 ?_
      rw [sk_idem]
      exact kk
    · have q : cur a.tp (rdR a.tp 0).2 = none := (cX_end ht).mp (Decidable.not_not.mp q)
      simp only [if_pos q] at kk
      refine pw_iconst (v := nI 1) 39 rfl rfl (by decide) ?_
      refine pw_goto rfl 43 rfl ?_
      refine pw_istore2 44 rfl rfl rfl ?_
      refine pw_aload_n 45 rfl rfl rfl ?_
      refine pw_getR 48 rfl rfl (by first | assumption | exact ⟨by decide, rfl⟩) rfl ?_
      refine pw_cV0 51 rfl rfl (by first | assumption | exact ⟨by decide, rfl⟩) rfl (Nat.le_of_ble_eq_true rfl) rfl rfl (Nat.le_of_ble_eq_true rfl) (c_Tape_fault b1 hl x3.1 (sk_le hok.2) p3 (fun M4 f4 => ?_))
      refine pw_pI ?_
      have x4 := x3.tap f4
      refine pw_istore3 52 rfl rfl rfl ?_
      refine pw_aload_n 53 rfl rfl rfl ?_
      refine pw_getR 56 rfl rfl (by first | assumption | exact ⟨by decide, rfl⟩) rfl ?_
      refine pw_getR 59 rfl rfl (by first | assumption | exact ⟨by decide, rfl⟩) rfl ?_
      refine pw_cV0 62 rfl rfl (by first | assumption | exact ⟨by decide, rfl⟩) rfl (Nat.le_of_ble_eq_true rfl) rfl rfl (Nat.le_of_ble_eq_true rfl) (c_Row_clear t1 (fun M5 f5 r5 => ?_))
      refine pw_pV ?_
      have x5 := x4.tape (f5.wk (by omega) (by omega)) r5
      have f15 : ∀ x, (x < k ∨ k + 323 ≤ x) → M5 x = M x := fun x hx => by rw [f5 x (by omega), f4 x (by omega), f13 x hx]
      refine pw_iload_n 63 rfl rfl rfl ?_
      refine pw_if_ne_t 68 rfl rfl (by decide) ?_
      refine pw_aload_n 69 rfl rfl rfl ?_
      refine pw_getR 72 rfl rfl (by first | assumption | exact ⟨by decide, rfl⟩) rfl ?_
      refine pw_aload_n 73 rfl rfl rfl ?_
      refine pw_cV1 76 rfl rfl (by first | assumption | exact ⟨by decide, rfl⟩) rfl (Nat.le_of_ble_eq_true rfl) rfl rfl (Nat.le_of_ble_eq_true rfl) (c_State_addRule b2 x5.2.1 hw.2.2.1 d0 (((r2.mv f3 (by omega)).mv f4 (by omega)).mv f5 (by omega)) (hok.1 r e2) (by omega) (fun e10 => ?_) (fun M6 l10 f6 r6 => ?_))
      · refine pw_pI ?_
        have e10 : a.rs.length = 10 := e10
        rw [if_pos e10] at kk
        skip
        refine pw_if_eq_t 94 rfl rfl (by decide) ?_
        refine pw_bipush (v := (-3)) 96 rfl rfl (by decide) ?_
        exact pw_iret rfl rfl (kk.go (fun x hx => f15 x hx) x5)
      · refine pw_pI ?_
        have l10 : a.rs.length < 10 := l10
        rw [if_neg (by omega)] at kk
        have x6 := x5.now (f6.wk (by omega) (by omega)) r6
        skip
        refine pw_if_eq_f 79 rfl rfl (by decide) ?_
        refine pw_aload_n 80 rfl rfl rfl ?_
        refine pw_getR 83 rfl rfl (by first | assumption | exact ⟨by decide, rfl⟩) rfl ?_
        refine pw_getR 86 rfl rfl (by first | assumption | exact ⟨by decide, rfl⟩) rfl ?_
        refine pw_cV0 89 rfl rfl (by first | assumption | exact ⟨by decide, rfl⟩) rfl (Nat.le_of_ble_eq_true rfl) rfl rfl (Nat.le_of_ble_eq_true rfl) (c_Book_size s3 x6.2.1.2.1 ?_)
        refine pw_pI ?_
        have e9 : (a.rs ++ [r]).length = a.rs.length + 1 := by rw [List.length_append]; rfl
        rw [show nI ((wTp a []).now.2.1 ++ [r]).length = nI (a.rs.length + 1) from congrArg nI e9]
        refine pw_iconst (v := nI 1) 90 rfl rfl (by decide) ?_
        first | refine pw_isubN 91 rfl rfl (by with_reducible rfl) (by with_reducible rfl) (by omega) ?_ | refine pw_isub 91 rfl rfl ?_
        refine pw_goto rfl 96 rfl ?_
        rw [Nat.add_sub_cancel]
        exact pw_iret rfl rfl (kk.go (fun x hx => by rw [f6 x (by omega), f15 x hx]) x6)
theorem c_of {r w : Int32} (hb : isApp sh k) (hw : wfW a) (hx : appIs M N k a) (kk : pst k sh M N Q (.int (vOf a r w)) a) : PW mX10_of 0 [.ref k, .int r, .int w, .null] [] sh M N Q := by
  have hb0 := hb
  obtain ⟨b0, b1, b2, b3, b4, b5, b6, b7, b8, b9, b10⟩ := hb
  have s0 := b2.1
  have s1 := b2.2.1.1
  have s3 := b2.2.2.1
  have s3' := s3.1
  have h10 : a.rs.length ≤ 10 := hx.2.1.2.1.2.1
  have hbk : bookIs M (k + 11) a.rs := hx.2.1.2.1
  have hon := wf_on hw hx
  unfold vOf at kk
  refine pw_aload_n 1 rfl rfl rfl ?_
  refine pw_getR 4 rfl rfl (by first | assumption | exact ⟨by decide, rfl⟩) rfl ?_
  refine pw_getR 7 rfl rfl (by first | assumption | exact ⟨by decide, rfl⟩) rfl ?_
  refine pw_iload_n 8 rfl rfl rfl ?_
  refine pw_cV1 11 rfl rfl (by first | assumption | exact ⟨by decide, rfl⟩) rfl (Nat.le_of_ble_eq_true rfl) rfl rfl (Nat.le_of_ble_eq_true rfl) (c_Book_has s3 hbk (fun j hj e => ?_) (fun hn => ?_))
  · refine pw_pI ?_
    subst e
    rw [ix_some hj (by omega)] at kk
    simp only at kk
    have o1 := (s3.2.2 j (by omega)).1
    have o2 := (s3.2.2 j (by omega)).2.1
    have o3 := (s3.2.2 j (by omega)).2.2
    have o2' := o2.1
    have o3' := o3.1
    have e := bk_at hbk hj
    skip
    refine pw_if_ne_t 16 rfl rfl (by decide) ?_
    refine pw_aload_n 17 rfl rfl rfl ?_
    refine pw_getR 20 rfl rfl (by first | assumption | exact ⟨by decide, rfl⟩) rfl ?_
    refine pw_getR 23 rfl rfl (by first | assumption | exact ⟨by decide, rfl⟩) rfl ?_
    refine pw_iload_n 24 rfl rfl rfl ?_
    refine pw_cV1 27 rfl rfl (by first | assumption | exact ⟨by decide, rfl⟩) rfl (Nat.le_of_ble_eq_true rfl) rfl rfl (Nat.le_of_ble_eq_true rfl) (c_Book_get s3 (i := j) (by omega) ?_)
    refine pw_pR ?_
    refine pw_astore3 28 rfl rfl rfl ?_
    refine pw_iload_n 29 rfl rfl rfl ?_
    by_cases q0 : w = nI 0
    · rw [if_pos q0] at kk
      subst q0
      skip
      refine pw_tsw 64 rfl (rfl) ?_
      refine pw_aload_n 65 rfl rfl rfl ?_
      refine pw_getI 68 rfl rfl (by first | assumption | exact ⟨by decide, rfl⟩) rfl ?_
      rw [show M (k + 11 + 7 + 5 * j) 0 = nI (gR a.rs j).1 from e.1.1]
      exact pw_iret rfl rfl (kk.at hx)
    rw [if_neg q0] at kk
    by_cases q1 : w = nI 1
    · rw [if_pos q1] at kk
      subst q1
      skip
      refine pw_tsw 69 rfl (rfl) ?_
      refine pw_aload_n 70 rfl rfl rfl ?_
      refine pw_getR 73 rfl rfl (by first | assumption | exact ⟨by decide, rfl⟩) rfl ?_
      refine pw_cV0 76 rfl rfl (by first | assumption | exact ⟨by decide, rfl⟩) rfl (Nat.le_of_ble_eq_true rfl) rfl rfl (Nat.le_of_ble_eq_true rfl) (c_Row_size o2 e.1.2.1 ?_)
      refine pw_pI ?_
      skip
      exact pw_iret rfl rfl (kk.at hx)
    rw [if_neg q1] at kk
    by_cases q2 : w = nI 2
    · rw [if_pos q2] at kk
      subst q2
      skip
      refine pw_tsw 77 rfl (rfl) ?_
      refine pw_aload_n 78 rfl rfl rfl ?_
      refine pw_getR 81 rfl rfl (by first | assumption | exact ⟨by decide, rfl⟩) rfl ?_
      refine pw_cV0 84 rfl rfl (by first | assumption | exact ⟨by decide, rfl⟩) rfl (Nat.le_of_ble_eq_true rfl) rfl rfl (Nat.le_of_ble_eq_true rfl) (c_Row_size o3 e.1.2.2 ?_)
      refine pw_pI ?_
      skip
      exact pw_iret rfl rfl (kk.at hx)
    rw [if_neg q2] at kk
    by_cases q3 : w = nI 3
    · rw [if_pos q3] at kk
      subst q3
      skip
      refine pw_tsw 85 rfl (rfl) ?_
      refine pw_aload_n 86 rfl rfl rfl ?_
      refine pw_getR 89 rfl rfl (by first | assumption | exact ⟨by decide, rfl⟩) rfl ?_
      refine pw_getR 92 rfl rfl (by first | assumption | exact ⟨by decide, rfl⟩) rfl ?_
      refine pw_getI 95 rfl rfl (by first | assumption | exact ⟨by decide, rfl⟩) rfl ?_
      refine pw_iload_n 96 rfl rfl rfl ?_
      refine pw_ishr 97 rfl rfl ?_
      refine pw_iconst (v := nI 1) 98 rfl rfl (by decide) ?_
      refine pw_iand 99 rfl rfl ?_
      rw [hx.2.1.1.2.1, bit_v _ hon _ (by omega)]
      skip
      exact pw_iret rfl rfl (kk.at hx)
    rw [if_neg q3] at kk
    by_cases q4 : w = nI 4
    · rw [if_pos q4] at kk
      subst q4
      skip
      refine pw_tsw 100 rfl (rfl) ?_
      refine pw_aload_n 101 rfl rfl rfl ?_
      refine pw_iload_n 102 rfl rfl rfl ?_
      refine pw_cV1 105 rfl rfl (by first | assumption | exact ⟨by decide, rfl⟩) rfl (Nat.le_of_ble_eq_true rfl) rfl rfl (Nat.le_of_ble_eq_true rfl) (c_usesOf hb0 hw hx (fun M1 N1 f1 n1 x1 => ?_))
      refine pw_pI ?_
      unfold vUses
      rw [gI_n (by omega)]
      skip
      exact pw_iret rfl rfl (kk M1 N1 f1 n1 x1)
    rw [if_neg q4] at kk
    skip
    refine pw_tsw 106 rfl ((ts_out (n := 4) 106 (fun j hj => by rcases (show j = 0 ∨ j = 1 ∨ j = 2 ∨ j = 3 ∨ j = 4 by omega) with rfl | rfl | rfl | rfl | rfl <;> assumption) (by decide) rfl)) ?_
    refine pw_iconst (v := (-1)) 107 rfl rfl (by decide) ?_
    exact pw_iret rfl rfl (kk.at hx)
  · refine pw_pI ?_
    rw [ix_none hn] at kk
    skip
    refine pw_if_ne_f 14 rfl rfl (by decide) ?_
    refine pw_iconst (v := (-1)) 15 rfl rfl (by decide) ?_
    exact pw_iret rfl rfl (kk.at hx)
end APR
