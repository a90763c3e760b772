theorem xor_bit : ∀ s, s < 1024 → ∀ j, j < 10 → nI s ^^^ (nI 1 <<< (nI j &&& 31)) = nI (s ^^^ 2 ^ j) := by decide +kernel
theorem or_bitS : ∀ s, s < 1024 → ∀ j, j < 10 → nI s ||| (nI 1 <<< (nI j &&& 31)) = nI (s ||| 2 ^ j) := by decide +kernel
theorem and_not (x m : Int32) : x &&& (m ^^^ (-1)) = 0 ↔ x = x &&& m := by
  constructor
  · intro h
    have h := congrArg Int32.toBitVec h
    apply Int32.toBitVec_inj.mp
    apply BitVec.eq_of_getLsbD_eq
    intro i hi
    have h2 := congrArg (fun b => b.getLsbD i) h
    simp only [Int32.toBitVec_and, Int32.toBitVec_xor, BitVec.getLsbD_and, BitVec.getLsbD_xor] at h2 ⊢
    have h3 : (Int32.toBitVec (-1)).getLsbD i = true := by
      rw [show Int32.toBitVec (-1) = BitVec.allOnes 32 by decide, BitVec.getLsbD_allOnes]; exact decide_eq_true hi
    have h4 : (Int32.toBitVec 0).getLsbD i = false := by
      rw [show Int32.toBitVec 0 = 0#32 by decide, BitVec.getLsbD_zero]
    rw [h3, h4] at h2
    cases hx : x.toBitVec.getLsbD i <;> cases hm : m.toBitVec.getLsbD i <;> simp [hx, hm] at h2 ⊢
  · intro h
    apply Int32.toBitVec_inj.mp
    apply BitVec.eq_of_getLsbD_eq
    intro i hi
    have h2 := congrArg (fun b => b.getLsbD i) (congrArg Int32.toBitVec h)
    simp only [Int32.toBitVec_and, Int32.toBitVec_xor, BitVec.getLsbD_and, BitVec.getLsbD_xor] at h2 ⊢
    have h3 : (Int32.toBitVec (-1)).getLsbD i = true := by
      rw [show Int32.toBitVec (-1) = BitVec.allOnes 32 by decide, BitVec.getLsbD_allOnes]; exact decide_eq_true hi
    have h4 : (Int32.toBitVec 0).getLsbD i = false := by
      rw [show Int32.toBitVec 0 = 0#32 by decide, BitVec.getLsbD_zero]
    rw [h3, h4]
    cases hx : x.toBitVec.getLsbD i <;> cases hm : m.toBitVec.getLsbD i <;> simp [hx, hm] at h2 ⊢
theorem in_all {j n : Nat} (hj : j < 2 ^ 31) (hn : n ≤ 10) : nI j &&& (nI (2 ^ n - 1) ^^^ (-1)) = 0 ↔ j < 2 ^ n := by
  rw [and_not, and_v, Nat.and_two_pow_sub_one_eq_mod, nI_eq hj (Nat.lt_of_le_of_lt (Nat.mod_le _ _) hj)]
  constructor
  · intro h; rw [h]; exact Nat.mod_lt _ (Nat.two_pow_pos n)
  · intro h; exact (Nat.mod_eq_of_lt h).symm
def vCount (a : aW) (w : Int32) : Int32 := if w = nI 0 then nI a.ls.length else if w = nI 1 then nI a.rs.length else if w = nI 2 then nI a.on else if w = nI 3 then nI (vIdle a) else if w = nI 4 then (if a.ps = none then -4 else nI a.pset) else if w = nI 5 then rI a.ps else if w = nI 6 then nI a.now.2.2.length else -1
abbrev noted (a : aW) : List aM := (a.now.1 :: a.now.2.2).take 8
def vChange (a : aW) (p x : Int32) : Int32 × aW := match ix p a.ls.length with
  | none => (-1, a)
  | some i => if ltr x = false then (-1, a) else if a.ls.getD i 0 = x then (-2, a) else (a.ls.getD i 0, wNow a ((a.ls.set i x, a.ss, a.on), a.rs, noted a))
def vTurn (a : aW) (r : Int32) : Int32 × aW := match ix r a.rs.length with
  | none => (-1, a)
  | some j => (nI (if (a.on ^^^ 2 ^ j).testBit j then 1 else 0), wNow a ((a.ls, a.ss, a.on ^^^ 2 ^ j), a.rs, noted a))
def vPass (a : aW) (s : Int32) : Int32 × aW := match ix s (2 ^ a.rs.length) with
  | none => (-1, a)
  | some j => vGo a j
theorem rI_4 {o : Option Nat} (h : ∀ s, o = some s → s < 1000) : rI o = -4 ↔ o = none := by
  cases o with
  | none => exact ⟨fun _ => rfl, fun _ => rfl⟩
  | some s => exact ⟨fun q => absurd q (nI_m4 (h s rfl)), fun q => by cases q⟩
section APS
variable {sh : pmS} {M : pmM} {N : pmN} {Q : pmPost} {k : Nat} {a : aW}
theorem c_spelt {r w x : Int32} (hb : isApp sh k) (hw : wfW a) (hx : appIs M N k a) (kk : pst k sh M N Q (.int (vSpelt a r w x)) a) : PW mX10_spelt 0 [.ref k, .int r, .int w, .int x, .null, .null] [] sh M N Q := by
  obtain ⟨b0, b1, b2, b3, b4, b5, b6, b7, b8, b9, b10⟩ := hb
  have s0 := b2.1
  have s3 := b2.2.2.1
  have s3' := s3.1
  have h10 : a.rs.length ≤ 10 := hx.2.1.2.1.2.1
  have hbk : bookIs M (k + 11) a.rs := hx.2.1.2.1
  unfold vSpelt at kk
  have bad : pst k sh M N Q (.int (-1)) a → PW mX10_spelt 31 [.ref k, .int r, .int w, .int x, .null, .null] [] sh M N Q := by
    intro kk
    refine pw_iconst (v := (-1)) 32 rfl rfl (by decide) ?_
    exact pw_iret rfl rfl (kk.at hx)
  refine pw_aload_n 1 rfl rfl rfl ?_
  refine pw_getR 4 rfl rfl (by first | assumption | exact ⟨by decide, rfl⟩) rfl ?_
  refine pw_getR 7 rfl rfl (by first | assumption | exact ⟨by decide, rfl⟩) rfl ?_
  refine pw_iload_n 8 rfl rfl rfl ?_
  refine pw_cV1 11 rfl rfl (by first | assumption | exact ⟨by decide, rfl⟩) rfl (Nat.le_of_ble_eq_true rfl) rfl rfl (Nat.le_of_ble_eq_true rfl) (c_Book_has s3 hbk (fun j hj e => ?_) (fun hn => ?_))
  · refine pw_pI ?_
    subst e
    rw [ix_some hj (by omega)] at kk
    have o1 := (s3.2.2 j (by omega)).1
    have o2 := (s3.2.2 j (by omega)).2.1
    have o3 := (s3.2.2 j (by omega)).2.2
    have o2' := o2.1
    have o3' := o3.1
    have e := bk_at hbk hj
    have l1 : (pPh a.rs j).length ≤ 6 := e.2.2.2.1
    have l2 : (pGf a.rs j).length ≤ 6 := e.2.2.2.2
    have l1' : (gR a.rs j).2.1.length ≤ 6 := e.2.2.2.1
    have l2' : (gR a.rs j).2.2.length ≤ 6 := e.2.2.2.2
    skip
    refine pw_if_eq_f 14 rfl rfl (by decide) ?_
    refine pw_iload_n 15 rfl rfl rfl ?_
    refine pw_iconst (v := nI 2) 16 rfl rfl (by decide) ?_
    refine pw_cS2 19 rfl rfl rfl (Nat.le_of_ble_eq_true rfl) rfl rfl (Nat.le_of_ble_eq_true rfl) (c_isWithin (by decide) (fun i hi e1 => ?_) (fun hn => ?_))
    · refine pw_pI ?_
      subst e1
      rw [ix_some hi (by decide)] at kk
      skip
      refine pw_if_eq_f 22 rfl rfl (by decide) ?_
      refine pw_iload_n 23 rfl rfl rfl ?_
      refine pw_bipush (v := nI 6) 25 rfl rfl (by decide) ?_
      refine pw_cS2 28 rfl rfl rfl (Nat.le_of_ble_eq_true rfl) rfl rfl (Nat.le_of_ble_eq_true rfl) (c_isWithin (by decide) (fun t ht e2 => ?_) (fun hn => ?_))
      · refine pw_pI ?_
        subst e2
        rw [ix_some ht (by decide)] at kk
        skip
        refine pw_if_ne_t 33 rfl rfl (by decide) ?_
        refine pw_aload_n 34 rfl rfl rfl ?_
        refine pw_getR 37 rfl rfl (by first | assumption | exact ⟨by decide, rfl⟩) rfl ?_
        refine pw_getR 40 rfl rfl (by first | assumption | exact ⟨by decide, rfl⟩) rfl ?_
        refine pw_iload_n 41 rfl rfl rfl ?_
        refine pw_cV1 44 rfl rfl (by first | assumption | exact ⟨by decide, rfl⟩) rfl (Nat.le_of_ble_eq_true rfl) rfl rfl (Nat.le_of_ble_eq_true rfl) (c_Book_get s3 (i := j) (by omega) ?_)
        refine pw_pR ?_
        refine pw_astore4 46 rfl rfl rfl ?_
        refine pw_iload_n 47 rfl rfl rfl ?_
        by_cases q : i = 0
        · subst q
          simp only at kk
          skip
          refine pw_if_ne_f 50 rfl rfl (by decide) ?_
          refine pw_aload 52 rfl rfl rfl ?_
          refine pw_getR 55 rfl rfl (by first | assumption | exact ⟨by decide, rfl⟩) rfl ?_
          refine pw_goto rfl 63 rfl ?_
          refine pw_astore5 65 rfl rfl rfl ?_
          refine pw_iload_n 66 rfl rfl rfl ?_
          refine pw_aload 68 rfl rfl rfl ?_
          refine pw_cV0 71 rfl rfl (by first | assumption | exact ⟨by decide, rfl⟩) rfl (Nat.le_of_ble_eq_true rfl) rfl rfl (Nat.le_of_ble_eq_true rfl) (c_Row_size o2 e.1.2.1 ?_)
          refine pw_pI ?_
          by_cases q2 : t < (pPh a.rs j).length
          · rw [if_pos q2] at kk
            skip
            refine pw_icmp_lt_t 77 rfl rfl (nI_lt q2 (by omega)) ?_
            refine pw_iload_n 78 rfl rfl rfl ?_
            refine pw_if_ne_f 81 rfl rfl (by decide) ?_
            refine pw_aload 83 rfl rfl rfl ?_
            refine pw_iload_n 84 rfl rfl rfl ?_
            refine pw_cV1 87 rfl rfl (by first | assumption | exact ⟨by decide, rfl⟩) rfl (Nat.le_of_ble_eq_true rfl) rfl rfl (Nat.le_of_ble_eq_true rfl) (c_Row_get o2 e.1.2.1 l1' _ ?_)
            rw [gI_n (by omega)]
            refine pw_pI ?_
            refine pw_goto rfl 101 rfl ?_
            exact pw_iret rfl rfl (kk.at hx)
          · rw [if_neg q2] at kk
            skip
            refine pw_icmp_lt_f 74 rfl rfl (nI_nlt (Nat.le_of_not_lt q2) (by omega)) ?_
            refine pw_bipush (v := (-4)) 76 rfl rfl (by decide) ?_
            exact pw_iret rfl rfl (kk.at hx)
        · have q : i = 1 := by omega
          subst q
          simp only at kk
          skip
          refine pw_if_ne_t 58 rfl rfl (by decide) ?_
          refine pw_aload 60 rfl rfl rfl ?_
          refine pw_getR 63 rfl rfl (by first | assumption | exact ⟨by decide, rfl⟩) rfl ?_
          refine pw_astore5 65 rfl rfl rfl ?_
          refine pw_iload_n 66 rfl rfl rfl ?_
          refine pw_aload 68 rfl rfl rfl ?_
          refine pw_cV0 71 rfl rfl (by first | assumption | exact ⟨by decide, rfl⟩) rfl (Nat.le_of_ble_eq_true rfl) rfl rfl (Nat.le_of_ble_eq_true rfl) (c_Row_size o3 e.1.2.2 ?_)
          refine pw_pI ?_
          by_cases q2 : t < (pGf a.rs j).length
          · rw [if_pos q2] at kk
            skip
            refine pw_icmp_lt_t 77 rfl rfl (nI_lt q2 (by omega)) ?_
            refine pw_iload_n 78 rfl rfl rfl ?_
            refine pw_if_ne_t 90 rfl rfl (by decide) ?_
            refine pw_aload 92 rfl rfl rfl ?_
            refine pw_iload_n 93 rfl rfl rfl ?_
            refine pw_aload 95 rfl rfl rfl ?_
            refine pw_getI 98 rfl rfl (by first | assumption | exact ⟨by decide, rfl⟩) rfl ?_
            rw [show M (k + 11 + 7 + 5 * j) 0 = nI (gR a.rs j).1 from e.1.1]
            refine pw_cV2 101 rfl rfl (by first | assumption | exact ⟨by decide, rfl⟩) rfl (Nat.le_of_ble_eq_true rfl) rfl rfl (Nat.le_of_ble_eq_true rfl) (c_Rule_given (s3.2.2 j (by omega)) e.1 l2' (j := t) q2 e.2.1 ?_)
            refine pw_pI ?_
            skip
            exact pw_iret rfl rfl (kk.at hx)
          · rw [if_neg q2] at kk
            skip
            refine pw_icmp_lt_f 74 rfl rfl (nI_nlt (Nat.le_of_not_lt q2) (by omega)) ?_
            refine pw_bipush (v := (-4)) 76 rfl rfl (by decide) ?_
            exact pw_iret rfl rfl (kk.at hx)
      · refine pw_pI ?_
        rw [ix_none hn] at kk
        skip
        refine pw_if_ne_f 31 rfl rfl (by decide) ?_
        refine bad ?_
        rcases i with _ | _ | i <;> exact kk
    · refine pw_pI ?_
      rw [ix_none hn] at kk
      skip
      refine pw_if_eq_t 31 rfl rfl (by decide) ?_
      exact bad kk
  · refine pw_pI ?_
    rw [ix_none hn] at kk
    skip
    refine pw_if_eq_t 31 rfl rfl (by decide) ?_
    exact bad kk
theorem c_at {p w : Int32} (hb : isApp sh k) (hw : wfW a) (hx : appIs M N k a) (kk : pst k sh M N Q (.int (vAt a p w)) a) : PW mX10_at 0 [.ref k, .int p, .int w, .null] [] sh M N Q := by
  obtain ⟨b0, b1, b2, b3, b4, b5, b6, b7, b8, b9, b10⟩ := hb
  have s0 := b2.1
  have s1 := b2.2.1.1
  have s2 := b2.2.1.2
  have s2' := s2.1
  have l1' := s2.2.1.1
  have l2' := s2.2.2.1
  have hm := hx.2.1.1
  have h60 : a.ls.length ≤ 60 := hm.2.2.1
  have h60' : a.now.1.1.length ≤ 60 := hm.2.2.1
  have h61 : a.ss.length = a.ls.length := hm.2.2.2
  unfold vAt at kk
  have bad : pst k sh M N Q (.int (-1)) a → PW mX10_at 30 [.ref k, .int p, .int w, .ref (k + 4 + 1 + 1)] [] sh M N Q := by
    intro kk
    refine pw_iconst (v := (-1)) 31 rfl rfl (by decide) ?_
    exact pw_iret rfl rfl (kk.at hx)
  refine pw_aload_n 1 rfl rfl rfl ?_
  refine pw_getR 4 rfl rfl (by first | assumption | exact ⟨by decide, rfl⟩) rfl ?_
  refine pw_getR 7 rfl rfl (by first | assumption | exact ⟨by decide, rfl⟩) rfl ?_
  refine pw_getR 10 rfl rfl (by first | assumption | exact ⟨by decide, rfl⟩) rfl ?_
  refine pw_astore3 11 rfl rfl rfl ?_
  refine pw_iload_n 12 rfl rfl rfl ?_
  refine pw_aload_n 13 rfl rfl rfl ?_
  refine pw_cV0 16 rfl rfl (by first | assumption | exact ⟨by decide, rfl⟩) rfl (Nat.le_of_ble_eq_true rfl) rfl rfl (Nat.le_of_ble_eq_true rfl) (c_Line_size s2 hm.1 ?_)
  refine pw_pI ?_
  skip
  refine pw_cS2 19 rfl rfl rfl (Nat.le_of_ble_eq_true rfl) rfl rfl (Nat.le_of_ble_eq_true rfl) (c_isWithin (by omega) (fun i hi e1 => ?_) (fun hn => ?_))
  · refine pw_pI ?_
    subst e1
    rw [ix_some hi (by omega)] at kk
    skip
    refine pw_if_eq_f 22 rfl rfl (by decide) ?_
    refine pw_iload_n 23 rfl rfl rfl ?_
    refine pw_iconst (v := nI 2) 24 rfl rfl (by decide) ?_
    refine pw_cS2 27 rfl rfl rfl (Nat.le_of_ble_eq_true rfl) rfl rfl (Nat.le_of_ble_eq_true rfl) (c_isWithin (by decide) (fun t ht e2 => ?_) (fun hn => ?_))
    · refine pw_pI ?_
      subst e2
      rw [ix_some ht (by decide)] at kk
      skip
      refine pw_if_ne_t 32 rfl rfl (by decide) ?_
      by_cases q : t = 0
      · subst q
        simp only at kk
        refine pw_iload_n 33 rfl rfl rfl ?_
        refine pw_if_ne_f 36 rfl rfl (by decide) ?_
        refine pw_aload_n 37 rfl rfl rfl ?_
        refine pw_getR 40 rfl rfl (by first | assumption | exact ⟨by decide, rfl⟩) rfl ?_
        refine pw_iload_n 41 rfl rfl rfl ?_
        refine pw_cV1 44 rfl rfl (by first | assumption | exact ⟨by decide, rfl⟩) rfl (Nat.le_of_ble_eq_true rfl) rfl rfl (Nat.le_of_ble_eq_true rfl) (c_Row_get s2.2.1 hm.1.1 h60' _ ?_)
        rw [gI_n (by omega)]
        refine pw_pI ?_
        refine pw_goto rfl 55 rfl ?_
        exact pw_iret rfl rfl (kk.at hx)
      · have q : t = 1 := by omega
        subst q
        simp only at kk
        refine pw_iload_n 33 rfl rfl rfl ?_
        refine pw_if_ne_t 47 rfl rfl (by decide) ?_
        refine pw_aload_n 48 rfl rfl rfl ?_
        refine pw_getR 51 rfl rfl (by first | assumption | exact ⟨by decide, rfl⟩) rfl ?_
        refine pw_iload_n 52 rfl rfl rfl ?_
        refine pw_cV1 55 rfl rfl (by first | assumption | exact ⟨by decide, rfl⟩) rfl (Nat.le_of_ble_eq_true rfl) rfl rfl (Nat.le_of_ble_eq_true rfl) (c_Row_get s2.2.2 hm.1.2 (by rw [hm.2.2.2]; exact h60') _ ?_)
        rw [gI_n (by omega)]
        refine pw_pI ?_
        skip
        exact pw_iret rfl rfl (kk.at hx)
    · refine pw_pI ?_
      rw [ix_none hn] at kk
      skip
      refine pw_if_ne_f 30 rfl rfl (by decide) ?_
      exact bad kk
  · refine pw_pI ?_
    have hn2 : ix p a.ls.length = none := ix_none hn
    rw [hn2] at kk
    skip
    refine pw_if_eq_t 30 rfl rfl (by decide) ?_
    exact bad kk
theorem c_count {w : Int32} (hb : isApp sh k) (hw : wfW a) (hx : appIs M N k a) (kk : pst k sh M N Q (.int (vCount a w)) a) : PW mX10_count 0 [.ref k, .int w] [] sh M N Q := by
  have hb0 := hb
  obtain ⟨b0, b1, b2, b3, b4, b5, b6, b7, b8, b9, b10⟩ := hb
  have s0 := b2.1
  have s1 := b2.2.1.1
  have s2 := b2.2.1.2
  have s2' := s2.1
  have s3 := b2.2.2.1
  have s3' := s3.1
  have s4 := b2.2.2.2
  have s4' := s4.1
  unfold vCount at kk
  by_cases q0 : w = nI 0
  · rw [if_pos q0] at kk
    subst q0
    refine pw_iload_n 1 rfl rfl rfl ?_
    refine pw_tsw 44 rfl (rfl) ?_
    refine pw_aload_n 45 rfl rfl rfl ?_
    refine pw_getR 48 rfl rfl (by first | assumption | exact ⟨by decide, rfl⟩) rfl ?_
    refine pw_getR 51 rfl rfl (by first | assumption | exact ⟨by decide, rfl⟩) rfl ?_
    refine pw_getR 54 rfl rfl (by first | assumption | exact ⟨by decide, rfl⟩) rfl ?_
    refine pw_cV0 57 rfl rfl (by first | assumption | exact ⟨by decide, rfl⟩) rfl (Nat.le_of_ble_eq_true rfl) rfl rfl (Nat.le_of_ble_eq_true rfl) (c_Line_size s2 hx.2.1.1.1 ?_)
    refine pw_pI ?_
    skip
    exact pw_iret rfl rfl (kk.at hx)
  rw [if_neg q0] at kk
  by_cases q1 : w = nI 1
  · rw [if_pos q1] at kk
    subst q1
    refine pw_iload_n 1 rfl rfl rfl ?_
    refine pw_tsw 58 rfl (rfl) ?_
    refine pw_aload_n 59 rfl rfl rfl ?_
    refine pw_getR 62 rfl rfl (by first | assumption | exact ⟨by decide, rfl⟩) rfl ?_
    refine pw_getR 65 rfl rfl (by first | assumption | exact ⟨by decide, rfl⟩) rfl ?_
    refine pw_cV0 68 rfl rfl (by first | assumption | exact ⟨by decide, rfl⟩) rfl (Nat.le_of_ble_eq_true rfl) rfl rfl (Nat.le_of_ble_eq_true rfl) (c_Book_size s3 hx.2.1.2.1 ?_)
    refine pw_pI ?_
    skip
    exact pw_iret rfl rfl (kk.at hx)
  rw [if_neg q1] at kk
  by_cases q2 : w = nI 2
  · rw [if_pos q2] at kk
    subst q2
    refine pw_iload_n 1 rfl rfl rfl ?_
    refine pw_tsw 69 rfl (rfl) ?_
    refine pw_aload_n 70 rfl rfl rfl ?_
    refine pw_getR 73 rfl rfl (by first | assumption | exact ⟨by decide, rfl⟩) rfl ?_
    refine pw_getR 76 rfl rfl (by first | assumption | exact ⟨by decide, rfl⟩) rfl ?_
    refine pw_getI 79 rfl rfl (by first | assumption | exact ⟨by decide, rfl⟩) rfl ?_
    rw [hx.2.1.1.2.1]
    exact pw_iret rfl rfl (kk.at hx)
  rw [if_neg q2] at kk
  by_cases q3 : w = nI 3
  · rw [if_pos q3] at kk
    subst q3
    refine pw_iload_n 1 rfl rfl rfl ?_
    refine pw_tsw 80 rfl (rfl) ?_
    refine pw_aload_n 81 rfl rfl rfl ?_
    refine pw_cV0 84 rfl rfl (by first | assumption | exact ⟨by decide, rfl⟩) rfl (Nat.le_of_ble_eq_true rfl) rfl rfl (Nat.le_of_ble_eq_true rfl) (c_idleRules hb0 hw hx (fun M1 N1 f1 n1 x1 => ?_))
    refine pw_pI ?_
    skip
    exact pw_iret rfl rfl (kk M1 N1 f1 n1 x1)
  rw [if_neg q3] at kk
  by_cases q4 : w = nI 4
  · rw [if_pos q4] at kk
    subst q4
    have e4 := rI_4 (o := a.ps) (fun s hs => by have := hw.2.2.2.2.2.1 s hs; omega)
    refine pw_iload_n 1 rfl rfl rfl ?_
    refine pw_tsw 85 rfl (rfl) ?_
    refine pw_aload_n 86 rfl rfl rfl ?_
    refine pw_getI 89 rfl rfl (by first | assumption | exact ⟨by decide, rfl⟩) rfl ?_
    refine pw_bipush (v := (-4)) 91 rfl rfl (by decide) ?_
    rw [hx.2.2.2.2.1]
    refine pw_icmp_ne 99 94 rfl rfl rfl (fun q => ?_) (fun q => ?_)
    · rw [if_neg (fun e => q (e4.mpr e))] at kk
      refine pw_aload_n 100 rfl rfl rfl ?_
      refine pw_getI 103 rfl rfl (by first | assumption | exact ⟨by decide, rfl⟩) rfl ?_
      rw [hx.2.2.2.2.2.1]
      exact pw_iret rfl rfl (kk.at hx)
    · rw [if_pos (e4.mp (Decidable.not_not.mp q))] at kk
      refine pw_bipush (v := (-4)) 96 rfl rfl (by decide) ?_
      refine pw_goto rfl 103 rfl ?_
      exact pw_iret rfl rfl (kk.at hx)
  rw [if_neg q4] at kk
  by_cases q5 : w = nI 5
  · rw [if_pos q5] at kk
    subst q5
    refine pw_iload_n 1 rfl rfl rfl ?_
    refine pw_tsw 104 rfl (rfl) ?_
    refine pw_aload_n 105 rfl rfl rfl ?_
    refine pw_getI 108 rfl rfl (by first | assumption | exact ⟨by decide, rfl⟩) rfl ?_
    rw [hx.2.2.2.2.1]
    exact pw_iret rfl rfl (kk.at hx)
  rw [if_neg q5] at kk
  by_cases q6 : w = nI 6
  · rw [if_pos q6] at kk
    subst q6
    refine pw_iload_n 1 rfl rfl rfl ?_
    refine pw_tsw 109 rfl (rfl) ?_
    refine pw_aload_n 110 rfl rfl rfl ?_
    refine pw_getR 113 rfl rfl (by first | assumption | exact ⟨by decide, rfl⟩) rfl ?_
    refine pw_getR 116 rfl rfl (by first | assumption | exact ⟨by decide, rfl⟩) rfl ?_
    refine pw_cV0 119 rfl rfl (by first | assumption | exact ⟨by decide, rfl⟩) rfl (Nat.le_of_ble_eq_true rfl) rfl rfl (Nat.le_of_ble_eq_true rfl) (c_Hist_size s4 hx.2.1.2.2 ?_)
    refine pw_pI ?_
    skip
    exact pw_iret rfl rfl (kk.at hx)
  rw [if_neg q6] at kk
  refine pw_iload_n 1 rfl rfl rfl ?_
  refine pw_tsw 120 rfl ((ts_out (n := 6) 120 (fun j hj => by rcases (show j = 0 ∨ j = 1 ∨ j = 2 ∨ j = 3 ∨ j = 4 ∨ j = 5 ∨ j = 6 by omega) with rfl | rfl | rfl | rfl | rfl | rfl | rfl <;> assumption) (by decide) rfl)) ?_
  refine pw_iconst (v := (-1)) 121 rfl rfl (by decide) ?_
  exact pw_iret rfl rfl (kk.at hx)
theorem c_change {p x : Int32} (hb : isApp sh k) (hw : wfW a) (hx : appIs M N k a) (kk : pst k sh M N Q (.int (vChange a p x).1) (vChange a p x).2) : PW mX10_change 0 [.ref k, .int p, .int x, .null, .null] [] sh M N Q := by
  obtain ⟨b0, b1, b2, b3, b4, b5, b6, b7, b8, b9, b10⟩ := hb
  have s0 := b2.1
  have s1 := b2.2.1.1
  have s2 := b2.2.1.2
  have s2' := s2.1
  have l1' := s2.2.1.1
  have hm := hx.2.1.1
  have h60 : a.ls.length ≤ 60 := hm.2.2.1
  have h60' : a.now.1.1.length ≤ 60 := hm.2.2.1
  unfold vChange at kk
  have bad : pst k sh M N Q (.int (-1)) a → PW mX10_change 29 [.ref k, .int p, .int x, .ref (k + 4 + 1 + 1), .null] [] sh M N Q := by
    intro kk
    refine pw_iconst (v := (-1)) 30 rfl rfl (by decide) ?_
    exact pw_iret rfl rfl (kk.at hx)
  refine pw_aload_n 1 rfl rfl rfl ?_
  refine pw_getR 4 rfl rfl (by first | assumption | exact ⟨by decide, rfl⟩) rfl ?_
  refine pw_getR 7 rfl rfl (by first | assumption | exact ⟨by decide, rfl⟩) rfl ?_
  refine pw_getR 10 rfl rfl (by first | assumption | exact ⟨by decide, rfl⟩) rfl ?_
  refine pw_astore3 11 rfl rfl rfl ?_
  refine pw_iload_n 12 rfl rfl rfl ?_
  refine pw_aload_n 13 rfl rfl rfl ?_
  refine pw_cV0 16 rfl rfl (by first | assumption | exact ⟨by decide, rfl⟩) rfl (Nat.le_of_ble_eq_true rfl) rfl rfl (Nat.le_of_ble_eq_true rfl) (c_Line_size s2 hm.1 ?_)
  refine pw_pI ?_
  skip
  refine pw_cS2 19 rfl rfl rfl (Nat.le_of_ble_eq_true rfl) rfl rfl (Nat.le_of_ble_eq_true rfl) (c_isWithin (by omega) (fun i hi e1 => ?_) (fun hn => ?_))
  · refine pw_pI ?_
    subst e1
    rw [ix_some hi (by omega)] at kk
    simp only at kk
    skip
    refine pw_if_eq_f 22 rfl rfl (by decide) ?_
    refine pw_iload_n 23 rfl rfl rfl ?_
    refine pw_cS1 26 rfl rfl rfl (Nat.le_of_ble_eq_true rfl) rfl rfl (Nat.le_of_ble_eq_true rfl) (c_isLetter (fun hy => ?_) (fun hn => ?_))
    · refine pw_pI ?_
      rw [if_neg (by rw [hy]; decide)] at kk
      skip
      refine pw_if_ne_t 31 rfl rfl (by decide) ?_
      refine pw_aload_n 32 rfl rfl rfl ?_
      refine pw_getR 35 rfl rfl (by first | assumption | exact ⟨by decide, rfl⟩) rfl ?_
      refine pw_iload_n 36 rfl rfl rfl ?_
      refine pw_cV1 39 rfl rfl (by first | assumption | exact ⟨by decide, rfl⟩) rfl (Nat.le_of_ble_eq_true rfl) rfl rfl (Nat.le_of_ble_eq_true rfl) (c_Row_get s2.2.1 hm.1.1 h60' _ ?_)
      rw [gI_n (by omega)]
      refine pw_pI ?_
      refine pw_istore4 41 rfl rfl rfl ?_
      refine pw_iload 43 rfl rfl rfl ?_
      refine pw_iload_n 44 rfl rfl rfl ?_
      refine pw_icmp_ne 50 47 rfl rfl rfl (fun q => ?_) (fun q => ?_)
      · rw [if_neg q] at kk
        refine pw_aload_n 51 rfl rfl rfl ?_
        refine pw_getR 54 rfl rfl (by first | assumption | exact ⟨by decide, rfl⟩) rfl ?_
        refine pw_cV0 57 rfl rfl (by first | assumption | exact ⟨by decide, rfl⟩) rfl (Nat.le_of_ble_eq_true rfl) rfl rfl (Nat.le_of_ble_eq_true rfl) (c_State_remember b2 hx.2.1 (fun M1 f1 r1 => ?_))
        refine pw_pV ?_
        refine pw_aload_n 58 rfl rfl rfl ?_
        refine pw_getR 61 rfl rfl (by first | assumption | exact ⟨by decide, rfl⟩) rfl ?_
        refine pw_iload_n 62 rfl rfl rfl ?_
        refine pw_iload_n 63 rfl rfl rfl ?_
        refine pw_cV2 66 rfl rfl (by first | assumption | exact ⟨by decide, rfl⟩) rfl (Nat.le_of_ble_eq_true rfl) rfl rfl (Nat.le_of_ble_eq_true rfl) (c_Row_set s2.2.1 r1.1.1.1 h60' (j := i) hi _ (fun M2 f2 r2 => ?_))
        refine pw_pV ?_
        refine pw_iload 68 rfl rfl rfl ?_
        have f12 := (f1.wk (c := k + 5) (d := k + 118) (by omega) (by omega)).tr (f2.wk (by omega) (by omega))
        exact pw_iret rfl rfl (kk.go (f12.wk (by omega) (by omega)) (hx.now f12 (r1.line (f2.wk (by omega) (by omega)) ⟨r2, r1.1.1.2.mv f2 (by omega)⟩ (by rw [List.length_set]; exact h60') (by rw [List.length_set]; exact hm.2.2.2))))
      · rw [if_pos (Decidable.not_not.mp q)] at kk
        refine pw_bipush (v := (-2)) 49 rfl rfl (by decide) ?_
        exact pw_iret rfl rfl (kk.at hx)
    · refine pw_pI ?_
      rw [if_pos hn] at kk
      skip
      refine pw_if_ne_f 29 rfl rfl (by decide) ?_
      exact bad kk
  · refine pw_pI ?_
    have hn2 : ix p a.ls.length = none := ix_none hn
    rw [hn2] at kk
    skip
    refine pw_if_eq_t 29 rfl rfl (by decide) ?_
    exact bad kk
theorem c_turn {r : Int32} (hb : isApp sh k) (hw : wfW a) (hx : appIs M N k a) (kk : pst k sh M N Q (.int (vTurn a r).1) (vTurn a r).2) : PW mX10_turn 0 [.ref k, .int r] [] sh M N Q := by
  obtain ⟨b0, b1, b2, b3, b4, b5, b6, b7, b8, b9, b10⟩ := hb
  have s0 := b2.1
  have s1 := b2.2.1.1
  have s3 := b2.2.2.1
  have s3' := s3.1
  have h10 : a.rs.length ≤ 10 := hx.2.1.2.1.2.1
  have hon := wf_on hw hx
  unfold vTurn at kk
  refine pw_aload_n 1 rfl rfl rfl ?_
  refine pw_getR 4 rfl rfl (by first | assumption | exact ⟨by decide, rfl⟩) rfl ?_
  refine pw_getR 7 rfl rfl (by first | assumption | exact ⟨by decide, rfl⟩) rfl ?_
  refine pw_iload_n 8 rfl rfl rfl ?_
  refine pw_cV1 11 rfl rfl (by first | assumption | exact ⟨by decide, rfl⟩) rfl (Nat.le_of_ble_eq_true rfl) rfl rfl (Nat.le_of_ble_eq_true rfl) (c_Book_has s3 hx.2.1.2.1 (fun j hj e => ?_) (fun hn => ?_))
  · refine pw_pI ?_
    subst e
    have hj : j < a.rs.length := hj
    rw [ix_some hj (by omega)] at kk
    simp only at kk
    have hlt : a.on ^^^ 2 ^ j < 1024 := Nat.xor_lt_two_pow (n := 10) hon (Nat.pow_lt_pow_right (by decide) (by omega))
    skip
    refine pw_if_ne_t 16 rfl rfl (by decide) ?_
    refine pw_aload_n 17 rfl rfl rfl ?_
    refine pw_getR 20 rfl rfl (by first | assumption | exact ⟨by decide, rfl⟩) rfl ?_
    refine pw_cV0 23 rfl rfl (by first | assumption | exact ⟨by decide, rfl⟩) rfl (Nat.le_of_ble_eq_true rfl) rfl rfl (Nat.le_of_ble_eq_true rfl) (c_State_remember b2 hx.2.1 (fun M1 f1 r1 => ?_))
    refine pw_pV ?_
    refine pw_aload_n 24 rfl rfl rfl ?_
    refine pw_getR 27 rfl rfl (by first | assumption | exact ⟨by decide, rfl⟩) rfl ?_
    refine pw_getR 30 rfl rfl (by first | assumption | exact ⟨by decide, rfl⟩) rfl ?_
    refine pw_dup 31 rfl rfl rfl ?_
    refine pw_getI 34 rfl rfl (by first | assumption | exact ⟨by decide, rfl⟩) rfl ?_
    refine pw_iconst (v := nI 1) 35 rfl rfl (by decide) ?_
    refine pw_iload_n 36 rfl rfl rfl ?_
    refine pw_ishl 37 rfl rfl ?_
    refine pw_ixor 38 rfl rfl ?_
    rw [show M1 (k + 4 + 1) 1 = nI a.on from r1.1.2.1, xor_bit _ hon _ (by omega)]
    refine pw_putI 41 rfl rfl (by first | assumption | exact ⟨by decide, rfl⟩) rfl (by decide) ?_
    refine pw_aload_n 42 rfl rfl rfl ?_
    refine pw_getR 45 rfl rfl (by first | assumption | exact ⟨by decide, rfl⟩) rfl ?_
    refine pw_getR 48 rfl rfl (by first | assumption | exact ⟨by decide, rfl⟩) rfl ?_
    refine pw_getI 51 rfl rfl (by first | assumption | exact ⟨by decide, rfl⟩) rfl ?_
    refine pw_iload_n 52 rfl rfl rfl ?_
    refine pw_ishr 53 rfl rfl ?_
    refine pw_iconst (v := nI 1) 54 rfl rfl (by decide) ?_
    refine pw_iand 55 rfl rfl ?_
    rw [st_same, bit_v _ hlt _ (by omega)]
    skip
    have f2 : fr (k + 5) (k + 118) M1 (pmSt M1 (k + 4 + 1) 1 (nI (a.on ^^^ 2 ^ j))) := fr_st M1 1 _ (by omega) (by omega)
    have f12 := (f1.wk (c := k + 5) (d := k + 118) (by omega) (by omega)).tr f2
    exact pw_iret rfl rfl (kk.go (f12.wk (by omega) (by omega)) (hx.now f12 r1.on))
  · refine pw_pI ?_
    have hn2 : ix r a.rs.length = none := ix_none hn
    rw [hn2] at kk
    skip
    refine pw_if_ne_f 14 rfl rfl (by decide) ?_
    refine pw_iconst (v := (-1)) 15 rfl rfl (by decide) ?_
    exact pw_iret rfl rfl (kk.at hx)
theorem c_pass {s : Int32} (hb : isApp sh k) (hw : wfW a) (hx : appIs M N k a) (kk : pst k sh M N Q (.int (vPass a s).1) (vPass a s).2) : PW mX10_pass 0 [.ref k, .int s] [] sh M N Q := by
  have hb0 := hb
  obtain ⟨b0, b1, b2, b3, b4, b5, b6, b7, b8, b9, b10⟩ := hb
  have s0 := b2.1
  have s3 := b2.2.2.1
  have s3' := s3.1
  have h10 : a.rs.length ≤ 10 := hx.2.1.2.1.2.1
  have hp : 2 ^ a.rs.length ≤ 2 ^ 10 := Nat.pow_le_pow_right (by decide) h10
  unfold vPass at kk
  refine pw_iload_n 1 rfl rfl rfl ?_
  refine pw_if_lt 21 4 rfl rfl rfl (fun q => ?_) (fun q => ?_)
  · have hn : ix s (2 ^ a.rs.length) = none := ix_none (fun j hj e => by rw [e] at q; exact nI_pos (by omega) q)
    rw [hn] at kk
    refine pw_iconst (v := (-1)) 22 rfl rfl (by decide) ?_
    exact pw_iret rfl rfl (kk.at hx)
  · obtain ⟨j, hj, rfl⟩ := nI_of q
    refine pw_iload_n 5 rfl rfl rfl ?_
    refine pw_aload_n 6 rfl rfl rfl ?_
    refine pw_getR 9 rfl rfl (by first | assumption | exact ⟨by decide, rfl⟩) rfl ?_
    refine pw_getR 12 rfl rfl (by first | assumption | exact ⟨by decide, rfl⟩) rfl ?_
    refine pw_cV0 15 rfl rfl (by first | assumption | exact ⟨by decide, rfl⟩) rfl (Nat.le_of_ble_eq_true rfl) rfl rfl (Nat.le_of_ble_eq_true rfl) (c_Book_all s3 hx.2.1.2.1 ?_)
    refine pw_pI ?_
    refine pw_iconst (v := (-1)) 16 rfl rfl (by decide) ?_
    refine pw_ixor 17 rfl rfl ?_
    refine pw_iand 18 rfl rfl ?_
    refine pw_if_eq 23 21 rfl rfl rfl (fun q2 => ?_) (fun q2 => ?_)
    · have q2 := (in_all hj h10).mp q2
      rw [ix_some q2 (by omega)] at kk
      refine pw_aload_n 24 rfl rfl rfl ?_
      refine pw_iload_n 25 rfl rfl rfl ?_
      refine pw_cV1 28 rfl rfl (by first | assumption | exact ⟨by decide, rfl⟩) rfl (Nat.le_of_ble_eq_true rfl) rfl rfl (Nat.le_of_ble_eq_true rfl) (c_goThrough hb0 hw hx (fun M1 N1 f1 n1 x1 => ?_))
      refine pw_pI ?_
      skip
      exact pw_iret rfl rfl (kk M1 N1 f1 n1 x1)
    · have hn : ix (nI j) (2 ^ a.rs.length) = none := ix_none (fun i hi e => q2 ((in_all hj h10).mpr (by rw [(nI_eq hj (by omega)).mp e]; exact hi)))
      rw [hn] at kk
      refine pw_iconst (v := (-1)) 22 rfl rfl (by decide) ?_
      exact pw_iret rfl rfl (kk.at hx)
end APS
