/-! GOING OVER A LINE -/
def rI : Option Nat → Int32
  | none => -4
  | some r => nI r
theorem sAt_bit {rs : List aR} {kd : List Nat} {ls : List Int32} {p r : Nat} : (sAt rs kd ls p).testBit r = (decide (r < rs.length) && stB (kd.getD r 0) (pPh rs r) ls p) := bs_bit _ _ _
theorem okB_t {rs : List aR} {kd : List Nat} {ls : List Int32} {s p r : Nat} (hr : r < rs.length) : okB rs kd ls s p r = (sAt rs kd ls p &&& s).testBit r := by
  unfold okB
  rw [Nat.testBit_and, sAt_bit, decide_eq_true hr, Bool.true_and, Bool.and_comm]
theorem sRow_at {rs : List aR} {kd : List Nat} {ls : List Int32} {p : Nat} (hp : p < ls.length) : (sRow rs kd ls).getD p 0 = sAt rs kd ls p := by
  unfold sRow
  rw [List.getD_eq_getElem?_getD, List.getElem?_map, List.getElem?_range hp]; rfl
def stN (rs : List aR) (kd : List Nat) (ls : List Int32) (n : Nat) : Nat := bs (fun r => decide (∃ p, p < n ∧ stB (kd.getD r 0) (pPh rs r) ls p = true)) rs.length
theorem stN_zero (rs : List aR) (kd : List Nat) (ls : List Int32) : stN rs kd ls 0 = 0 := by
  apply Nat.eq_of_testBit_eq
  intro i
  unfold stN
  rw [bs_bit, Nat.zero_testBit]
  simp
theorem stN_succ (rs : List aR) (kd : List Nat) (ls : List Int32) (n : Nat) : stN rs kd ls n ||| sAt rs kd ls n = stN rs kd ls (n + 1) := by
  apply Nat.eq_of_testBit_eq
  intro i
  unfold stN
  rw [Nat.testBit_or, sAt_bit, bs_bit, bs_bit]
  by_cases hi : i < rs.length
  · rw [decide_eq_true hi, Bool.true_and, Bool.true_and, Bool.true_and]
    rw [Bool.eq_iff_iff, Bool.or_eq_true, decide_eq_true_eq, decide_eq_true_eq]
    constructor
    · rintro (⟨p, h1, h2⟩ | h)
      · exact ⟨p, by omega, h2⟩
      · exact ⟨n, by omega, h⟩
    · rintro ⟨p, h1, h2⟩
      by_cases q : p = n
      · subst q; exact Or.inr h2
      · exact Or.inl ⟨p, by omega, h2⟩
  · rw [decide_eq_false hi]; simp
theorem take_getD {xs : List Int32} {j : Nat} (h : j < xs.length) : xs.take (j + 1) = xs.take j ++ [xs.getD j 0] := by
  rw [List.take_succ, List.getD_eq_getElem?_getD, List.getElem?_eq_getElem h]; rfl
section GOO
variable {sh : pmS} {M : pmM} {N : pmN} {Q : pmPost} {k kb kl nl : Nat} {rs : List aR} {kd : List Nat} {ls ss : List Int32}
theorem standing_loop (hw : isWalk sh k kb) (hk : wkIs M k rs kd ls) (h60 : ls.length ≤ 60) (kk : Q (some (.int (nI (stN rs kd ls ls.length)))) sh M N) :
    ∀ (d i : Nat), i + d = ls.length → PW mX9_standing 4 [.ref k, .int (nI (stN rs kd ls i)), .int (nI i)] [] sh M N Q := by
  obtain ⟨w0, w1, w2, w3, w4, w5, w6⟩ := hw
  have w3' := w3.1
  have hsl : (sRow rs kd ls).length = ls.length := by unfold sRow; rw [List.length_map, List.length_range]
  intro d
  induction d with
  | zero =>
    intro i hi
    have : i = ls.length := by omega
    subst this
    refine pw_iload_n 5 rfl rfl rfl ?_
    refine pw_aload_n 6 rfl rfl rfl ?_
    refine pw_getR 9 rfl rfl (by first | assumption | exact ⟨by decide, rfl⟩) rfl ?_
    refine pw_cV0 12 rfl rfl (by first | assumption | exact ⟨by decide, rfl⟩) rfl (Nat.le_of_ble_eq_true rfl) rfl rfl (Nat.le_of_ble_eq_true rfl) (c_Row_size w3 hk.2.2 ?_)
    rw [List.length_map, hsl]
    refine pw_pI ?_
    skip
    refine pw_icmp_ge_t 32 rfl rfl (nI_le (by omega) (by omega)) ?_
    refine pw_iload_n 33 rfl rfl rfl ?_
    exact pw_iret rfl rfl (kk)
  | succ d ih =>
    intro i hi
    refine pw_iload_n 5 rfl rfl rfl ?_
    refine pw_aload_n 6 rfl rfl rfl ?_
    refine pw_getR 9 rfl rfl (by first | assumption | exact ⟨by decide, rfl⟩) rfl ?_
    refine pw_cV0 12 rfl rfl (by first | assumption | exact ⟨by decide, rfl⟩) rfl (Nat.le_of_ble_eq_true rfl) rfl rfl (Nat.le_of_ble_eq_true rfl) (c_Row_size w3 hk.2.2 ?_)
    rw [List.length_map, hsl]
    refine pw_pI ?_
    skip
    refine pw_icmp_ge_f 15 rfl rfl (nI_ge (by omega) (by omega)) ?_
    refine pw_iload_n 16 rfl rfl rfl ?_
    refine pw_aload_n 17 rfl rfl rfl ?_
    refine pw_getR 20 rfl rfl (by first | assumption | exact ⟨by decide, rfl⟩) rfl ?_
    refine pw_iload_n 21 rfl rfl rfl ?_
    refine pw_cV1 24 rfl rfl (by first | assumption | exact ⟨by decide, rfl⟩) rfl (Nat.le_of_ble_eq_true rfl) rfl rfl (Nat.le_of_ble_eq_true rfl) (c_Row_get w3 hk.2.2 (by rw [List.length_map, hsl]; exact h60) _ ?_)
    rw [gI_n (by omega), getD_mapN, sRow_at (by omega)]
    refine pw_pI ?_
    refine pw_ior 25 rfl rfl ?_
    rw [or_v, stN_succ]
    refine pw_istore1 26 rfl rfl rfl ?_
    first | refine pw_iincN2 29 rfl rfl rfl (by with_reducible rfl) ?_ | refine pw_iinc2 (w := _) 29 rfl rfl rfl rfl ?_
    refine pw_goto rfl 4 rfl ?_
    exact ih (i + 1) (by omega)
theorem c_standing (hw : isWalk sh k kb) (hk : wkIs M k rs kd ls) (h60 : ls.length ≤ 60) (kk : Q (some (.int (nI (stN rs kd ls ls.length)))) sh M N) : PW mX9_standing 0 [.ref k, .null, .null] [] sh M N Q := by
  refine pw_iconst (v := nI 0) 1 rfl rfl (by decide) ?_
  refine pw_istore1 2 rfl rfl rfl ?_
  refine pw_iconst (v := nI 0) 3 rfl rfl (by decide) ?_
  refine pw_istore2 4 rfl rfl rfl ?_
  have := standing_loop hw hk h60 kk ls.length 0 (by omega)
  rw [stN_zero] at this
  exact this
theorem ruleUsed_loop {s p : Nat} {x2 : Int32} (hw : isWalk sh k kb) (hk : wkIs M k rs kd ls) (h10 : rs.length ≤ 10) (kk : Q (some (.int (rI (usd rs kd ls s p)))) sh M N) :
    ∀ (d i : Nat), i + d = (ord rs).length → usd rs kd ls s p = ((ord rs).drop i).find? (okB rs kd ls s p) → PW mX9_ruleUsed 21 [.ref k, .int (nI p), .int x2, .int (nI (sAt rs kd ls p &&& s)), .int (nI i)] [] sh M N Q := by
  obtain ⟨w0, w1, w2, w3, w4, w5, w6⟩ := hw
  have w1' := w1.1
  have hol := ordF_len rs (Nat.le_refl 6)
  have hol : (ord rs).length ≤ rs.length := hol
  intro d
  induction d with
  | zero =>
    intro i hi hu
    rw [List.drop_eq_nil_of_le (by omega)] at hu
    refine pw_iload 23 rfl rfl rfl ?_
    refine pw_aload_n 24 rfl rfl rfl ?_
    refine pw_getR 27 rfl rfl (by first | assumption | exact ⟨by decide, rfl⟩) rfl ?_
    refine pw_cV0 30 rfl rfl (by first | assumption | exact ⟨by decide, rfl⟩) rfl (Nat.le_of_ble_eq_true rfl) rfl rfl (Nat.le_of_ble_eq_true rfl) (c_Row_size w1 hk.1 ?_)
    rw [List.length_map]
    refine pw_pI ?_
    skip
    refine pw_icmp_ge_t 66 rfl rfl (nI_le (by omega) (by omega)) ?_
    refine pw_bipush (v := (-4)) 68 rfl rfl (by decide) ?_
    rw [hu] at kk
    exact pw_iret rfl rfl (kk)
  | succ d ih =>
    intro i hi hu
    have hi2 : i < (ord rs).length := by omega
    have hm : (ord rs)[i] ∈ ord rs := List.getElem_mem hi2
    have hr := (mem_ord.mp hm).1
    have hg : (ord rs).getD i 0 = (ord rs)[i] := by rw [List.getD_eq_getElem?_getD, List.getElem?_eq_getElem hi2]; rfl
    rw [List.drop_eq_getElem_cons hi2, List.find?_cons] at hu
    have hslt : sAt rs kd ls p &&& s < 1024 := Nat.lt_of_le_of_lt Nat.and_le_left (lt_1024 (bs_lt _ _) h10)
    refine pw_iload 23 rfl rfl rfl ?_
    refine pw_aload_n 24 rfl rfl rfl ?_
    refine pw_getR 27 rfl rfl (by first | assumption | exact ⟨by decide, rfl⟩) rfl ?_
    refine pw_cV0 30 rfl rfl (by first | assumption | exact ⟨by decide, rfl⟩) rfl (Nat.le_of_ble_eq_true rfl) rfl rfl (Nat.le_of_ble_eq_true rfl) (c_Row_size w1 hk.1 ?_)
    rw [List.length_map]
    refine pw_pI ?_
    skip
    refine pw_icmp_ge_f 33 rfl rfl (nI_ge (by omega) (by omega)) ?_
    refine pw_iload_n 34 rfl rfl rfl ?_
    refine pw_aload_n 35 rfl rfl rfl ?_
    refine pw_getR 38 rfl rfl (by first | assumption | exact ⟨by decide, rfl⟩) rfl ?_
    refine pw_iload 40 rfl rfl rfl ?_
    refine pw_cV1 43 rfl rfl (by first | assumption | exact ⟨by decide, rfl⟩) rfl (Nat.le_of_ble_eq_true rfl) rfl rfl (Nat.le_of_ble_eq_true rfl) (c_Row_get w1 hk.1 (by rw [List.length_map]; omega) _ ?_)
    rw [gI_n (by omega), getD_mapN, hg]
    refine pw_pI ?_
    refine pw_ishr 44 rfl rfl ?_
    refine pw_iconst (v := nI 1) 45 rfl rfl (by decide) ?_
    refine pw_iand 46 rfl rfl ?_
    rw [bit_v _ hslt _ (by omega), ← okB_t hr]
    by_cases q : okB rs kd ls s p (ord rs)[i] = true
    · rw [if_pos q]
      refine pw_iconst (v := nI 1) 47 rfl rfl (by decide) ?_
      refine pw_icmp_ne_f 50 rfl rfl (by decide) ?_
      refine pw_aload_n 51 rfl rfl rfl ?_
      refine pw_getR 54 rfl rfl (by first | assumption | exact ⟨by decide, rfl⟩) rfl ?_
      refine pw_iload 56 rfl rfl rfl ?_
      refine pw_cV1 59 rfl rfl (by first | assumption | exact ⟨by decide, rfl⟩) rfl (Nat.le_of_ble_eq_true rfl) rfl rfl (Nat.le_of_ble_eq_true rfl) (c_Row_get w1 hk.1 (by rw [List.length_map]; omega) _ ?_)
      rw [gI_n (by omega), getD_mapN, hg]
      refine pw_pI ?_
      rw [q] at hu
      rw [hu] at kk
      skip
      exact pw_iret rfl rfl (kk)
    · rw [if_neg q]
      refine pw_iconst (v := nI 1) 47 rfl rfl (by decide) ?_
      refine pw_icmp_ne_t 60 rfl rfl (by decide) ?_
      first | refine pw_iincN4 63 rfl rfl rfl (by with_reducible rfl) ?_ | refine pw_iinc4 (w := _) 63 rfl rfl rfl rfl ?_
      refine pw_goto rfl 21 rfl ?_
      have q : okB rs kd ls s p (ord rs)[i] = false := by simpa using q
      rw [q] at hu
      exact ih (i + 1) (by omega) hu
theorem c_ruleUsed {s p : Nat} (hw : isWalk sh k kb) (hk : wkIs M k rs kd ls) (h10 : rs.length ≤ 10) (h60 : ls.length ≤ 60) (hp : p < ls.length) (kk : Q (some (.int (rI (usd rs kd ls s p)))) sh M N) : PW mX9_ruleUsed 0 [.ref k, .int (nI p), .int (nI s), .null, .null] [] sh M N Q := by
  have hw0 := hw
  obtain ⟨w0, w1, w2, w3, w4, w5, w6⟩ := hw
  have w3' := w3.1
  have hsl : (sRow rs kd ls).length = ls.length := by unfold sRow; rw [List.length_map, List.length_range]
  have hslt : sAt rs kd ls p &&& s < 1024 := Nat.lt_of_le_of_lt Nat.and_le_left (lt_1024 (bs_lt _ _) h10)
  refine pw_aload_n 1 rfl rfl rfl ?_
  refine pw_getR 4 rfl rfl (by first | assumption | exact ⟨by decide, rfl⟩) rfl ?_
  refine pw_iload_n 5 rfl rfl rfl ?_
  refine pw_cV1 8 rfl rfl (by first | assumption | exact ⟨by decide, rfl⟩) rfl (Nat.le_of_ble_eq_true rfl) rfl rfl (Nat.le_of_ble_eq_true rfl) (c_Row_get w3 hk.2.2 (by rw [List.length_map, hsl]; exact h60) _ ?_)
  rw [gI_n (by omega), getD_mapN, sRow_at hp]
  refine pw_pI ?_
  refine pw_iload_n 9 rfl rfl rfl ?_
  refine pw_iand 10 rfl rfl ?_
  rw [and_v]
  refine pw_istore3 11 rfl rfl rfl ?_
  refine pw_iload_n 12 rfl rfl rfl ?_
  refine pw_if_ne 18 15 rfl rfl rfl (fun h => ?_) (fun h => ?_)
  · refine pw_iconst (v := nI 0) 19 rfl rfl (by decide) ?_
    refine pw_istore4 21 rfl rfl rfl ?_
    exact ruleUsed_loop hw0 hk h10 kk (ord rs).length 0 (by omega) rfl
  · have h : sAt rs kd ls p &&& s = 0 := (nI_eq (by omega) (by omega)).mp (Decidable.not_not.mp h)
    refine pw_bipush (v := (-4)) 17 rfl rfl (by decide) ?_
    have hu : usd rs kd ls s p = none := by
      unfold usd
      rw [List.find?_eq_none]
      intro r hr
      rw [okB_t (mem_ord.mp hr).1, h, Nat.zero_testBit]
      decide
    rw [hu] at kk
    exact pw_iret rfl rfl (kk)
theorem c_leftOf {s : Nat} {o : Option Nat} (hw : isWalk sh k kb) (hkr : rowIs M (k + 3) (kd.map nI)) (hkl : kd.length ≤ 10) (hk5 : ∀ r, kd.getD r 0 < 5) (hs : s < 1024) (ho : ∀ r, o = some r → r < 10) (kk : Q (some (.int (nI (lef kd s o)))) sh M N) : PW mX9_leftOf 0 [.ref k, .int (nI s), .int (rI o)] [] sh M N Q := by
  obtain ⟨w0, w1, w2, w3, w4, w5, w6⟩ := hw
  have w2' := w2.1
  cases o with
  | none =>
    refine pw_iload_n 1 rfl rfl rfl ?_
    refine pw_bipush (v := (-4)) 3 rfl rfl (by decide) ?_
    refine pw_icmp_eq_t 28 rfl rfl (rfl) ?_
    refine pw_iload_n 29 rfl rfl rfl ?_
    exact pw_iret rfl rfl (kk)
  | some r =>
    have hr := ho r rfl
    have h5 := hk5 r
    unfold rI
    refine pw_iload_n 1 rfl rfl rfl ?_
    refine pw_bipush (v := (-4)) 3 rfl rfl (by decide) ?_
    refine pw_icmp_eq_f 6 rfl rfl (nI_m4 (by omega)) ?_
    refine pw_aload_n 7 rfl rfl rfl ?_
    refine pw_getR 10 rfl rfl (by first | assumption | exact ⟨by decide, rfl⟩) rfl ?_
    refine pw_iload_n 11 rfl rfl rfl ?_
    refine pw_cV1 14 rfl rfl (by first | assumption | exact ⟨by decide, rfl⟩) rfl (Nat.le_of_ble_eq_true rfl) rfl rfl (Nat.le_of_ble_eq_true rfl) (c_Row_get w2 hkr (by rw [List.length_map]; exact hkl) _ ?_)
    rw [gI_n (by omega), getD_mapN]
    refine pw_pI ?_
    refine pw_iconst (v := nI 4) 15 rfl rfl (by decide) ?_
    unfold lef at kk
    simp only at kk
    refine pw_icmp_ne 28 18 rfl rfl rfl (fun h => ?_) (fun h => ?_)
    · rw [if_neg (fun q => h (by rw [q]))] at kk
      refine pw_iload_n 29 rfl rfl rfl ?_
      exact pw_iret rfl rfl (kk)
    · rw [if_pos ((nI_eq (by omega) (by omega)).mp (Decidable.not_not.mp h))] at kk
      refine pw_iload_n 19 rfl rfl rfl ?_
      refine pw_iconst (v := nI 1) 20 rfl rfl (by decide) ?_
      refine pw_iload_n 21 rfl rfl rfl ?_
      refine pw_ishl 22 rfl rfl ?_
      refine pw_iconst (v := (-1)) 23 rfl rfl (by decide) ?_
      refine pw_ixor 24 rfl rfl ?_
      refine pw_iand 25 rfl rfl ?_
      rw [clr_v s hs r hr]
      refine pw_goto rfl 29 rfl ?_
      exact pw_iret rfl rfl (kk)
theorem c_lengthGone {o : Option Nat} (hw : isWalk sh k kb) (hb : isBook sh kb) (hx : bookIs M kb rs) (ho : ∀ r, o = some r → r < rs.length) (kk : Q (some (.int (nI (adv rs o)))) sh M N) : PW mX9_lengthGone 0 [.ref k, .int (rI o)] [] sh M N Q := by
  have hb0 := hb
  obtain ⟨w0, w1, w2, w3, w4, w5, w6⟩ := hw
  obtain ⟨b1, b2, b3⟩ := hb
  have h10 := hx.2.1
  cases o with
  | none =>
    refine pw_iload_n 1 rfl rfl rfl ?_
    refine pw_bipush (v := (-4)) 3 rfl rfl (by decide) ?_
    refine pw_icmp_ne_f 6 rfl rfl (fun q => q rfl) ?_
    refine pw_iconst (v := nI 1) 7 rfl rfl (by decide) ?_
    refine pw_goto rfl 24 rfl ?_
    exact pw_iret rfl rfl (kk)
  | some r =>
    have hr := ho r rfl
    have o1 := (b3 r (by omega)).1
    have o2 := (b3 r (by omega)).2.1
    have o2' := o2.1
    unfold rI
    refine pw_iload_n 1 rfl rfl rfl ?_
    refine pw_bipush (v := (-4)) 3 rfl rfl (by decide) ?_
    refine pw_icmp_ne_t 10 rfl rfl (nI_m4 (by omega)) ?_
    refine pw_aload_n 11 rfl rfl rfl ?_
    refine pw_getR 14 rfl rfl (by first | assumption | exact ⟨by decide, rfl⟩) rfl ?_
    refine pw_iload_n 15 rfl rfl rfl ?_
    refine pw_cV1 18 rfl rfl (by first | assumption | exact ⟨by decide, rfl⟩) rfl (Nat.le_of_ble_eq_true rfl) rfl rfl (Nat.le_of_ble_eq_true rfl) (c_Book_get hb0 (i := r) (by omega) ?_)
    refine pw_pR ?_
    refine pw_getR 21 rfl rfl (by first | assumption | exact ⟨by decide, rfl⟩) rfl ?_
    refine pw_cV0 24 rfl rfl (by first | assumption | exact ⟨by decide, rfl⟩) rfl (Nat.le_of_ble_eq_true rfl) rfl rfl (Nat.le_of_ble_eq_true rfl) (c_Row_size o2 (bk_at hx hr).1.2.1 ?_)
    refine pw_pI ?_
    skip
    exact pw_iret rfl rfl (kk)
theorem give_loop {r : Nat} {sr : Int32} {A B : List Int32} (hw : isWalk sh k kb) (hb : isBook sh kb) (hx : bookIs M kb rs) (hd : kb + 57 ≤ k ∨ k + 16 ≤ kb) (hk : okK rs kd) (hkr : rowIs M (k + 3) (kd.map nI)) (hr : r < rs.length) (hA : A.length ≤ 354) (hB : B.length = A.length)
    (kk : ∀ M', fr (k + 12) (k + 16) M M' → lineIs M' (k + 11) (A ++ giv (kd.getD r 0) (pGf rs r)) (B ++ List.replicate (pGf rs r).length sr) → Q none sh M' N) :
    ∀ (d j : Nat) (M1 : pmM), j + d = (pGf rs r).length → fr (k + 12) (k + 16) M M1 → lineIs M1 (k + 11) (A ++ (giv (kd.getD r 0) (pGf rs r)).take j) (B ++ List.replicate j sr) → PW mX9_give 12 [.ref k, .int (nI r), .int sr, .ref (kb + 7 + 5 * r), .int (nI j)] [] sh M1 N Q := by
  have hb0 := hb
  obtain ⟨w0, w1, w2, w3, w4, w5, w6⟩ := hw
  obtain ⟨b1, b2, b3⟩ := hb
  have h10 := hx.2.1
  have w2' := w2.1
  have w6' := w6.1
  have o1 := (b3 r (by omega)).1
  have o3 := (b3 r (by omega)).2.2
  have o3' := o3.1
  have e := bk_at hx hr
  have hg6 : (pGf rs r).length ≤ 6 := e.2.2.2.2
  have hgl := giv_len (kd.getD r 0) (pGf rs r)
  have eg : (pGf rs r).length = (gR rs r).2.2.length := rfl
  intro d
  induction d with
  | zero =>
    intro j M1 hj hf hl
    have e1 := e.1.mv hf (by omega)
    refine pw_iload 14 rfl rfl rfl ?_
    refine pw_aload_n 15 rfl rfl rfl ?_
    refine pw_getR 18 rfl rfl (by first | assumption | exact ⟨by decide, rfl⟩) rfl ?_
    refine pw_cV0 21 rfl rfl (by first | assumption | exact ⟨by decide, rfl⟩) rfl (Nat.le_of_ble_eq_true rfl) rfl rfl (Nat.le_of_ble_eq_true rfl) (c_Row_size o3 e1.2.2 ?_)
    refine pw_pI ?_
    skip
    refine pw_icmp_ge_t 52 rfl rfl (nI_le (by omega) (by omega)) ?_
    skip
    rw [List.take_of_length_le (by omega), show j = (pGf rs r).length by omega] at hl
    exact pw_vret rfl (kk M1 hf hl)
  | succ d ih =>
    intro j M1 hj hf hl
    have e1 := e.1.mv hf (by omega)
    refine pw_iload 14 rfl rfl rfl ?_
    refine pw_aload_n 15 rfl rfl rfl ?_
    refine pw_getR 18 rfl rfl (by first | assumption | exact ⟨by decide, rfl⟩) rfl ?_
    refine pw_cV0 21 rfl rfl (by first | assumption | exact ⟨by decide, rfl⟩) rfl (Nat.le_of_ble_eq_true rfl) rfl rfl (Nat.le_of_ble_eq_true rfl) (c_Row_size o3 e1.2.2 ?_)
    refine pw_pI ?_
    skip
    refine pw_icmp_ge_f 24 rfl rfl (nI_ge (by omega) (by omega)) ?_
    refine pw_aload_n 25 rfl rfl rfl ?_
    refine pw_getR 28 rfl rfl (by first | assumption | exact ⟨by decide, rfl⟩) rfl ?_
    refine pw_aload_n 29 rfl rfl rfl ?_
    refine pw_iload 31 rfl rfl rfl ?_
    refine pw_aload_n 32 rfl rfl rfl ?_
    refine pw_getR 35 rfl rfl (by first | assumption | exact ⟨by decide, rfl⟩) rfl ?_
    refine pw_iload_n 36 rfl rfl rfl ?_
    refine pw_cV1 39 rfl rfl (by first | assumption | exact ⟨by decide, rfl⟩) rfl (Nat.le_of_ble_eq_true rfl) rfl rfl (Nat.le_of_ble_eq_true rfl) (c_Row_get w2 (hkr.mv hf (by omega)) (by rw [List.length_map, hk.1]; exact h10) _ ?_)
    rw [gI_n (by omega), getD_mapN]
    refine pw_pI ?_
    skip
    refine pw_cV2 42 rfl rfl (by first | assumption | exact ⟨by decide, rfl⟩) rfl (Nat.le_of_ble_eq_true rfl) rfl rfl (Nat.le_of_ble_eq_true rfl) (c_Rule_given (b3 r (by omega)) e1 hg6 (j := j) (by omega) (hk.2 r) ?_)
    refine pw_pI ?_
    refine pw_iload_n 43 rfl rfl rfl ?_
    refine pw_cV2 46 rfl rfl (by first | assumption | exact ⟨by decide, rfl⟩) rfl (Nat.le_of_ble_eq_true rfl) rfl rfl (Nat.le_of_ble_eq_true rfl) (c_Line_add w6 hl (by rw [List.length_append, List.length_take]; omega) (by rw [List.length_append, List.length_replicate]; omega) _ _ (fun M2 f2 l2 => ?_))
    refine pw_pV ?_
    first | refine pw_iincN4 49 rfl rfl rfl (by with_reducible rfl) ?_ | refine pw_iinc4 (w := _) 49 rfl rfl rfl rfl ?_
    refine pw_goto rfl 12 rfl ?_
    refine ih (j + 1) M2 (by omega) (hf.tr (f2.wk (by omega) (by omega))) ?_
    rw [List.append_assoc, List.append_assoc] at l2
    have e2 : (giv (kd.getD r 0) (pGf rs r)).take (j + 1) = (giv (kd.getD r 0) (pGf rs r)).take j ++ [(giv (kd.getD r 0) (gR rs r).2.2).getD j 0] := take_getD (by omega)
    rw [e2, List.replicate_succ']; exact l2
theorem c_give {r : Nat} {sr : Int32} {A B : List Int32} (hw : isWalk sh k kb) (hb : isBook sh kb) (hx : bookIs M kb rs) (hd : kb + 57 ≤ k ∨ k + 16 ≤ kb) (hk : okK rs kd) (hkr : rowIs M (k + 3) (kd.map nI)) (hr : r < rs.length) (hA : A.length ≤ 354) (hB : B.length = A.length) (hl : lineIs M (k + 11) A B)
    (kk : ∀ M', fr (k + 12) (k + 16) M M' → lineIs M' (k + 11) (A ++ giv (kd.getD r 0) (pGf rs r)) (B ++ List.replicate (pGf rs r).length sr) → Q none sh M' N) : PW mX9_give 0 [.ref k, .int (nI r), .int sr, .null, .null] [] sh M N Q := by
  have h10 := hx.2.1
  have w0 := hw.1
  have b1 := hb.1
  refine pw_aload_n 1 rfl rfl rfl ?_
  refine pw_getR 4 rfl rfl (by first | assumption | exact ⟨by decide, rfl⟩) rfl ?_
  refine pw_iload_n 5 rfl rfl rfl ?_
  refine pw_cV1 8 rfl rfl (by first | assumption | exact ⟨by decide, rfl⟩) rfl (Nat.le_of_ble_eq_true rfl) rfl rfl (Nat.le_of_ble_eq_true rfl) (c_Book_get hb (i := r) (by omega) ?_)
  refine pw_pR ?_
  refine pw_astore3 9 rfl rfl rfl ?_
  refine pw_iconst (v := nI 0) 10 rfl rfl (by decide) ?_
  refine pw_istore4 12 rfl rfl rfl ?_
  exact give_loop hw hb hx hd hk hkr hr hA hB kk (pGf rs r).length 0 M (by omega) fr.rf (by simpa using hl)
/-- what a pass leaves in the walk -/
def gone (M : pmM) (k : Nat) (rs : List aR) (kd : List Nat) (ls ss : List Int32) (s : Nat) : Prop := lineIs M (k + 11) (outL rs kd ls (tr rs kd ls 0 s)) (outS rs ss (tr rs kd ls 0 s)) ∧ rowIs M (k + 7) (uAt (tr rs kd ls 0 s) (List.replicate ls.length (-4))) ∧ rowIs M (k + 9) (uCt (tr rs kd ls 0 s) (List.replicate rs.length 0))
theorem usd_lt {rs : List aR} {kd : List Nat} {ls : List Int32} {s p : Nat} : ∀ r, usd rs kd ls s p = some r → r < rs.length := fun _ h => (usd_some h).1
theorem go_loop {s0 : Nat} {x2 : Int32} (hw : isWalk sh k kb) (hb : isBook sh kb) (hx : bookIs M kb rs) (hd : kb + 57 ≤ k ∨ k + 16 ≤ kb) (hk : okK rs kd) (hwk : wkIs M k rs kd ls) (hl : isLine sh kl nl) (hy : lineIs M kl ls ss) (hss : ss.length = ls.length) (hn : ls.length ≤ nl) (hd2 : kl + 5 ≤ k ∨ k + 16 ≤ kl) (h60 : ls.length ≤ 60)
    (kk : ∀ M', fr (k + 7) (k + 16) M M' → gone M' k rs kd ls ss s0 → Q none sh M' N) :
    ∀ (d i p s : Nat) (A B U V : List Int32) (M1 : pmM) (v : Value), pmIsL v = false → ls.length - p ≤ d → p ≤ 66 → i ≤ p → s < 1024 → A.length ≤ 6 * i → B.length = A.length → U.length = ls.length → V.length = rs.length → fr (k + 7) (k + 16) M M1 → lineIs M1 (k + 11) A B → rowIs M1 (k + 7) U → rowIs M1 (k + 9) V →
      A ++ outL rs kd ls (tr rs kd ls p s) = outL rs kd ls (tr rs kd ls 0 s0) → B ++ outS rs ss (tr rs kd ls p s) = outS rs ss (tr rs kd ls 0 s0) → uAt (tr rs kd ls p s) U = uAt (tr rs kd ls 0 s0) (List.replicate ls.length (-4)) → uCt (tr rs kd ls p s) V = uCt (tr rs kd ls 0 s0) (List.replicate rs.length 0) →
      PW mX9_go 43 [.ref k, .ref kl, .int x2, .int (nI s), .int (nI p), .int (nI i), v] [] sh M1 N Q := by
  have hw0 := hw
  have hl0 := hl
  obtain ⟨w0, w1, w2, w3, w4, w5, w6⟩ := hw
  obtain ⟨l0, l1, l2⟩ := hl
  have h10 := hx.2.1
  have w4' := w4.1
  have w5' := w5.1
  have w6' := w6.1
  have l1' := l1.1
  have l2' := l2.1
  have hnl : nl ≤ 1000 := l1.2.2.2
  have hgf : ∀ r, (pGf rs r).length ≤ 6 := by
    intro r
    by_cases q : r < rs.length
    · exact (bk_at hx q).2.2.2.2
    · unfold pGf gR; rw [List.getD_eq_getElem?_getD, List.getElem?_eq_none (by omega)]; exact Nat.zero_le _
  have stop : ∀ (i p s : Nat) (A B U V : List Int32) (M1 : pmM) (v : Value), pmIsL v = false → ls.length ≤ p → p ≤ 66 → i ≤ p → fr (k + 7) (k + 16) M M1 → lineIs M1 (k + 11) A B → rowIs M1 (k + 7) U → rowIs M1 (k + 9) V →
      A ++ outL rs kd ls (tr rs kd ls p s) = outL rs kd ls (tr rs kd ls 0 s0) → B ++ outS rs ss (tr rs kd ls p s) = outS rs ss (tr rs kd ls 0 s0) → uAt (tr rs kd ls p s) U = uAt (tr rs kd ls 0 s0) (List.replicate ls.length (-4)) → uCt (tr rs kd ls p s) V = uCt (tr rs kd ls 0 s0) (List.replicate rs.length 0) →
      PW mX9_go 43 [.ref k, .ref kl, .int x2, .int (nI s), .int (nI p), .int (nI i), v] [] sh M1 N Q := by
    intro i p s A B U V M1 v hv hdp hp66 hip hf hm hu hc eA eB eU eV
    have hy1 := hy.mv hf (by omega)
    rw [tr_end (by omega)] at eA eB eU eV
    have fin : Q none sh M1 N := by
      refine kk M1 hf ⟨?_, ?_, ?_⟩
      · rw [← eA, ← eB]; simpa [outL, outS] using hm
      · rw [← eU]; exact hu
      · rw [← eV]; exact hc
    by_cases q : ls.length ≤ i
    · refine pw_iload 45 rfl rfl rfl ?_
      refine pw_aload_n 46 rfl rfl rfl ?_
      refine pw_cV0 49 rfl rfl (by first | assumption | exact ⟨by decide, rfl⟩) rfl (Nat.le_of_ble_eq_true rfl) rfl rfl (Nat.le_of_ble_eq_true rfl) (c_Line_size hl0 hy1 ?_)
      refine pw_pI ?_
      skip
      refine pw_icmp_ge_t 166 rfl rfl (nI_le (by omega) (by omega)) ?_
      skip
      exact pw_vret rfl (fin)
    · refine pw_iload 45 rfl rfl rfl ?_
      refine pw_aload_n 46 rfl rfl rfl ?_
      refine pw_cV0 49 rfl rfl (by first | assumption | exact ⟨by decide, rfl⟩) rfl (Nat.le_of_ble_eq_true rfl) rfl rfl (Nat.le_of_ble_eq_true rfl) (c_Line_size hl0 hy1 ?_)
      refine pw_pI ?_
      skip
      refine pw_icmp_ge_f 52 rfl rfl (nI_ge (by omega) (by omega)) ?_
      refine pw_iload 54 rfl rfl rfl ?_
      refine pw_aload_n 55 rfl rfl rfl ?_
      refine pw_cV0 58 rfl rfl (by first | assumption | exact ⟨by decide, rfl⟩) rfl (Nat.le_of_ble_eq_true rfl) rfl rfl (Nat.le_of_ble_eq_true rfl) (c_Line_size hl0 hy1 ?_)
      refine pw_pI ?_
      skip
      refine pw_icmp_ge_t 166 rfl rfl (nI_le (by omega) (by omega)) ?_
      skip
      exact pw_vret rfl (fin)
  intro d
  induction d with
  | zero =>
    intro i p s A B U V M1 v hv hdp hp66 hip hs hA hB hU hV hf hm hu hc eA eB eU eV
    exact stop i p s A B U V M1 v hv (by omega) hp66 hip hf hm hu hc eA eB eU eV
  | succ d ih =>
    intro i p s A B U V M1 v hv hdp hp66 hip hs hA hB hU hV hf hm hu hc eA eB eU eV
    by_cases hp : p < ls.length
    · have hy1 := hy.mv hf (by omega)
      have hx1 := hx.mv hf (by omega)
      have hwk1 := hwk.mv hf (by omega)
      rw [tr_go hp] at eA eB eU eV
      have hlt := usd_lt (rs := rs) (kd := kd) (ls := ls) (s := s) (p := p)
      have hadv := adv_pos (rs := rs) (kd := kd) (ls := ls) (s := s) (p := p)
      have hadv6 : adv rs (usd rs kd ls s p) ≤ 6 := by
        cases hq : usd rs kd ls s p with
        | none => exact (by decide : (1 : Nat) ≤ 6)
        | some r => exact (usd_some hq).2.2.1
      have tail : ∀ (A2 B2 U2 V2 : List Int32) (M2 : pmM), A2.length ≤ 6 * (i + 1) → B2.length = A2.length → U2.length = ls.length → V2.length = rs.length → fr (k + 7) (k + 16) M M2 → lineIs M2 (k + 11) A2 B2 → rowIs M2 (k + 7) U2 → rowIs M2 (k + 9) V2 →
          A2 = A ++ oL rs kd ls (p, usd rs kd ls s p) → B2 = B ++ oS rs ss (p, usd rs kd ls s p) → U2 = uAt [(p, usd rs kd ls s p)] U → V2 = uCt [(p, usd rs kd ls s p)] V →
          PW mX9_go 141 [.ref k, .ref kl, .int x2, .int (nI s), .int (nI p), .int (nI i), .int (rI (usd rs kd ls s p))] [] sh M2 N Q := by
        intro A2 B2 U2 V2 M2 hA2 hB2 hU2 hV2 hf2 hm2 hu2 hc2 dA dB dU dV
        refine pw_aload_n 142 rfl rfl rfl ?_
        refine pw_iload_n 143 rfl rfl rfl ?_
        refine pw_iload 145 rfl rfl rfl ?_
        refine pw_cV2 148 rfl rfl (by first | assumption | exact ⟨by decide, rfl⟩) rfl (Nat.le_of_ble_eq_true rfl) rfl rfl (Nat.le_of_ble_eq_true rfl) (c_leftOf hw0 (hwk.2.1.mv hf2 (by omega)) (by rw [hk.1]; exact h10) hk.2 hs (fun r hr => by have := hlt r hr; omega) ?_)
        refine pw_pI ?_
        refine pw_istore3 149 rfl rfl rfl ?_
        refine pw_iload 151 rfl rfl rfl ?_
        refine pw_aload_n 152 rfl rfl rfl ?_
        refine pw_iload 154 rfl rfl rfl ?_
        refine pw_cV1 157 rfl rfl (by first | assumption | exact ⟨by decide, rfl⟩) rfl (Nat.le_of_ble_eq_true rfl) rfl rfl (Nat.le_of_ble_eq_true rfl) (c_lengthGone hw0 hb (hx.mv hf2 (by omega)) hlt ?_)
        refine pw_pI ?_
        first | refine pw_iaddN 158 rfl rfl (by with_reducible rfl) (by with_reducible rfl) ?_ | refine pw_iadd 158 rfl rfl ?_
        refine pw_istore4 160 rfl rfl rfl ?_
        first | refine pw_iincN5 163 rfl rfl rfl (by with_reducible rfl) ?_ | refine pw_iinc5 (w := _) 163 rfl rfl rfl rfl ?_
        refine pw_goto rfl 43 rfl ?_
        refine ih (i + 1) (p + adv rs (usd rs kd ls s p)) (lef kd s (usd rs kd ls s p)) A2 B2 U2 V2 M2 _ rfl (by omega) (by omega) (by omega) (lef_lt hs _) hA2 hB2 hU2 hV2 hf2 hm2 hu2 hc2 ?_ ?_ ?_ ?_
        · rw [dA, ← eA, outL, outL, List.flatMap_cons, List.append_assoc]
        · rw [dB, ← eB, outS, outS, List.flatMap_cons, List.append_assoc]
        · rw [dU, ← eU]; cases usd rs kd ls s p <;> rfl
        · rw [dV, ← eV]; cases usd rs kd ls s p <;> rfl
      refine pw_iload 45 rfl rfl rfl ?_
      refine pw_aload_n 46 rfl rfl rfl ?_
      refine pw_cV0 49 rfl rfl (by first | assumption | exact ⟨by decide, rfl⟩) rfl (Nat.le_of_ble_eq_true rfl) rfl rfl (Nat.le_of_ble_eq_true rfl) (c_Line_size hl0 hy1 ?_)
      refine pw_pI ?_
      skip
      refine pw_icmp_ge_f 52 rfl rfl (nI_ge (by omega) (by omega)) ?_
      refine pw_iload 54 rfl rfl rfl ?_
      refine pw_aload_n 55 rfl rfl rfl ?_
      refine pw_cV0 58 rfl rfl (by first | assumption | exact ⟨by decide, rfl⟩) rfl (Nat.le_of_ble_eq_true rfl) rfl rfl (Nat.le_of_ble_eq_true rfl) (c_Line_size hl0 hy1 ?_)
      refine pw_pI ?_
      skip
      refine pw_icmp_ge_f 61 rfl rfl (nI_ge (by omega) (by omega)) ?_
      refine pw_aload_n 62 rfl rfl rfl ?_
      refine pw_iload 64 rfl rfl rfl ?_
      refine pw_iload_n 65 rfl rfl rfl ?_
      refine pw_cV2 68 rfl rfl (by first | assumption | exact ⟨by decide, rfl⟩) rfl (Nat.le_of_ble_eq_true rfl) rfl rfl (Nat.le_of_ble_eq_true rfl) (c_ruleUsed hw0 hwk1 h10 h60 hp ?_)
      refine pw_pI ?_
      refine pw_istore6 70 rfl rfl rfl ?_
      refine pw_iload 72 rfl rfl rfl ?_
      refine pw_bipush (v := (-4)) 74 rfl rfl (by decide) ?_
      cases hq : usd rs kd ls s p with
      | none =>
        rw [hq] at tail
        refine pw_icmp_ne_f 77 rfl rfl (fun q => q rfl) ?_
        refine pw_aload_n 78 rfl rfl rfl ?_
        refine pw_getR 81 rfl rfl (by first | assumption | exact ⟨by decide, rfl⟩) rfl ?_
        refine pw_aload_n 82 rfl rfl rfl ?_
        refine pw_getR 85 rfl rfl (by first | assumption | exact ⟨by decide, rfl⟩) rfl ?_
        refine pw_iload 87 rfl rfl rfl ?_
        refine pw_cV1 90 rfl rfl (by first | assumption | exact ⟨by decide, rfl⟩) rfl (Nat.le_of_ble_eq_true rfl) rfl rfl (Nat.le_of_ble_eq_true rfl) (c_Row_get l1 hy1.1 hn _ ?_)
        rw [gI_n (by omega)]
        refine pw_pI ?_
        refine pw_aload_n 91 rfl rfl rfl ?_
        refine pw_getR 94 rfl rfl (by first | assumption | exact ⟨by decide, rfl⟩) rfl ?_
        refine pw_iload 96 rfl rfl rfl ?_
        refine pw_cV1 99 rfl rfl (by first | assumption | exact ⟨by decide, rfl⟩) rfl (Nat.le_of_ble_eq_true rfl) rfl rfl (Nat.le_of_ble_eq_true rfl) (c_Row_get l2 hy1.2 (by rw [hss]; exact hn) _ ?_)
        rw [gI_n (by omega)]
        refine pw_pI ?_
        skip
        refine pw_cV2 102 rfl rfl (by first | assumption | exact ⟨by decide, rfl⟩) rfl (Nat.le_of_ble_eq_true rfl) rfl rfl (Nat.le_of_ble_eq_true rfl) (c_Line_add w6 hm (by omega) (by omega) _ _ (fun M2 f2 m2 => ?_))
        refine pw_pV ?_
        refine pw_goto rfl 141 rfl ?_
        refine tail _ _ U V M2 (by rw [List.length_append, List.length_singleton]; omega) (by rw [List.length_append, List.length_append, hB]; rfl) hU hV (hf.tr (f2.wk (by omega) (by omega))) m2 (hu.mv f2 (by omega)) (hc.mv f2 (by omega)) rfl rfl rfl rfl
      | some r =>
        rw [hq] at tail
        have hr := hlt r hq
        skip
        refine pw_icmp_ne_t 105 rfl rfl (nI_m4 (by omega)) ?_
        unfold rI
        refine pw_aload_n 106 rfl rfl rfl ?_
        refine pw_iload 108 rfl rfl rfl ?_
        refine pw_aload_n 109 rfl rfl rfl ?_
        refine pw_getR 112 rfl rfl (by first | assumption | exact ⟨by decide, rfl⟩) rfl ?_
        refine pw_iload 114 rfl rfl rfl ?_
        refine pw_cV1 117 rfl rfl (by first | assumption | exact ⟨by decide, rfl⟩) rfl (Nat.le_of_ble_eq_true rfl) rfl rfl (Nat.le_of_ble_eq_true rfl) (c_Row_get l2 hy1.2 (by rw [hss]; exact hn) _ ?_)
        rw [gI_n (by omega)]
        refine pw_pI ?_
        skip
        refine pw_cV2 120 rfl rfl (by first | assumption | exact ⟨by decide, rfl⟩) rfl (Nat.le_of_ble_eq_true rfl) rfl rfl (Nat.le_of_ble_eq_true rfl) (c_give hw0 hb hx1 hd hk hwk1.2.1 hr (by omega) hB hm (fun M2 f2 m2 => ?_))
        refine pw_pV ?_
        refine pw_aload_n 121 rfl rfl rfl ?_
        refine pw_getR 124 rfl rfl (by first | assumption | exact ⟨by decide, rfl⟩) rfl ?_
        refine pw_iload 126 rfl rfl rfl ?_
        refine pw_iload 128 rfl rfl rfl ?_
        refine pw_cV2 131 rfl rfl (by first | assumption | exact ⟨by decide, rfl⟩) rfl (Nat.le_of_ble_eq_true rfl) rfl rfl (Nat.le_of_ble_eq_true rfl) (c_Row_set w4 (hu.mv f2 (by omega)) (by omega) (j := p) (by omega) _ (fun M3 f3 m3 => ?_))
        refine pw_pV ?_
        refine pw_aload_n 132 rfl rfl rfl ?_
        refine pw_getR 135 rfl rfl (by first | assumption | exact ⟨by decide, rfl⟩) rfl ?_
        refine pw_iload 137 rfl rfl rfl ?_
        refine pw_iconst (v := nI 1) 138 rfl rfl (by decide) ?_
        refine pw_cV2 141 rfl rfl (by first | assumption | exact ⟨by decide, rfl⟩) rfl (Nat.le_of_ble_eq_true rfl) rfl rfl (Nat.le_of_ble_eq_true rfl) (c_Row_addTo w5 ((hc.mv f2 (by omega)).mv f3 (by omega)) (by omega) (j := r) (by omega) _ (fun M4 f4 m4 => ?_))
        refine pw_pV ?_
        have f24 := ((f2.wk (c := k + 7) (d := k + 16) (by omega) (by omega)).tr (f3.wk (by omega) (by omega))).tr (f4.wk (by omega) (by omega))
        have g6 := hgf r
        refine tail _ _ _ _ M4 ?_ ?_ (by rw [List.length_set]; exact hU) (by rw [List.length_set]; exact hV) (hf.tr f24) ((m2.mv f3 (by omega)).mv f4 (by omega)) (m3.mv f4 (by omega)) m4 rfl rfl rfl rfl
        · rw [List.length_append, giv_len]; omega
        · rw [List.length_append, List.length_append, giv_len, List.length_replicate, hB]
    · exact stop i p s A B U V M1 v hv (by omega) hp66 hip hf hm hu hc eA eB eU eV
theorem c_go {s : Nat} (hw : isWalk sh k kb) (hb : isBook sh kb) (hx : bookIs M kb rs) (hd : kb + 57 ≤ k ∨ k + 16 ≤ kb) (hk : okK rs kd) (hwk : wkIs M k rs kd ls) (hl : isLine sh kl nl) (hy : lineIs M kl ls ss) (hss : ss.length = ls.length) (hn : ls.length ≤ nl) (hd2 : kl + 5 ≤ k ∨ k + 16 ≤ kl) (h60 : ls.length ≤ 60) (hs : s < 1024)
    (kk : ∀ M', fr (k + 7) (k + 16) M M' → gone M' k rs kd ls ss s → Q none sh M' N) : PW mX9_go 0 [.ref k, .ref kl, .int (nI s), .null, .null, .null, .null] [] sh M N Q := by
  have w0 := hw.1
  have w4 := hw.2.2.2.2.1
  have w5 := hw.2.2.2.2.2.1
  have w6 := hw.2.2.2.2.2.2
  have w4' := w4.1
  have w5' := w5.1
  have w6' := w6.1
  have l0 := hl.1
  have h10 := hx.2.1
  have b1 := hb.1
  refine pw_aload_n 1 rfl rfl rfl ?_
  refine pw_getR 4 rfl rfl (by first | assumption | exact ⟨by decide, rfl⟩) rfl ?_
  refine pw_cV0 7 rfl rfl (by first | assumption | exact ⟨by decide, rfl⟩) rfl (Nat.le_of_ble_eq_true rfl) rfl rfl (Nat.le_of_ble_eq_true rfl) (c_Line_clear w6 (fun M1 f1 m1 => ?_))
  refine pw_pV ?_
  refine pw_aload_n 8 rfl rfl rfl ?_
  refine pw_getR 11 rfl rfl (by first | assumption | exact ⟨by decide, rfl⟩) rfl ?_
  refine pw_aload_n 12 rfl rfl rfl ?_
  refine pw_cV0 15 rfl rfl (by first | assumption | exact ⟨by decide, rfl⟩) rfl (Nat.le_of_ble_eq_true rfl) rfl rfl (Nat.le_of_ble_eq_true rfl) (c_Line_size hl (hy.mv f1 (by omega)) ?_)
  refine pw_pI ?_
  refine pw_bipush (v := (-4)) 17 rfl rfl (by decide) ?_
  refine pw_cV2 20 rfl rfl (by first | assumption | exact ⟨by decide, rfl⟩) rfl (Nat.le_of_ble_eq_true rfl) rfl rfl (Nat.le_of_ble_eq_true rfl) (c_Row_fill w4 h60 (fun M2 f2 m2 => ?_))
  refine pw_pV ?_
  have f12 := (f1.wk (c := k + 7) (d := k + 16) (by omega) (by omega)).tr (f2.wk (by omega) (by omega))
  refine pw_aload_n 21 rfl rfl rfl ?_
  refine pw_getR 24 rfl rfl (by first | assumption | exact ⟨by decide, rfl⟩) rfl ?_
  refine pw_aload_n 25 rfl rfl rfl ?_
  refine pw_getR 28 rfl rfl (by first | assumption | exact ⟨by decide, rfl⟩) rfl ?_
  refine pw_cV0 31 rfl rfl (by first | assumption | exact ⟨by decide, rfl⟩) rfl (Nat.le_of_ble_eq_true rfl) rfl rfl (Nat.le_of_ble_eq_true rfl) (c_Book_size hb (hx.mv f12 (by omega)) ?_)
  refine pw_pI ?_
  refine pw_iconst (v := nI 0) 32 rfl rfl (by decide) ?_
  refine pw_cV2 35 rfl rfl (by first | assumption | exact ⟨by decide, rfl⟩) rfl (Nat.le_of_ble_eq_true rfl) rfl rfl (Nat.le_of_ble_eq_true rfl) (c_Row_fill w5 h10 (fun M3 f3 m3 => ?_))
  refine pw_pV ?_
  have f13 := f12.tr (f3.wk (by omega) (by omega))
  refine pw_iload_n 36 rfl rfl rfl ?_
  refine pw_istore3 37 rfl rfl rfl ?_
  refine pw_iconst (v := nI 0) 38 rfl rfl (by decide) ?_
  refine pw_istore4 40 rfl rfl rfl ?_
  refine pw_iconst (v := nI 0) 41 rfl rfl (by decide) ?_
  refine pw_istore5 43 rfl rfl rfl ?_
  exact go_loop hw hb hx hd hk hwk hl hy hss hn hd2 h60 kk ls.length 0 0 s [] [] _ _ M3 _ rfl (by omega) (by omega) (by omega) hs (by simp) rfl (List.length_replicate ..) (List.length_replicate ..) f13 ((m1.mv f2 (by omega)).mv f3 (by omega)) (m2.mv f3 (by omega)) m3 rfl rfl rfl rfl
end GOO
