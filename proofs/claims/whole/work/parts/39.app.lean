theorem mL_le {M : pmM} {N : pmN} {k : Nat} {a : aW} (hx : appIs M N k a) (s : Nat) : (a.mL s).length ≤ 360 := by
  have hbk := hx.2.1.2.1
  have := outL_le (rs := a.rs) (kds a.rs) a.ls (fun r => by
    by_cases q : r < a.rs.length
    · exact (bk_at hbk q).2.2.2.2
    · unfold pGf gR; rw [List.getD_eq_getElem?_getD, List.getElem?_eq_none (by omega)]; exact Nat.zero_le _) (a.ls.length - 0) 0 s
  have e : (a.mL s).length ≤ 6 * (a.ls.length - 0) := this
  have e2 : a.ls.length ≤ 60 := hx.2.1.1.2.2.1
  omega
theorem mS_len (a : aW) (s : Nat) : (a.mS s).length = (a.mL s).length := (out_len a.rs (kds a.rs) a.ls a.ss _).symm
theorem and_bit : ∀ s, s < 1024 → ∀ j, j < 10 → nI s &&& (nI 1 <<< (nI j &&& 31)) = nI (if s.testBit j then 2 ^ j else 0) := by decide +kernel
def fits (rs : List aR) (so : Nat) : Nat → Nat
  | 0 => 0
  | j + 1 => fits rs so j + (if osrt (gR rs j).1 so then 1 else 0)
def vPile (a : aW) (so : Int32) : Int32 × aW := match ix so 3 with
  | none => (-1, a)
  | some s => (nI (fits a.rs s a.rs.length), wSet (wPs a (some s)) 0)
def vPut (a : aW) (r : Int32) : Int32 × aW := match ix r a.rs.length with
  | none => (-1, a)
  | some j => match a.ps with
    | none => (-11, a)
    | some so => if a.pset.testBit j then (-2, a) else if 4 ≤ pop a.pset then (-13, a) else if osrt (gR a.rs j).1 so = false then (-15, a) else (nI (pop (a.pset ||| 2 ^ j)), wSet a (a.pset ||| 2 ^ j))
def vPassPile (a : aW) : Int32 × aW := match a.ps with
  | none => (-11, a)
  | some _ => vGo a a.pset
def vUndo (a : aW) : Int32 × aW := match a.now.2.2 with
  | [] => (-4, a)
  | m :: t => (nI t.length, wNow a (m, a.rs, t))
def vComes (a : aW) (w p : Int32) : Int32 := match ix w 4 with
  | none => -1
  | some 0 => nI (a.mL a.on).length
  | some 3 => nI (if (a.mL a.on).length ≤ 60 then 1 else 0)
  | some (j + 1) => match ix p (a.mL a.on).length with
    | none => -1
    | some i => if j = 0 then (a.mL a.on).getD i 0 else (a.mS a.on).getD i 0
def vUsed (a : aW) (p : Int32) : Int32 := match ix p a.ls.length with
  | none => -1
  | some i => (uAt (a.tc a.on) (List.replicate a.ls.length (-4))).getD i 0
def fnd : List Int32 → Int32 → Nat → Int32
  | [], _, _ => -4
  | y :: t, x, i => if y = x then nI i else fnd t x (i + 1)
def vWent (a : aW) (x : Int32) : Int32 := match ix x 60 with
  | none => -1
  | some _ => fnd (a.mS a.on) x 0
def vImage (a : aW) : Int32 × aW := (nI 1, wImg a (some a.now))
def vRestore (a : aW) : Int32 × aW := match a.img with
  | none => (-4, a)
  | some s => (nI 1, wPs (wNow a s) none)
theorem appIs.now4 {M M' : pmM} {N : pmN} {k : Nat} {a : aW} {s : aS} (h : appIs M N k a) (hf : fr (k + 4) (k + 4 + 114) M M') (hs : stIs M' (k + 4) s) : appIs M' N k (wNow a s) := by
  obtain ⟨h1, h2, h3, h4, h5, h6, h7⟩ := h
  refine ⟨h1.mv hf (by omega), hs, fun s hs => (h3 s hs).mv hf (by omega), ?_, ?_, ?_, fun i hi => (h7 i hi).mv hf (by omega) rfl⟩
  · rw [hf k (by omega)]; exact h4
  · rw [hf k (by omega)]; exact h5
  · rw [hf k (by omega)]; exact h6
section APT
variable {sh : pmS} {M : pmM} {N : pmN} {Q : pmPost} {k : Nat} {a : aW}
theorem pile_loop {so : Nat} (hs : so < 3) (hb : isApp sh k) (hx : appIs M N k a) (kk : Q (some (.int (nI (fits a.rs so a.rs.length)))) sh M N) :
    ∀ (d i : Nat), i + d = a.rs.length → PW mX10_pile 30 [.ref k, .int (nI so), .int (nI (fits a.rs so i)), .int (nI i)] [] sh M N Q := by
  obtain ⟨b0, b1, b2, b3, b4, b5, b6, b7, b8, b9, b10⟩ := hb
  have s0 := b2.1
  have s3 := b2.2.2.1
  have s3' := s3.1
  have h10 : a.rs.length ≤ 10 := hx.2.1.2.1.2.1
  have hbk : bookIs M (k + 11) a.rs := hx.2.1.2.1
  intro d
  induction d with
  | zero =>
    intro i hi
    have : i = a.rs.length := by omega
    subst this
    refine pw_iload_n 31 rfl rfl rfl ?_
    refine pw_aload_n 32 rfl rfl rfl ?_
    refine pw_getR 35 rfl rfl (by first | assumption | exact ⟨by decide, rfl⟩) rfl ?_
    refine pw_getR 38 rfl rfl (by first | assumption | exact ⟨by decide, rfl⟩) rfl ?_
    refine pw_cV0 41 rfl rfl (by first | assumption | exact ⟨by decide, rfl⟩) rfl (Nat.le_of_ble_eq_true rfl) rfl rfl (Nat.le_of_ble_eq_true rfl) (c_Book_size s3 hbk ?_)
    refine pw_pI ?_
    skip
    refine pw_icmp_ge_t 74 rfl rfl (nI_le (by omega) (by omega)) ?_
    refine pw_iload_n 75 rfl rfl rfl ?_
    exact pw_iret rfl rfl (kk)
  | succ d ih =>
    intro i hi
    have hi2 : i < a.rs.length := by omega
    have o1 := (s3.2.2 i (by omega)).1
    have e := bk_at hbk hi2
    have := ih (i + 1) (by omega)
    rw [fits] at this
    refine pw_iload_n 31 rfl rfl rfl ?_
    refine pw_aload_n 32 rfl rfl rfl ?_
    refine pw_getR 35 rfl rfl (by first | assumption | exact ⟨by decide, rfl⟩) rfl ?_
    refine pw_getR 38 rfl rfl (by first | assumption | exact ⟨by decide, rfl⟩) rfl ?_
    refine pw_cV0 41 rfl rfl (by first | assumption | exact ⟨by decide, rfl⟩) rfl (Nat.le_of_ble_eq_true rfl) rfl rfl (Nat.le_of_ble_eq_true rfl) (c_Book_size s3 hbk ?_)
    refine pw_pI ?_
    skip
    refine pw_icmp_ge_f 44 rfl rfl (nI_ge (by omega) (by omega)) ?_
    refine pw_aload_n 45 rfl rfl rfl ?_
    refine pw_getR 48 rfl rfl (by first | assumption | exact ⟨by decide, rfl⟩) rfl ?_
    refine pw_getR 51 rfl rfl (by first | assumption | exact ⟨by decide, rfl⟩) rfl ?_
    refine pw_iload_n 52 rfl rfl rfl ?_
    refine pw_cV1 55 rfl rfl (by first | assumption | exact ⟨by decide, rfl⟩) rfl (Nat.le_of_ble_eq_true rfl) rfl rfl (Nat.le_of_ble_eq_true rfl) (c_Book_get s3 (i := i) (by omega) ?_)
    refine pw_pR ?_
    refine pw_getI 58 rfl rfl (by first | assumption | exact ⟨by decide, rfl⟩) rfl ?_
    refine pw_iload_n 59 rfl rfl rfl ?_
    rw [show M (k + 11 + 7 + 5 * i) 0 = nI (gR a.rs i).1 from e.1.1]
    refine pw_cS2 62 rfl rfl rfl (Nat.le_of_ble_eq_true rfl) rfl rfl (Nat.le_of_ble_eq_true rfl) (c_isOfSort e.2.1 hs ?_)
    refine pw_pI ?_
    by_cases q : osrt (gR a.rs i).1 so = true
    · rw [if_pos q] at this ⊢
      skip
      refine pw_if_eq_f 65 rfl rfl (by decide) ?_
      first | refine pw_iincN2 68 rfl rfl rfl (by with_reducible rfl) ?_ | refine pw_iinc2 (w := _) 68 rfl rfl rfl rfl ?_
      first | refine pw_iincN3 71 rfl rfl rfl (by with_reducible rfl) ?_ | refine pw_iinc3 (w := _) 71 rfl rfl rfl rfl ?_
      refine pw_goto rfl 30 rfl ?_
      exact this
    · rw [if_neg q] at this ⊢
      skip
      refine pw_if_eq_t 68 rfl rfl (by decide) ?_
      first | refine pw_iincN3 71 rfl rfl rfl (by with_reducible rfl) ?_ | refine pw_iinc3 (w := _) 71 rfl rfl rfl rfl ?_
      refine pw_goto rfl 30 rfl ?_
      exact this
theorem c_pile {so : Int32} (hb : isApp sh k) (hw : wfW a) (hx : appIs M N k a) (kk : pst k sh M N Q (.int (vPile a so).1) (vPile a so).2) : PW mX10_pile 0 [.ref k, .int so, .null, .null] [] sh M N Q := by
  have b0 := hb.1
  have h10 : a.rs.length ≤ 10 := hx.2.1.2.1.2.1
  unfold vPile at kk
  rcases ix_ex (b := 3) (by decide) so with ⟨j, hj, rfl, e⟩ | ⟨hn, e⟩
  · rw [e] at kk
    have mid : PW mX10_pile 16 [.ref k, .int (nI j), .null, .null] [] sh M N Q := by
      have x2 := (hx.sort (some j)).set 0
      refine pw_aload_n 17 rfl rfl rfl ?_
      refine pw_iload_n 18 rfl rfl rfl ?_
      refine pw_putI 21 rfl rfl (by first | assumption | exact ⟨by decide, rfl⟩) rfl (by decide) ?_
      refine pw_aload_n 22 rfl rfl rfl ?_
      refine pw_iconst (v := nI 0) 23 rfl rfl (by decide) ?_
      refine pw_putI 26 rfl rfl (by first | assumption | exact ⟨by decide, rfl⟩) rfl (by decide) ?_
      refine pw_iconst (v := nI 0) 27 rfl rfl (by decide) ?_
      refine pw_istore2 28 rfl rfl rfl ?_
      refine pw_iconst (v := nI 0) 29 rfl rfl (by decide) ?_
      refine pw_istore3 30 rfl rfl rfl ?_
      refine pile_loop (a := wSet (wPs a (some j)) 0) hj hb x2 (kk.go ?_ x2) _ 0 (Nat.zero_add _)
      exact (fr_st M 10 _ (Nat.le_refl k) (by omega)).tr (fr_st _ 11 _ (Nat.le_refl k) (by omega))
    rcases (show j = 0 ∨ j = 1 ∨ j = 2 by omega) with rfl | rfl | rfl
    · refine pw_iload_n 1 rfl rfl rfl ?_
      refine pw_if_eq_t 16 rfl rfl (rfl) ?_
      exact mid
    · refine pw_iload_n 1 rfl rfl rfl ?_
      refine pw_if_eq_f 4 rfl rfl (by decide) ?_
      refine pw_iload_n 5 rfl rfl rfl ?_
      refine pw_iconst (v := nI 1) 6 rfl rfl (by decide) ?_
      refine pw_icmp_eq_t 16 rfl rfl (rfl) ?_
      exact mid
    · refine pw_iload_n 1 rfl rfl rfl ?_
      refine pw_if_eq_f 4 rfl rfl (by decide) ?_
      refine pw_iload_n 5 rfl rfl rfl ?_
      refine pw_iconst (v := nI 1) 6 rfl rfl (by decide) ?_
      refine pw_icmp_eq_f 9 rfl rfl (by decide) ?_
      refine pw_iload_n 10 rfl rfl rfl ?_
      refine pw_iconst (v := nI 2) 11 rfl rfl (by decide) ?_
      refine pw_icmp_eq_t 16 rfl rfl (rfl) ?_
      exact mid
  · rw [e] at kk
    refine pw_iload_n 1 rfl rfl rfl ?_
    refine pw_if_eq_f 4 rfl rfl (hn 0 (by decide)) ?_
    refine pw_iload_n 5 rfl rfl rfl ?_
    refine pw_iconst (v := nI 1) 6 rfl rfl (by decide) ?_
    refine pw_icmp_eq_f 9 rfl rfl (hn 1 (by decide)) ?_
    refine pw_iload_n 10 rfl rfl rfl ?_
    refine pw_iconst (v := nI 2) 11 rfl rfl (by decide) ?_
    refine pw_icmp_eq_f 14 rfl rfl (hn 2 (by decide)) ?_
    refine pw_iconst (v := (-1)) 15 rfl rfl (by decide) ?_
    exact pw_iret rfl rfl (kk.at hx)
theorem c_put {r : Int32} (hb : isApp sh k) (hw : wfW a) (hx : appIs M N k a) (kk : pst k sh M N Q (.int (vPut a r).1) (vPut a r).2) : PW mX10_put 0 [.ref k, .int r] [] sh M N Q := by
  obtain ⟨b0, b1, b2, b3, b4, b5, b6, b7, b8, b9, b10⟩ := hb
  have s0 := b2.1
  have s3 := b2.2.2.1
  have s3' := s3.1
  have h10 : a.rs.length ≤ 10 := hx.2.1.2.1.2.1
  have hbk : bookIs M (k + 11) a.rs := hx.2.1.2.1
  have hps := hx.2.2.2.2.1
  have hset := hx.2.2.2.2.2.1
  have hsl := hw.2.2.2.2.2.2
  unfold vPut at kk
  refine pw_aload_n 1 rfl rfl rfl ?_
  refine pw_getR 4 rfl rfl (by first | assumption | exact ⟨by decide, rfl⟩) rfl ?_
  refine pw_getR 7 rfl rfl (by first | assumption | exact ⟨by decide, rfl⟩) rfl ?_
  refine pw_iload_n 8 rfl rfl rfl ?_
  refine pw_cV1 11 rfl rfl (by first | assumption | exact ⟨by decide, rfl⟩) rfl (Nat.le_of_ble_eq_true rfl) rfl rfl (Nat.le_of_ble_eq_true rfl) (c_Book_has s3 hbk (fun j hj e => ?_) (fun hn => ?_))
  · refine pw_pI ?_
    subst e
    rw [ix_some hj (by omega)] at kk
    simp only at kk
    have o1 := (s3.2.2 j (by omega)).1
    have e := bk_at hbk hj
    skip
    refine pw_if_ne_t 16 rfl rfl (by decide) ?_
    refine pw_aload_n 17 rfl rfl rfl ?_
    refine pw_getI 20 rfl rfl (by first | assumption | exact ⟨by decide, rfl⟩) rfl ?_
    refine pw_bipush (v := (-4)) 22 rfl rfl (by decide) ?_
    rw [hps]
    cases hq : a.ps with
    | none =>
      rw [hq] at kk
      skip
      refine pw_icmp_ne_f 25 rfl rfl (fun q => q rfl) ?_
      refine pw_bipush (v := (-11)) 27 rfl rfl (by decide) ?_
      exact pw_iret rfl rfl (kk.at hx)
    | some so =>
      rw [hq] at kk
      simp only at kk
      have hso := hw.2.2.2.2.2.1 so hq
      skip
      refine pw_icmp_ne_t 28 rfl rfl (nI_m4 (by omega)) ?_
      refine pw_aload_n 29 rfl rfl rfl ?_
      refine pw_getI 32 rfl rfl (by first | assumption | exact ⟨by decide, rfl⟩) rfl ?_
      refine pw_iload_n 33 rfl rfl rfl ?_
      refine pw_ishr 34 rfl rfl ?_
      refine pw_iconst (v := nI 1) 35 rfl rfl (by decide) ?_
      refine pw_iand 36 rfl rfl ?_
      rw [hset, bit_v _ hsl _ (by omega)]
      by_cases q1 : a.pset.testBit j = true
      · rw [if_pos q1] at kk ⊢
        refine pw_iconst (v := nI 1) 37 rfl rfl (by decide) ?_
        refine pw_icmp_ne_f 40 rfl rfl (by decide) ?_
        refine pw_bipush (v := (-2)) 42 rfl rfl (by decide) ?_
        exact pw_iret rfl rfl (kk.at hx)
      · rw [if_neg q1] at kk ⊢
        refine pw_iconst (v := nI 1) 37 rfl rfl (by decide) ?_
        refine pw_icmp_ne_t 43 rfl rfl (by decide) ?_
        refine pw_aload_n 44 rfl rfl rfl ?_
        refine pw_getI 47 rfl rfl (by first | assumption | exact ⟨by decide, rfl⟩) rfl ?_
        rw [hset]
        refine pw_cS1 50 rfl rfl rfl (Nat.le_of_ble_eq_true rfl) rfl rfl (Nat.le_of_ble_eq_true rfl) (c_bitCount hsl ?_)
        refine pw_pI ?_
        refine pw_iconst (v := nI 4) 51 rfl rfl (by decide) ?_
        have hpop : pop a.pset ≤ 10 := by
          unfold pop
          have := List.length_filter_le (fun i => a.pset.testBit i) (List.range 10)
          rwa [List.length_range] at this
        by_cases q2 : 4 ≤ pop a.pset
        · rw [if_pos q2] at kk
          skip
          refine pw_icmp_lt_f 54 rfl rfl (nI_nlt q2 (by omega)) ?_
          refine pw_bipush (v := (-13)) 56 rfl rfl (by decide) ?_
          exact pw_iret rfl rfl (kk.at hx)
        · rw [if_neg q2] at kk
          skip
          refine pw_icmp_lt_t 57 rfl rfl (nI_lt (by omega) (by decide)) ?_
          refine pw_aload_n 58 rfl rfl rfl ?_
          refine pw_getR 61 rfl rfl (by first | assumption | exact ⟨by decide, rfl⟩) rfl ?_
          refine pw_getR 64 rfl rfl (by first | assumption | exact ⟨by decide, rfl⟩) rfl ?_
          refine pw_iload_n 65 rfl rfl rfl ?_
          refine pw_cV1 68 rfl rfl (by first | assumption | exact ⟨by decide, rfl⟩) rfl (Nat.le_of_ble_eq_true rfl) rfl rfl (Nat.le_of_ble_eq_true rfl) (c_Book_get s3 (i := j) (by omega) ?_)
          refine pw_pR ?_
          refine pw_getI 71 rfl rfl (by first | assumption | exact ⟨by decide, rfl⟩) rfl ?_
          refine pw_aload_n 72 rfl rfl rfl ?_
          refine pw_getI 75 rfl rfl (by first | assumption | exact ⟨by decide, rfl⟩) rfl ?_
          rw [show M (k + 11 + 7 + 5 * j) 0 = nI (gR a.rs j).1 from e.1.1, hps, hq]
          refine pw_cS2 78 rfl rfl rfl (Nat.le_of_ble_eq_true rfl) rfl rfl (Nat.le_of_ble_eq_true rfl) (c_isOfSort e.2.1 hso ?_)
          refine pw_pI ?_
          by_cases q3 : osrt (gR a.rs j).1 so = true
          · rw [if_pos q3]
            rw [if_neg (by rw [q3]; decide)] at kk
            skip
            refine pw_if_ne_t 84 rfl rfl (by decide) ?_
            refine pw_aload_n 85 rfl rfl rfl ?_
            refine pw_dup 86 rfl rfl rfl ?_
            refine pw_getI 89 rfl rfl (by first | assumption | exact ⟨by decide, rfl⟩) rfl ?_
            refine pw_iconst (v := nI 1) 90 rfl rfl (by decide) ?_
            refine pw_iload_n 91 rfl rfl rfl ?_
            refine pw_ishl 92 rfl rfl ?_
            refine pw_ior 93 rfl rfl ?_
            rw [hset, or_bitS _ hsl _ (by omega)]
            refine pw_putI 96 rfl rfl (by first | assumption | exact ⟨by decide, rfl⟩) rfl (by decide) ?_
            refine pw_aload_n 97 rfl rfl rfl ?_
            refine pw_getI 100 rfl rfl (by first | assumption | exact ⟨by decide, rfl⟩) rfl ?_
            rw [st_same]
            have hlt : a.pset ||| 2 ^ j < 1024 := Nat.or_lt_two_pow (n := 10) hsl (Nat.pow_lt_pow_right (by decide) (by omega))
            refine pw_cS1 103 rfl rfl rfl (Nat.le_of_ble_eq_true rfl) rfl rfl (Nat.le_of_ble_eq_true rfl) (c_bitCount hlt ?_)
            refine pw_pI ?_
            skip
            exact pw_iret rfl rfl (kk.go (fr_st M 11 _ (Nat.le_refl k) (by omega)) (hx.set _))
          · rw [if_neg q3]
            rw [if_pos (by simpa using q3)] at kk
            skip
            refine pw_if_ne_f 81 rfl rfl (by decide) ?_
            refine pw_bipush (v := (-15)) 83 rfl rfl (by decide) ?_
            exact pw_iret rfl rfl (kk.at hx)
  · refine pw_pI ?_
    rw [ix_none hn] at kk
    skip
    refine pw_if_ne_f 14 rfl rfl (by decide) ?_
    refine pw_iconst (v := (-1)) 15 rfl rfl (by decide) ?_
    exact pw_iret rfl rfl (kk.at hx)
theorem c_passPile (hb : isApp sh k) (hw : wfW a) (hx : appIs M N k a) (kk : pst k sh M N Q (.int (vPassPile a).1) (vPassPile a).2) : PW mX10_passPile 0 [.ref k] [] sh M N Q := by
  have b0 := hb.1
  have hps := hx.2.2.2.2.1
  have hset := hx.2.2.2.2.2.1
  unfold vPassPile at kk
  refine pw_aload_n 1 rfl rfl rfl ?_
  refine pw_getI 4 rfl rfl (by first | assumption | exact ⟨by decide, rfl⟩) rfl ?_
  refine pw_bipush (v := (-4)) 6 rfl rfl (by decide) ?_
  rw [hps]
  cases hq : a.ps with
  | none =>
    rw [hq] at kk
    skip
    refine pw_icmp_ne_f 9 rfl rfl (fun q => q rfl) ?_
    refine pw_bipush (v := (-11)) 11 rfl rfl (by decide) ?_
    refine pw_goto rfl 22 rfl ?_
    exact pw_iret rfl rfl (kk.at hx)
  | some so =>
    rw [hq] at kk
    have hso := hw.2.2.2.2.2.1 so hq
    skip
    refine pw_icmp_ne_t 14 rfl rfl (nI_m4 (by omega)) ?_
    refine pw_aload_n 15 rfl rfl rfl ?_
    refine pw_aload_n 16 rfl rfl rfl ?_
    refine pw_getI 19 rfl rfl (by first | assumption | exact ⟨by decide, rfl⟩) rfl ?_
    rw [hset]
    refine pw_cV1 22 rfl rfl (by first | assumption | exact ⟨by decide, rfl⟩) rfl (Nat.le_of_ble_eq_true rfl) rfl rfl (Nat.le_of_ble_eq_true rfl) (c_goThrough hb hw hx (fun M1 N1 f1 n1 x1 => ?_))
    refine pw_pI ?_
    skip
    exact pw_iret rfl rfl (kk M1 N1 f1 n1 x1)
theorem c_undo (hb : isApp sh k) (hw : wfW a) (hx : appIs M N k a) (kk : pst k sh M N Q (.int (vUndo a).1) (vUndo a).2) : PW mX10_undo 0 [.ref k] [] sh M N Q := by
  obtain ⟨b0, b1, b2, b3, b4, b5, b6, b7, b8, b9, b10⟩ := hb
  have s0 := b2.1
  have s4 := b2.2.2.2
  have s4' := s4.1
  unfold vUndo at kk
  refine pw_aload_n 1 rfl rfl rfl ?_
  refine pw_getR 4 rfl rfl (by first | assumption | exact ⟨by decide, rfl⟩) rfl ?_
  refine pw_cV0 7 rfl rfl (by first | assumption | exact ⟨by decide, rfl⟩) rfl (Nat.le_of_ble_eq_true rfl) rfl rfl (Nat.le_of_ble_eq_true rfl) (c_State_goBack b2 hx.2.1 (fun e => ?_) (fun m t M1 e f1 r1 => ?_))
  · refine pw_pI ?_
    rw [e] at kk
    skip
    refine pw_if_eq_t 23 rfl rfl (by decide) ?_
    refine pw_bipush (v := (-4)) 25 rfl rfl (by decide) ?_
    exact pw_iret rfl rfl (kk.at hx)
  · refine pw_pI ?_
    rw [e] at kk
    skip
    refine pw_if_eq_f 10 rfl rfl (by decide) ?_
    refine pw_aload_n 11 rfl rfl rfl ?_
    refine pw_getR 14 rfl rfl (by first | assumption | exact ⟨by decide, rfl⟩) rfl ?_
    refine pw_getR 17 rfl rfl (by first | assumption | exact ⟨by decide, rfl⟩) rfl ?_
    refine pw_cV0 20 rfl rfl (by first | assumption | exact ⟨by decide, rfl⟩) rfl (Nat.le_of_ble_eq_true rfl) rfl rfl (Nat.le_of_ble_eq_true rfl) (c_Hist_size s4 r1.2.2 ?_)
    refine pw_pI ?_
    refine pw_goto rfl 25 rfl ?_
    exact pw_iret rfl rfl (kk.go (f1.wk (by omega) (by omega)) (hx.now (f1.wk (by omega) (by omega)) r1))
theorem c_comes {w p : Int32} (hb : isApp sh k) (hw : wfW a) (hx : appIs M N k a) (kk : pst k sh M N Q (.int (vComes a w p)) a) : PW mX10_comes 0 [.ref k, .int w, .int p, .null] [] sh M N Q := by
  have b0 := hb.1
  have b6 := hb.2.2.2.2.2.2.1
  have w6 := b6.2.2.2.2.2.2
  have w6' := w6.1
  have m1 := w6.2.1
  have m2 := w6.2.2
  have m1' := m1.1
  have m2' := m2.1
  have hml := mL_le hx a.on
  have hms := mS_len a a.on
  have em : (outL a.now.2.1 (kds a.now.2.1) a.now.1.1 (tr a.now.2.1 (kds a.now.2.1) a.now.1.1 0 a.now.1.2.2)).length = (a.mL a.on).length := rfl
  have em2 : (outL a.rs (kds a.rs) a.ls (tr a.rs (kds a.rs) a.ls 0 a.on)).length = (a.mL a.on).length := rfl
  unfold vComes at kk
  refine pw_iload_n 1 rfl rfl rfl ?_
  refine pw_iconst (v := nI 4) 2 rfl rfl (by decide) ?_
  refine pw_cS2 5 rfl rfl rfl (Nat.le_of_ble_eq_true rfl) rfl rfl (Nat.le_of_ble_eq_true rfl) (c_isWithin (by decide) (fun j hj e => ?_) (fun hn => ?_))
  · refine pw_pI ?_
    subst e
    rw [ix_some hj (by decide)] at kk
    skip
    refine pw_if_ne_t 10 rfl rfl (by decide) ?_
    refine pw_aload_n 11 rfl rfl rfl ?_
    refine pw_cV0 14 rfl rfl (by first | assumption | exact ⟨by decide, rfl⟩) rfl (Nat.le_of_ble_eq_true rfl) rfl rfl (Nat.le_of_ble_eq_true rfl) (c_whatComes hb hw hx (fun M1 f1 g1 x1 => ?_))
    refine pw_pR ?_
    have f1' := f1.wk (c := k) (d := k + 323) (by omega) (by omega)
    have pk : ∀ i, (i = 1 ∨ i = 2) → pst k sh M N Q (.int (match ix p (a.mL a.on).length with | none => -1 | some t => if i = 1 then (a.mL a.on).getD t 0 else (a.mS a.on).getD t 0)) a → PW mX10_comes 44 [.ref k, .int (nI i), .int p, .ref (k + 302)] [] sh M1 N Q := by
      intro i hi kk
      refine pw_iload_n 45 rfl rfl rfl ?_
      refine pw_aload_n 46 rfl rfl rfl ?_
      refine pw_cV0 49 rfl rfl (by first | assumption | exact ⟨by decide, rfl⟩) rfl (Nat.le_of_ble_eq_true rfl) rfl rfl (Nat.le_of_ble_eq_true rfl) (c_Line_size w6 g1.1 ?_)
      refine pw_pI ?_
      skip
      refine pw_cS2 52 rfl rfl rfl (Nat.le_of_ble_eq_true rfl) rfl rfl (Nat.le_of_ble_eq_true rfl) (c_isWithin (by omega) (fun t ht e => ?_) (fun hn => ?_))
      · refine pw_pI ?_
        subst e
        have ht : t < (a.mL a.on).length := ht
        rw [ix_some ht (by omega)] at kk
        simp only at kk
        skip
        refine pw_if_ne_t 57 rfl rfl (by decide) ?_
        rcases hi with rfl | rfl
        · refine pw_iload_n 58 rfl rfl rfl ?_
          refine pw_iconst (v := nI 1) 59 rfl rfl (by decide) ?_
          refine pw_icmp_ne_f 62 rfl rfl (by decide) ?_
          refine pw_aload_n 63 rfl rfl rfl ?_
          refine pw_getR 66 rfl rfl (by first | assumption | exact ⟨by decide, rfl⟩) rfl ?_
          refine pw_iload_n 67 rfl rfl rfl ?_
          refine pw_cV1 70 rfl rfl (by first | assumption | exact ⟨by decide, rfl⟩) rfl (Nat.le_of_ble_eq_true rfl) rfl rfl (Nat.le_of_ble_eq_true rfl) (c_Row_get m1 g1.1.1 hml _ ?_)
          rw [gI_n (by omega)]
          refine pw_pI ?_
          refine pw_goto rfl 81 rfl ?_
          exact pw_iret rfl rfl (kk.go f1' x1)
        · refine pw_iload_n 58 rfl rfl rfl ?_
          refine pw_iconst (v := nI 1) 59 rfl rfl (by decide) ?_
          refine pw_icmp_ne_t 73 rfl rfl (by decide) ?_
          refine pw_aload_n 74 rfl rfl rfl ?_
          refine pw_getR 77 rfl rfl (by first | assumption | exact ⟨by decide, rfl⟩) rfl ?_
          refine pw_iload_n 78 rfl rfl rfl ?_
          refine pw_cV1 81 rfl rfl (by first | assumption | exact ⟨by decide, rfl⟩) rfl (Nat.le_of_ble_eq_true rfl) rfl rfl (Nat.le_of_ble_eq_true rfl) (c_Row_get m2 g1.1.2 (by rw [hms]; exact hml) _ ?_)
          rw [gI_n (by omega)]
          refine pw_pI ?_
          skip
          exact pw_iret rfl rfl (kk.go f1' x1)
      · refine pw_pI ?_
        have hn2 : ix p (a.mL a.on).length = none := ix_none hn
        rw [hn2] at kk
        skip
        refine pw_if_ne_f 55 rfl rfl (by decide) ?_
        refine pw_iconst (v := (-1)) 56 rfl rfl (by decide) ?_
        exact pw_iret rfl rfl (kk.go f1' x1)
    rcases (show j = 0 ∨ j = 1 ∨ j = 2 ∨ j = 3 by omega) with rfl | rfl | rfl | rfl
    · refine pw_astore3 15 rfl rfl rfl ?_
      refine pw_iload_n 16 rfl rfl rfl ?_
      refine pw_if_ne_f 19 rfl rfl (by decide) ?_
      refine pw_aload_n 20 rfl rfl rfl ?_
      refine pw_cV0 23 rfl rfl (by first | assumption | exact ⟨by decide, rfl⟩) rfl (Nat.le_of_ble_eq_true rfl) rfl rfl (Nat.le_of_ble_eq_true rfl) (c_Line_size w6 g1.1 ?_)
      refine pw_pI ?_
      skip
      exact pw_iret rfl rfl (kk.go f1' x1)
    · refine pw_astore3 15 rfl rfl rfl ?_
      refine pw_iload_n 16 rfl rfl rfl ?_
      refine pw_if_ne_t 24 rfl rfl (by decide) ?_
      refine pw_iload_n 25 rfl rfl rfl ?_
      refine pw_iconst (v := nI 3) 26 rfl rfl (by decide) ?_
      refine pw_icmp_ne_t 44 rfl rfl (by decide) ?_
      exact pk 1 (Or.inl rfl) kk
    · refine pw_astore3 15 rfl rfl rfl ?_
      refine pw_iload_n 16 rfl rfl rfl ?_
      refine pw_if_ne_t 24 rfl rfl (by decide) ?_
      refine pw_iload_n 25 rfl rfl rfl ?_
      refine pw_iconst (v := nI 3) 26 rfl rfl (by decide) ?_
      refine pw_icmp_ne_t 44 rfl rfl (by decide) ?_
      exact pk 2 (Or.inr rfl) kk
    · refine pw_astore3 15 rfl rfl rfl ?_
      refine pw_iload_n 16 rfl rfl rfl ?_
      refine pw_if_ne_t 24 rfl rfl (by decide) ?_
      refine pw_iload_n 25 rfl rfl rfl ?_
      refine pw_iconst (v := nI 3) 26 rfl rfl (by decide) ?_
      refine pw_icmp_ne_f 29 rfl rfl (by decide) ?_
      refine pw_aload_n 30 rfl rfl rfl ?_
      refine pw_cV0 33 rfl rfl (by first | assumption | exact ⟨by decide, rfl⟩) rfl (Nat.le_of_ble_eq_true rfl) rfl rfl (Nat.le_of_ble_eq_true rfl) (c_Line_size w6 g1.1 ?_)
      refine pw_pI ?_
      refine pw_bipush (v := nI 60) 35 rfl rfl (by decide) ?_
      simp only at kk
      by_cases q : (a.mL a.on).length ≤ 60
      · rw [if_pos q] at kk
        skip
        refine pw_icmp_gt_f 38 rfl rfl (nI_nlt q (by decide)) ?_
        refine pw_iconst (v := nI 1) 39 rfl rfl (by decide) ?_
        refine pw_goto rfl 43 rfl ?_
        exact pw_iret rfl rfl (kk.go f1' x1)
      · rw [if_neg q] at kk
        skip
        refine pw_icmp_gt_t 42 rfl rfl (nI_lt (Nat.lt_of_not_le q) (by omega)) ?_
        refine pw_iconst (v := nI 0) 43 rfl rfl (by decide) ?_
        exact pw_iret rfl rfl (kk.go f1' x1)
  · refine pw_pI ?_
    rw [ix_none hn] at kk
    skip
    refine pw_if_ne_f 8 rfl rfl (by decide) ?_
    refine pw_iconst (v := (-1)) 9 rfl rfl (by decide) ?_
    exact pw_iret rfl rfl (kk.at hx)
theorem c_used {p : Int32} (hb : isApp sh k) (hw : wfW a) (hx : appIs M N k a) (kk : pst k sh M N Q (.int (vUsed a p)) a) : PW mX10_used 0 [.ref k, .int p] [] sh M N Q := by
  have hb0 := hb
  obtain ⟨b0, b1, b2, b3, b4, b5, b6, b7, b8, b9, b10⟩ := hb
  have s0 := b2.1
  have s1 := b2.2.1.1
  have s2 := b2.2.1.2
  have s2' := s2.1
  have wk0 := b6.1
  have w4 := b6.2.2.2.2.1
  have w4' := w4.1
  have h60 : a.ls.length ≤ 60 := hx.2.1.1.2.2.1
  have h60' : a.now.1.1.length ≤ 60 := hx.2.1.1.2.2.1
  unfold vUsed at kk
  refine pw_iload_n 1 rfl rfl rfl ?_
  refine pw_aload_n 2 rfl rfl rfl ?_
  refine pw_getR 5 rfl rfl (by first | assumption | exact ⟨by decide, rfl⟩) rfl ?_
  refine pw_getR 8 rfl rfl (by first | assumption | exact ⟨by decide, rfl⟩) rfl ?_
  refine pw_getR 11 rfl rfl (by first | assumption | exact ⟨by decide, rfl⟩) rfl ?_
  refine pw_cV0 14 rfl rfl (by first | assumption | exact ⟨by decide, rfl⟩) rfl (Nat.le_of_ble_eq_true rfl) rfl rfl (Nat.le_of_ble_eq_true rfl) (c_Line_size s2 hx.2.1.1.1 ?_)
  refine pw_pI ?_
  skip
  refine pw_cS2 17 rfl rfl rfl (Nat.le_of_ble_eq_true rfl) rfl rfl (Nat.le_of_ble_eq_true rfl) (c_isWithin (by omega) (fun j hj e => ?_) (fun hn => ?_))
  · refine pw_pI ?_
    subst e
    rw [ix_some hj (by omega)] at kk
    skip
    refine pw_if_ne_t 22 rfl rfl (by decide) ?_
    refine pw_aload_n 23 rfl rfl rfl ?_
    refine pw_cV0 26 rfl rfl (by first | assumption | exact ⟨by decide, rfl⟩) rfl (Nat.le_of_ble_eq_true rfl) rfl rfl (Nat.le_of_ble_eq_true rfl) (c_whatComes hb0 hw hx (fun M1 f1 g1 x1 => ?_))
    refine pw_pR ?_
    refine pw_pop 27 rfl rfl rfl ?_
    refine pw_aload_n 28 rfl rfl rfl ?_
    refine pw_getR 31 rfl rfl (by first | assumption | exact ⟨by decide, rfl⟩) rfl ?_
    refine pw_getR 34 rfl rfl (by first | assumption | exact ⟨by decide, rfl⟩) rfl ?_
    refine pw_iload_n 35 rfl rfl rfl ?_
    refine pw_cV1 38 rfl rfl (by first | assumption | exact ⟨by decide, rfl⟩) rfl (Nat.le_of_ble_eq_true rfl) rfl rfl (Nat.le_of_ble_eq_true rfl) (c_Row_get w4 g1.2.1 (by rw [uAt_len, List.length_replicate]; exact h60) _ ?_)
    rw [gI_n (by omega)]
    refine pw_pI ?_
    skip
    exact pw_iret rfl rfl (kk.go (f1.wk (by omega) (by omega)) x1)
  · refine pw_pI ?_
    have hn2 : ix p a.ls.length = none := ix_none hn
    rw [hn2] at kk
    skip
    refine pw_if_ne_f 20 rfl rfl (by decide) ?_
    refine pw_iconst (v := (-1)) 21 rfl rfl (by decide) ?_
    exact pw_iret rfl rfl (kk.at hx)
theorem went_loop {kr n : Nat} {x : Int32} {xs : List Int32} (hr : isRow sh kr n) (hy : rowIs M kr xs) (hn : xs.length ≤ n) (kk : Q (some (.int (fnd xs x 0))) sh M N) (v0 : Value) :
    ∀ (d i : Nat), i + d = xs.length → fnd (xs.drop i) x i = fnd xs x 0 → PW mX10_went 21 [.ref k, .int x, .ref kr, .int (nI i)] [] sh M N Q := by
  have hr1 := hr.1
  have hn1 : n ≤ 1000 := hr.2.2.2
  intro d
  induction d with
  | zero =>
    intro i hi e
    rw [List.drop_eq_nil_of_le (by omega), fnd] at e
    refine pw_iload_n 22 rfl rfl rfl ?_
    refine pw_aload_n 23 rfl rfl rfl ?_
    refine pw_cV0 26 rfl rfl (by first | assumption | exact ⟨by decide, rfl⟩) rfl (Nat.le_of_ble_eq_true rfl) rfl rfl (Nat.le_of_ble_eq_true rfl) (c_Row_size hr hy ?_)
    refine pw_pI ?_
    skip
    refine pw_icmp_ge_t 46 rfl rfl (nI_le (by omega) (by omega)) ?_
    refine pw_bipush (v := (-4)) 48 rfl rfl (by decide) ?_
    rw [← e] at kk
    exact pw_iret rfl rfl (kk)
  | succ d ih =>
    intro i hi e
    have hi2 : i < xs.length := by omega
    have hg : xs.getD i 0 = xs[i] := by rw [List.getD_eq_getElem?_getD, List.getElem?_eq_getElem hi2]; rfl
    rw [List.drop_eq_getElem_cons hi2, fnd] at e
    refine pw_iload_n 22 rfl rfl rfl ?_
    refine pw_aload_n 23 rfl rfl rfl ?_
    refine pw_cV0 26 rfl rfl (by first | assumption | exact ⟨by decide, rfl⟩) rfl (Nat.le_of_ble_eq_true rfl) rfl rfl (Nat.le_of_ble_eq_true rfl) (c_Row_size hr hy ?_)
    refine pw_pI ?_
    skip
    refine pw_icmp_ge_f 29 rfl rfl (nI_ge (by omega) (by omega)) ?_
    refine pw_aload_n 30 rfl rfl rfl ?_
    refine pw_iload_n 31 rfl rfl rfl ?_
    refine pw_cV1 34 rfl rfl (by first | assumption | exact ⟨by decide, rfl⟩) rfl (Nat.le_of_ble_eq_true rfl) rfl rfl (Nat.le_of_ble_eq_true rfl) (c_Row_get hr hy hn _ ?_)
    rw [gI_n (by omega), hg]
    refine pw_pI ?_
    refine pw_iload_n 35 rfl rfl rfl ?_
    refine pw_icmp_ne 40 38 rfl rfl rfl (fun q => ?_) (fun q => ?_)
    · rw [if_neg q] at e
      first | refine pw_iincN3 43 rfl rfl rfl (by with_reducible rfl) ?_ | refine pw_iinc3 (w := _) 43 rfl rfl rfl rfl ?_
      refine pw_goto rfl 21 rfl ?_
      exact ih (i + 1) (by omega) e
    · rw [if_pos (Decidable.not_not.mp q)] at e
      rw [← e] at kk
      refine pw_iload_n 39 rfl rfl rfl ?_
      exact pw_iret rfl rfl (kk)
theorem c_went {x : Int32} (hb : isApp sh k) (hw : wfW a) (hx : appIs M N k a) (kk : pst k sh M N Q (.int (vWent a x)) a) : PW mX10_went 0 [.ref k, .int x, .null, .null] [] sh M N Q := by
  have b0 := hb.1
  have b6 := hb.2.2.2.2.2.2.1
  have w6 := b6.2.2.2.2.2.2
  have w6' := w6.1
  have m2 := w6.2.2
  unfold vWent at kk
  refine pw_iload_n 1 rfl rfl rfl ?_
  refine pw_bipush (v := nI 60) 3 rfl rfl (by decide) ?_
  refine pw_cS2 6 rfl rfl rfl (Nat.le_of_ble_eq_true rfl) rfl rfl (Nat.le_of_ble_eq_true rfl) (c_isWithin (by decide) (fun j hj e => ?_) (fun hn => ?_))
  · refine pw_pI ?_
    subst e
    rw [ix_some hj (by decide)] at kk
    skip
    refine pw_if_ne_t 11 rfl rfl (by decide) ?_
    refine pw_aload_n 12 rfl rfl rfl ?_
    refine pw_cV0 15 rfl rfl (by first | assumption | exact ⟨by decide, rfl⟩) rfl (Nat.le_of_ble_eq_true rfl) rfl rfl (Nat.le_of_ble_eq_true rfl) (c_whatComes hb hw hx (fun M1 f1 g1 x1 => ?_))
    refine pw_pR ?_
    refine pw_getR 18 rfl rfl (by first | assumption | exact ⟨by decide, rfl⟩) rfl ?_
    refine pw_astore2 19 rfl rfl rfl ?_
    refine pw_iconst (v := nI 0) 20 rfl rfl (by decide) ?_
    refine pw_istore3 21 rfl rfl rfl ?_
    exact went_loop m2 g1.1.2 (by rw [show (outS a.rs a.ss (tr a.rs (kds a.rs) a.ls 0 a.on)).length = (a.mL a.on).length from mS_len a a.on]; exact mL_le hx a.on) (kk.go (f1.wk (by omega) (by omega)) x1) .null _ 0 (Nat.zero_add _) rfl
  · refine pw_pI ?_
    rw [ix_none hn] at kk
    skip
    refine pw_if_ne_f 9 rfl rfl (by decide) ?_
    refine pw_iconst (v := (-1)) 10 rfl rfl (by decide) ?_
    exact pw_iret rfl rfl (kk.at hx)
theorem c_image (hb : isApp sh k) (hw : wfW a) (hx : appIs M N k a) (kk : pst k sh M N Q (.int (vImage a).1) (vImage a).2) : PW mX10_image 0 [.ref k] [] sh M N Q := by
  obtain ⟨b0, b1, b2, b3, b4, b5, b6, b7, b8, b9, b10⟩ := hb
  have s0 := b2.1
  have s00 := b3.1
  refine pw_aload_n 1 rfl rfl rfl ?_
  refine pw_getR 4 rfl rfl (by first | assumption | exact ⟨by decide, rfl⟩) rfl ?_
  refine pw_aload_n 5 rfl rfl rfl ?_
  refine pw_getR 8 rfl rfl (by first | assumption | exact ⟨by decide, rfl⟩) rfl ?_
  refine pw_cV1 11 rfl rfl (by first | assumption | exact ⟨by decide, rfl⟩) rfl (Nat.le_of_ble_eq_true rfl) rfl rfl (Nat.le_of_ble_eq_true rfl) (c_State_takeFrom b3 b2 hx.2.1 (by omega) (fun M1 f1 r1 => ?_))
  refine pw_pV ?_
  refine pw_aload_n 12 rfl rfl rfl ?_
  refine pw_iconst (v := nI 1) 13 rfl rfl (by decide) ?_
  refine pw_putZ 16 rfl rfl (by first | assumption | exact ⟨by decide, rfl⟩) rfl (by decide) (by first | exact Or.inl rfl | exact Or.inr rfl | assumption) ?_
  refine pw_iconst (v := nI 1) 17 rfl rfl (by decide) ?_
  obtain ⟨h1, h2, h3, h4, h5, h6, h7⟩ := hx
  have f2 : fr k (k + 1) M1 (pmSt M1 k 3 (nI 1)) := fr_st M1 3 _ (Nat.le_refl k) (by omega)
  refine pw_iret rfl rfl (kk.go ((f1.wk (by omega) (by omega)).tr (f2.wk (by omega) (by omega))) ⟨(h1.mv f1 (by omega)).mv f2 (by omega), (h2.mv f1 (by omega)).mv f2 (by omega), fun s hs => ?_, ?_, ?_, ?_, fun i hi => ((h7 i hi).mv f1 (by omega) rfl).mv f2 (by omega) rfl⟩)
  · cases hs; exact r1.mv f2 (by omega)
  · exact st_same _ _ _ _
  · rw [st_row _ _ _ _ (by decide), f1 k (by omega)]; exact h5
  · rw [st_row _ _ _ _ (by decide), f1 k (by omega)]; exact h6
theorem c_restore (hb : isApp sh k) (hw : wfW a) (hx : appIs M N k a) (kk : pst k sh M N Q (.int (vRestore a).1) (vRestore a).2) : PW mX10_restore 0 [.ref k] [] sh M N Q := by
  obtain ⟨b0, b1, b2, b3, b4, b5, b6, b7, b8, b9, b10⟩ := hb
  have s0 := b2.1
  have s00 := b3.1
  unfold vRestore at kk
  refine pw_aload_n 1 rfl rfl rfl ?_
  refine pw_getI 4 rfl rfl (by first | assumption | exact ⟨by decide, rfl⟩) rfl ?_
  rw [hx.2.2.2.1]
  cases hq : a.img with
  | none =>
    rw [hq] at kk
    skip
    refine pw_if_ne_f 7 rfl rfl (by decide) ?_
    refine pw_bipush (v := (-4)) 9 rfl rfl (by decide) ?_
    exact pw_iret rfl rfl (kk.at hx)
  | some s =>
    rw [hq] at kk
    skip
    refine pw_if_ne_t 10 rfl rfl (show ¬ nI 1 = 0 by decide) ?_
    refine pw_aload_n 11 rfl rfl rfl ?_
    refine pw_getR 14 rfl rfl (by first | assumption | exact ⟨by decide, rfl⟩) rfl ?_
    refine pw_aload_n 15 rfl rfl rfl ?_
    refine pw_getR 18 rfl rfl (by first | assumption | exact ⟨by decide, rfl⟩) rfl ?_
    refine pw_cV1 21 rfl rfl (by first | assumption | exact ⟨by decide, rfl⟩) rfl (Nat.le_of_ble_eq_true rfl) rfl rfl (Nat.le_of_ble_eq_true rfl) (c_State_takeFrom b2 b3 (hx.2.2.1 s hq) (by omega) (fun M1 f1 r1 => ?_))
    refine pw_pV ?_
    have x1 := hx.now4 f1 r1
    refine pw_aload_n 22 rfl rfl rfl ?_
    refine pw_bipush (v := (-4)) 24 rfl rfl (by decide) ?_
    refine pw_putI 27 rfl rfl (by first | assumption | exact ⟨by decide, rfl⟩) rfl (by decide) ?_
    refine pw_iconst (v := nI 1) 28 rfl rfl (by decide) ?_
    refine pw_iret rfl rfl (kk.go ?_ (x1.sort none))
    exact (f1.wk (by omega) (by omega)).tr (fr_st M1 10 _ (Nat.le_refl k) (by omega))
end APT
