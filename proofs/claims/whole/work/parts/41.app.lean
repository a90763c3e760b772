/-! THE CLASS'S SHEETS -/
theorem appIs.sh {M M' : pmM} {N N' : pmN} {k i : Nat} {a : aW} {s : aH} (hi : i < 4) (h : appIs M N k a) (hf : fr (k + 315 + 2 * i) (k + 315 + 2 * i + 2) M M') (hN : ∀ x, x ≠ k + 315 + 2 * i + 1 → N' x = N x) (hs : shIs M' N' (k + 315 + 2 * i) s) : appIs M' N' k (wSh a i s) := by
  obtain ⟨h1, h2, h3, h4, h5, h6, h7⟩ := h
  refine ⟨h1.mv hf (by omega), h2.mv hf (by omega), fun s hs => (h3 s hs).mv hf (by omega), ?_, ?_, ?_, fun j hj => ?_⟩
  · rw [hf k (by omega)]; exact h4
  · rw [hf k (by omega)]; exact h5
  · rw [hf k (by omega)]; exact h6
  · by_cases q : j = i
    · subst q
      show shIs M' N' (k + 315 + 2 * j) (if j = j then s else a.shs j)
      rw [if_pos rfl]; exact hs
    · show shIs M' N' (k + 315 + 2 * j) (if j = i then s else a.shs j)
      rw [if_neg q]; exact (h7 j hj).mv hf (by omega) (hN _ (by omega))
theorem sh_at (k i : Nat) (hi : i < 4) : ([some (k + 315), some (k + 317), some (k + 319), some (k + 321)] : List (Option Nat))[i]? = some (some (k + 315 + 2 * i)) := by
  rcases (show i = 0 ∨ i = 1 ∨ i = 2 ∨ i = 3 by omega) with rfl | rfl | rfl | rfl <;> rfl
def vSheet (a : aW) (s la n : Int32) : Int32 × aW := match ix s 4, ix la 4 with
  | some i, some l => if nI 60 < n then (-1, a) else if n < 0 then (-14, a) else (n, wSh a i (true, l, n.toNatClampNeg, fun _ => 0))
  | _, _ => (-1, a)
def vDrop (a : aW) (s : Int32) : Int32 × aW := match ix s 4 with
  | none => (-1, a)
  | some i => if (a.shs i).1 = false then (-11, a) else (nI (a.shs i).2.2.1, wSh a i (false, (a.shs i).2))
def vItem (a : aW) (s la i : Int32) (v : Int64) : Int32 × aW := match ix s 4, ix la 4 with
  | some t, some _ => if rfs (a.shs t) la i (nI 1) ≠ 0 then (rfs (a.shs t) la i (nI 1), a) else (nI 1, wSh a t (wrt (a.shs t) i.toNatClampNeg (cutL (a.shs t).2.1 v)))
  | _, _ => (-1, a)
def cpd (u w : aH) (i j n : Nat) : aH := (w.1, w.2.1, w.2.2.1, fun x => if j ≤ x ∧ x < j + n then u.2.2.2 (i + (x - j)) else w.2.2.2 x)
def vCopy (a : aW) (s i t j n : Int32) : Int32 × aW := match ix s 4, ix t 4 with
  | some u, some w => if ¬ ((a.shs u).1 = true ∧ (a.shs w).1 = true) then (-11, a) else if (a.shs u).2.1 ≠ (a.shs w).2.1 then (-12, a) else if ¬ (hol (a.shs u).2.2.1 i n = true ∧ hol (a.shs w).2.2.1 j n = true) then (-13, a) else (n, wSh a w (cpd (a.shs u) (a.shs w) i.toNatClampNeg j.toNatClampNeg n.toNatClampNeg))
  | _, _ => (-1, a)
theorem rfs_0 {h : aH} {la i n : Int32} (e : rfs h la i n = 0) : ∃ x y, x + y ≤ h.2.2.1 ∧ i = nI x ∧ n = nI y := by
  unfold rfs at e
  by_cases q1 : h.1 = false
  · rw [if_pos q1] at e; exact absurd e (by decide)
  rw [if_neg q1] at e
  by_cases q2 : nI h.2.1 ≠ la
  · rw [if_pos q2] at e; exact absurd e (by decide)
  rw [if_neg q2] at e
  by_cases q3 : hol h.2.2.1 i n = true
  · exact hol_ex q3
  · rw [if_neg q3] at e; exact absurd e (by decide)
section APV
variable {sh : pmS} {M : pmM} {N : pmN} {Q : pmPost} {k : Nat} {a : aW}
theorem c_sheet {s la n : Int32} (hb : isApp sh k) (hw : wfW a) (hx : appIs M N k a) (kk : pst k sh M N Q (.int (vSheet a s la n).1) (vSheet a s la n).2) : PW mX10_sheet 0 [.ref k, .int s, .int la, .int n] [] sh M N Q := by
  obtain ⟨b0, b1, b2, b3, b4, b5, b6, b7, b8, b9, b10⟩ := hb
  unfold vSheet at kk
  have bad : pst k sh M N Q (.int (-1)) a → PW mX10_sheet 14 [.ref k, .int s, .int la, .int n] [] sh M N Q := by
    intro kk
    refine pw_iconst (v := (-1)) 15 rfl rfl (by decide) ?_
    exact pw_iret rfl rfl (kk.at hx)
  refine pw_iload_n 1 rfl rfl rfl ?_
  refine pw_iload_n 2 rfl rfl rfl ?_
  refine pw_cS2 5 rfl rfl rfl (Nat.le_of_ble_eq_true rfl) rfl rfl (Nat.le_of_ble_eq_true rfl) (c_isLaneOfSheet (fun i l hi hl e1 e2 => ?_) (fun hn => ?_))
  · refine pw_pI ?_
    subst e1
    subst e2
    rw [ix_some hi (by decide), ix_some hl (by decide)] at kk
    simp only at kk
    have hg := sh_at k i hi
    have so := (b10 i hi).1
    skip
    refine pw_if_eq_f 8 rfl rfl (by decide) ?_
    refine pw_iload_n 9 rfl rfl rfl ?_
    refine pw_bipush (v := nI 60) 11 rfl rfl (by decide) ?_
    refine pw_icmp_le 16 14 rfl rfl rfl (fun q => ?_) (fun q => ?_)
    · rw [if_neg (Int32.not_lt.mpr q)] at kk
      refine pw_iload_n 17 rfl rfl rfl ?_
      refine pw_if_ge 23 20 rfl rfl rfl (fun q2 => ?_) (fun q2 => ?_)
      · rw [if_neg (Int32.not_lt.mpr q2)] at kk
        obtain ⟨j, hj, rfl⟩ := nI_of (Int32.not_lt.mpr q2)
        have hj60 : j ≤ 60 := Nat.le_of_not_lt (fun h => nI_ge h hj q)
        rw [nI_clamp hj] at kk
        refine pw_aload_n 24 rfl rfl rfl ?_
        refine pw_getR 27 rfl rfl (by first | assumption | exact ⟨by decide, rfl⟩) rfl ?_
        refine pw_iload_n 28 rfl rfl rfl ?_
        refine pw_aald _ 29 rfl rfl (by first | assumption | exact ⟨by decide, rfl, by decide⟩) (by decide) (by with_reducible rfl) (by first | assumption | omega) (by first | assumption | rfl) ?_
        refine pw_iload_n 30 rfl rfl rfl ?_
        refine pw_iload_n 31 rfl rfl rfl ?_
        refine pw_cV2 34 rfl rfl (by first | assumption | exact ⟨by decide, rfl⟩) rfl (Nat.le_of_ble_eq_true rfl) rfl rfl (Nat.le_of_ble_eq_true rfl) (c_Sheet_begin (b10 i hi) (hx.2.2.2.2.2.2 i hi) hl hj60 (fun M1 N1 f1 n1 r1 => ?_))
        refine pw_pV ?_
        refine pw_iload_n 35 rfl rfl rfl ?_
        exact pw_iret rfl rfl (kk M1 N1 (f1.wk (by omega) (by omega)) (fun x hx => n1 x (by omega)) (hx.sh hi f1 n1 r1))
      · rw [if_pos (Int32.not_le.mp q2)] at kk
        refine pw_bipush (v := (-14)) 22 rfl rfl (by decide) ?_
        exact pw_iret rfl rfl (kk.at hx)
    · rw [if_pos (Int32.not_le.mp q)] at kk
      exact bad kk
  · refine pw_pI ?_
    skip
    refine pw_if_eq_t 14 rfl rfl (by decide) ?_
    refine bad ?_
    rcases hn with hn | hn
    · rw [ix_none hn] at kk; exact kk
    · rw [ix_none hn] at kk
      cases h : ix s 4 <;> rw [h] at kk <;> exact kk
theorem c_drop {s : Int32} (hb : isApp sh k) (hw : wfW a) (hx : appIs M N k a) (kk : pst k sh M N Q (.int (vDrop a s).1) (vDrop a s).2) : PW mX10_drop 0 [.ref k, .int s, .null] [] sh M N Q := by
  obtain ⟨b0, b1, b2, b3, b4, b5, b6, b7, b8, b9, b10⟩ := hb
  unfold vDrop at kk
  refine pw_iload_n 1 rfl rfl rfl ?_
  refine pw_iconst (v := nI 4) 2 rfl rfl (by decide) ?_
  refine pw_cS2 5 rfl rfl rfl (Nat.le_of_ble_eq_true rfl) rfl rfl (Nat.le_of_ble_eq_true rfl) (c_isWithin (by decide) (fun i hi e => ?_) (fun hn => ?_))
  · refine pw_pI ?_
    subst e
    rw [ix_some hi (by decide)] at kk
    simp only at kk
    have hg := sh_at k i hi
    have so := (b10 i hi).1
    obtain ⟨x1, x2, x3, x4, x5, x6⟩ := hx.2.2.2.2.2.2 i hi
    skip
    refine pw_if_ne_t 10 rfl rfl (by decide) ?_
    refine pw_aload_n 11 rfl rfl rfl ?_
    refine pw_getR 14 rfl rfl (by first | assumption | exact ⟨by decide, rfl⟩) rfl ?_
    refine pw_iload_n 15 rfl rfl rfl ?_
    refine pw_aald _ 16 rfl rfl (by first | assumption | exact ⟨by decide, rfl, by decide⟩) (by decide) (by with_reducible rfl) (by first | assumption | omega) (by first | assumption | rfl) ?_
    refine pw_astore2 17 rfl rfl rfl ?_
    refine pw_aload_n 18 rfl rfl rfl ?_
    refine pw_getI 21 rfl rfl (by first | assumption | exact ⟨by decide, rfl⟩) rfl ?_
    rw [x1]
    by_cases q : (a.shs i).1 = false
    · rw [if_pos q] at kk
      rw [q]
      skip
      refine pw_if_ne_f 24 rfl rfl (by decide) ?_
      refine pw_bipush (v := (-11)) 26 rfl rfl (by decide) ?_
      exact pw_iret rfl rfl (kk.at hx)
    · rw [if_neg q] at kk
      have q : (a.shs i).1 = true := by simpa using q
      rw [q]
      skip
      refine pw_if_ne_t 27 rfl rfl (by decide) ?_
      refine pw_aload_n 28 rfl rfl rfl ?_
      refine pw_iconst (v := nI 0) 29 rfl rfl (by decide) ?_
      refine pw_putZ 32 rfl rfl (by first | assumption | exact ⟨by decide, rfl⟩) rfl (by decide) (by first | exact Or.inl rfl | exact Or.inr rfl | assumption) ?_
      refine pw_aload_n 33 rfl rfl rfl ?_
      refine pw_getI 36 rfl rfl (by first | assumption | exact ⟨by decide, rfl⟩) rfl ?_
      have f1 : fr (k + 315 + 2 * i) (k + 315 + 2 * i + 2) M (pmSt M (k + 315 + 2 * i) 1 (nI 0)) := fr_st M 1 _ (by omega) (by omega)
      rw [st_row _ _ _ _ (by decide), x3]
      exact pw_iret rfl rfl (kk.go (f1.wk (by omega) (by omega)) (hx.sh hi f1 (fun _ _ => rfl) ⟨st_same _ _ _ _, by rw [st_row _ _ _ _ (by decide)]; exact x2, by rw [st_row _ _ _ _ (by decide)]; exact x3, x4, x5, x6⟩))
  · refine pw_pI ?_
    rw [ix_none hn] at kk
    skip
    refine pw_if_ne_f 8 rfl rfl (by decide) ?_
    refine pw_iconst (v := (-1)) 9 rfl rfl (by decide) ?_
    exact pw_iret rfl rfl (kk.at hx)
theorem c_item {s la i : Int32} {v : Int64} (hb : isApp sh k) (hw : wfW a) (hx : appIs M N k a) (kk : pst k sh M N Q (.int (vItem a s la i v).1) (vItem a s la i v).2) : PW mX10_item 0 [.ref k, .int s, .int la, .int i, .long v, .null, .null] [] sh M N Q := by
  obtain ⟨b0, b1, b2, b3, b4, b5, b6, b7, b8, b9, b10⟩ := hb
  unfold vItem at kk
  refine pw_iload_n 1 rfl rfl rfl ?_
  refine pw_iload_n 2 rfl rfl rfl ?_
  refine pw_cS2 5 rfl rfl rfl (Nat.le_of_ble_eq_true rfl) rfl rfl (Nat.le_of_ble_eq_true rfl) (c_isLaneOfSheet (fun t l hi hl e1 e2 => ?_) (fun hn => ?_))
  · refine pw_pI ?_
    subst e1
    rw [ix_some hi (by decide), show ix la 4 = some l by rw [e2]; exact ix_some hl (by decide)] at kk
    simp only at kk
    have hg := sh_at k t hi
    have so := (b10 t hi).1
    have hs := hx.2.2.2.2.2.2 t hi
    skip
    refine pw_if_ne_t 10 rfl rfl (by decide) ?_
    refine pw_aload_n 11 rfl rfl rfl ?_
    refine pw_getR 14 rfl rfl (by first | assumption | exact ⟨by decide, rfl⟩) rfl ?_
    refine pw_iload_n 15 rfl rfl rfl ?_
    refine pw_aald _ 16 rfl rfl (by first | assumption | exact ⟨by decide, rfl, by decide⟩) (by decide) (by with_reducible rfl) (by first | assumption | omega) (by first | assumption | rfl) ?_
    refine pw_iload_n 17 rfl rfl rfl ?_
    refine pw_iload_n 18 rfl rfl rfl ?_
    refine pw_iconst (v := nI 1) 19 rfl rfl (by decide) ?_
    refine pw_cV3 22 rfl rfl (by first | assumption | exact ⟨by decide, rfl⟩) rfl (Nat.le_of_ble_eq_true rfl) rfl rfl (Nat.le_of_ble_eq_true rfl) (c_Sheet_refusal (b10 t hi) hs ?_)
    refine pw_pI ?_
    refine pw_istore6 24 rfl rfl rfl ?_
    refine pw_iload 26 rfl rfl rfl ?_
    refine pw_if_eq 32 29 rfl rfl rfl (fun q => ?_) (fun q => ?_)
    · rw [if_neg (fun e => e q)] at kk
      obtain ⟨x, y, hxy, rfl, hy⟩ := rfs_0 q
      have x5 := hs.2.2.2.2.1
      have hy1 : y < 100 := by omega
      have hy2 : 1 = y := (nI_eq (by decide) (by omega)).mp hy
      rw [nI_clamp (by omega)] at kk
      refine pw_aload_n 33 rfl rfl rfl ?_
      refine pw_getR 36 rfl rfl (by first | assumption | exact ⟨by decide, rfl⟩) rfl ?_
      refine pw_iload_n 37 rfl rfl rfl ?_
      refine pw_aald _ 38 rfl rfl (by first | assumption | exact ⟨by decide, rfl, by decide⟩) (by decide) (by with_reducible rfl) (by first | assumption | omega) (by first | assumption | rfl) ?_
      refine pw_iload_n 39 rfl rfl rfl ?_
      refine pw_lload 41 rfl rfl rfl ?_
      refine pw_cV2 44 rfl rfl (by first | assumption | exact ⟨by decide, rfl⟩) rfl (Nat.le_of_ble_eq_true rfl) rfl rfl (Nat.le_of_ble_eq_true rfl) (c_Sheet_write (b10 t hi) hs (by omega) (fun N1 n1 r1 => ?_))
      refine pw_pV ?_
      refine pw_iconst (v := nI 1) 45 rfl rfl (by decide) ?_
      exact pw_iret rfl rfl (kk M N1 fr.rf (fun x hx => n1 x (by omega)) (hx.sh hi fr.rf n1 r1))
    · rw [if_pos q] at kk
      refine pw_iload 31 rfl rfl rfl ?_
      exact pw_iret rfl rfl (kk.at hx)
  · refine pw_pI ?_
    skip
    refine pw_if_ne_f 8 rfl rfl (by decide) ?_
    refine pw_iconst (v := (-1)) 9 rfl rfl (by decide) ?_
    have kk2 : pst k sh M N Q (.int (-1)) a := by
      rcases hn with hn | hn
      · rw [ix_none hn] at kk; exact kk
      · rw [ix_none hn] at kk
        cases h : ix s 4 <;> rw [h] at kk <;> exact kk
    exact pw_iret rfl rfl (kk2.at hx)
theorem c_copy {s i t j n : Int32} (hb : isApp sh k) (hw : wfW a) (hx : appIs M N k a) (kk : pst k sh M N Q (.int (vCopy a s i t j n).1) (vCopy a s i t j n).2) : PW mX10_copy 0 [.ref k, .int s, .int i, .int t, .int j, .int n, .null, .null] [] sh M N Q := by
  obtain ⟨b0, b1, b2, b3, b4, b5, b6, b7, b8, b9, b10⟩ := hb
  unfold vCopy at kk
  have bad : pst k sh M N Q (.int (-1)) a → PW mX10_copy 16 [.ref k, .int s, .int i, .int t, .int j, .int n, .null, .null] [] sh M N Q := by
    intro kk
    refine pw_iconst (v := (-1)) 17 rfl rfl (by decide) ?_
    exact pw_iret rfl rfl (kk.at hx)
  refine pw_iload_n 1 rfl rfl rfl ?_
  refine pw_iconst (v := nI 4) 2 rfl rfl (by decide) ?_
  refine pw_cS2 5 rfl rfl rfl (Nat.le_of_ble_eq_true rfl) rfl rfl (Nat.le_of_ble_eq_true rfl) (c_isWithin (by decide) (fun u hu e => ?_) (fun hn => ?_))
  · refine pw_pI ?_
    subst e
    rw [ix_some hu (by decide)] at kk
    skip
    refine pw_if_eq_f 8 rfl rfl (by decide) ?_
    refine pw_iload_n 9 rfl rfl rfl ?_
    refine pw_iconst (v := nI 4) 10 rfl rfl (by decide) ?_
    refine pw_cS2 13 rfl rfl rfl (Nat.le_of_ble_eq_true rfl) rfl rfl (Nat.le_of_ble_eq_true rfl) (c_isWithin (by decide) (fun w hv e => ?_) (fun hn => ?_))
    · refine pw_pI ?_
      subst e
      rw [ix_some hv (by decide)] at kk
      simp only at kk
      have hg := sh_at k u hu
      have hg2 := sh_at k w hv
      have so := (b10 u hu).1
      have so2 := (b10 w hv).1
      have hs := hx.2.2.2.2.2.2 u hu
      have hs2 := hx.2.2.2.2.2.2 w hv
      have bad2 : ¬ ((a.shs u).1 = true ∧ (a.shs w).1 = true) → PW mX10_copy 50 [.ref k, .int (nI u), .int i, .int (nI w), .int j, .int n, .ref (k + 315 + 2 * u), .ref (k + 315 + 2 * w)] [] sh M N Q := by
        intro q
        rw [if_pos q] at kk
        refine pw_bipush (v := (-11)) 52 rfl rfl (by decide) ?_
        exact pw_iret rfl rfl (kk.at hx)
      skip
      refine pw_if_ne_t 18 rfl rfl (by decide) ?_
      refine pw_aload_n 19 rfl rfl rfl ?_
      refine pw_getR 22 rfl rfl (by first | assumption | exact ⟨by decide, rfl⟩) rfl ?_
      refine pw_iload_n 23 rfl rfl rfl ?_
      refine pw_aald _ 24 rfl rfl (by first | assumption | exact ⟨by decide, rfl, by decide⟩) (by decide) (by with_reducible rfl) (by first | assumption | omega) (by first | assumption | rfl) ?_
      refine pw_astore6 26 rfl rfl rfl ?_
      refine pw_aload_n 27 rfl rfl rfl ?_
      refine pw_getR 30 rfl rfl (by first | assumption | exact ⟨by decide, rfl⟩) rfl ?_
      refine pw_iload_n 31 rfl rfl rfl ?_
      refine pw_aald _ 32 rfl rfl (by first | assumption | exact ⟨by decide, rfl, by decide⟩) (by decide) (by with_reducible rfl) (by first | assumption | omega) (by first | assumption | rfl) ?_
      refine pw_astore7 34 rfl rfl rfl ?_
      refine pw_aload 36 rfl rfl rfl ?_
      refine pw_getI 39 rfl rfl (by first | assumption | exact ⟨by decide, rfl⟩) rfl ?_
      rw [hs.1]
      by_cases q1 : (a.shs u).1 = true
      · rw [q1]
        skip
        refine pw_if_eq_f 42 rfl rfl (by decide) ?_
        refine pw_aload 44 rfl rfl rfl ?_
        refine pw_getI 47 rfl rfl (by first | assumption | exact ⟨by decide, rfl⟩) rfl ?_
        rw [hs2.1]
        by_cases q2 : (a.shs w).1 = true
        · rw [q2]
          rw [if_neg (fun e => e ⟨q1, q2⟩)] at kk
          skip
          refine pw_if_ne_t 53 rfl rfl (by decide) ?_
          refine pw_aload 55 rfl rfl rfl ?_
          refine pw_getI 58 rfl rfl (by first | assumption | exact ⟨by decide, rfl⟩) rfl ?_
          refine pw_aload 60 rfl rfl rfl ?_
          refine pw_getI 63 rfl rfl (by first | assumption | exact ⟨by decide, rfl⟩) rfl ?_
          rw [hs.2.1, hs2.2.1]
          have l1 := hs.2.2.2.1
          have l2 := hs2.2.2.2.1
          by_cases q3 : (a.shs u).2.1 = (a.shs w).2.1
          · rw [if_neg (fun e => e q3)] at kk
            have bad3 : ¬ (hol (a.shs u).2.2.1 i n = true ∧ hol (a.shs w).2.2.1 j n = true) → PW mX10_copy 92 [.ref k, .int (nI u), .int i, .int (nI w), .int j, .int n, .ref (k + 315 + 2 * u), .ref (k + 315 + 2 * w)] [] sh M N Q := by
              intro q
              rw [if_pos q] at kk
              refine pw_bipush (v := (-13)) 94 rfl rfl (by decide) ?_
              exact pw_iret rfl rfl (kk.at hx)
            skip
            refine pw_icmp_eq_t 69 rfl rfl (by rw [q3]) ?_
            refine pw_aload 71 rfl rfl rfl ?_
            refine pw_iload_n 72 rfl rfl rfl ?_
            refine pw_iload 74 rfl rfl rfl ?_
            refine pw_cV2 77 rfl rfl (by first | assumption | exact ⟨by decide, rfl⟩) rfl (Nat.le_of_ble_eq_true rfl) rfl rfl (Nat.le_of_ble_eq_true rfl) (c_Sheet_holds (b10 u hu) hs (fun x y hxy e1 e2 => ?_) (fun hn => ?_))
            · refine pw_pI ?_
              subst e1
              subst e2
              skip
              refine pw_if_eq_f 80 rfl rfl (by decide) ?_
              refine pw_aload 82 rfl rfl rfl ?_
              refine pw_iload 84 rfl rfl rfl ?_
              refine pw_iload 86 rfl rfl rfl ?_
              refine pw_cV2 89 rfl rfl (by first | assumption | exact ⟨by decide, rfl⟩) rfl (Nat.le_of_ble_eq_true rfl) rfl rfl (Nat.le_of_ble_eq_true rfl) (c_Sheet_holds (b10 w hv) hs2 (fun x2 y2 hxy2 e1 e2 => ?_) (fun hn => ?_))
              · refine pw_pI ?_
                subst e1
                have z1 := hs.2.2.2.2.1
                have z2 := hs2.2.2.2.2.1
                have e2 := (nI_eq (by omega) (by omega)).mp e2
                subst e2
                rw [if_neg (fun e => e ⟨hol_yes (by omega) hxy, hol_yes (by omega) hxy2⟩), nI_clamp (by omega), nI_clamp (by omega), nI_clamp (by omega)] at kk
                skip
                refine pw_if_ne_t 95 rfl rfl (by decide) ?_
                refine pw_aload 97 rfl rfl rfl ?_
                refine pw_getR 100 rfl rfl (by first | assumption | exact ⟨by decide, rfl⟩) rfl ?_
                refine pw_iload_n 101 rfl rfl rfl ?_
                refine pw_aload 103 rfl rfl rfl ?_
                refine pw_getR 106 rfl rfl (by first | assumption | exact ⟨by decide, rfl⟩) rfl ?_
                refine pw_iload 108 rfl rfl rfl ?_
                refine pw_iload 110 rfl rfl rfl ?_
                refine pw_copyL x x2 y 113 rfl rfl (b10 u hu).2 (b10 w hv).2 rfl rfl rfl (by omega) (by omega) (Nat.le_of_ble_eq_true rfl) ?_
                refine pw_iload 115 rfl rfl rfl ?_
                refine pw_iret rfl rfl (kk M _ fr.rf (fun z hz => va_up_ne _ _ (by omega)) (hx.sh hv fr.rf (fun z hz => va_up_ne _ _ hz) ⟨hs2.1, hs2.2.1, hs2.2.2.1, l2, z2, fun z hz => ?_⟩))
                rw [va_up_self]
                unfold cpd
                simp only
                by_cases q : x2 ≤ z ∧ z < x2 + y
                · rw [if_pos q, pk_cpy_in (by omega) (by omega)]
                  exact hs.2.2.2.2.2 _ (by omega)
                · rw [if_neg q, pk_cpy_out (by omega)]
                  exact hs2.2.2.2.2.2 z hz
              · refine pw_pI ?_
                skip
                refine pw_if_ne_f 92 rfl rfl (by decide) ?_
                exact bad3 (fun e => by rw [hn] at e; cases e.2)
            · refine pw_pI ?_
              skip
              refine pw_if_eq_t 92 rfl rfl (by decide) ?_
              exact bad3 (fun e => by rw [hn] at e; cases e.1)
          · rw [if_pos q3] at kk
            skip
            refine pw_icmp_eq_f 66 rfl rfl (fun e => q3 ((nI_eq (by omega) (by omega)).mp e)) ?_
            refine pw_bipush (v := (-12)) 68 rfl rfl (by decide) ?_
            exact pw_iret rfl rfl (kk.at hx)
        · have q2' : (a.shs w).1 = false := by simpa using q2
          rw [q2']
          skip
          refine pw_if_ne_f 50 rfl rfl (by decide) ?_
          exact bad2 (fun e => q2 e.2)
      · have q1' : (a.shs u).1 = false := by simpa using q1
        rw [q1']
        skip
        refine pw_if_eq_t 50 rfl rfl (by decide) ?_
        exact bad2 (fun e => q1 e.1)
    · refine pw_pI ?_
      rw [ix_none hn] at kk
      skip
      refine pw_if_ne_f 16 rfl rfl (by decide) ?_
      exact bad kk
  · refine pw_pI ?_
    rw [ix_none hn] at kk
    skip
    refine pw_if_eq_t 16 rfl rfl (by decide) ?_
    exact bad kk
end APV
