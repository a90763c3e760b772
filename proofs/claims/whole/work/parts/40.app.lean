/-! THE CLASS'S METHODS, GONE ON -/
def rstF (rs : List aR) (on : Nat) : Nat → Nat → List Int32 → Int32
  | 0, _, _ => -4
  | f + 1, n, ls => if 60 < (outL rs (kds rs) ls (tr rs (kds rs) ls 0 on)).length then -4 else if outL rs (kds rs) ls (tr rs (kds rs) ls 0 on) = ls then nI n else rstF rs on f (n + 1) (outL rs (kds rs) ls (tr rs (kds rs) ls 0 on))
def vRest (a : aW) : Int32 := rstF a.rs a.on 21 0 a.ls
def vSure (a : aW) (n : Int32) : Int32 := match ix n (a.ls.length + 1) with
  | none => -1
  | some m => nI (surF a.rs (kds a.rs) a.ls m m 0 a.on)
def lnF (f : Nat → Nat) (on : Nat) : Nat → Option (Nat × Nat)
  | 0 => none
  | r + 1 => match lnF f on r with
    | none => if on.testBit r then some (r, f r) else none
    | some (b, l) => if on.testBit r = true ∧ f r < l then some (r, f r) else some (b, l)
def vLean (a : aW) (w : Int32) : Int32 := match ix w 2 with
  | none => -1
  | some j => if j = 0 then rI ((lnF (fun r => (a.mL (clr a.on r)).length) a.on a.rs.length).map (·.1)) else rI ((lnF (fun r => (a.mL (clr a.on r)).length) a.on a.rs.length).map (·.2))
section APU
variable {sh : pmS} {M : pmM} {N : pmN} {Q : pmPost} {k : Nat} {a : aW}
theorem rest_loop (hb : isApp sh k) (hw : wfW a) (v : Int32) (kk : ∀ M', fr (k + 232) (k + 314) M M' → appIs M' N k a → Q (some (.int v)) sh M' N) :
    ∀ (d i : Nat) (ls ss : List Int32) (M1 : pmM), i + d = 21 → ls.length ≤ 60 → ss.length = ls.length → fr (k + 232) (k + 314) M M1 → appIs M1 N k a → lineIs M1 (k + 307) ls ss → rstF a.rs a.on d i ls = v → PW mX10_rest 19 [.ref k, .int (nI i)] [] sh M1 N Q := by
  obtain ⟨b0, b1, b2, b3, b4, b5, b6, b7, b8, b9, b10⟩ := hb
  have s0 := b2.1
  have s1 := b2.2.1.1
  have s3 := b2.2.2.1
  have wk0 := b6.1
  have w6 := b6.2.2.2.2.2.2
  have w6' := w6.1
  have b7' := b7.1
  have m1' := w6.2.1.1
  intro d
  induction d with
  | zero =>
    intro i ls ss M1 hi h60 hss hf hx hl e
    rw [rstF] at e
    refine pw_iload_n 20 rfl rfl rfl ?_
    refine pw_bipush (v := nI 20) 22 rfl rfl (by decide) ?_
    refine pw_icmp_gt_t 120 rfl rfl (nI_lt (by omega) (by omega)) ?_
    refine pw_bipush (v := (-4)) 122 rfl rfl (by decide) ?_
    exact pw_iret rfl rfl ((by rw [e]; exact kk M1 hf hx))
  | succ d ih =>
    intro i ls ss M1 hi h60 hss hf hx hl e
    have hbk : bookIs M1 (k + 11) a.rs := hx.2.1.2.1
    have hon := wf_on hw hx
    rw [rstF] at e
    refine pw_iload_n 20 rfl rfl rfl ?_
    refine pw_bipush (v := nI 20) 22 rfl rfl (by decide) ?_
    refine pw_icmp_gt_f 25 rfl rfl (nI_nlt (by omega) (by decide)) ?_
    refine pw_aload_n 26 rfl rfl rfl ?_
    refine pw_getR 29 rfl rfl (by first | assumption | exact ⟨by decide, rfl⟩) rfl ?_
    refine pw_aload_n 30 rfl rfl rfl ?_
    refine pw_getR 33 rfl rfl (by first | assumption | exact ⟨by decide, rfl⟩) rfl ?_
    refine pw_cV1 36 rfl rfl (by first | assumption | exact ⟨by decide, rfl⟩) rfl (Nat.le_of_ble_eq_true rfl) rfl rfl (Nat.le_of_ble_eq_true rfl) (c_prepare b6 s3 hbk (by omega) b7 hl h60 (by omega) h60 (fun M2 f2 r2 => ?_))
    refine pw_pV ?_
    have hx2 := hx.scr f2 (by omega) (by omega)
    have hbk2 : bookIs M2 (k + 11) a.rs := hx2.2.1.2.1
    have hl2 := hl.mv f2 (by omega)
    refine pw_aload_n 37 rfl rfl rfl ?_
    refine pw_getR 40 rfl rfl (by first | assumption | exact ⟨by decide, rfl⟩) rfl ?_
    refine pw_aload_n 41 rfl rfl rfl ?_
    refine pw_getR 44 rfl rfl (by first | assumption | exact ⟨by decide, rfl⟩) rfl ?_
    refine pw_aload_n 45 rfl rfl rfl ?_
    refine pw_getR 48 rfl rfl (by first | assumption | exact ⟨by decide, rfl⟩) rfl ?_
    refine pw_getR 51 rfl rfl (by first | assumption | exact ⟨by decide, rfl⟩) rfl ?_
    refine pw_getI 54 rfl rfl (by first | assumption | exact ⟨by decide, rfl⟩) rfl ?_
    rw [hx2.2.1.1.2.1]
    refine pw_cV2 57 rfl rfl (by first | assumption | exact ⟨by decide, rfl⟩) rfl (Nat.le_of_ble_eq_true rfl) rfl rfl (Nat.le_of_ble_eq_true rfl) (c_go b6 s3 hbk2 (by omega) (kds_ok hbk2) r2 b7 hl2 hss h60 (by omega) h60 hon (fun M3 f3 r3 => ?_))
    refine pw_pV ?_
    have hx3 := hx2.scr f3 (by omega) (by omega)
    have hl3 := hl2.mv f3 (by omega)
    have f13 := hf.tr ((f2.wk (by omega) (by omega)).tr (f3.wk (by omega) (by omega)))
    have hole : (outL a.rs (kds a.rs) ls (tr a.rs (kds a.rs) ls 0 a.on)).length ≤ 360 := by
      have := outL_le (rs := a.rs) (kds a.rs) ls (fun r => by
        by_cases q : r < a.rs.length
        · exact (bk_at hbk q).2.2.2.2
        · unfold pGf gR; rw [List.getD_eq_getElem?_getD, List.getElem?_eq_none (by omega)]; exact Nat.zero_le _) (ls.length - 0) 0 a.on
      have e : (outL a.rs (kds a.rs) ls (tr a.rs (kds a.rs) ls 0 a.on)).length ≤ 6 * (ls.length - 0) := this
      omega
    have em2 : (outL a.rs (kds a.rs) ls (tr a.rs (kds a.rs) ls 0 a.now.1.2.2)).length = (outL a.rs (kds a.rs) ls (tr a.rs (kds a.rs) ls 0 a.on)).length := rfl
    have em : (outL a.now.2.1 (kds a.now.2.1) ls (tr a.now.2.1 (kds a.now.2.1) ls 0 a.now.1.2.2)).length = (outL a.rs (kds a.rs) ls (tr a.rs (kds a.rs) ls 0 a.on)).length := rfl
    refine pw_aload_n 58 rfl rfl rfl ?_
    refine pw_getR 61 rfl rfl (by first | assumption | exact ⟨by decide, rfl⟩) rfl ?_
    refine pw_getR 64 rfl rfl (by first | assumption | exact ⟨by decide, rfl⟩) rfl ?_
    refine pw_cV0 67 rfl rfl (by first | assumption | exact ⟨by decide, rfl⟩) rfl (Nat.le_of_ble_eq_true rfl) rfl rfl (Nat.le_of_ble_eq_true rfl) (c_Line_size w6 r3.1 ?_)
    refine pw_pI ?_
    refine pw_bipush (v := nI 60) 69 rfl rfl (by decide) ?_
    by_cases q : 60 < (outL a.rs (kds a.rs) ls (tr a.rs (kds a.rs) ls 0 a.on)).length
    · rw [if_pos q] at e
      skip
      refine pw_icmp_le_f 72 rfl rfl (nI_ge q (by omega)) ?_
      refine pw_bipush (v := (-4)) 74 rfl rfl (by decide) ?_
      exact pw_iret rfl rfl ((by rw [e]; exact kk M3 f13 hx3))
    · rw [if_neg q] at e
      skip
      refine pw_icmp_le_t 75 rfl rfl (nI_le (by omega) (by omega)) ?_
      refine pw_aload_n 76 rfl rfl rfl ?_
      refine pw_getR 79 rfl rfl (by first | assumption | exact ⟨by decide, rfl⟩) rfl ?_
      refine pw_getR 82 rfl rfl (by first | assumption | exact ⟨by decide, rfl⟩) rfl ?_
      refine pw_getR 85 rfl rfl (by first | assumption | exact ⟨by decide, rfl⟩) rfl ?_
      refine pw_aload_n 86 rfl rfl rfl ?_
      refine pw_getR 89 rfl rfl (by first | assumption | exact ⟨by decide, rfl⟩) rfl ?_
      refine pw_getR 92 rfl rfl (by first | assumption | exact ⟨by decide, rfl⟩) rfl ?_
      refine pw_cV1 95 rfl rfl (by first | assumption | exact ⟨by decide, rfl⟩) rfl (Nat.le_of_ble_eq_true rfl) rfl rfl (Nat.le_of_ble_eq_true rfl) (c_Row_isSame w6.2.1 r3.1.1 hole b7.2.1 hl3.1 h60 ?_)
      refine pw_pI ?_
      by_cases q2 : outL a.rs (kds a.rs) ls (tr a.rs (kds a.rs) ls 0 a.on) = ls
      · rw [if_pos q2] at e ⊢
        skip
        refine pw_if_eq_f 98 rfl rfl (by decide) ?_
        refine pw_iload_n 99 rfl rfl rfl ?_
        exact pw_iret rfl rfl ((by rw [e]; exact kk M3 f13 hx3))
      · rw [if_neg q2] at e ⊢
        have el : (outS a.rs ss (tr a.rs (kds a.rs) ls 0 a.on)).length = (outL a.rs (kds a.rs) ls (tr a.rs (kds a.rs) ls 0 a.on)).length := (out_len a.rs (kds a.rs) ls ss _).symm
        skip
        refine pw_if_eq_t 100 rfl rfl (by decide) ?_
        refine pw_aload_n 101 rfl rfl rfl ?_
        refine pw_getR 104 rfl rfl (by first | assumption | exact ⟨by decide, rfl⟩) rfl ?_
        refine pw_aload_n 105 rfl rfl rfl ?_
        refine pw_getR 108 rfl rfl (by first | assumption | exact ⟨by decide, rfl⟩) rfl ?_
        refine pw_getR 111 rfl rfl (by first | assumption | exact ⟨by decide, rfl⟩) rfl ?_
        refine pw_cV1 114 rfl rfl (by first | assumption | exact ⟨by decide, rfl⟩) rfl (Nat.le_of_ble_eq_true rfl) rfl rfl (Nat.le_of_ble_eq_true rfl) (c_Line_takeFrom b7 w6 r3.1 (by omega) (Nat.le_of_not_lt q) hole (by rw [el]; omega) (by rw [el]; exact hole) (fun M4 f4 r4 => ?_))
        refine pw_pV ?_
        first | refine pw_iincN1 117 rfl rfl rfl (by with_reducible rfl) ?_ | refine pw_iinc1 (w := _) 117 rfl rfl rfl rfl ?_
        refine pw_goto rfl 19 rfl ?_
        exact ih (i + 1) _ _ M4 (by omega) (Nat.le_of_not_lt q) el (f13.tr (f4.wk (by omega) (by omega))) (hx3.scr f4 (by omega) (by omega)) r4 e
theorem c_rest (hb : isApp sh k) (hw : wfW a) (hx : appIs M N k a) (kk : pst k sh M N Q (.int (vRest a)) a) : PW mX10_rest 0 [.ref k, .null] [] sh M N Q := by
  have hb0 := hb
  obtain ⟨b0, b1, b2, b3, b4, b5, b6, b7, b8, b9, b10⟩ := hb
  have s0 := b2.1
  have s1 := b2.2.1.1
  have s2 := b2.2.1.2
  have s2' := s2.1
  have b7' := b7.1
  have hm := hx.2.1.1
  refine pw_aload_n 1 rfl rfl rfl ?_
  refine pw_getR 4 rfl rfl (by first | assumption | exact ⟨by decide, rfl⟩) rfl ?_
  refine pw_aload_n 5 rfl rfl rfl ?_
  refine pw_getR 8 rfl rfl (by first | assumption | exact ⟨by decide, rfl⟩) rfl ?_
  refine pw_getR 11 rfl rfl (by first | assumption | exact ⟨by decide, rfl⟩) rfl ?_
  refine pw_getR 14 rfl rfl (by first | assumption | exact ⟨by decide, rfl⟩) rfl ?_
  refine pw_cV1 17 rfl rfl (by first | assumption | exact ⟨by decide, rfl⟩) rfl (Nat.le_of_ble_eq_true rfl) rfl rfl (Nat.le_of_ble_eq_true rfl) (c_Line_takeFrom b7 s2 hm.1 (by omega) hm.2.2.1 hm.2.2.1 (by rw [hm.2.2.2]; exact hm.2.2.1) (by rw [hm.2.2.2]; exact hm.2.2.1) (fun M1 f1 r1 => ?_))
  refine pw_pV ?_
  refine pw_iconst (v := nI 0) 18 rfl rfl (by decide) ?_
  refine pw_istore1 19 rfl rfl rfl ?_
  exact rest_loop hb0 hw (vRest a) (fun M' f x => kk.go (f.wk (by omega) (by omega)) x) 21 0 a.ls a.ss M1 rfl hm.2.2.1 hm.2.2.2 (f1.wk (by omega) (by omega)) (hx.scr f1 (by omega) (by omega)) r1 rfl
theorem c_sure {n : Int32} (hb : isApp sh k) (hw : wfW a) (hx : appIs M N k a) (kk : pst k sh M N Q (.int (vSure a n)) a) : PW mX10_sure 0 [.ref k, .int n, .null] [] sh M N Q := by
  obtain ⟨b0, b1, b2, b3, b4, b5, b6, b7, b8, b9, b10⟩ := hb
  have s0 := b2.1
  have s1 := b2.2.1.1
  have s2 := b2.2.1.2
  have s2' := s2.1
  have s3 := b2.2.2.1
  have wk0 := b6.1
  have hm := hx.2.1.1
  have hbk : bookIs M (k + 11) a.rs := hx.2.1.2.1
  have hon := wf_on hw hx
  have h60 : a.ls.length ≤ 60 := hm.2.2.1
  have h60' : a.now.1.1.length ≤ 60 := hm.2.2.1
  have el : a.now.1.1.length = a.ls.length := rfl
  unfold vSure at kk
  have bad : ix n (a.ls.length + 1) = none → PW mX10_sure 23 [.ref k, .int n, .ref (k + 4 + 1 + 1)] [] sh M N Q := by
    intro e
    rw [e] at kk
    refine pw_iconst (v := (-1)) 24 rfl rfl (by decide) ?_
    exact pw_iret rfl rfl (kk.at hx)
  refine pw_aload_n 1 rfl rfl rfl ?_
  refine pw_getR 4 rfl rfl (by first | assumption | exact ⟨by decide, rfl⟩) rfl ?_
  refine pw_getR 7 rfl rfl (by first | assumption | exact ⟨by decide, rfl⟩) rfl ?_
  refine pw_getR 10 rfl rfl (by first | assumption | exact ⟨by decide, rfl⟩) rfl ?_
  refine pw_astore2 11 rfl rfl rfl ?_
  refine pw_iload_n 12 rfl rfl rfl ?_
  refine pw_if_lt 23 15 rfl rfl rfl (fun q => ?_) (fun q => ?_)
  · exact bad (ix_none (fun j hj e => by rw [e] at q; exact nI_pos (by omega) q))
  · obtain ⟨j, hj, rfl⟩ := nI_of q
    refine pw_iload_n 16 rfl rfl rfl ?_
    refine pw_aload_n 17 rfl rfl rfl ?_
    refine pw_cV0 20 rfl rfl (by first | assumption | exact ⟨by decide, rfl⟩) rfl (Nat.le_of_ble_eq_true rfl) rfl rfl (Nat.le_of_ble_eq_true rfl) (c_Line_size s2 hm.1 ?_)
    refine pw_pI ?_
    skip
    by_cases q2 : j ≤ a.ls.length
    · rw [ix_some (by omega) (by omega)] at kk
      skip
      refine pw_icmp_le_t 25 rfl rfl (nI_le q2 (by omega)) ?_
      refine pw_aload_n 26 rfl rfl rfl ?_
      refine pw_getR 29 rfl rfl (by first | assumption | exact ⟨by decide, rfl⟩) rfl ?_
      refine pw_aload_n 30 rfl rfl rfl ?_
      refine pw_cV1 33 rfl rfl (by first | assumption | exact ⟨by decide, rfl⟩) rfl (Nat.le_of_ble_eq_true rfl) rfl rfl (Nat.le_of_ble_eq_true rfl) (c_prepare b6 s3 hbk (by omega) s2 hm.1 hm.2.2.1 (by omega) hm.2.2.1 (fun M1 f1 r1 => ?_))
      refine pw_pV ?_
      have hx1 := hx.scr f1 (by omega) (by omega)
      have hm1 := hx1.2.1.1
      have hbk1 : bookIs M1 (k + 11) a.rs := hx1.2.1.2.1
      refine pw_aload_n 34 rfl rfl rfl ?_
      refine pw_getR 37 rfl rfl (by first | assumption | exact ⟨by decide, rfl⟩) rfl ?_
      refine pw_aload_n 38 rfl rfl rfl ?_
      refine pw_iload_n 39 rfl rfl rfl ?_
      refine pw_aload_n 40 rfl rfl rfl ?_
      refine pw_getR 43 rfl rfl (by first | assumption | exact ⟨by decide, rfl⟩) rfl ?_
      refine pw_getR 46 rfl rfl (by first | assumption | exact ⟨by decide, rfl⟩) rfl ?_
      refine pw_getI 49 rfl rfl (by first | assumption | exact ⟨by decide, rfl⟩) rfl ?_
      rw [hm1.2.1]
      refine pw_cV3 52 rfl rfl (by first | assumption | exact ⟨by decide, rfl⟩) rfl (Nat.le_of_ble_eq_true rfl) rfl rfl (Nat.le_of_ble_eq_true rfl) (c_sureOf b6 s3 hbk1 (kds_ok hbk1) r1 s2 hm1.1 hm1.2.2.1 q2 hm1.2.2.1 hon ?_)
      refine pw_pI ?_
      skip
      exact pw_iret rfl rfl (kk.go (f1.wk (by omega) (by omega)) hx1)
    · skip
      refine pw_icmp_le_f 23 rfl rfl (nI_ge (Nat.lt_of_not_le q2) hj) ?_
      exact bad (ix_none (fun i hi e => q2 (by have := (nI_eq hj (by omega)).mp e; omega)))
theorem lnF_lt (f : Nat → Nat) (on : Nat) (hf : ∀ r, f r ≤ 360) : ∀ n b l, lnF f on n = some (b, l) → b < n ∧ l ≤ 360
  | 0, b, l, h => by cases h
  | n + 1, b, l, h => by
    rw [lnF] at h
    cases hq : lnF f on n with
    | none =>
      rw [hq] at h
      simp only at h
      split at h
      · cases h; exact ⟨Nat.lt_succ_self _, hf _⟩
      · cases h
    | some p =>
      obtain ⟨b', l'⟩ := p
      rw [hq] at h
      simp only at h
      have ih := lnF_lt f on hf n b' l' hq
      split at h
      · cases h; exact ⟨Nat.lt_succ_self _, hf _⟩
      · cases h; exact ⟨by omega, ih.2⟩
theorem lean_loop {w : Int32} (hb : isApp sh k) (hw : wfW a) (hx : appIs M N k a) (hk : wkIs M (k + 291) a.rs (kds a.rs) a.ls)
    (kk : ∀ v6 v7 v5 : Value, PW mX10_lean 127 [.ref k, .int w, .ref (k + 4 + 1 + 1), .int (rI ((lnF (fun r => (a.mL (clr a.on r)).length) a.on a.rs.length).map (·.1))), .int (rI ((lnF (fun r => (a.mL (clr a.on r)).length) a.on a.rs.length).map (·.2))), v5, v6, v7] [] sh M N Q) :
    ∀ (d i : Nat) (v6 v7 : Value), pmIsL v6 = false → pmIsL v7 = false → i + d = a.rs.length → PW mX10_lean 39 [.ref k, .int w, .ref (k + 4 + 1 + 1), .int (rI ((lnF (fun r => (a.mL (clr a.on r)).length) a.on i).map (·.1))), .int (rI ((lnF (fun r => (a.mL (clr a.on r)).length) a.on i).map (·.2))), .int (nI i), v6, v7] [] sh M N Q := by
  obtain ⟨b0, b1, b2, b3, b4, b5, b6, b7, b8, b9, b10⟩ := hb
  have s0 := b2.1
  have s1 := b2.2.1.1
  have s2 := b2.2.1.2
  have s3 := b2.2.2.1
  have s3' := s3.1
  have wk0 := b6.1
  have hm := hx.2.1.1
  have hbk : bookIs M (k + 11) a.rs := hx.2.1.2.1
  have h10 : a.rs.length ≤ 10 := hbk.2.1
  have hon := wf_on hw hx
  have hml : ∀ r, (a.mL (clr a.on r)).length ≤ 360 := fun r => mL_le hx _
  intro d
  induction d with
  | zero =>
    intro i v6 v7 h6 h7 hi
    have : i = a.rs.length := by omega
    subst this
    refine pw_iload 41 rfl rfl rfl ?_
    refine pw_aload_n 42 rfl rfl rfl ?_
    refine pw_getR 45 rfl rfl (by first | assumption | exact ⟨by decide, rfl⟩) rfl ?_
    refine pw_getR 48 rfl rfl (by first | assumption | exact ⟨by decide, rfl⟩) rfl ?_
    refine pw_cV0 51 rfl rfl (by first | assumption | exact ⟨by decide, rfl⟩) rfl (Nat.le_of_ble_eq_true rfl) rfl rfl (Nat.le_of_ble_eq_true rfl) (c_Book_size s3 hbk ?_)
    refine pw_pI ?_
    skip
    refine pw_icmp_ge_t 127 rfl rfl (nI_le (by omega) (by omega)) ?_
    exact kk _ _ _
  | succ d ih =>
    intro i v6 v7 h6 h7 hi
    have hnx := ih (i + 1)
    rw [lnF] at hnx
    refine pw_iload 41 rfl rfl rfl ?_
    refine pw_aload_n 42 rfl rfl rfl ?_
    refine pw_getR 45 rfl rfl (by first | assumption | exact ⟨by decide, rfl⟩) rfl ?_
    refine pw_getR 48 rfl rfl (by first | assumption | exact ⟨by decide, rfl⟩) rfl ?_
    refine pw_cV0 51 rfl rfl (by first | assumption | exact ⟨by decide, rfl⟩) rfl (Nat.le_of_ble_eq_true rfl) rfl rfl (Nat.le_of_ble_eq_true rfl) (c_Book_size s3 hbk ?_)
    refine pw_pI ?_
    skip
    refine pw_icmp_ge_f 54 rfl rfl (nI_ge (by omega) (by omega)) ?_
    refine pw_iconst (v := nI 1) 55 rfl rfl (by decide) ?_
    refine pw_iload 57 rfl rfl rfl ?_
    refine pw_ishl 58 rfl rfl ?_
    refine pw_istore6 60 rfl rfl rfl ?_
    refine pw_aload_n 61 rfl rfl rfl ?_
    refine pw_getR 64 rfl rfl (by first | assumption | exact ⟨by decide, rfl⟩) rfl ?_
    refine pw_getR 67 rfl rfl (by first | assumption | exact ⟨by decide, rfl⟩) rfl ?_
    refine pw_getI 70 rfl rfl (by first | assumption | exact ⟨by decide, rfl⟩) rfl ?_
    refine pw_iload 72 rfl rfl rfl ?_
    refine pw_iand 73 rfl rfl ?_
    rw [show M (k + 4 + 1) 1 = nI a.on from hm.2.1, and_bit _ hon _ (by omega)]
    by_cases q : a.on.testBit i = true
    · rw [if_pos q]
      have hp : 2 ^ i < 2 ^ 10 := Nat.pow_lt_pow_right (by decide) (by omega)
      have hp0 := Nat.two_pow_pos i
      skip
      refine pw_if_eq_f 76 rfl rfl (fun e => by have := (nI_eq (by omega) (by omega)).mp (e.trans (show (0 : Int32) = nI 0 from rfl)); omega) ?_
      refine pw_aload_n 77 rfl rfl rfl ?_
      refine pw_getR 80 rfl rfl (by first | assumption | exact ⟨by decide, rfl⟩) rfl ?_
      refine pw_aload_n 81 rfl rfl rfl ?_
      refine pw_aload_n 82 rfl rfl rfl ?_
      refine pw_getR 85 rfl rfl (by first | assumption | exact ⟨by decide, rfl⟩) rfl ?_
      refine pw_getR 88 rfl rfl (by first | assumption | exact ⟨by decide, rfl⟩) rfl ?_
      refine pw_getI 91 rfl rfl (by first | assumption | exact ⟨by decide, rfl⟩) rfl ?_
      refine pw_iload 93 rfl rfl rfl ?_
      refine pw_iconst (v := (-1)) 94 rfl rfl (by decide) ?_
      refine pw_ixor 95 rfl rfl ?_
      refine pw_iand 96 rfl rfl ?_
      rw [show M (k + 4 + 1) 1 = nI a.on from hm.2.1, clr_v _ hon _ (by omega)]
      skip
      refine pw_cV2 99 rfl rfl (by first | assumption | exact ⟨by decide, rfl⟩) rfl (Nat.le_of_ble_eq_true rfl) rfl rfl (Nat.le_of_ble_eq_true rfl) (c_lengthBy b6 s3 hbk (kds_ok hbk) hk s2 hm.1 hm.2.2.1 (clr_lt _ _) ?_)
      refine pw_pI ?_
      refine pw_istore7 101 rfl rfl rfl ?_
      refine pw_iload_n 102 rfl rfl rfl ?_
      refine pw_bipush (v := (-4)) 104 rfl rfl (by decide) ?_
      cases hq : lnF (fun r => (a.mL (clr a.on r)).length) a.on i with
      | none =>
        rw [hq] at hnx
        simp only [if_pos q] at hnx
        skip
        refine pw_icmp_eq_t 114 rfl rfl (rfl) ?_
        refine pw_iload 116 rfl rfl rfl ?_
        refine pw_istore3 117 rfl rfl rfl ?_
        refine pw_iload 119 rfl rfl rfl ?_
        refine pw_istore4 121 rfl rfl rfl ?_
        first | refine pw_iincN5 124 rfl rfl rfl (by with_reducible rfl) ?_ | refine pw_iinc5 (w := _) 124 rfl rfl rfl rfl ?_
        refine pw_goto rfl 39 rfl ?_
        exact hnx _ _ rfl rfl (by omega)
      | some p =>
        obtain ⟨b, l⟩ := p
        have hbl := lnF_lt _ _ hml i b l hq
        rw [hq] at hnx
        simp only [q, true_and] at hnx
        have e360 := hml i
        skip
        refine pw_icmp_eq_f 107 rfl rfl (nI_m4 (d := b) (by omega)) ?_
        refine pw_iload 109 rfl rfl rfl ?_
        refine pw_iload 111 rfl rfl rfl ?_
        by_cases q2 : (a.mL (clr a.on i)).length < l
        · rw [if_pos q2] at hnx
          skip
          refine pw_icmp_ge_f 114 rfl rfl (nI_ge (b := l) q2 (by omega)) ?_
          refine pw_iload 116 rfl rfl rfl ?_
          refine pw_istore3 117 rfl rfl rfl ?_
          refine pw_iload 119 rfl rfl rfl ?_
          refine pw_istore4 121 rfl rfl rfl ?_
          first | refine pw_iincN5 124 rfl rfl rfl (by with_reducible rfl) ?_ | refine pw_iinc5 (w := _) 124 rfl rfl rfl rfl ?_
          refine pw_goto rfl 39 rfl ?_
          exact hnx _ _ rfl rfl (by omega)
        · rw [if_neg q2] at hnx
          skip
          refine pw_icmp_ge_t 121 rfl rfl (nI_le (a := l) (b := (a.mL (clr a.on i)).length) (Nat.le_of_not_lt q2) (by omega)) ?_
          first | refine pw_iincN5 124 rfl rfl rfl (by with_reducible rfl) ?_ | refine pw_iinc5 (w := _) 124 rfl rfl rfl rfl ?_
          refine pw_goto rfl 39 rfl ?_
          exact hnx _ _ rfl rfl (by omega)
    · rw [if_neg q]
      skip
      refine pw_if_eq_t 121 rfl rfl (rfl) ?_
      first | refine pw_iincN5 124 rfl rfl rfl (by with_reducible rfl) ?_ | refine pw_iinc5 (w := _) 124 rfl rfl rfl rfl ?_
      refine pw_goto rfl 39 rfl ?_
      cases hq : lnF (fun r => (a.mL (clr a.on r)).length) a.on i with
      | none =>
        rw [hq] at hnx
        simp only [if_neg q] at hnx
        exact hnx _ _ rfl h7 (by omega)
      | some p =>
        obtain ⟨b, l⟩ := p
        rw [hq] at hnx
        simp only [q, false_and, if_false] at hnx
        exact hnx _ _ rfl h7 (by omega)
theorem c_lean {w : Int32} (hb : isApp sh k) (hw : wfW a) (hx : appIs M N k a) (kk : pst k sh M N Q (.int (vLean a w)) a) : PW mX10_lean 0 [.ref k, .int w, .null, .null, .null, .null, .null, .null] [] sh M N Q := by
  have hb0 := hb
  obtain ⟨b0, b1, b2, b3, b4, b5, b6, b7, b8, b9, b10⟩ := hb
  have s0 := b2.1
  have s1 := b2.2.1.1
  have s2 := b2.2.1.2
  have s3 := b2.2.2.1
  have wk0 := b6.1
  have hm := hx.2.1.1
  have hbk : bookIs M (k + 11) a.rs := hx.2.1.2.1
  unfold vLean at kk
  refine pw_iload_n 1 rfl rfl rfl ?_
  refine pw_iconst (v := nI 2) 2 rfl rfl (by decide) ?_
  refine pw_cS2 5 rfl rfl rfl (Nat.le_of_ble_eq_true rfl) rfl rfl (Nat.le_of_ble_eq_true rfl) (c_isWithin (by decide) (fun j hj e => ?_) (fun hn => ?_))
  · refine pw_pI ?_
    subst e
    rw [ix_some hj (by decide)] at kk
    simp only at kk
    skip
    refine pw_if_ne_t 10 rfl rfl (by decide) ?_
    refine pw_aload_n 11 rfl rfl rfl ?_
    refine pw_getR 14 rfl rfl (by first | assumption | exact ⟨by decide, rfl⟩) rfl ?_
    refine pw_getR 17 rfl rfl (by first | assumption | exact ⟨by decide, rfl⟩) rfl ?_
    refine pw_getR 20 rfl rfl (by first | assumption | exact ⟨by decide, rfl⟩) rfl ?_
    refine pw_astore2 21 rfl rfl rfl ?_
    refine pw_aload_n 22 rfl rfl rfl ?_
    refine pw_getR 25 rfl rfl (by first | assumption | exact ⟨by decide, rfl⟩) rfl ?_
    refine pw_aload_n 26 rfl rfl rfl ?_
    refine pw_cV1 29 rfl rfl (by first | assumption | exact ⟨by decide, rfl⟩) rfl (Nat.le_of_ble_eq_true rfl) rfl rfl (Nat.le_of_ble_eq_true rfl) (c_prepare b6 s3 hbk (by omega) s2 hm.1 hm.2.2.1 (by omega) hm.2.2.1 (fun M1 f1 r1 => ?_))
    refine pw_pV ?_
    have hx1 := hx.scr f1 (by omega) (by omega)
    refine pw_bipush (v := (-4)) 31 rfl rfl (by decide) ?_
    refine pw_istore3 32 rfl rfl rfl ?_
    refine pw_bipush (v := (-4)) 34 rfl rfl (by decide) ?_
    refine pw_istore4 36 rfl rfl rfl ?_
    refine pw_iconst (v := nI 0) 37 rfl rfl (by decide) ?_
    refine pw_istore5 39 rfl rfl rfl ?_
    refine lean_loop hb0 hw hx1 r1 (fun v6 v7 v5 => ?_) _ 0 _ _ rfl rfl (Nat.zero_add _)
    rcases (show j = 0 ∨ j = 1 by omega) with rfl | rfl
    · rw [if_pos rfl] at kk
      refine pw_iload_n 128 rfl rfl rfl ?_
      refine pw_if_ne_f 131 rfl rfl (by decide) ?_
      refine pw_iload_n 132 rfl rfl rfl ?_
      refine pw_goto rfl 137 rfl ?_
      exact pw_iret rfl rfl (kk.go (f1.wk (by omega) (by omega)) hx1)
    · rw [if_neg (by decide)] at kk
      refine pw_iload_n 128 rfl rfl rfl ?_
      refine pw_if_ne_t 135 rfl rfl (by decide) ?_
      refine pw_iload 137 rfl rfl rfl ?_
      exact pw_iret rfl rfl (kk.go (f1.wk (by omega) (by omega)) hx1)
  · refine pw_pI ?_
    rw [ix_none hn] at kk
    skip
    refine pw_if_ne_f 8 rfl rfl (by decide) ?_
    refine pw_iconst (v := (-1)) 9 rfl rfl (by decide) ?_
    exact pw_iret rfl rfl (kk.at hx)
end APU
