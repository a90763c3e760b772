/-! THE REFERENCE: sheets -/
theorem sl_same (N : pmN) (k j : Nat) (v : Int64) : pmStL N k j v k j = v := by
  unfold pmStL; rw [va_up_self]; unfold vp_updL; simp
theorem sl_row (N : pmN) (k j : Nat) (v : Int64) {i : Nat} (h : i ≠ j) : pmStL N k j v k i = N k i := by
  unfold pmStL; rw [va_up_self]; unfold vp_updL; simp [h]
theorem sl_ne (N : pmN) (k j : Nat) (v : Int64) {x : Nat} (h : x ≠ k) : pmStL N k j v x = N x := by
  unfold pmStL; exact va_up_ne _ _ h
theorem rfs_neg {h : aH} {la i n : Int32} (e : rfs h la i n ≠ 0) : rfs h la i n < 0 := by
  unfold rfs at *
  by_cases q1 : h.1 = false
  · rw [if_pos q1]; decide
  · rw [if_neg q1] at e ⊢
    by_cases q2 : nI h.2.1 ≠ la
    · rw [if_pos q2]; decide
    · rw [if_neg q2] at e ⊢
      by_cases q3 : hol h.2.2.1 i n = true
      · rw [if_pos q3] at e; exact absurd rfl e
      · rw [if_neg q3]; decide
theorem getD_setN {xs : List Nat} {v i j : Nat} (hj : j < xs.length) : (xs.set j v).getD i 0 = if i = j then v else xs.getD i 0 := by
  simp only [List.getD_eq_getElem?_getD]
  by_cases h : i = j
  · subst h; rw [if_pos rfl, List.getElem?_set_self hj]; rfl
  · rw [if_neg h, List.getElem?_set_ne (Ne.symm h)]
theorem modIs.shM {M M' : pmM} {N N' : pmN} {k i : Nat} {a : aW} {x : aH} (h : modIs M N k a) (f : ∀ y, k + 1 ≤ y → y ≤ k + 7 → M' y = M y) (g : ∀ j, j ≠ 18 → j ≠ 21 → j ≠ 24 → M' k j = M k j) (hi : M' (k + 8) i = nI (if x.1 then 1 else 0) ∧ M' (k + 9) i = nI x.2.1 ∧ M' (k + 10) i = nI x.2.2.1 ∧ ∀ j, j < 60 → N' (k + 11) (60 * i + j) = x.2.2.2 j)
    (ho : ∀ t, t < 4 → t ≠ i → M' (k + 8) t = M (k + 8) t ∧ M' (k + 9) t = M (k + 9) t ∧ M' (k + 10) t = M (k + 10) t ∧ ∀ j, j < 60 → N' (k + 11) (60 * t + j) = N (k + 11) (60 * t + j)) : modIs M' N' k (wSh a i x) := by
  obtain ⟨⟨x0, x1⟩, x2, x3, ⟨x4, x5⟩, x6, x7, ⟨x8, x9⟩, x10⟩ := h
  refine ⟨⟨?_, fun i hi => ?_⟩, ?_, ?_, ⟨?_, ?_⟩, ?_, ?_, ⟨?_, fun s hs => ?_⟩, fun t ht => ?_⟩
  · rw [g 1 (by decide) (by decide) (by decide)]; exact x0
  · rw [f (k + 1) (by omega) (by omega)]; exact x1 i hi
  · rw [f (k + 2) (by omega) (by omega)]; exact x2
  · rw [f (k + 3) (by omega) (by omega)]; exact x3
  · rw [g 5 (by decide) (by decide) (by decide)]; exact x4
  · rw [f (k + 4) (by omega) (by omega)]; exact x5
  · rw [g 6 (by decide) (by decide) (by decide)]; exact x6
  · rw [g 7 (by decide) (by decide) (by decide)]; exact x7
  · rw [g 12 (by decide) (by decide) (by decide)]; exact x8
  · rw [f (k + 5) (by omega) (by omega), f (k + 6) (by omega) (by omega), f (k + 7) (by omega) (by omega), g 11 (by decide) (by decide) (by decide)]; exact x9 s hs
  · by_cases q : t = i
    · subst q
      have e : (wSh a t x).shs t = x := if_pos rfl
      rw [e]; exact hi
    · have e : (wSh a i x).shs t = a.shs t := if_neg q
      obtain ⟨o1, o2, o3, o4⟩ := ho t ht q
      obtain ⟨p1, p2, p3, p4⟩ := x10 t ht
      rw [e]
      exact ⟨by rw [o1]; exact p1, by rw [o2]; exact p2, by rw [o3]; exact p3, fun j hj => by rw [o4 j hj]; exact p4 j hj⟩
section MSH
variable {sh : pmS} {M : pmM} {N : pmN} {Q : pmPost} {k : Nat} {a : aW}
theorem c_isSheetM {x : Int32} (ky : ∀ j, j < 4 → x = nI j → Q (some (.int (nI 1))) sh M N) (kn : (∀ j, j < 4 → x ≠ nI j) → Q (some (.int (nI 0))) sh M N) : PW mX11_isSheet 0 [.int x] [] sh M N Q := by
  refine pw_iload_n 1 rfl rfl rfl ?_
  refine pw_i2l 2 rfl rfl ?_
  refine pw_lconst (v := lN 0) 3 rfl rfl (by decide) ?_
  refine pw_ldc2_w (v := lN 3) 6 rfl rfl rfl ?_
  refine pw_cS3 9 rfl rfl rfl (Nat.le_of_ble_eq_true rfl) rfl rfl (Nat.le_of_ble_eq_true rfl) (c_inX (b := 0) (c := 4) (by decide) (by decide) rfl (fun j h1 h2 e => ?_) (fun hn => ?_))
  · refine pw_pI ?_
    skip
    exact pw_zret rfl rfl (by first | exact Or.inl rfl | exact Or.inr rfl | assumption) (ky j h2 e)
  · refine pw_pI ?_
    skip
    exact pw_zret rfl rfl (by first | exact Or.inl rfl | exact Or.inr rfl | assumption) (kn (fun j hj => hn j (Nat.zero_le j) hj))
theorem c_isLaneM {x : Int32} (ky : ∀ j, j < 4 → x = nI j → Q (some (.int (nI 1))) sh M N) (kn : (∀ j, j < 4 → x ≠ nI j) → Q (some (.int (nI 0))) sh M N) : PW mX11_isLane 0 [.int x] [] sh M N Q := by
  refine pw_iload_n 1 rfl rfl rfl ?_
  refine pw_i2l 2 rfl rfl ?_
  refine pw_lconst (v := lN 0) 3 rfl rfl (by decide) ?_
  refine pw_ldc2_w (v := lN 3) 6 rfl rfl rfl ?_
  refine pw_cS3 9 rfl rfl rfl (Nat.le_of_ble_eq_true rfl) rfl rfl (Nat.le_of_ble_eq_true rfl) (c_inX (b := 0) (c := 4) (by decide) (by decide) rfl (fun j h1 h2 e => ?_) (fun hn => ?_))
  · refine pw_pI ?_
    skip
    exact pw_zret rfl rfl (by first | exact Or.inl rfl | exact Or.inr rfl | assumption) (ky j h2 e)
  · refine pw_pI ?_
    skip
    exact pw_zret rfl rfl (by first | exact Or.inl rfl | exact Or.inr rfl | assumption) (kn (fun j hj => hn j (Nat.zero_le j) hj))
theorem c_finds {s : Nat} {la i n : Int32} (hb : isMod sh k) (ho : okW a) (hs : s < 4) (hx : modIs M N k a) (kk : Q (some (.int (rfs (a.shs s) la i n))) sh M N) : PW mX11_finds 0 [.ref k, .int (nI s), .int la, .int i, .int n] [] sh M N Q := by
  obtain ⟨b0, a1, a2, a3, a4, a5, a6, a7, a8, a9, a10, a11, a12, a13, a14, a15, a16, a17, a18, a19, a20⟩ := hb
  obtain ⟨s1, s2, s3, s4⟩ := hx.2.2.2.2.2.2.2 s hs
  obtain ⟨o1, o2⟩ := ho.2.2 s hs
  unfold rfs at kk
  refine pw_aload_n 1 rfl rfl rfl ?_
  refine pw_getR 4 rfl rfl (by first | assumption | exact ⟨by decide, rfl⟩) rfl ?_
  refine pw_iload_n 5 rfl rfl rfl ?_
  refine pw_zald _ 6 rfl rfl (by first | assumption | exact ⟨by decide, rfl, by decide⟩) (by with_reducible rfl) (by first | assumption | omega) ?_
  rw [s1]
  by_cases q : (a.shs s).1 = false
  · rw [if_pos q] at kk
    rw [q]
    skip
    refine pw_if_ne_f 9 rfl rfl (fun e => e rfl) ?_
    refine pw_bipush (v := (-11)) 11 rfl rfl (by decide) ?_
    exact pw_iret rfl rfl (kk)
  · rw [if_neg q] at kk
    have q : (a.shs s).1 = true := by simpa using q
    rw [q]
    skip
    refine pw_if_ne_t 12 rfl rfl (by decide) ?_
    refine pw_aload_n 13 rfl rfl rfl ?_
    refine pw_getR 16 rfl rfl (by first | assumption | exact ⟨by decide, rfl⟩) rfl ?_
    refine pw_iload_n 17 rfl rfl rfl ?_
    refine pw_iald _ 18 rfl rfl (by first | assumption | exact ⟨by decide, rfl, by decide⟩) (by with_reducible rfl) (by first | assumption | omega) ?_
    refine pw_iload_n 19 rfl rfl rfl ?_
    rw [s2]
    refine pw_icmp_eq 27 22 rfl rfl rfl (fun q2 => ?_) (fun q2 => ?_)
    · rw [if_neg (fun e => e q2)] at kk
      have bad : hol (a.shs s).2.2.1 i n = false → PW mX11_finds 53 [.ref k, .int (nI s), .int la, .int i, .int n] [] sh M N Q := by
        intro h
        rw [if_neg (by rw [h]; decide)] at kk
        refine pw_bipush (v := (-13)) 55 rfl rfl (by decide) ?_
        refine pw_goto rfl 59 rfl ?_
        exact pw_iret rfl rfl (kk)
      refine pw_iload_n 28 rfl rfl rfl ?_
      refine pw_if_lt 53 31 rfl rfl rfl (fun q3 => ?_) (fun q3 => ?_)
      · exact bad (hol_no (fun x y _ e => absurd q3 (by rw [e]; exact nI_pos (by omega))))
      · obtain ⟨x, hx1, rfl⟩ := nI_of q3
        refine pw_iload 33 rfl rfl rfl ?_
        refine pw_if_lt 53 36 rfl rfl rfl (fun q4 => ?_) (fun q4 => ?_)
        · exact bad (hol_no (fun x y h e e2 => absurd q4 (by rw [e2]; exact nI_pos (by omega))))
        · obtain ⟨y, hy1, rfl⟩ := nI_of q4
          refine pw_iload_n 37 rfl rfl rfl ?_
          refine pw_i2l 38 rfl rfl ?_
          refine pw_iload 40 rfl rfl rfl ?_
          refine pw_i2l 41 rfl rfl ?_
          refine pw_ladd 42 rfl rfl ?_
          refine pw_aload_n 43 rfl rfl rfl ?_
          refine pw_getR 46 rfl rfl (by first | assumption | exact ⟨by decide, rfl⟩) rfl ?_
          refine pw_iload_n 47 rfl rfl rfl ?_
          refine pw_iald _ 48 rfl rfl (by first | assumption | exact ⟨by decide, rfl, by decide⟩) (by with_reducible rfl) (by first | assumption | omega) ?_
          rw [s3]
          refine pw_i2l 49 rfl rfl ?_
          refine pw_lcmp 50 rfl rfl ?_
          rw [nI_l hx1, nI_l hy1, nI_l (by omega), lN_add]
          by_cases q5 : x + y ≤ (a.shs s).2.2.1
          · rw [if_pos (hol_yes (by omega) q5)] at kk
            skip
            refine pw_if_le_t 58 rfl rfl (Int32.not_lt.mp (fun h => by have := (pk_lLT (by omega) (by omega)).mp ((lg_cmpG _ _).mp h); omega)) ?_
            refine pw_iconst (v := nI 0) 59 rfl rfl (by decide) ?_
            exact pw_iret rfl rfl (kk)
          · have hno : hol (a.shs s).2.2.1 (nI x) (nI y) = false := hol_no (fun p q h e1 e2 => by
              have h1 := (nI_eq hx1 (by omega)).mp e1
              have h2 := (nI_eq hy1 (by omega)).mp e2
              omega)
            skip
            refine pw_if_le_f 53 rfl rfl (Int32.not_le.mpr ((lg_cmpG _ _).mpr ((pk_lLT (by omega) (by omega)).mpr (by omega)))) ?_
            exact bad hno
    · rw [if_pos q2] at kk
      refine pw_bipush (v := (-12)) 24 rfl rfl (by decide) ?_
      refine pw_goto rfl 59 rfl ?_
      exact pw_iret rfl rfl (kk)
theorem c_cut {la : Nat} {v : Int64} (hl : la < 4) (kk : Q (some (.long (cutL la v))) sh M N) : PW mX11_cut 0 [.int (nI la), .long v, .null] [] sh M N Q := by
  unfold cutL at kk
  rcases (show la = 0 ∨ la = 1 ∨ la = 2 ∨ la = 3 by omega) with rfl | rfl | rfl | rfl
  · refine pw_iload_n 1 rfl rfl rfl ?_
    refine pw_if_ne_f 4 rfl rfl (fun e => e rfl) ?_
    refine pw_lload_n 5 rfl rfl rfl ?_
    refine pw_l2i 6 rfl rfl ?_
    refine pw_i2b 7 rfl rfl ?_
    refine pw_i2l 8 rfl rfl ?_
    refine pw_goto rfl 35 rfl ?_
    exact pw_lret rfl (kk)
  · refine pw_iload_n 1 rfl rfl rfl ?_
    refine pw_if_ne_t 11 rfl rfl (by decide) ?_
    refine pw_iload_n 12 rfl rfl rfl ?_
    refine pw_iconst (v := nI 1) 13 rfl rfl (by decide) ?_
    refine pw_icmp_ne_f 16 rfl rfl (fun e => e rfl) ?_
    refine pw_lload_n 17 rfl rfl rfl ?_
    refine pw_l2i 18 rfl rfl ?_
    refine pw_i2s 19 rfl rfl ?_
    refine pw_i2l 20 rfl rfl ?_
    refine pw_goto rfl 35 rfl ?_
    exact pw_lret rfl (kk)
  · refine pw_iload_n 1 rfl rfl rfl ?_
    refine pw_if_ne_t 11 rfl rfl (by decide) ?_
    refine pw_iload_n 12 rfl rfl rfl ?_
    refine pw_iconst (v := nI 1) 13 rfl rfl (by decide) ?_
    refine pw_icmp_ne_t 23 rfl rfl (by decide) ?_
    refine pw_iload_n 24 rfl rfl rfl ?_
    refine pw_iconst (v := nI 2) 25 rfl rfl (by decide) ?_
    refine pw_icmp_ne_f 28 rfl rfl (fun e => e rfl) ?_
    refine pw_lload_n 29 rfl rfl rfl ?_
    refine pw_l2i 30 rfl rfl ?_
    refine pw_i2l 31 rfl rfl ?_
    refine pw_goto rfl 35 rfl ?_
    exact pw_lret rfl (kk)
  · refine pw_iload_n 1 rfl rfl rfl ?_
    refine pw_if_ne_t 11 rfl rfl (by decide) ?_
    refine pw_iload_n 12 rfl rfl rfl ?_
    refine pw_iconst (v := nI 1) 13 rfl rfl (by decide) ?_
    refine pw_icmp_ne_t 23 rfl rfl (by decide) ?_
    refine pw_iload_n 24 rfl rfl rfl ?_
    refine pw_iconst (v := nI 2) 25 rfl rfl (by decide) ?_
    refine pw_icmp_ne_t 34 rfl rfl (by decide) ?_
    refine pw_lload_n 35 rfl rfl rfl ?_
    exact pw_lret rfl (kk)
theorem m_drop {s : Int32} (hb : isMod sh k) (hw : wfW a) (ho : okW a) (hx : modIs M N k a) (kk : mst k sh M N Q (.int (vDrop a s).1) (vDrop a s).2) : PW mX11_drop 0 [.ref k, .int s] [] sh M N Q := by
  obtain ⟨b0, a1, a2, a3, a4, a5, a6, a7, a8, a9, a10, a11, a12, a13, a14, a15, a16, a17, a18, a19, a20⟩ := hb
  unfold vDrop at kk
  refine pw_iload_n 1 rfl rfl rfl ?_
  refine pw_cS1 4 rfl rfl rfl (Nat.le_of_ble_eq_true rfl) rfl rfl (Nat.le_of_ble_eq_true rfl) (c_isSheetM (fun t ht e => ?_) (fun hn => ?_))
  · refine pw_pI ?_
    subst e
    rw [ix_some ht (by decide)] at kk
    simp only at kk
    obtain ⟨s1, s2, s3, s4⟩ := hx.2.2.2.2.2.2.2 t ht
    skip
    refine pw_if_ne_t 9 rfl rfl (by decide) ?_
    refine pw_aload_n 10 rfl rfl rfl ?_
    refine pw_getR 13 rfl rfl (by first | assumption | exact ⟨by decide, rfl⟩) rfl ?_
    refine pw_iload_n 14 rfl rfl rfl ?_
    refine pw_zald _ 15 rfl rfl (by first | assumption | exact ⟨by decide, rfl, by decide⟩) (by with_reducible rfl) (by first | assumption | omega) ?_
    rw [s1]
    by_cases q : (a.shs t).1 = false
    · rw [if_pos q] at kk
      rw [q]
      skip
      refine pw_if_ne_f 18 rfl rfl (fun e => e rfl) ?_
      refine pw_bipush (v := (-11)) 20 rfl rfl (by decide) ?_
      exact pw_iret rfl rfl (kk.at hx)
    · rw [if_neg q] at kk
      have q : (a.shs t).1 = true := by simpa using q
      rw [q]
      skip
      refine pw_if_ne_t 21 rfl rfl (by decide) ?_
      refine pw_aload_n 22 rfl rfl rfl ?_
      refine pw_getR 25 rfl rfl (by first | assumption | exact ⟨by decide, rfl⟩) rfl ?_
      refine pw_iload_n 26 rfl rfl rfl ?_
      refine pw_iconst (v := nI 0) 27 rfl rfl (by decide) ?_
      refine pw_zast _ 28 rfl rfl (by first | assumption | exact ⟨by decide, rfl, by decide⟩) (by with_reducible rfl) (by first | assumption | omega) (by first | exact Or.inl rfl | exact Or.inr rfl | assumption) ?_
      refine pw_aload_n 29 rfl rfl rfl ?_
      refine pw_getR 32 rfl rfl (by first | assumption | exact ⟨by decide, rfl⟩) rfl ?_
      refine pw_iload_n 33 rfl rfl rfl ?_
      refine pw_iald _ 34 rfl rfl (by first | assumption | exact ⟨by decide, rfl, by decide⟩) (by with_reducible rfl) (by first | assumption | omega) ?_
      rw [st_ne _ _ _ _ (by omega), s3]
      refine pw_iret rfl rfl (kk.go (fun x hx => st_ne _ _ _ _ (by omega)) (hx.shM (fun y h1 h2 => st_ne _ _ _ _ (by omega)) (fun j _ _ _ => by rw [st_ne _ _ _ _ (by omega)]) ⟨st_same _ _ _ _, ?_, ?_, s4⟩ (fun t' h1 h2 => ⟨st_row _ _ _ _ h2, ?_, ?_, fun _ _ => rfl⟩)))
      · rw [st_ne _ _ _ _ (by omega)]; exact s2
      · rw [st_ne _ _ _ _ (by omega)]; exact s3
      · rw [st_ne _ _ _ _ (by omega)]
      · rw [st_ne _ _ _ _ (by omega)]
  · refine pw_pI ?_
    rw [ix_none hn] at kk
    skip
    refine pw_if_ne_f 7 rfl rfl (by decide) ?_
    refine pw_iconst (v := (-1)) 8 rfl rfl (by decide) ?_
    exact pw_iret rfl rfl (kk.at hx)
theorem sheet_loop {t : Nat} {x2 x3 : Int32} (hb : isMod sh k) (ht : t < 4) (kk : ∀ N', (∀ x, x ≠ k + 11 → N' x = N x) → (∀ j, N' (k + 11) j = if 60 * t ≤ j ∧ j < 60 * t + 60 then 0 else N (k + 11) j) → PW mX11_sheet 79 [.ref k, .int (nI t), .int x2, .int x3, .int (nI 60)] [] sh M N' Q) :
    ∀ (d i : Nat) (N1 : pmN), i + d = 60 → (∀ x, x ≠ k + 11 → N1 x = N x) → (∀ j, N1 (k + 11) j = if 60 * t ≤ j ∧ j < 60 * t + i then 0 else N (k + 11) j) → PW mX11_sheet 53 [.ref k, .int (nI t), .int x2, .int x3, .int (nI i)] [] sh M N1 Q := by
  obtain ⟨b0, a1, a2, a3, a4, a5, a6, a7, a8, a9, a10, a11, a12, a13, a14, a15, a16, a17, a18, a19, a20⟩ := hb
  intro d
  induction d with
  | zero =>
    intro i N1 hi hf hv
    have : i = 60 := by omega
    subst this
    refine pw_iload 55 rfl rfl rfl ?_
    refine pw_bipush (v := nI 60) 57 rfl rfl (by decide) ?_
    refine pw_icmp_ge_t 79 rfl rfl (by decide) ?_
    exact kk N1 hf hv
  | succ d ih =>
    intro i N1 hi hf hv
    have y1 : 60 * t + i < 240 := by omega
    refine pw_iload 55 rfl rfl rfl ?_
    refine pw_bipush (v := nI 60) 57 rfl rfl (by decide) ?_
    refine pw_icmp_ge_f 60 rfl rfl (nI_ge (by omega) (by omega)) ?_
    refine pw_aload_n 61 rfl rfl rfl ?_
    refine pw_getR 64 rfl rfl (by first | assumption | exact ⟨by decide, rfl⟩) rfl ?_
    refine pw_bipush (v := nI 60) 66 rfl rfl (by decide) ?_
    refine pw_iload_n 67 rfl rfl rfl ?_
    first | refine pw_imulN 68 rfl rfl (by with_reducible rfl) (by with_reducible rfl) ?_ | refine pw_imul 68 rfl rfl ?_
    refine pw_iload 70 rfl rfl rfl ?_
    first | refine pw_iaddN 71 rfl rfl (by with_reducible rfl) (by with_reducible rfl) ?_ | refine pw_iadd 71 rfl rfl ?_
    refine pw_lconst (v := lN 0) 72 rfl rfl (by decide) ?_
    refine pw_last _ 73 rfl rfl (by first | assumption | exact ⟨by decide, rfl, by decide⟩) (by with_reducible rfl) (by first | assumption | omega) ?_
    first | refine pw_iincN4 76 rfl rfl rfl (by with_reducible rfl) ?_ | refine pw_iinc4 (w := _) 76 rfl rfl rfl rfl ?_
    refine pw_goto rfl 53 rfl ?_
    refine ih (i + 1) _ (by omega) (fun x hx => by rw [sl_ne _ _ _ _ hx, hf x hx]) (fun j => ?_)
    by_cases q : j = 60 * t + i
    · subst q
      rw [sl_same, if_pos (by omega)]; rfl
    · rw [sl_row _ _ _ _ q, hv j]
      by_cases q2 : 60 * t ≤ j ∧ j < 60 * t + i
      · rw [if_pos q2, if_pos (by omega)]
      · rw [if_neg q2, if_neg (by omega)]
theorem m_sheet {s la n : Int32} (hb : isMod sh k) (hw : wfW a) (ho : okW a) (hx : modIs M N k a) (kk : mst k sh M N Q (.int (vSheet a s la n).1) (vSheet a s la n).2) : PW mX11_sheet 0 [.ref k, .int s, .int la, .int n, .null] [] sh M N Q := by
  have hb0 := hb
  obtain ⟨b0, a1, a2, a3, a4, a5, a6, a7, a8, a9, a10, a11, a12, a13, a14, a15, a16, a17, a18, a19, a20⟩ := hb
  unfold vSheet at kk
  have bad : mst k sh M N Q (.int (-1)) a → PW mX11_sheet 20 [.ref k, .int s, .int la, .int n, .null] [] sh M N Q := by
    intro kk
    refine pw_iconst (v := (-1)) 21 rfl rfl (by decide) ?_
    exact pw_iret rfl rfl (kk.at hx)
  refine pw_iload_n 1 rfl rfl rfl ?_
  refine pw_cS1 4 rfl rfl rfl (Nat.le_of_ble_eq_true rfl) rfl rfl (Nat.le_of_ble_eq_true rfl) (c_isSheetM (fun t ht e => ?_) (fun hn => ?_))
  · refine pw_pI ?_
    subst e
    rw [ix_some ht (by decide)] at kk
    skip
    refine pw_if_eq_f 7 rfl rfl (by decide) ?_
    refine pw_iload_n 8 rfl rfl rfl ?_
    refine pw_cS1 11 rfl rfl rfl (Nat.le_of_ble_eq_true rfl) rfl rfl (Nat.le_of_ble_eq_true rfl) (c_isLaneM (fun l hl e => ?_) (fun hn => ?_))
    · refine pw_pI ?_
      subst e
      rw [ix_some hl (by decide)] at kk
      simp only at kk
      skip
      refine pw_if_eq_f 14 rfl rfl (by decide) ?_
      refine pw_iload_n 15 rfl rfl rfl ?_
      refine pw_bipush (v := nI 60) 17 rfl rfl (by decide) ?_
      refine pw_icmp_le 22 20 rfl rfl rfl (fun q1 => ?_) (fun q1 => ?_)
      · rw [if_neg (fun h => Int32.not_lt.mpr q1 h)] at kk
        refine pw_iload_n 23 rfl rfl rfl ?_
        refine pw_if_ge 29 26 rfl rfl rfl (fun q2 => ?_) (fun q2 => ?_)
        · rw [if_neg (fun h => Int32.not_lt.mpr q2 h)] at kk
          obtain ⟨y, hy, rfl⟩ := nI_of (fun h => Int32.not_lt.mpr q2 h)
          rw [nI_clamp hy] at kk
          have h60 : y ≤ 60 := (nI_leI hy (by decide)).mp q1
          have g : ∀ x, x ≠ k + 8 → x ≠ k + 9 → x ≠ k + 10 → pmSt (pmSt (pmSt M (k + 8) t (nI 1)) (k + 9) t (nI l)) (k + 10) t (nI y) x = M x := fun x h1 h2 h3 => by rw [st_ne _ _ _ _ h3, st_ne _ _ _ _ h2, st_ne _ _ _ _ h1]
          refine pw_aload_n 30 rfl rfl rfl ?_
          refine pw_getR 33 rfl rfl (by first | assumption | exact ⟨by decide, rfl⟩) rfl ?_
          refine pw_iload_n 34 rfl rfl rfl ?_
          refine pw_iconst (v := nI 1) 35 rfl rfl (by decide) ?_
          refine pw_zast _ 36 rfl rfl (by first | assumption | exact ⟨by decide, rfl, by decide⟩) (by with_reducible rfl) (by first | assumption | omega) (by first | exact Or.inl rfl | exact Or.inr rfl | assumption) ?_
          refine pw_aload_n 37 rfl rfl rfl ?_
          refine pw_getR 40 rfl rfl (by first | assumption | exact ⟨by decide, rfl⟩) rfl ?_
          refine pw_iload_n 41 rfl rfl rfl ?_
          refine pw_iload_n 42 rfl rfl rfl ?_
          refine pw_iast _ 43 rfl rfl (by first | assumption | exact ⟨by decide, rfl, by decide⟩) (by with_reducible rfl) (by first | assumption | omega) ?_
          refine pw_aload_n 44 rfl rfl rfl ?_
          refine pw_getR 47 rfl rfl (by first | assumption | exact ⟨by decide, rfl⟩) rfl ?_
          refine pw_iload_n 48 rfl rfl rfl ?_
          refine pw_iload_n 49 rfl rfl rfl ?_
          refine pw_iast _ 50 rfl rfl (by first | assumption | exact ⟨by decide, rfl, by decide⟩) (by with_reducible rfl) (by first | assumption | omega) ?_
          refine pw_iconst (v := nI 0) 51 rfl rfl (by decide) ?_
          refine pw_istore4 53 rfl rfl rfl ?_
          refine sheet_loop hb0 ht (fun N1 f1 e1 => ?_) 60 0 N (by decide) (fun _ _ => rfl) (fun j => by rw [if_neg (by omega)])
          refine pw_iload_n 80 rfl rfl rfl ?_
          refine pw_iret rfl rfl (kk _ _ (fun x hx => g x (by omega) (by omega) (by omega)) (fun x hx => f1 x (by omega)) (hx.shM (fun y h1 h2 => g y (by omega) (by omega) (by omega)) (fun j _ _ _ => by rw [g k (by omega) (by omega) (by omega)]) ⟨?_, ?_, st_same _ _ _ _, fun j hj => ?_⟩ (fun t' h1 h2 => ⟨?_, ?_, ?_, fun j hj => ?_⟩)))
          · rw [st_ne _ _ _ _ (by omega), st_ne _ _ _ _ (by omega), st_same]; rfl
          · rw [st_ne _ _ _ _ (by omega), st_same]
          · rw [e1, if_pos (by omega)]
          · rw [st_ne _ _ _ _ (by omega), st_ne _ _ _ _ (by omega), st_row _ _ _ _ h2]
          · rw [st_ne _ _ _ _ (by omega), st_row _ _ _ _ h2, st_ne _ _ _ _ (by omega)]
          · rw [st_row _ _ _ _ h2, st_ne _ _ _ _ (by omega), st_ne _ _ _ _ (by omega)]
          · rw [e1, if_neg (by omega)]
        · have q2 : n < 0 := Int32.not_le.mp q2
          rw [if_pos q2] at kk
          refine pw_bipush (v := (-14)) 28 rfl rfl (by decide) ?_
          exact pw_iret rfl rfl (kk.at hx)
      · rw [if_pos (Int32.not_le.mp q1)] at kk
        exact bad kk
    · refine pw_pI ?_
      rw [ix_none hn] at kk
      skip
      refine pw_if_eq_t 20 rfl rfl (by decide) ?_
      exact bad kk
  · refine pw_pI ?_
    rw [ix_none hn] at kk
    skip
    refine pw_if_eq_t 20 rfl rfl (by decide) ?_
    exact bad kk
theorem m_item {s la i : Int32} {v : Int64} (hb : isMod sh k) (hw : wfW a) (ho : okW a) (hx : modIs M N k a) (kk : mst k sh M N Q (.int (vItem a s la i v).1) (vItem a s la i v).2) : PW mX11_item 0 [.ref k, .int s, .int la, .int i, .long v, .null, .null] [] sh M N Q := by
  have hb0 := hb
  obtain ⟨b0, a1, a2, a3, a4, a5, a6, a7, a8, a9, a10, a11, a12, a13, a14, a15, a16, a17, a18, a19, a20⟩ := hb
  unfold vItem at kk
  have bad : mst k sh M N Q (.int (-1)) a → PW mX11_item 14 [.ref k, .int s, .int la, .int i, .long v, .null, .null] [] sh M N Q := by
    intro kk
    refine pw_iconst (v := (-1)) 15 rfl rfl (by decide) ?_
    exact pw_iret rfl rfl (kk.at hx)
  refine pw_iload_n 1 rfl rfl rfl ?_
  refine pw_cS1 4 rfl rfl rfl (Nat.le_of_ble_eq_true rfl) rfl rfl (Nat.le_of_ble_eq_true rfl) (c_isSheetM (fun t ht e => ?_) (fun hn => ?_))
  · refine pw_pI ?_
    subst e
    rw [ix_some ht (by decide)] at kk
    skip
    refine pw_if_eq_f 7 rfl rfl (by decide) ?_
    refine pw_iload_n 8 rfl rfl rfl ?_
    refine pw_cS1 11 rfl rfl rfl (Nat.le_of_ble_eq_true rfl) rfl rfl (Nat.le_of_ble_eq_true rfl) (c_isLaneM (fun l hl e => ?_) (fun hn => ?_))
    · refine pw_pI ?_
      subst e
      rw [ix_some hl (by decide)] at kk
      simp only at kk
      skip
      refine pw_if_ne_t 16 rfl rfl (by decide) ?_
      refine pw_aload_n 17 rfl rfl rfl ?_
      refine pw_iload_n 18 rfl rfl rfl ?_
      refine pw_iload_n 19 rfl rfl rfl ?_
      refine pw_iload_n 20 rfl rfl rfl ?_
      refine pw_iconst (v := nI 1) 21 rfl rfl (by decide) ?_
      refine pw_cV4 24 rfl rfl (by first | assumption | exact ⟨by decide, rfl⟩) rfl (Nat.le_of_ble_eq_true rfl) rfl rfl (Nat.le_of_ble_eq_true rfl) (c_finds hb0 ho ht hx ?_)
      refine pw_pI ?_
      by_cases q : rfs (a.shs t) (nI l) i (nI 1) = 0
      · rw [if_neg (fun h => h q)] at kk
        obtain ⟨x, y, hxy, rfl, ey⟩ := rfs_0 q
        obtain ⟨o1, o2⟩ := ho.2.2 t ht
        have hy1 : 1 = y := (nI_eq (by decide) (by omega)).mp ey
        subst hy1
        obtain ⟨s1, s2, s3, s4⟩ := hx.2.2.2.2.2.2.2 t ht
        have el : (a.shs t).2.1 = l := by
          unfold rfs at q
          by_cases q1 : (a.shs t).1 = false
          · rw [if_pos q1] at q; exact absurd q (by decide)
          · rw [if_neg q1] at q
            by_cases q2 : nI (a.shs t).2.1 ≠ nI l
            · rw [if_pos q2] at q; exact absurd q (by decide)
            · exact (nI_eq (by omega) (by omega)).mp (Decidable.not_not.mp q2)
        rw [nI_clamp (by omega), el] at kk
        have y1 : 60 * t + x < 240 := by omega
        rw [q]
        refine pw_istore6 26 rfl rfl rfl ?_
        refine pw_iload 28 rfl rfl rfl ?_
        refine pw_if_ge_t 34 rfl rfl (by decide) ?_
        refine pw_aload_n 35 rfl rfl rfl ?_
        refine pw_getR 38 rfl rfl (by first | assumption | exact ⟨by decide, rfl⟩) rfl ?_
        refine pw_bipush (v := nI 60) 40 rfl rfl (by decide) ?_
        refine pw_iload_n 41 rfl rfl rfl ?_
        first | refine pw_imulN 42 rfl rfl (by with_reducible rfl) (by with_reducible rfl) ?_ | refine pw_imul 42 rfl rfl ?_
        refine pw_iload_n 43 rfl rfl rfl ?_
        first | refine pw_iaddN 44 rfl rfl (by with_reducible rfl) (by with_reducible rfl) ?_ | refine pw_iadd 44 rfl rfl ?_
        refine pw_iload_n 45 rfl rfl rfl ?_
        refine pw_lload 47 rfl rfl rfl ?_
        refine pw_cS2 50 rfl rfl rfl (Nat.le_of_ble_eq_true rfl) rfl rfl (Nat.le_of_ble_eq_true rfl) (c_cut hl ?_)
        refine pw_pJ ?_
        refine pw_last _ 51 rfl rfl (by first | assumption | exact ⟨by decide, rfl, by decide⟩) (by with_reducible rfl) (by first | assumption | omega) ?_
        refine pw_iconst (v := nI 1) 52 rfl rfl (by decide) ?_
        refine pw_iret rfl rfl (kk _ _ fr.rf (fun x hx => sl_ne _ _ _ _ (by omega)) (hx.shM (fun _ _ _ => rfl) (fun _ _ _ _ => rfl) ⟨s1, by rw [s2, el]; show _ = nI (a.shs t).2.1; rw [el], s3, fun j hj => ?_⟩ (fun t' h1 h2 => ⟨rfl, rfl, rfl, fun j hj => sl_row _ _ _ _ (by omega)⟩)))
        show _ = if j = x then _ else _
        by_cases qj : j = x
        · subst qj; rw [sl_same, if_pos rfl]
        · rw [sl_row _ _ _ _ (by omega), if_neg qj]; exact s4 j hj
      · rw [if_pos q] at kk
        have hneg := rfs_neg q
        refine pw_istore6 26 rfl rfl rfl ?_
        refine pw_iload 28 rfl rfl rfl ?_
        refine pw_if_ge_f 31 rfl rfl (Int32.not_le.mpr hneg) ?_
        refine pw_iload 33 rfl rfl rfl ?_
        exact pw_iret rfl rfl (kk.at hx)
    · refine pw_pI ?_
      rw [ix_none hn] at kk
      skip
      refine pw_if_ne_f 14 rfl rfl (by decide) ?_
      exact bad kk
  · refine pw_pI ?_
    rw [ix_none hn] at kk
    skip
    refine pw_if_eq_t 14 rfl rfl (by decide) ?_
    exact bad kk
theorem filmM_loop {t i w : Nat} {la x5 : Int32} {xs : List Int32} (hb : isMod sh k) (ht : t < 4) (hi : i + xs.length ≤ 60) (h24 : M k 24 = nI xs.length) (hxs : (w = 0 ∧ ∀ q, q < xs.length → M (k + 15) q = xs.getD q 0) ∨ (w = 1 ∧ ∀ q, q < xs.length → M (k + 16) q = xs.getD q 0))
    (kk : ∀ N', (∀ x, x ≠ k + 11 → N' x = N x) → (∀ j, N' (k + 11) j = if 60 * t + i ≤ j ∧ j < 60 * t + i + xs.length then (xs.getD (j - (60 * t + i)) 0).toInt64 else N (k + 11) j) → Q (some (.int (nI xs.length))) sh M N') :
    ∀ (d q : Nat) (N1 : pmN), q + d = xs.length → (∀ x, x ≠ k + 11 → N1 x = N x) → (∀ j, N1 (k + 11) j = if 60 * t + i ≤ j ∧ j < 60 * t + i + q then (xs.getD (j - (60 * t + i)) 0).toInt64 else N (k + 11) j) → PW mX11_film 56 [.ref k, .int (nI w), .int (nI t), .int la, .int (nI i), .int x5, .int (nI q)] [] sh M N1 Q := by
  obtain ⟨b0, a1, a2, a3, a4, a5, a6, a7, a8, a9, a10, a11, a12, a13, a14, a15, a16, a17, a18, a19, a20⟩ := hb
  intro d
  induction d with
  | zero =>
    intro q N1 hq hf hv
    have : q = xs.length := by omega
    subst this
    refine pw_iload 58 rfl rfl rfl ?_
    refine pw_aload_n 59 rfl rfl rfl ?_
    refine pw_getI 62 rfl rfl (by first | assumption | exact ⟨by decide, rfl⟩) rfl ?_
    rw [h24]
    refine pw_icmp_ge_t 109 rfl rfl (nI_le (Nat.le_refl _) (by omega)) ?_
    refine pw_aload_n 110 rfl rfl rfl ?_
    refine pw_getI 113 rfl rfl (by first | assumption | exact ⟨by decide, rfl⟩) rfl ?_
    rw [h24]
    exact pw_iret rfl rfl (kk N1 hf hv)
  | succ d ih =>
    intro q N1 hq hf hv
    have y1 : 60 * t + i + q < 240 := by omega
    have y2 : q < 360 := by omega
    have step : PW mX11_film 56 [.ref k, .int (nI w), .int (nI t), .int la, .int (nI i), .int x5, .int (nI (q + 1))] [] sh M (pmStL N1 (k + 11) (60 * t + i + q) (xs.getD q 0).toInt64) Q := by
      refine ih (q + 1) _ (by omega) (fun x hx => by rw [sl_ne _ _ _ _ hx, hf x hx]) (fun j => ?_)
      by_cases qj : j = 60 * t + i + q
      · subst qj
        rw [sl_same, if_pos (by omega), Nat.add_sub_cancel_left]
      · rw [sl_row _ _ _ _ qj, hv j]
        by_cases q2 : 60 * t + i ≤ j ∧ j < 60 * t + i + q
        · rw [if_pos q2, if_pos (by omega)]
        · rw [if_neg q2, if_neg (by omega)]
    refine pw_iload 58 rfl rfl rfl ?_
    refine pw_aload_n 59 rfl rfl rfl ?_
    refine pw_getI 62 rfl rfl (by first | assumption | exact ⟨by decide, rfl⟩) rfl ?_
    rw [h24]
    refine pw_icmp_ge_f 65 rfl rfl (nI_ge (by omega) (by omega)) ?_
    rcases hxs with ⟨rfl, hv2⟩ | ⟨rfl, hv2⟩
    · refine pw_aload_n 66 rfl rfl rfl ?_
      refine pw_getR 69 rfl rfl (by first | assumption | exact ⟨by decide, rfl⟩) rfl ?_
      refine pw_bipush (v := nI 60) 71 rfl rfl (by decide) ?_
      refine pw_iload_n 72 rfl rfl rfl ?_
      first | refine pw_imulN 73 rfl rfl (by with_reducible rfl) (by with_reducible rfl) ?_ | refine pw_imul 73 rfl rfl ?_
      refine pw_iload 75 rfl rfl rfl ?_
      first | refine pw_iaddN 76 rfl rfl (by with_reducible rfl) (by with_reducible rfl) ?_ | refine pw_iadd 76 rfl rfl ?_
      refine pw_iload 78 rfl rfl rfl ?_
      first | refine pw_iaddN 79 rfl rfl (by with_reducible rfl) (by with_reducible rfl) ?_ | refine pw_iadd 79 rfl rfl ?_
      refine pw_iload_n 80 rfl rfl rfl ?_
      refine pw_if_ne_f 83 rfl rfl (fun e => e rfl) ?_
      refine pw_aload_n 84 rfl rfl rfl ?_
      refine pw_getR 87 rfl rfl (by first | assumption | exact ⟨by decide, rfl⟩) rfl ?_
      refine pw_iload 89 rfl rfl rfl ?_
      refine pw_iald _ 90 rfl rfl (by first | assumption | exact ⟨by decide, rfl, by decide⟩) (by with_reducible rfl) (by first | assumption | omega) ?_
      rw [hv2 q (by omega)]
      refine pw_i2l 91 rfl rfl ?_
      refine pw_goto rfl 102 rfl ?_
      refine pw_last _ 103 rfl rfl (by first | assumption | exact ⟨by decide, rfl, by decide⟩) (by with_reducible rfl) (by first | assumption | omega) ?_
      first | refine pw_iincN6 106 rfl rfl rfl (by with_reducible rfl) ?_ | refine pw_iinc6 (w := _) 106 rfl rfl rfl rfl ?_
      refine pw_goto rfl 56 rfl ?_
      exact step
    · refine pw_aload_n 66 rfl rfl rfl ?_
      refine pw_getR 69 rfl rfl (by first | assumption | exact ⟨by decide, rfl⟩) rfl ?_
      refine pw_bipush (v := nI 60) 71 rfl rfl (by decide) ?_
      refine pw_iload_n 72 rfl rfl rfl ?_
      first | refine pw_imulN 73 rfl rfl (by with_reducible rfl) (by with_reducible rfl) ?_ | refine pw_imul 73 rfl rfl ?_
      refine pw_iload 75 rfl rfl rfl ?_
      first | refine pw_iaddN 76 rfl rfl (by with_reducible rfl) (by with_reducible rfl) ?_ | refine pw_iadd 76 rfl rfl ?_
      refine pw_iload 78 rfl rfl rfl ?_
      first | refine pw_iaddN 79 rfl rfl (by with_reducible rfl) (by with_reducible rfl) ?_ | refine pw_iadd 79 rfl rfl ?_
      refine pw_iload_n 80 rfl rfl rfl ?_
      refine pw_if_ne_t 94 rfl rfl (by decide) ?_
      refine pw_aload_n 95 rfl rfl rfl ?_
      refine pw_getR 98 rfl rfl (by first | assumption | exact ⟨by decide, rfl⟩) rfl ?_
      refine pw_iload 100 rfl rfl rfl ?_
      refine pw_iald _ 101 rfl rfl (by first | assumption | exact ⟨by decide, rfl, by decide⟩) (by with_reducible rfl) (by first | assumption | omega) ?_
      rw [hv2 q (by omega)]
      refine pw_i2l 102 rfl rfl ?_
      refine pw_last _ 103 rfl rfl (by first | assumption | exact ⟨by decide, rfl, by decide⟩) (by with_reducible rfl) (by first | assumption | omega) ?_
      first | refine pw_iincN6 106 rfl rfl rfl (by with_reducible rfl) ?_ | refine pw_iinc6 (w := _) 106 rfl rfl rfl rfl ?_
      refine pw_goto rfl 56 rfl ?_
      exact step
theorem m_film {w s la i : Int32} (hb : isMod sh k) (hw : wfW a) (ho : okW a) (hx : modIs M N k a) (kk : mst k sh M N Q (.int (vFilm a w s la i).1) (vFilm a w s la i).2) : PW mX11_film 0 [.ref k, .int w, .int s, .int la, .int i, .null, .null] [] sh M N Q := by
  have hb0 := hb
  obtain ⟨b0, a1, a2, a3, a4, a5, a6, a7, a8, a9, a10, a11, a12, a13, a14, a15, a16, a17, a18, a19, a20⟩ := hb
  have hms := mS_len a a.on
  unfold vFilm at kk
  have bad : mst k sh M N Q (.int (-1)) a → PW mX11_film 24 [.ref k, .int w, .int s, .int la, .int i, .null, .null] [] sh M N Q := by
    intro kk
    refine pw_iconst (v := (-1)) 25 rfl rfl (by decide) ?_
    exact pw_iret rfl rfl (kk.at hx)
  refine pw_iload_n 1 rfl rfl rfl ?_
  refine pw_i2l 2 rfl rfl ?_
  refine pw_lconst (v := lN 0) 3 rfl rfl (by decide) ?_
  refine pw_lconst (v := lN 1) 4 rfl rfl (by decide) ?_
  refine pw_cS3 7 rfl rfl rfl (Nat.le_of_ble_eq_true rfl) rfl rfl (Nat.le_of_ble_eq_true rfl) (c_inX (b := 0) (c := 2) (by decide) (by decide) rfl (fun j h1 hj e => ?_) (fun hn => ?_))
  · refine pw_pI ?_
    subst e
    rw [ix_some hj (by decide)] at kk
    skip
    refine pw_if_eq_f 10 rfl rfl (by decide) ?_
    refine pw_iload_n 11 rfl rfl rfl ?_
    refine pw_cS1 14 rfl rfl rfl (Nat.le_of_ble_eq_true rfl) rfl rfl (Nat.le_of_ble_eq_true rfl) (c_isSheetM (fun t ht e => ?_) (fun hn => ?_))
    · refine pw_pI ?_
      subst e
      rw [ix_some ht (by decide)] at kk
      skip
      refine pw_if_eq_f 17 rfl rfl (by decide) ?_
      refine pw_iload_n 18 rfl rfl rfl ?_
      refine pw_cS1 21 rfl rfl rfl (Nat.le_of_ble_eq_true rfl) rfl rfl (Nat.le_of_ble_eq_true rfl) (c_isLaneM (fun l hl e => ?_) (fun hn => ?_))
      · refine pw_pI ?_
        subst e
        rw [ix_some hl (by decide)] at kk
        simp only at kk
        skip
        refine pw_if_ne_t 26 rfl rfl (by decide) ?_
        refine pw_aload_n 27 rfl rfl rfl ?_
        refine pw_cV0 30 rfl rfl (by first | assumption | exact ⟨by decide, rfl⟩) rfl (Nat.le_of_ble_eq_true rfl) rfl rfl (Nat.le_of_ble_eq_true rfl) (c_comesNow hb0 hw ho hx (fun M1 f1 x1 g1 => ?_))
        refine pw_pI ?_
        have hlen : (if j = 0 then a.mL a.on else a.mS a.on).length = (a.mL a.on).length := by
          by_cases q : j = 0
          · rw [if_pos q]
          · rw [if_neg q]; exact hms
        rw [hlen] at kk
        refine pw_pop 31 rfl rfl rfl ?_
        refine pw_aload_n 32 rfl rfl rfl ?_
        refine pw_iload_n 33 rfl rfl rfl ?_
        refine pw_iload_n 34 rfl rfl rfl ?_
        refine pw_iload 36 rfl rfl rfl ?_
        refine pw_aload_n 37 rfl rfl rfl ?_
        refine pw_getI 40 rfl rfl (by first | assumption | exact ⟨by decide, rfl⟩) rfl ?_
        rw [g1.1]
        refine pw_cV4 43 rfl rfl (by first | assumption | exact ⟨by decide, rfl⟩) rfl (Nat.le_of_ble_eq_true rfl) rfl rfl (Nat.le_of_ble_eq_true rfl) (c_finds hb0 ho ht x1 ?_)
        refine pw_pI ?_
        by_cases q : rfs (a.shs t) (nI l) i (nI (a.mL a.on).length) = 0
        · rw [if_neg (fun h => h q)] at kk
          obtain ⟨x, y, hxy, rfl, ey⟩ := rfs_0 q
          obtain ⟨o1, o2⟩ := ho.2.2 t ht
          have hml := mL_360 ho a.on
          have hy1 : (a.mL a.on).length = y := (nI_eq (by omega) (by omega)).mp ey
          obtain ⟨s1, s2, s3, s4⟩ := x1.2.2.2.2.2.2.2 t ht
          rw [nI_clamp (by omega)] at kk
          rw [q]
          refine pw_istore5 45 rfl rfl rfl ?_
          refine pw_iload 47 rfl rfl rfl ?_
          refine pw_if_ge_t 53 rfl rfl (by decide) ?_
          refine pw_iconst (v := nI 0) 54 rfl rfl (by decide) ?_
          refine pw_istore6 56 rfl rfl rfl ?_
          refine filmM_loop (xs := if j = 0 then a.mL a.on else a.mS a.on) hb0 ht (by rw [hlen]; omega) (by rw [hlen]; exact g1.1) ?_ (fun N1 f2 e2 => ?_) _ 0 N (by rw [Nat.zero_add]) (fun _ _ => rfl) (fun j => by rw [if_neg (by omega)])
          · rcases (show j = 0 ∨ j = 1 by omega) with rfl | rfl
            · exact Or.inl ⟨rfl, fun q hq => (g1.2.1 q hq).1⟩
            · exact Or.inr ⟨rfl, fun q hq => (g1.2.1 q (by rw [hlen] at hq; exact hq)).2⟩
          · rw [hlen]
            refine kk M1 N1 f1 (fun x hx => f2 x (by omega)) (x1.shM (fun _ _ _ => rfl) (fun _ _ _ _ => rfl) ⟨s1, s2, s3, fun z hz => ?_⟩ (fun t' h1 h2 => ⟨rfl, rfl, rfl, fun z hz => ?_⟩))
            · show _ = if x ≤ z ∧ z < x + _ then _ else _
              rw [e2]
              by_cases q2 : x ≤ z ∧ z < x + (if j = 0 then a.mL a.on else a.mS a.on).length
              · rw [if_pos q2, if_pos (by omega), show 60 * t + z - (60 * t + x) = z - x by omega]
              · rw [if_neg q2, if_neg (by omega)]; exact s4 z hz
            · rw [e2, if_neg (by rw [hlen]; omega)]
        · rw [if_pos q] at kk
          have hneg := rfs_neg q
          refine pw_istore5 45 rfl rfl rfl ?_
          refine pw_iload 47 rfl rfl rfl ?_
          refine pw_if_ge_f 50 rfl rfl (Int32.not_le.mpr hneg) ?_
          refine pw_iload 52 rfl rfl rfl ?_
          exact pw_iret rfl rfl (kk.go f1 x1)
      · refine pw_pI ?_
        rw [ix_none hn] at kk
        skip
        refine pw_if_ne_f 24 rfl rfl (by decide) ?_
        exact bad kk
    · refine pw_pI ?_
      rw [ix_none hn] at kk
      skip
      refine pw_if_eq_t 24 rfl rfl (by decide) ?_
      exact bad kk
  · refine pw_pI ?_
    rw [ix_none (fun j hj => hn j (Nat.zero_le j) hj)] at kk
    skip
    refine pw_if_eq_t 24 rfl rfl (by decide) ?_
    exact bad kk
theorem copy_one {s i n : Nat} {x3 x4 x6 : Int32} (hb : isMod sh k) (hs : s < 4) (hi : i + n ≤ 60) (kk : ∀ N', (∀ x, x ≠ k + 12 → N' x = N x) → (∀ j, j < n → N' (k + 12) j = N (k + 11) (60 * s + i + j)) → PW mX11_copy 143 [.ref k, .int (nI s), .int (nI i), .int x3, .int x4, .int (nI n), .int x6, .int (nI n)] [] sh M N' Q) :
    ∀ (d q : Nat) (N1 : pmN), q + d = n → (∀ x, x ≠ k + 12 → N1 x = N x) → (∀ j, j < q → N1 (k + 12) j = N (k + 11) (60 * s + i + j)) → PW mX11_copy 109 [.ref k, .int (nI s), .int (nI i), .int x3, .int x4, .int (nI n), .int x6, .int (nI q)] [] sh M N1 Q := by
  obtain ⟨b0, a1, a2, a3, a4, a5, a6, a7, a8, a9, a10, a11, a12, a13, a14, a15, a16, a17, a18, a19, a20⟩ := hb
  intro d
  induction d with
  | zero =>
    intro q N1 hq hf hv
    have : q = n := by omega
    subst this
    refine pw_iload 111 rfl rfl rfl ?_
    refine pw_iload 113 rfl rfl rfl ?_
    refine pw_icmp_ge_t 143 rfl rfl (nI_le (Nat.le_refl _) (by omega)) ?_
    exact kk N1 hf hv
  | succ d ih =>
    intro q N1 hq hf hv
    have y1 : 60 * s + i + q < 240 := by omega
    have y2 : q < 60 := by omega
    refine pw_iload 111 rfl rfl rfl ?_
    refine pw_iload 113 rfl rfl rfl ?_
    refine pw_icmp_ge_f 116 rfl rfl (nI_ge (by omega) (by omega)) ?_
    refine pw_aload_n 117 rfl rfl rfl ?_
    refine pw_getR 120 rfl rfl (by first | assumption | exact ⟨by decide, rfl⟩) rfl ?_
    refine pw_iload 122 rfl rfl rfl ?_
    refine pw_aload_n 123 rfl rfl rfl ?_
    refine pw_getR 126 rfl rfl (by first | assumption | exact ⟨by decide, rfl⟩) rfl ?_
    refine pw_bipush (v := nI 60) 128 rfl rfl (by decide) ?_
    refine pw_iload_n 129 rfl rfl rfl ?_
    first | refine pw_imulN 130 rfl rfl (by with_reducible rfl) (by with_reducible rfl) ?_ | refine pw_imul 130 rfl rfl ?_
    refine pw_iload_n 131 rfl rfl rfl ?_
    first | refine pw_iaddN 132 rfl rfl (by with_reducible rfl) (by with_reducible rfl) ?_ | refine pw_iadd 132 rfl rfl ?_
    refine pw_iload 134 rfl rfl rfl ?_
    first | refine pw_iaddN 135 rfl rfl (by with_reducible rfl) (by with_reducible rfl) ?_ | refine pw_iadd 135 rfl rfl ?_
    refine pw_lald _ 136 rfl rfl (by first | assumption | exact ⟨by decide, rfl, by decide⟩) (by with_reducible rfl) (by first | assumption | omega) ?_
    refine pw_last _ 137 rfl rfl (by first | assumption | exact ⟨by decide, rfl, by decide⟩) (by with_reducible rfl) (by first | assumption | omega) ?_
    first | refine pw_iincN7 140 rfl rfl rfl (by with_reducible rfl) ?_ | refine pw_iinc7 (w := _) 140 rfl rfl rfl rfl ?_
    refine pw_goto rfl 109 rfl ?_
    refine ih (q + 1) _ (by omega) (fun x hx => by rw [sl_ne _ _ _ _ hx, hf x hx]) (fun j hj => ?_)
    by_cases qj : j = q
    · subst qj
      rw [sl_same, hf (k + 11) (by omega)]
    · rw [sl_row _ _ _ _ qj]; exact hv j (by omega)
theorem copy_two {t i n : Nat} {x1 x2 x6 : Int32} (hb : isMod sh k) (ht : t < 4) (hi : i + n ≤ 60) (kk : ∀ N', (∀ x, x ≠ k + 11 → N' x = N x) → (∀ j, N' (k + 11) j = if 60 * t + i ≤ j ∧ j < 60 * t + i + n then N (k + 12) (j - (60 * t + i)) else N (k + 11) j) → Q (some (.int (nI n))) sh M N') :
    ∀ (d q : Nat) (N1 : pmN), q + d = n → (∀ x, x ≠ k + 11 → N1 x = N x) → (∀ j, N1 (k + 11) j = if 60 * t + i ≤ j ∧ j < 60 * t + i + q then N (k + 12) (j - (60 * t + i)) else N (k + 11) j) → PW mX11_copy 146 [.ref k, .int x1, .int x2, .int (nI t), .int (nI i), .int (nI n), .int x6, .int (nI q)] [] sh M N1 Q := by
  obtain ⟨b0, a1, a2, a3, a4, a5, a6, a7, a8, a9, a10, a11, a12, a13, a14, a15, a16, a17, a18, a19, a20⟩ := hb
  intro d
  induction d with
  | zero =>
    intro q N1 hq hf hv
    have : q = n := by omega
    subst this
    refine pw_iload 148 rfl rfl rfl ?_
    refine pw_iload 150 rfl rfl rfl ?_
    refine pw_icmp_ge_t 181 rfl rfl (nI_le (Nat.le_refl _) (by omega)) ?_
    refine pw_iload 183 rfl rfl rfl ?_
    exact pw_iret rfl rfl (kk N1 hf hv)
  | succ d ih =>
    intro q N1 hq hf hv
    have y1 : 60 * t + i + q < 240 := by omega
    have y2 : q < 60 := by omega
    refine pw_iload 148 rfl rfl rfl ?_
    refine pw_iload 150 rfl rfl rfl ?_
    refine pw_icmp_ge_f 153 rfl rfl (nI_ge (by omega) (by omega)) ?_
    refine pw_aload_n 154 rfl rfl rfl ?_
    refine pw_getR 157 rfl rfl (by first | assumption | exact ⟨by decide, rfl⟩) rfl ?_
    refine pw_bipush (v := nI 60) 159 rfl rfl (by decide) ?_
    refine pw_iload_n 160 rfl rfl rfl ?_
    first | refine pw_imulN 161 rfl rfl (by with_reducible rfl) (by with_reducible rfl) ?_ | refine pw_imul 161 rfl rfl ?_
    refine pw_iload 163 rfl rfl rfl ?_
    first | refine pw_iaddN 164 rfl rfl (by with_reducible rfl) (by with_reducible rfl) ?_ | refine pw_iadd 164 rfl rfl ?_
    refine pw_iload 166 rfl rfl rfl ?_
    first | refine pw_iaddN 167 rfl rfl (by with_reducible rfl) (by with_reducible rfl) ?_ | refine pw_iadd 167 rfl rfl ?_
    refine pw_aload_n 168 rfl rfl rfl ?_
    refine pw_getR 171 rfl rfl (by first | assumption | exact ⟨by decide, rfl⟩) rfl ?_
    refine pw_iload 173 rfl rfl rfl ?_
    refine pw_lald _ 174 rfl rfl (by first | assumption | exact ⟨by decide, rfl, by decide⟩) (by with_reducible rfl) (by first | assumption | omega) ?_
    refine pw_last _ 175 rfl rfl (by first | assumption | exact ⟨by decide, rfl, by decide⟩) (by with_reducible rfl) (by first | assumption | omega) ?_
    first | refine pw_iincN7 178 rfl rfl rfl (by with_reducible rfl) ?_ | refine pw_iinc7 (w := _) 178 rfl rfl rfl rfl ?_
    refine pw_goto rfl 146 rfl ?_
    refine ih (q + 1) _ (by omega) (fun x hx => by rw [sl_ne _ _ _ _ hx, hf x hx]) (fun j => ?_)
    by_cases qj : j = 60 * t + i + q
    · subst qj
      rw [sl_same, hf (k + 12) (by omega), if_pos (by omega), Nat.add_sub_cancel_left]
    · rw [sl_row _ _ _ _ qj, hv j]
      by_cases q2 : 60 * t + i ≤ j ∧ j < 60 * t + i + q
      · rw [if_pos q2, if_pos (by omega)]
      · rw [if_neg q2, if_neg (by omega)]
theorem m_copy {s i t j n : Int32} (hb : isMod sh k) (hw : wfW a) (ho : okW a) (hx : modIs M N k a) (kk : mst k sh M N Q (.int (vCopy a s i t j n).1) (vCopy a s i t j n).2) : PW mX11_copy 0 [.ref k, .int s, .int i, .int t, .int j, .int n, .null, .null] [] sh M N Q := by
  have hb0 := hb
  obtain ⟨b0, a1, a2, a3, a4, a5, a6, a7, a8, a9, a10, a11, a12, a13, a14, a15, a16, a17, a18, a19, a20⟩ := hb
  unfold vCopy at kk
  have bad : mst k sh M N Q (.int (-1)) a → PW mX11_copy 14 [.ref k, .int s, .int i, .int t, .int j, .int n, .null, .null] [] sh M N Q := by
    intro kk
    refine pw_iconst (v := (-1)) 15 rfl rfl (by decide) ?_
    exact pw_iret rfl rfl (kk.at hx)
  refine pw_iload_n 1 rfl rfl rfl ?_
  refine pw_cS1 4 rfl rfl rfl (Nat.le_of_ble_eq_true rfl) rfl rfl (Nat.le_of_ble_eq_true rfl) (c_isSheetM (fun u hu e => ?_) (fun hn => ?_))
  · refine pw_pI ?_
    subst e
    rw [ix_some hu (by decide)] at kk
    skip
    refine pw_if_eq_f 7 rfl rfl (by decide) ?_
    refine pw_iload_n 8 rfl rfl rfl ?_
    refine pw_cS1 11 rfl rfl rfl (Nat.le_of_ble_eq_true rfl) rfl rfl (Nat.le_of_ble_eq_true rfl) (c_isSheetM (fun v hv e => ?_) (fun hn => ?_))
    · refine pw_pI ?_
      subst e
      rw [ix_some hv (by decide)] at kk
      simp only at kk
      obtain ⟨s1, s2, s3, s4⟩ := hx.2.2.2.2.2.2.2 u hu
      obtain ⟨r1, r2, r3, r4⟩ := hx.2.2.2.2.2.2.2 v hv
      obtain ⟨o1, o2⟩ := ho.2.2 u hu
      obtain ⟨o3, o4⟩ := ho.2.2 v hv
      have nul : ¬ ((a.shs u).1 = true ∧ (a.shs v).1 = true) → PW mX11_copy 34 [.ref k, .int (nI u), .int i, .int (nI v), .int j, .int n, .null, .null] [] sh M N Q := by
        intro h
        rw [if_pos h] at kk
        refine pw_bipush (v := (-11)) 36 rfl rfl (by decide) ?_
        exact pw_iret rfl rfl (kk.at hx)
      skip
      refine pw_if_ne_t 16 rfl rfl (by decide) ?_
      refine pw_aload_n 17 rfl rfl rfl ?_
      refine pw_getR 20 rfl rfl (by first | assumption | exact ⟨by decide, rfl⟩) rfl ?_
      refine pw_iload_n 21 rfl rfl rfl ?_
      refine pw_zald _ 22 rfl rfl (by first | assumption | exact ⟨by decide, rfl, by decide⟩) (by with_reducible rfl) (by first | assumption | omega) ?_
      rw [s1]
      cases q1 : (a.shs u).1 with
      | false =>
        skip
        refine pw_if_eq_t 34 rfl rfl (by decide) ?_
        exact nul (fun h => by rw [q1] at h; exact Bool.noConfusion h.1)
      | true =>
        skip
        refine pw_if_eq_f 25 rfl rfl (by decide) ?_
        refine pw_aload_n 26 rfl rfl rfl ?_
        refine pw_getR 29 rfl rfl (by first | assumption | exact ⟨by decide, rfl⟩) rfl ?_
        refine pw_iload_n 30 rfl rfl rfl ?_
        refine pw_zald _ 31 rfl rfl (by first | assumption | exact ⟨by decide, rfl, by decide⟩) (by with_reducible rfl) (by first | assumption | omega) ?_
        rw [r1]
        cases q2 : (a.shs v).1 with
        | false =>
          skip
          refine pw_if_ne_f 34 rfl rfl (by decide) ?_
          exact nul (fun h => by rw [q2] at h; exact Bool.noConfusion h.2)
        | true =>
          rw [if_neg (fun h => h ⟨q1, q2⟩)] at kk
          skip
          refine pw_if_ne_t 37 rfl rfl (by decide) ?_
          refine pw_aload_n 38 rfl rfl rfl ?_
          refine pw_getR 41 rfl rfl (by first | assumption | exact ⟨by decide, rfl⟩) rfl ?_
          refine pw_iload_n 42 rfl rfl rfl ?_
          refine pw_iald _ 43 rfl rfl (by first | assumption | exact ⟨by decide, rfl, by decide⟩) (by with_reducible rfl) (by first | assumption | omega) ?_
          rw [s2]
          refine pw_aload_n 44 rfl rfl rfl ?_
          refine pw_getR 47 rfl rfl (by first | assumption | exact ⟨by decide, rfl⟩) rfl ?_
          refine pw_iload_n 48 rfl rfl rfl ?_
          refine pw_iald _ 49 rfl rfl (by first | assumption | exact ⟨by decide, rfl, by decide⟩) (by with_reducible rfl) (by first | assumption | omega) ?_
          rw [r2]
          by_cases q3 : (a.shs u).2.1 = (a.shs v).2.1
          · rw [if_neg (fun h => h q3)] at kk
            rw [q3]
            have ru : rfs (a.shs u) (nI (a.shs u).2.1) i n = if hol (a.shs u).2.2.1 i n = true then 0 else -13 := by
              unfold rfs
              rw [if_neg (by rw [q1]; decide), if_neg (fun h => h rfl)]
            have rv : rfs (a.shs v) (nI (a.shs v).2.1) j n = if hol (a.shs v).2.2.1 j n = true then 0 else -13 := by
              unfold rfs
              rw [if_neg (by rw [q2]; decide), if_neg (fun h => h rfl)]
            have idx : ∀ v6 : Value, ¬ (hol (a.shs u).2.2.1 i n = true ∧ hol (a.shs v).2.2.1 j n = true) → PW mX11_copy 96 [.ref k, .int (nI u), .int i, .int (nI v), .int j, .int n, v6, .null] [.int (-13)] sh M N Q := by
              intro v6 h
              rw [if_pos h] at kk
              refine pw_istore6 98 rfl rfl rfl ?_
              refine pw_iload 100 rfl rfl rfl ?_
              refine pw_if_ge_f 103 rfl rfl (by decide) ?_
              refine pw_iload 105 rfl rfl rfl ?_
              exact pw_iret rfl rfl (kk.at hx)
            skip
            refine pw_icmp_eq_t 55 rfl rfl (rfl) ?_
            refine pw_aload_n 56 rfl rfl rfl ?_
            refine pw_iload_n 57 rfl rfl rfl ?_
            refine pw_aload_n 58 rfl rfl rfl ?_
            refine pw_getR 61 rfl rfl (by first | assumption | exact ⟨by decide, rfl⟩) rfl ?_
            refine pw_iload_n 62 rfl rfl rfl ?_
            refine pw_iald _ 63 rfl rfl (by first | assumption | exact ⟨by decide, rfl, by decide⟩) (by with_reducible rfl) (by first | assumption | omega) ?_
            refine pw_iload_n 64 rfl rfl rfl ?_
            refine pw_iload 66 rfl rfl rfl ?_
            rw [s2]
            refine pw_cV4 69 rfl rfl (by first | assumption | exact ⟨by decide, rfl⟩) rfl (Nat.le_of_ble_eq_true rfl) rfl rfl (Nat.le_of_ble_eq_true rfl) (c_finds hb0 ho hu hx ?_)
            refine pw_pI ?_
            rw [ru]
            by_cases h1 : hol (a.shs u).2.2.1 i n = true
            · rw [if_pos h1]
              refine pw_istore6 71 rfl rfl rfl ?_
              refine pw_iload 73 rfl rfl rfl ?_
              refine pw_if_ge_t 81 rfl rfl (by decide) ?_
              refine pw_aload_n 82 rfl rfl rfl ?_
              refine pw_iload_n 83 rfl rfl rfl ?_
              refine pw_aload_n 84 rfl rfl rfl ?_
              refine pw_getR 87 rfl rfl (by first | assumption | exact ⟨by decide, rfl⟩) rfl ?_
              refine pw_iload_n 88 rfl rfl rfl ?_
              refine pw_iald _ 89 rfl rfl (by first | assumption | exact ⟨by decide, rfl, by decide⟩) (by with_reducible rfl) (by first | assumption | omega) ?_
              refine pw_iload 91 rfl rfl rfl ?_
              refine pw_iload 93 rfl rfl rfl ?_
              rw [r2]
              refine pw_cV4 96 rfl rfl (by first | assumption | exact ⟨by decide, rfl⟩) rfl (Nat.le_of_ble_eq_true rfl) rfl rfl (Nat.le_of_ble_eq_true rfl) (c_finds hb0 ho hv hx ?_)
              refine pw_pI ?_
              rw [rv]
              by_cases h2 : hol (a.shs v).2.2.1 j n = true
              · rw [if_pos h2]
                rw [if_neg (fun h => h ⟨h1, h2⟩)] at kk
                obtain ⟨x, y, hxy, rfl, rfl⟩ := hol_ex h1
                obtain ⟨x', y', hxy', rfl, ey⟩ := hol_ex h2
                have : y = y' := (nI_eq (by omega) (by omega)).mp ey
                subst this
                rw [nI_clamp (by omega), nI_clamp (by omega), nI_clamp (by omega)] at kk
                refine pw_istore6 98 rfl rfl rfl ?_
                refine pw_iload 100 rfl rfl rfl ?_
                refine pw_if_ge_t 106 rfl rfl (by decide) ?_
                refine pw_iconst (v := nI 0) 107 rfl rfl (by decide) ?_
                refine pw_istore7 109 rfl rfl rfl ?_
                refine copy_one hb0 hu (by omega) (fun N1 f1 e1 => ?_) _ 0 N (Nat.zero_add _) (fun _ _ => rfl) (fun j hj => absurd hj (Nat.not_lt_zero j))
                refine pw_iconst (v := nI 0) 144 rfl rfl (by decide) ?_
                refine pw_istore7 146 rfl rfl rfl ?_
                refine copy_two hb0 hv (by omega) (fun N2 f2 e2 => ?_) _ 0 N1 (Nat.zero_add _) (fun _ _ => rfl) (fun j => by rw [if_neg (by omega)])
                refine kk M N2 fr.rf (fun x hx => by rw [f2 x (by omega), f1 x (by omega)]) (hx.shM (fun _ _ _ => rfl) (fun _ _ _ _ => rfl) ⟨r1, r2, r3, fun z hz => ?_⟩ (fun t' g1 g2 => ⟨rfl, rfl, rfl, fun z hz => ?_⟩))
                · show _ = if x' ≤ z ∧ z < x' + y then _ else _
                  rw [e2]
                  by_cases q9 : x' ≤ z ∧ z < x' + y
                  · rw [if_pos q9, if_pos (by omega), show 60 * v + z - (60 * v + x') = z - x' by omega, e1 _ (by omega), Nat.add_assoc (60 * u)]
                    exact s4 _ (by omega)
                  · rw [if_neg q9, if_neg (by omega), f1 (k + 11) (by omega)]; exact r4 z hz
                · rw [e2, if_neg (by omega), f1 (k + 11) (by omega)]
              · rw [if_neg h2]
                exact idx _ (fun h => h2 h.2)
            · rw [if_neg h1]
              refine pw_istore6 71 rfl rfl rfl ?_
              refine pw_iload 73 rfl rfl rfl ?_
              refine pw_if_ge_f 76 rfl rfl (by decide) ?_
              refine pw_iload 78 rfl rfl rfl ?_
              refine pw_goto rfl 96 rfl ?_
              exact idx _ (fun h => h1 h.1)
          · rw [if_pos q3] at kk
            skip
            refine pw_icmp_eq_f 52 rfl rfl (fun e => q3 ((nI_eq (by omega) (by omega)).mp e)) ?_
            refine pw_bipush (v := (-12)) 54 rfl rfl (by decide) ?_
            exact pw_iret rfl rfl (kk.at hx)
    · refine pw_pI ?_
      rw [ix_none hn] at kk
      skip
      refine pw_if_ne_f 14 rfl rfl (by decide) ?_
      exact bad kk
  · refine pw_pI ?_
    rw [ix_none hn] at kk
    skip
    refine pw_if_eq_t 14 rfl rfl (by decide) ?_
    exact bad kk
end MSH
