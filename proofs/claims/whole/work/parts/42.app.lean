/-! FILM AND CAME -/
theorem sm_0 : sm 0 := ⟨0, by decide, rfl⟩
theorem sm_get {xs : List Int32} (h : ∀ x ∈ xs, sm x) (i : Nat) : sm (xs.getD i 0) := by
  rw [List.getD_eq_getElem?_getD]
  by_cases q : i < xs.length
  · rw [List.getElem?_eq_getElem q]; exact h _ (List.getElem_mem q)
  · rw [List.getElem?_eq_none (by omega)]; exact sm_0
theorem sm_gf {rs : List aR} (h : ∀ r ∈ rs, ∀ x ∈ r.2.2, sm x) (r : Nat) : ∀ x ∈ pGf rs r, sm x := by
  intro x hx
  unfold pGf gR at hx
  rw [List.getD_eq_getElem?_getD] at hx
  by_cases q : r < rs.length
  · rw [List.getElem?_eq_getElem q] at hx; exact h _ (List.getElem_mem q) x hx
  · rw [List.getElem?_eq_none (by omega)] at hx; cases hx
theorem sm_outL {rs : List aR} {kd : List Nat} {ls : List Int32} (h1 : ∀ x ∈ ls, sm x) (h2 : ∀ r ∈ rs, ∀ x ∈ r.2.2, sm x) (t : List (Nat × Option Nat)) : ∀ x ∈ outL rs kd ls t, sm x := by
  intro x hx
  unfold outL at hx
  obtain ⟨e, _, he⟩ := List.mem_flatMap.mp hx
  obtain ⟨p, o⟩ := e
  cases o with
  | none =>
    simp only [oL, List.mem_singleton] at he
    rw [he]; exact sm_get h1 p
  | some r =>
    simp only [oL] at he
    unfold giv at he
    split at he
    · exact sm_gf h2 r x (List.mem_reverse.mp he)
    · exact sm_gf h2 r x he
theorem sm_outS {rs : List aR} {ss : List Int32} (h1 : ∀ x ∈ ss, sm x) (t : List (Nat × Option Nat)) : ∀ x ∈ outS rs ss t, sm x := by
  intro x hx
  unfold outS at hx
  obtain ⟨e, _, he⟩ := List.mem_flatMap.mp hx
  obtain ⟨p, o⟩ := e
  cases o with
  | none =>
    simp only [oS, List.mem_singleton] at he
    rw [he]; exact sm_get h1 p
  | some r =>
    simp only [oS] at he
    rw [List.eq_of_mem_replicate he]; exact sm_get h1 p
theorem cut_v : ∀ la, la < 4 → ∀ j, j < 127 → cutL la (nI j).toInt64 = (nI j).toInt64 := by decide +kernel
theorem cut_sm {la : Nat} {x : Int32} (hl : la < 4) (h : sm x) : cutL la x.toInt64 = x.toInt64 := by
  obtain ⟨j, hj, rfl⟩ := h
  exact cut_v la hl j hj
def fil (h : aH) (i : Nat) (xs : List Int32) : aH := (h.1, h.2.1, h.2.2.1, fun x => if i ≤ x ∧ x < i + xs.length then (xs.getD (x - i) 0).toInt64 else h.2.2.2 x)
theorem fil_nil (h : aH) (i : Nat) : fil h i [] = h := by
  unfold fil
  refine Prod.ext rfl (Prod.ext rfl (Prod.ext rfl (funext fun x => ?_)))
  show (if i ≤ x ∧ x < i + ([] : List Int32).length then _ else _) = _
  rw [if_neg (by simp only [List.length_nil]; omega)]
theorem fil_succ {h : aH} {i c : Nat} {xs : List Int32} (hc : c < xs.length) : wrt (fil h i (xs.take c)) (i + c) (xs.getD c 0).toInt64 = fil h i (xs.take (c + 1)) := by
  have l1 : (xs.take c).length = c := by rw [List.length_take]; omega
  have l2 : (xs.take (c + 1)).length = c + 1 := by rw [List.length_take]; omega
  have g : ∀ m j, j < m → m ≤ xs.length → (xs.take m).getD j 0 = xs.getD j 0 := by
    intro m j h1 h2
    rw [List.getD_eq_getElem?_getD, List.getD_eq_getElem?_getD, List.getElem?_take_of_lt h1]
  unfold wrt fil
  refine Prod.ext rfl (Prod.ext rfl (Prod.ext rfl (funext fun x => ?_)))
  show (if x = i + c then _ else (if i ≤ x ∧ x < i + (xs.take c).length then _ else _)) = (if i ≤ x ∧ x < i + (xs.take (c + 1)).length then _ else _)
  rw [l1, l2]
  by_cases q : x = i + c
  · subst q
    rw [if_pos rfl, if_pos (by omega), show i + c - i = c by omega, g (c + 1) c (by omega) (by omega)]
  · rw [if_neg q]
    by_cases q2 : i ≤ x ∧ x < i + c
    · rw [if_pos q2, if_pos (by omega), g c _ (by omega) (by omega), g (c + 1) _ (by omega) (by omega)]
    · rw [if_neg q2, if_neg (by omega)]
theorem wSh2 (a : aW) (t : Nat) (x y : aH) : wSh (wSh a t x) t y = wSh a t y := by
  refine Prod.ext rfl (Prod.ext rfl (Prod.ext rfl (Prod.ext rfl (Prod.ext rfl (funext fun j => ?_)))))
  show (if j = t then y else (if j = t then x else a.shs j)) = (if j = t then y else a.shs j)
  by_cases q : j = t
  · rw [if_pos q, if_pos q]
  · rw [if_neg q, if_neg q, if_neg q]
theorem wSh0 (a : aW) (t : Nat) : wSh a t (a.shs t) = a := by
  refine Prod.ext rfl (Prod.ext rfl (Prod.ext rfl (Prod.ext rfl (Prod.ext rfl (funext fun j => ?_)))))
  show (if j = t then a.shs t else a.shs j) = a.shs j
  by_cases q : j = t
  · rw [if_pos q, q]
  · rw [if_neg q]
def vFilm (a : aW) (w s la i : Int32) : Int32 × aW := match ix w 2, ix s 4, ix la 4 with
  | some j, some t, some _ => if rfs (a.shs t) la i (nI (if j = 0 then a.mL a.on else a.mS a.on).length) ≠ 0 then (rfs (a.shs t) la i (nI (if j = 0 then a.mL a.on else a.mS a.on).length), a) else (nI (if j = 0 then a.mL a.on else a.mS a.on).length, wSh a t (fil (a.shs t) i.toNatClampNeg (if j = 0 then a.mL a.on else a.mS a.on)))
  | _, _, _ => (-1, a)
section APX
variable {sh : pmS} {M : pmM} {N : pmN} {Q : pmPost} {k : Nat} {a : aW}
theorem film_loop {t i kr : Nat} {w la r7 : Int32} {xs : List Int32} {v5 : Value} (hb : isApp sh k) (ht : t < 4) (hr : isRow sh kr 360) (hy : rowIs M kr xs) (hl : xs.length ≤ 360) (hsm : ∀ x ∈ xs, sm x) (hi : i + xs.length ≤ (a.shs t).2.2.1)
    (kk : ∀ N', (∀ x, (x < k ∨ k + 323 ≤ x) → N' x = N x) → appIs M N' k (wSh a t (fil (a.shs t) i xs)) → Q (some (.int (nI xs.length))) sh M N') :
    ∀ (d c : Nat) (N1 : pmN), c + d = xs.length → (∀ x, (x < k ∨ k + 323 ≤ x) → N1 x = N x) → appIs M N1 k (wSh a t (fil (a.shs t) i (xs.take c))) → PW mX10_film 73 [.ref k, .int w, .int (nI t), .int la, .int (nI i), v5, .ref kr, .int r7, .int (nI c)] [] sh M N1 Q := by
  obtain ⟨b0, b1, b2, b3, b4, b5, b6, b7, b8, b9, b10⟩ := hb
  have hr1 := hr.1
  have hg := sh_at k t ht
  have so := (b10 t ht).1
  intro d
  induction d with
  | zero =>
    intro c N1 hc hn hx
    rw [List.take_of_length_le (by omega)] at hx
    refine pw_iload 75 rfl rfl rfl ?_
    refine pw_aload 77 rfl rfl rfl ?_
    refine pw_cV0 80 rfl rfl (by first | assumption | exact ⟨by decide, rfl⟩) rfl (Nat.le_of_ble_eq_true rfl) rfl rfl (Nat.le_of_ble_eq_true rfl) (c_Row_size hr hy ?_)
    refine pw_pI ?_
    skip
    refine pw_icmp_ge_t 111 rfl rfl (nI_le (by omega) (by omega)) ?_
    refine pw_aload 113 rfl rfl rfl ?_
    refine pw_cV0 116 rfl rfl (by first | assumption | exact ⟨by decide, rfl⟩) rfl (Nat.le_of_ble_eq_true rfl) rfl rfl (Nat.le_of_ble_eq_true rfl) (c_Row_size hr hy ?_)
    refine pw_pI ?_
    skip
    exact pw_iret rfl rfl (kk N1 hn hx)
  | succ d ih =>
    intro c N1 hc hn hx
    have hs : shIs M N1 (k + 315 + 2 * t) (fil (a.shs t) i (xs.take c)) := by
      have := hx.2.2.2.2.2.2 t ht
      have e : (wSh a t (fil (a.shs t) i (xs.take c))).shs t = fil (a.shs t) i (xs.take c) := if_pos rfl
      rw [e] at this; exact this
    have x5 := hs.2.2.2.2.1
    have x5' : (a.shs t).2.2.1 ≤ 60 := x5
    refine pw_iload 75 rfl rfl rfl ?_
    refine pw_aload 77 rfl rfl rfl ?_
    refine pw_cV0 80 rfl rfl (by first | assumption | exact ⟨by decide, rfl⟩) rfl (Nat.le_of_ble_eq_true rfl) rfl rfl (Nat.le_of_ble_eq_true rfl) (c_Row_size hr hy ?_)
    refine pw_pI ?_
    skip
    refine pw_icmp_ge_f 83 rfl rfl (nI_ge (by omega) (by omega)) ?_
    refine pw_aload_n 84 rfl rfl rfl ?_
    refine pw_getR 87 rfl rfl (by first | assumption | exact ⟨by decide, rfl⟩) rfl ?_
    refine pw_iload_n 88 rfl rfl rfl ?_
    refine pw_aald _ 89 rfl rfl (by first | assumption | exact ⟨by decide, rfl, by decide⟩) (by decide) (by with_reducible rfl) (by first | assumption | omega) (by first | assumption | rfl) ?_
    refine pw_iload 91 rfl rfl rfl ?_
    refine pw_iload 93 rfl rfl rfl ?_
    first | refine pw_iaddN 94 rfl rfl (by with_reducible rfl) (by with_reducible rfl) ?_ | refine pw_iadd 94 rfl rfl ?_
    refine pw_aload 96 rfl rfl rfl ?_
    refine pw_iload 98 rfl rfl rfl ?_
    refine pw_cV1 101 rfl rfl (by first | assumption | exact ⟨by decide, rfl⟩) rfl (Nat.le_of_ble_eq_true rfl) rfl rfl (Nat.le_of_ble_eq_true rfl) (c_Row_get hr hy hl _ ?_)
    rw [gI_n (by omega)]
    refine pw_pI ?_
    refine pw_i2l 102 rfl rfl ?_
    refine pw_cV2 105 rfl rfl (by first | assumption | exact ⟨by decide, rfl⟩) rfl (Nat.le_of_ble_eq_true rfl) rfl rfl (Nat.le_of_ble_eq_true rfl) (c_Sheet_write (b10 t ht) hs (j := i + c) (show i + c < (a.shs t).2.2.1 by omega) (fun N2 n2 r2 => ?_))
    refine pw_pV ?_
    first | refine pw_iincN8 108 rfl rfl rfl (by with_reducible rfl) ?_ | refine pw_iinc8 (w := _) 108 rfl rfl rfl rfl ?_
    refine pw_goto rfl 73 rfl ?_
    have e9 : cutL (fil (a.shs t) i (xs.take c)).2.1 (xs.getD c 0).toInt64 = (xs.getD c 0).toInt64 := cut_sm hs.2.2.2.1 (sm_get hsm c)
    rw [e9, fil_succ (by omega)] at r2
    have x9 := hx.sh ht fr.rf n2 r2
    rw [wSh2] at x9
    exact ih (c + 1) N2 (by omega) (fun x hx => by rw [n2 x (by omega)]; exact hn x hx) x9
theorem c_film {w s la i : Int32} (hb : isApp sh k) (hw : wfW a) (hx : appIs M N k a) (kk : pst k sh M N Q (.int (vFilm a w s la i).1) (vFilm a w s la i).2) : PW mX10_film 0 [.ref k, .int w, .int s, .int la, .int i, .null, .null, .null, .null] [] sh M N Q := by
  have hb0 := hb
  obtain ⟨b0, b1, b2, b3, b4, b5, b6, b7, b8, b9, b10⟩ := hb
  have w6 := b6.2.2.2.2.2.2
  have w6' := w6.1
  have m1 := w6.2.1
  have m2 := w6.2.2
  have m1' := m1.1
  have m2' := m2.1
  have hml := mL_le hx a.on
  have hms := mS_len a a.on
  have smS := hw.2.2.2.1
  unfold vFilm at kk
  have bad : pst k sh M N Q (.int (-1)) a → PW mX10_film 16 [.ref k, .int w, .int s, .int la, .int i, .null, .null, .null, .null] [] sh M N Q := by
    intro kk
    refine pw_iconst (v := (-1)) 17 rfl rfl (by decide) ?_
    exact pw_iret rfl rfl (kk.at hx)
  refine pw_iload_n 1 rfl rfl rfl ?_
  refine pw_iconst (v := nI 2) 2 rfl rfl (by decide) ?_
  refine pw_cS2 5 rfl rfl rfl (Nat.le_of_ble_eq_true rfl) rfl rfl (Nat.le_of_ble_eq_true rfl) (c_isWithin (by decide) (fun j hj e => ?_) (fun hn => ?_))
  · refine pw_pI ?_
    subst e
    rw [ix_some hj (by decide)] at kk
    skip
    refine pw_if_eq_f 8 rfl rfl (by decide) ?_
    refine pw_iload_n 9 rfl rfl rfl ?_
    refine pw_iload_n 10 rfl rfl rfl ?_
    refine pw_cS2 13 rfl rfl rfl (Nat.le_of_ble_eq_true rfl) rfl rfl (Nat.le_of_ble_eq_true rfl) (c_isLaneOfSheet (fun t l ht hl e1 e2 => ?_) (fun hn => ?_))
    · refine pw_pI ?_
      subst e1
      rw [ix_some ht (by decide), show ix la 4 = some l by rw [e2]; exact ix_some hl (by decide)] at kk
      simp only at kk
      have hg := sh_at k t ht
      have so := (b10 t ht).1
      skip
      refine pw_if_ne_t 18 rfl rfl (by decide) ?_
      refine pw_aload_n 19 rfl rfl rfl ?_
      refine pw_cV0 22 rfl rfl (by first | assumption | exact ⟨by decide, rfl⟩) rfl (Nat.le_of_ble_eq_true rfl) rfl rfl (Nat.le_of_ble_eq_true rfl) (c_whatComes hb0 hw hx (fun M1 f1 g1 x1 => ?_))
      refine pw_pR ?_
      have f1' := f1.wk (c := k) (d := k + 323) (by omega) (by omega)
      have hs := x1.2.2.2.2.2.2 t ht
      have mid : ∀ (kr : Nat) (xs : List Int32), isRow sh kr 360 → rowIs M1 kr xs → xs.length ≤ 360 → (∀ x ∈ xs, sm x) → (if j = 0 then a.mL a.on else a.mS a.on) = xs → PW mX10_film 43 [.ref k, .int (nI j), .int (nI t), .int la, .int i, .ref (k + 302), .ref kr, .null, .null] [] sh M1 N Q := by
        intro kr xs hr hy hl hsm e
        rw [e] at kk
        have hr1 := hr.1
        refine pw_aload_n 44 rfl rfl rfl ?_
        refine pw_getR 47 rfl rfl (by first | assumption | exact ⟨by decide, rfl⟩) rfl ?_
        refine pw_iload_n 48 rfl rfl rfl ?_
        refine pw_aald _ 49 rfl rfl (by first | assumption | exact ⟨by decide, rfl, by decide⟩) (by decide) (by with_reducible rfl) (by first | assumption | omega) (by first | assumption | rfl) ?_
        refine pw_iload_n 50 rfl rfl rfl ?_
        refine pw_iload 52 rfl rfl rfl ?_
        refine pw_aload 54 rfl rfl rfl ?_
        refine pw_cV0 57 rfl rfl (by first | assumption | exact ⟨by decide, rfl⟩) rfl (Nat.le_of_ble_eq_true rfl) rfl rfl (Nat.le_of_ble_eq_true rfl) (c_Row_size hr hy ?_)
        refine pw_pI ?_
        skip
        refine pw_cV3 60 rfl rfl (by first | assumption | exact ⟨by decide, rfl⟩) rfl (Nat.le_of_ble_eq_true rfl) rfl rfl (Nat.le_of_ble_eq_true rfl) (c_Sheet_refusal (b10 t ht) hs ?_)
        refine pw_pI ?_
        refine pw_istore7 62 rfl rfl rfl ?_
        refine pw_iload 64 rfl rfl rfl ?_
        refine pw_if_eq 70 67 rfl rfl rfl (fun q => ?_) (fun q => ?_)
        · rw [if_neg (fun e => e q)] at kk
          obtain ⟨x, y, hxy, rfl, hy2⟩ := rfs_0 q
          have z5 := hs.2.2.2.2.1
          have hy3 : xs.length = y := (nI_eq (by omega) (by omega)).mp hy2
          rw [nI_clamp (by omega)] at kk
          refine pw_iconst (v := nI 0) 71 rfl rfl (by decide) ?_
          refine pw_istore8 73 rfl rfl rfl ?_
          refine film_loop hb0 ht hr hy hl hsm (by omega) (fun N' n' x' => kk M1 N' f1' n' x') xs.length 0 N (by omega) (fun _ _ => rfl) ?_
          rw [List.take_zero, fil_nil, wSh0]; exact x1
        · rw [if_pos q] at kk
          refine pw_iload 69 rfl rfl rfl ?_
          exact pw_iret rfl rfl (kk.go f1' x1)
      rcases (show j = 0 ∨ j = 1 by omega) with rfl | rfl
      · refine pw_astore5 24 rfl rfl rfl ?_
        refine pw_iload_n 25 rfl rfl rfl ?_
        refine pw_if_ne_f 28 rfl rfl (by decide) ?_
        refine pw_aload 30 rfl rfl rfl ?_
        refine pw_getR 33 rfl rfl (by first | assumption | exact ⟨by decide, rfl⟩) rfl ?_
        refine pw_goto rfl 41 rfl ?_
        refine pw_astore6 43 rfl rfl rfl ?_
        exact mid _ _ m1 g1.1.1 hml (sm_outL smS.1.1 smS.2.2 _) rfl
      · refine pw_astore5 24 rfl rfl rfl ?_
        refine pw_iload_n 25 rfl rfl rfl ?_
        refine pw_if_ne_t 36 rfl rfl (by decide) ?_
        refine pw_aload 38 rfl rfl rfl ?_
        refine pw_getR 41 rfl rfl (by first | assumption | exact ⟨by decide, rfl⟩) rfl ?_
        refine pw_astore6 43 rfl rfl rfl ?_
        exact mid _ _ m2 g1.1.2 (by rw [show (outS a.rs a.ss (tr a.rs (kds a.rs) a.ls 0 a.on)).length = (a.mL a.on).length from hms]; exact hml) (sm_outS smS.1.2 _) rfl
    · refine pw_pI ?_
      skip
      refine pw_if_ne_f 16 rfl rfl (by decide) ?_
      refine bad ?_
      rcases hn with hn | hn
      · rw [ix_none hn] at kk; exact kk
      · rw [ix_none hn] at kk
        cases h : ix s 4 <;> rw [h] at kk <;> exact kk
  · refine pw_pI ?_
    rw [ix_none hn] at kk
    skip
    refine pw_if_eq_t 16 rfl rfl (by decide) ?_
    exact bad kk
end APX
