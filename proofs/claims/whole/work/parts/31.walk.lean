/-! THE WALK OF A PASS -/
def isWalk (sh : pmS) (k kb : Nat) : Prop := pmOb sh k 9 [some (some kb), some (some (k + 1)), some (some (k + 3)), some (some (k + 5)), some (some (k + 7)), some (some (k + 9)), some (some (k + 11))] ∧ isRow sh (k + 1) 10 ∧ isRow sh (k + 3) 10 ∧ isRow sh (k + 5) 60 ∧ isRow sh (k + 7) 60 ∧ isRow sh (k + 9) 10 ∧ isLine sh (k + 11) 360
abbrev kds (rs : List aR) : List Nat := rs.map (·.1)
def sAt (rs : List aR) (kd : List Nat) (ls : List Int32) (p : Nat) : Nat := bs (fun r => stB (kd.getD r 0) (pPh rs r) ls p) rs.length
def sRow (rs : List aR) (kd : List Nat) (ls : List Int32) : List Nat := (List.range ls.length).map (sAt rs kd ls)
def wkIs (M : pmM) (k : Nat) (rs : List aR) (kd : List Nat) (ls : List Int32) : Prop := rowIs M (k + 1) ((ord rs).map nI) ∧ rowIs M (k + 3) (kd.map nI) ∧ rowIs M (k + 5) ((sRow rs kd ls).map nI)
theorem wkIs.mv {M M' : pmM} {k a b : Nat} {rs : List aR} {kd : List Nat} {ls : List Int32} (h : wkIs M k rs kd ls) (hf : fr a b M M') (hk : k + 7 ≤ a ∨ b ≤ k + 1) : wkIs M' k rs kd ls := ⟨h.1.mv hf (by omega), h.2.1.mv hf (by omega), h.2.2.mv hf (by omega)⟩
/-- the kinds that a pass goes by -/
def okK (rs : List aR) (kd : List Nat) : Prop := kd.length = rs.length ∧ ∀ r, kd.getD r 0 < 5
theorem bk_at {M : pmM} {k i : Nat} {rs : List aR} (h : bookIs M k rs) (hi : i < rs.length) : ruleIs M (k + 7 + 5 * i) (gR rs i) ∧ wfR (gR rs i) := by
  have e : rs[i]? = some (gR rs i) := by
    unfold gR; rw [List.getD_eq_getElem?_getD, List.getElem?_eq_getElem hi]; rfl
  exact h.2.2 i _ e
theorem kds_at {rs : List aR} {i : Nat} (hi : i < rs.length) : (kds rs).getD i 0 = (gR rs i).1 := by
  unfold kds gR
  simp only [List.getD_eq_getElem?_getD, List.getElem?_map, List.getElem?_eq_getElem hi]; rfl
theorem kds_ok {M : pmM} {k : Nat} {rs : List aR} (h : bookIs M k rs) : okK rs (kds rs) := by
  refine ⟨by unfold kds; rw [List.length_map], fun r => ?_⟩
  by_cases hr : r < rs.length
  · rw [kds_at hr]; exact (bk_at h hr).2.1
  · rw [List.getD_eq_getElem?_getD, List.getElem?_eq_none (by unfold kds; rw [List.length_map]; omega)]; exact (by decide : (0 : Nat) < 5)
theorem okK_set {rs : List aR} {kd : List Nat} {r d : Nat} (h : okK rs kd) (hd : d < 5) : okK rs (kd.set r d) := by
  refine ⟨by rw [List.length_set]; exact h.1, fun i => ?_⟩
  have := h.2 i
  simp only [List.getD_eq_getElem?_getD, List.getElem?_set] at this ⊢
  split
  · split
    · exact hd
    · exact (by decide : (0 : Nat) < 5)
  · exact this
def selJ (rs : List aR) (L j : Nat) : List Nat := (List.range j).filter fun k => decide ((pPh rs k).length = L)
theorem selJ_yes {rs : List aR} {L j : Nat} (h : (pPh rs j).length = L) : selJ rs L (j + 1) = selJ rs L j ++ [j] := by
  unfold selJ; rw [List.range_succ, List.filter_append, List.filter_cons_of_pos (by simpa using h)]; rfl
theorem selJ_no {rs : List aR} {L j : Nat} (h : ¬ (pPh rs j).length = L) : selJ rs L (j + 1) = selJ rs L j := by
  unfold selJ; rw [List.range_succ, List.filter_append, List.filter_cons_of_neg (by simpa using h)]; simp
theorem selJ_mono (rs : List aR) (L j : Nat) : ∀ d, (selJ rs L j).length ≤ (selJ rs L (j + d)).length
  | 0 => Nat.le_refl _
  | d + 1 => by
    have := selJ_mono rs L j d
    rw [← Nat.add_assoc]
    by_cases q : (pPh rs (j + d)).length = L
    · rw [selJ_yes q, List.length_append]; omega
    · rw [selJ_no q]; exact this
theorem dec_v : ∀ c, c < 6 → nI (6 - c) + Int32.ofInt (-1) = nI (6 - (c + 1)) := by decide +kernel
theorem or_v (a b : Nat) : nI a ||| nI b = nI (a ||| b) := by
  apply Int32.toBitVec_inj.mp
  simp [nI]
section WLK
variable {sh : pmS} {M : pmM} {N : pmN} {Q : pmPost} {k kb kl nl : Nat} {rs : List aR} {kd : List Nat} {ls ss : List Int32}
theorem put_in (hw : isWalk sh k kb) (hb : isBook sh kb) (hx : bookIs M kb rs) (hd : kb + 57 ≤ k ∨ k + 16 ≤ kb) {c : Nat} (hc : c < 6)
    (kk : ∀ M', fr (k + 1) (k + 3) M M' → rowIs M' (k + 1) ((ordF rs (c + 1)).map nI) → PW mX9_putInOrder 60 [.ref k, .int (nI (6 - c)), .int (nI rs.length)] [] sh M' N Q) :
    ∀ (d j : Nat) (M1 : pmM), j + d = rs.length → fr (k + 1) (k + 3) M M1 → rowIs M1 (k + 1) ((ordF rs c ++ selJ rs (6 - c) j).map nI) → PW mX9_putInOrder 16 [.ref k, .int (nI (6 - c)), .int (nI j)] [] sh M1 N Q := by
  have hb0 := hb
  obtain ⟨w0, w1, w2, w3, w4, w5, w6⟩ := hw
  obtain ⟨b1, b2, b3⟩ := hb
  have h10 := hx.2.1
  have w1' := w1.1
  intro d
  induction d with
  | zero =>
    intro j M1 hj hf hr
    have hx1 := hx.mv hf (by omega)
    have : j = rs.length := by omega
    subst this
    refine pw_iload_n 17 rfl rfl rfl ?_
    refine pw_aload_n 18 rfl rfl rfl ?_
    refine pw_getR 21 rfl rfl (by first | assumption | exact ⟨by decide, rfl⟩) rfl ?_
    refine pw_cV0 24 rfl rfl (by first | assumption | exact ⟨by decide, rfl⟩) rfl (Nat.le_of_ble_eq_true rfl) rfl rfl (Nat.le_of_ble_eq_true rfl) (c_Book_size hb0 hx1 ?_)
    refine pw_pI ?_
    skip
    refine pw_icmp_ge_t 60 rfl rfl (nI_le (by omega) (by omega)) ?_
    exact kk M1 hf hr
  | succ d ih =>
    intro j M1 hj hf hr
    have hx1 := hx.mv hf (by omega)
    have hj2 : j < rs.length := by omega
    have o1 := (b3 j (by omega)).1
    have o2 := (b3 j (by omega)).2.1
    have o2' := o2.1
    refine pw_iload_n 17 rfl rfl rfl ?_
    refine pw_aload_n 18 rfl rfl rfl ?_
    refine pw_getR 21 rfl rfl (by first | assumption | exact ⟨by decide, rfl⟩) rfl ?_
    refine pw_cV0 24 rfl rfl (by first | assumption | exact ⟨by decide, rfl⟩) rfl (Nat.le_of_ble_eq_true rfl) rfl rfl (Nat.le_of_ble_eq_true rfl) (c_Book_size hb0 hx1 ?_)
    refine pw_pI ?_
    skip
    refine pw_icmp_ge_f 27 rfl rfl (nI_ge (by omega) (by omega)) ?_
    refine pw_aload_n 28 rfl rfl rfl ?_
    refine pw_getR 31 rfl rfl (by first | assumption | exact ⟨by decide, rfl⟩) rfl ?_
    refine pw_iload_n 32 rfl rfl rfl ?_
    refine pw_cV1 35 rfl rfl (by first | assumption | exact ⟨by decide, rfl⟩) rfl (Nat.le_of_ble_eq_true rfl) rfl rfl (Nat.le_of_ble_eq_true rfl) (c_Book_get hb0 (i := j) (by omega) ?_)
    refine pw_pR ?_
    refine pw_getR 38 rfl rfl (by first | assumption | exact ⟨by decide, rfl⟩) rfl ?_
    refine pw_cV0 41 rfl rfl (by first | assumption | exact ⟨by decide, rfl⟩) rfl (Nat.le_of_ble_eq_true rfl) rfl rfl (Nat.le_of_ble_eq_true rfl) (c_Row_size o2 (bk_at hx1 hj2).1.2.1 ?_)
    refine pw_pI ?_
    have hlen : (pPh rs j).length ≤ 6 := (bk_at hx1 hj2).2.2.2.1
    refine pw_iload_n 42 rfl rfl rfl ?_
    refine pw_icmp_ne 54 45 rfl rfl rfl (fun h => ?_) (fun h => ?_)
    · have h : ¬ (pPh rs j).length = 6 - c := fun q => h (by rw [q])
      first | refine pw_iincN2 57 rfl rfl rfl (by with_reducible rfl) ?_ | refine pw_iinc2 (w := _) 57 rfl rfl rfl rfl ?_
      refine pw_goto rfl 16 rfl ?_
      refine ih (j + 1) M1 (by omega) hf ?_
      rw [selJ_no h]; exact hr
    · have h : (pPh rs j).length = 6 - c := (nI_eq (by omega) (by omega)).mp (Decidable.not_not.mp h)
      have hl1 := ordF_len rs (c := c + 1) (by omega)
      have hl2 := selJ_mono rs (6 - c) (j + 1) d
      rw [show j + 1 + d = rs.length by omega, selJ_yes h] at hl2
      rw [ordF] at hl1
      simp only [List.length_append, List.length_cons, List.length_nil] at hl1 hl2
      have e9 : (sel rs (6 - c)).length = (selJ rs (6 - c) rs.length).length := rfl
      refine pw_aload_n 46 rfl rfl rfl ?_
      refine pw_getR 49 rfl rfl (by first | assumption | exact ⟨by decide, rfl⟩) rfl ?_
      refine pw_iload_n 50 rfl rfl rfl ?_
      refine pw_cV1 53 rfl rfl (by first | assumption | exact ⟨by decide, rfl⟩) rfl (Nat.le_of_ble_eq_true rfl) rfl rfl (Nat.le_of_ble_eq_true rfl) (c_Row_add w1 hr (by rw [List.length_map, List.length_append]; omega) _ (fun M2 f2 r2 => ?_))
      refine pw_pI ?_
      refine pw_pop 54 rfl rfl rfl ?_
      first | refine pw_iincN2 57 rfl rfl rfl (by with_reducible rfl) ?_ | refine pw_iinc2 (w := _) 57 rfl rfl rfl rfl ?_
      refine pw_goto rfl 16 rfl ?_
      refine ih (j + 1) M2 (by omega) (hf.tr f2) ?_
      rw [selJ_yes h, ← List.append_assoc, List.map_append (l₂ := [j])]; exact r2
theorem put_out (hw : isWalk sh k kb) (hb : isBook sh kb) (hx : bookIs M kb rs) (hd : kb + 57 ≤ k ∨ k + 16 ≤ kb) (kk : ∀ M', fr (k + 1) (k + 3) M M' → rowIs M' (k + 1) ((ord rs).map nI) → Q none sh M' N) :
    ∀ (d c : Nat) (M1 : pmM) (v : Value), pmIsL v = false → c + d = 6 → fr (k + 1) (k + 3) M M1 → rowIs M1 (k + 1) ((ordF rs c).map nI) → PW mX9_putInOrder 10 [.ref k, .int (nI (6 - c)), v] [] sh M1 N Q := by
  intro d
  induction d with
  | zero =>
    intro c M1 v hv hc hf hr
    have : c = 6 := by omega
    subst this
    refine pw_iload_n 11 rfl rfl rfl ?_
    refine pw_if_le_t 66 rfl rfl (by decide) ?_
    skip
    exact pw_vret rfl (kk M1 hf hr)
  | succ d ih =>
    intro c M1 v hv hc hf hr
    have hx1 := hx.mv hf (by omega)
    refine pw_iload_n 11 rfl rfl rfl ?_
    refine pw_if_le_f 14 rfl rfl (nI_ge (a := 0) (by omega) (by omega)) ?_
    refine pw_iconst (v := nI 0) 15 rfl rfl (by decide) ?_
    refine pw_istore2 16 rfl rfl rfl ?_
    refine put_in hw hb hx1 hd (c := c) (by omega) (fun M2 f2 r2 => ?_) rs.length 0 M1 (by omega) fr.rf (by rw [show ordF rs c ++ selJ rs (6 - c) 0 = ordF rs c from List.append_nil _]; exact hr)
    refine pw_iinc1 (w := nI (6 - (c + 1))) 63 rfl rfl rfl (dec_v c (by omega)) ?_
    refine pw_goto rfl 10 rfl ?_
    exact ih (c + 1) M2 _ rfl (by omega) (hf.tr f2) r2
theorem c_putInOrder (hw : isWalk sh k kb) (hb : isBook sh kb) (hx : bookIs M kb rs) (hd : kb + 57 ≤ k ∨ k + 16 ≤ kb) (kk : ∀ M', fr (k + 1) (k + 3) M M' → rowIs M' (k + 1) ((ord rs).map nI) → Q none sh M' N) : PW mX9_putInOrder 0 [.ref k, .null, .null] [] sh M N Q := by
  have hw0 := hw
  obtain ⟨w0, w1, w2, w3, w4, w5, w6⟩ := hw
  have w1' := w1.1
  refine pw_aload_n 1 rfl rfl rfl ?_
  refine pw_getR 4 rfl rfl (by first | assumption | exact ⟨by decide, rfl⟩) rfl ?_
  refine pw_cV0 7 rfl rfl (by first | assumption | exact ⟨by decide, rfl⟩) rfl (Nat.le_of_ble_eq_true rfl) rfl rfl (Nat.le_of_ble_eq_true rfl) (c_Row_clear w1 (fun M1 f1 r1 => ?_))
  refine pw_pV ?_
  refine pw_bipush (v := nI 6) 9 rfl rfl (by decide) ?_
  refine pw_istore1 10 rfl rfl rfl ?_
  exact put_out hw0 hb hx hd kk 6 0 M1 _ rfl (by omega) (f1.wk (by omega) (by omega)) r1
theorem kinds_loop (hw : isWalk sh k kb) (hb : isBook sh kb) (hx : bookIs M kb rs) (hd : kb + 57 ≤ k ∨ k + 16 ≤ kb) (kk : ∀ M', fr (k + 3) (k + 5) M M' → rowIs M' (k + 3) ((kds rs).map nI) → Q none sh M' N) :
    ∀ (d j : Nat) (M1 : pmM), j + d = rs.length → fr (k + 3) (k + 5) M M1 → rowIs M1 (k + 3) (((kds rs).take j).map nI) → PW mX9_takeKinds 9 [.ref k, .int (nI j)] [] sh M1 N Q := by
  have hb0 := hb
  obtain ⟨w0, w1, w2, w3, w4, w5, w6⟩ := hw
  obtain ⟨b1, b2, b3⟩ := hb
  have h10 := hx.2.1
  have w2' := w2.1
  have hkl : (kds rs).length = rs.length := by unfold kds; rw [List.length_map]
  intro d
  induction d with
  | zero =>
    intro j M1 hj hf hr
    have hx1 := hx.mv hf (by omega)
    refine pw_iload_n 10 rfl rfl rfl ?_
    refine pw_aload_n 11 rfl rfl rfl ?_
    refine pw_getR 14 rfl rfl (by first | assumption | exact ⟨by decide, rfl⟩) rfl ?_
    refine pw_cV0 17 rfl rfl (by first | assumption | exact ⟨by decide, rfl⟩) rfl (Nat.le_of_ble_eq_true rfl) rfl rfl (Nat.le_of_ble_eq_true rfl) (c_Book_size hb0 hx1 ?_)
    refine pw_pI ?_
    skip
    refine pw_icmp_ge_t 45 rfl rfl (nI_le (by omega) (by omega)) ?_
    skip
    exact pw_vret rfl (kk M1 hf (by rw [List.take_of_length_le (by omega)] at hr; exact hr))
  | succ d ih =>
    intro j M1 hj hf hr
    have hx1 := hx.mv hf (by omega)
    have hj2 : j < rs.length := by omega
    have o1 := (b3 j (by omega)).1
    refine pw_iload_n 10 rfl rfl rfl ?_
    refine pw_aload_n 11 rfl rfl rfl ?_
    refine pw_getR 14 rfl rfl (by first | assumption | exact ⟨by decide, rfl⟩) rfl ?_
    refine pw_cV0 17 rfl rfl (by first | assumption | exact ⟨by decide, rfl⟩) rfl (Nat.le_of_ble_eq_true rfl) rfl rfl (Nat.le_of_ble_eq_true rfl) (c_Book_size hb0 hx1 ?_)
    refine pw_pI ?_
    skip
    refine pw_icmp_ge_f 20 rfl rfl (nI_ge (by omega) (by omega)) ?_
    refine pw_aload_n 21 rfl rfl rfl ?_
    refine pw_getR 24 rfl rfl (by first | assumption | exact ⟨by decide, rfl⟩) rfl ?_
    refine pw_aload_n 25 rfl rfl rfl ?_
    refine pw_getR 28 rfl rfl (by first | assumption | exact ⟨by decide, rfl⟩) rfl ?_
    refine pw_iload_n 29 rfl rfl rfl ?_
    refine pw_cV1 32 rfl rfl (by first | assumption | exact ⟨by decide, rfl⟩) rfl (Nat.le_of_ble_eq_true rfl) rfl rfl (Nat.le_of_ble_eq_true rfl) (c_Book_get hb0 (i := j) (by omega) ?_)
    refine pw_pR ?_
    refine pw_getI 35 rfl rfl (by first | assumption | exact ⟨by decide, rfl⟩) rfl ?_
    rw [(bk_at hx1 hj2).1.1]
    refine pw_cV1 38 rfl rfl (by first | assumption | exact ⟨by decide, rfl⟩) rfl (Nat.le_of_ble_eq_true rfl) rfl rfl (Nat.le_of_ble_eq_true rfl) (c_Row_add w2 hr (by rw [List.length_map, List.length_take]; omega) _ (fun M2 f2 r2 => ?_))
    refine pw_pI ?_
    refine pw_pop 39 rfl rfl rfl ?_
    first | refine pw_iincN1 42 rfl rfl rfl (by with_reducible rfl) ?_ | refine pw_iinc1 (w := _) 42 rfl rfl rfl rfl ?_
    refine pw_goto rfl 9 rfl ?_
    refine ih (j + 1) M2 (by omega) (hf.tr f2) ?_
    have e : (kds rs).take (j + 1) = (kds rs).take j ++ [(gR rs j).1] := by
      rw [List.take_succ, ← kds_at hj2, List.getD_eq_getElem?_getD, List.getElem?_eq_getElem (by omega)]; rfl
    rw [e, List.map_append]; exact r2
theorem c_takeKinds (hw : isWalk sh k kb) (hb : isBook sh kb) (hx : bookIs M kb rs) (hd : kb + 57 ≤ k ∨ k + 16 ≤ kb) (kk : ∀ M', fr (k + 3) (k + 5) M M' → rowIs M' (k + 3) ((kds rs).map nI) → Q none sh M' N) : PW mX9_takeKinds 0 [.ref k, .null] [] sh M N Q := by
  have hw0 := hw
  obtain ⟨w0, w1, w2, w3, w4, w5, w6⟩ := hw
  have w2' := w2.1
  refine pw_aload_n 1 rfl rfl rfl ?_
  refine pw_getR 4 rfl rfl (by first | assumption | exact ⟨by decide, rfl⟩) rfl ?_
  refine pw_cV0 7 rfl rfl (by first | assumption | exact ⟨by decide, rfl⟩) rfl (Nat.le_of_ble_eq_true rfl) rfl rfl (Nat.le_of_ble_eq_true rfl) (c_Row_clear w2 (fun M1 f1 r1 => ?_))
  refine pw_pV ?_
  refine pw_iconst (v := nI 0) 8 rfl rfl (by decide) ?_
  refine pw_istore1 9 rfl rfl rfl ?_
  exact kinds_loop hw0 hb (hx.mv f1 (by omega)) hd (fun M' f => kk M' ((f1.wk (by omega) (by omega)).tr f)) rs.length 0 M1 (by omega) fr.rf r1
theorem find_in (hw : isWalk sh k kb) (hb : isBook sh kb) (hx : bookIs M kb rs) (hk : okK rs kd) (hkr : rowIs M (k + 3) (kd.map nI)) (hl : isLine sh kl nl) (hy : lineIs M kl ls ss) (hn : ls.length ≤ nl) {p : Nat} (hp : p < ls.length)
    (kk : PW mX9_findStanding 79 [.ref k, .ref kl, .int (nI p), .int (nI (sAt rs kd ls p)), .int (nI rs.length)] [] sh M N Q) :
    ∀ (d j : Nat), j + d = rs.length → PW mX9_findStanding 22 [.ref k, .ref kl, .int (nI p), .int (nI (bs (fun r => stB (kd.getD r 0) (pPh rs r) ls p) j)), .int (nI j)] [] sh M N Q := by
  have hb0 := hb
  have hl0 := hl
  obtain ⟨w0, w1, w2, w3, w4, w5, w6⟩ := hw
  obtain ⟨b1, b2, b3⟩ := hb
  have h10 := hx.2.1
  have w2' := w2.1
  have l0 := hl.1
  intro d
  induction d with
  | zero =>
    intro j hj
    have : j = rs.length := by omega
    subst this
    refine pw_iload 24 rfl rfl rfl ?_
    refine pw_aload_n 25 rfl rfl rfl ?_
    refine pw_getR 28 rfl rfl (by first | assumption | exact ⟨by decide, rfl⟩) rfl ?_
    refine pw_cV0 31 rfl rfl (by first | assumption | exact ⟨by decide, rfl⟩) rfl (Nat.le_of_ble_eq_true rfl) rfl rfl (Nat.le_of_ble_eq_true rfl) (c_Book_size hb0 hx ?_)
    refine pw_pI ?_
    skip
    refine pw_icmp_ge_t 79 rfl rfl (nI_le (by omega) (by omega)) ?_
    exact kk
  | succ d ih =>
    intro j hj
    have hj2 : j < rs.length := by omega
    have o1 := (b3 j (by omega)).1
    refine pw_iload 24 rfl rfl rfl ?_
    refine pw_aload_n 25 rfl rfl rfl ?_
    refine pw_getR 28 rfl rfl (by first | assumption | exact ⟨by decide, rfl⟩) rfl ?_
    refine pw_cV0 31 rfl rfl (by first | assumption | exact ⟨by decide, rfl⟩) rfl (Nat.le_of_ble_eq_true rfl) rfl rfl (Nat.le_of_ble_eq_true rfl) (c_Book_size hb0 hx ?_)
    refine pw_pI ?_
    skip
    refine pw_icmp_ge_f 34 rfl rfl (nI_ge (by omega) (by omega)) ?_
    refine pw_aload_n 35 rfl rfl rfl ?_
    refine pw_getR 38 rfl rfl (by first | assumption | exact ⟨by decide, rfl⟩) rfl ?_
    refine pw_iload 40 rfl rfl rfl ?_
    refine pw_cV1 43 rfl rfl (by first | assumption | exact ⟨by decide, rfl⟩) rfl (Nat.le_of_ble_eq_true rfl) rfl rfl (Nat.le_of_ble_eq_true rfl) (c_Book_get hb0 (i := j) (by omega) ?_)
    refine pw_pR ?_
    refine pw_aload_n 44 rfl rfl rfl ?_
    refine pw_iload_n 45 rfl rfl rfl ?_
    refine pw_aload_n 46 rfl rfl rfl ?_
    refine pw_getR 49 rfl rfl (by first | assumption | exact ⟨by decide, rfl⟩) rfl ?_
    refine pw_iload 51 rfl rfl rfl ?_
    refine pw_cV1 54 rfl rfl (by first | assumption | exact ⟨by decide, rfl⟩) rfl (Nat.le_of_ble_eq_true rfl) rfl rfl (Nat.le_of_ble_eq_true rfl) (c_Row_get w2 hkr (by rw [List.length_map, hk.1]; exact h10) _ ?_)
    rw [gI_n (by omega), getD_mapN]
    refine pw_pI ?_
    refine pw_aload_n 55 rfl rfl rfl ?_
    refine pw_cV0 58 rfl rfl (by first | assumption | exact ⟨by decide, rfl⟩) rfl (Nat.le_of_ble_eq_true rfl) rfl rfl (Nat.le_of_ble_eq_true rfl) (c_Line_size hl0 hy ?_)
    refine pw_pI ?_
    refine pw_iconst (v := nI 0) 59 rfl rfl (by decide) ?_
    have e := bk_at hx hj2
    refine pw_cV5 62 rfl rfl (by first | assumption | exact ⟨by decide, rfl⟩) rfl (Nat.le_of_ble_eq_true rfl) rfl rfl (Nat.le_of_ble_eq_true rfl) (c_Rule_stands (op := false) (b3 j (by omega)) e.1 e.2.2.2.1 hl0 hy hn (hk.2 j) hp (Nat.le_refl _) (fun d hs => ?_))
    refine pw_pI ?_
    have hs := stA_B hs
    have hlt := bs_lt (fun r => stB (kd.getD r 0) (pPh rs r) ls p) j
    have hlt2 := lt_1024 hlt (by omega)
    by_cases q : stB (kd.getD j 0) (pPh rs j) ls p = true
    · rw [if_pos q] at hs
      subst hs
      refine pw_iconst (v := nI 1) 63 rfl rfl (by decide) ?_
      refine pw_icmp_ne_f 66 rfl rfl (by decide) ?_
      refine pw_iload_n 67 rfl rfl rfl ?_
      refine pw_iconst (v := nI 1) 68 rfl rfl (by decide) ?_
      refine pw_iload 70 rfl rfl rfl ?_
      refine pw_ishl 71 rfl rfl ?_
      refine pw_ior 72 rfl rfl ?_
      rw [or_bit j (by omega) _ hlt2 hlt]
      refine pw_istore3 73 rfl rfl rfl ?_
      first | refine pw_iincN4 76 rfl rfl rfl (by with_reducible rfl) ?_ | refine pw_iinc4 (w := _) 76 rfl rfl rfl rfl ?_
      refine pw_goto rfl 22 rfl ?_
      have := ih (j + 1) (by omega)
      rw [bs, if_pos q] at this
      exact this
    · rw [if_neg q] at hs
      subst hs
      refine pw_iconst (v := nI 1) 63 rfl rfl (by decide) ?_
      refine pw_icmp_ne_t 73 rfl rfl (by decide) ?_
      first | refine pw_iincN4 76 rfl rfl rfl (by with_reducible rfl) ?_ | refine pw_iinc4 (w := _) 76 rfl rfl rfl rfl ?_
      refine pw_goto rfl 22 rfl ?_
      have := ih (j + 1) (by omega)
      rw [bs, if_neg q, Nat.add_zero] at this
      exact this
theorem find_out (hw : isWalk sh k kb) (hb : isBook sh kb) (hx : bookIs M kb rs) (hd : kb + 57 ≤ k ∨ k + 16 ≤ kb) (hk : okK rs kd) (hkr : rowIs M (k + 3) (kd.map nI)) (hl : isLine sh kl nl) (hy : lineIs M kl ls ss) (hn : ls.length ≤ nl) (hd2 : kl + 5 ≤ k ∨ k + 16 ≤ kl) (h60 : ls.length ≤ 60) (kk : ∀ M', fr (k + 5) (k + 7) M M' → rowIs M' (k + 5) ((sRow rs kd ls).map nI) → Q none sh M' N) :
    ∀ (d p : Nat) (M1 : pmM) (v3 v4 : Value), pmIsL v3 = false → pmIsL v4 = false → p + d = ls.length → fr (k + 5) (k + 7) M M1 → rowIs M1 (k + 5) (((sRow rs kd ls).take p).map nI) → PW mX9_findStanding 9 [.ref k, .ref kl, .int (nI p), v3, v4] [] sh M1 N Q := by
  have hw0 := hw
  have hl0 := hl
  obtain ⟨w0, w1, w2, w3, w4, w5, w6⟩ := hw
  have w3' := w3.1
  have l0 := hl.1
  have hsl : (sRow rs kd ls).length = ls.length := by unfold sRow; rw [List.length_map, List.length_range]
  intro d
  induction d with
  | zero =>
    intro p M1 v3 v4 h3 h4 hp hf hr
    have hy1 := hy.mv hf (by omega)
    refine pw_iload_n 10 rfl rfl rfl ?_
    refine pw_aload_n 11 rfl rfl rfl ?_
    refine pw_cV0 14 rfl rfl (by first | assumption | exact ⟨by decide, rfl⟩) rfl (Nat.le_of_ble_eq_true rfl) rfl rfl (Nat.le_of_ble_eq_true rfl) (c_Line_size hl0 hy1 ?_)
    refine pw_pI ?_
    skip
    refine pw_icmp_ge_t 94 rfl rfl (nI_le (by omega) (by omega)) ?_
    skip
    exact pw_vret rfl (kk M1 hf (by rw [List.take_of_length_le (by omega)] at hr; exact hr))
  | succ d ih =>
    intro p M1 v3 v4 h3 h4 hp hf hr
    have hy1 := hy.mv hf (by omega)
    have hx1 := hx.mv hf (by omega)
    refine pw_iload_n 10 rfl rfl rfl ?_
    refine pw_aload_n 11 rfl rfl rfl ?_
    refine pw_cV0 14 rfl rfl (by first | assumption | exact ⟨by decide, rfl⟩) rfl (Nat.le_of_ble_eq_true rfl) rfl rfl (Nat.le_of_ble_eq_true rfl) (c_Line_size hl0 hy1 ?_)
    refine pw_pI ?_
    skip
    refine pw_icmp_ge_f 17 rfl rfl (nI_ge (by omega) (by omega)) ?_
    refine pw_iconst (v := nI 0) 18 rfl rfl (by decide) ?_
    refine pw_istore3 19 rfl rfl rfl ?_
    refine pw_iconst (v := nI 0) 20 rfl rfl (by decide) ?_
    refine pw_istore4 22 rfl rfl rfl ?_
    refine find_in hw0 hb hx1 hk (hkr.mv hf (by omega)) hl0 hy1 hn (p := p) (by omega) ?_ rs.length 0 (by omega)
    refine pw_aload_n 80 rfl rfl rfl ?_
    refine pw_getR 83 rfl rfl (by first | assumption | exact ⟨by decide, rfl⟩) rfl ?_
    refine pw_iload_n 84 rfl rfl rfl ?_
    refine pw_cV1 87 rfl rfl (by first | assumption | exact ⟨by decide, rfl⟩) rfl (Nat.le_of_ble_eq_true rfl) rfl rfl (Nat.le_of_ble_eq_true rfl) (c_Row_add w3 hr (by rw [List.length_map, List.length_take]; omega) _ (fun M2 f2 r2 => ?_))
    refine pw_pI ?_
    refine pw_pop 88 rfl rfl rfl ?_
    first | refine pw_iincN2 91 rfl rfl rfl (by with_reducible rfl) ?_ | refine pw_iinc2 (w := _) 91 rfl rfl rfl rfl ?_
    refine pw_goto rfl 9 rfl ?_
    refine ih (p + 1) M2 _ _ rfl rfl (by omega) (hf.tr f2) ?_
    have e : (sRow rs kd ls).take (p + 1) = (sRow rs kd ls).take p ++ [sAt rs kd ls p] := by
      rw [List.take_succ]
      have : (sRow rs kd ls)[p]? = some (sAt rs kd ls p) := by
        unfold sRow; rw [List.getElem?_map, List.getElem?_range (by omega)]; rfl
      rw [this]; rfl
    rw [e, List.map_append]; exact r2
theorem c_findStanding (hw : isWalk sh k kb) (hb : isBook sh kb) (hx : bookIs M kb rs) (hd : kb + 57 ≤ k ∨ k + 16 ≤ kb) (hk : okK rs kd) (hkr : rowIs M (k + 3) (kd.map nI)) (hl : isLine sh kl nl) (hy : lineIs M kl ls ss) (hn : ls.length ≤ nl) (hd2 : kl + 5 ≤ k ∨ k + 16 ≤ kl) (h60 : ls.length ≤ 60) (kk : ∀ M', fr (k + 5) (k + 7) M M' → rowIs M' (k + 5) ((sRow rs kd ls).map nI) → Q none sh M' N) : PW mX9_findStanding 0 [.ref k, .ref kl, .null, .null, .null] [] sh M N Q := by
  have hw0 := hw
  obtain ⟨w0, w1, w2, w3, w4, w5, w6⟩ := hw
  have w3' := w3.1
  refine pw_aload_n 1 rfl rfl rfl ?_
  refine pw_getR 4 rfl rfl (by first | assumption | exact ⟨by decide, rfl⟩) rfl ?_
  refine pw_cV0 7 rfl rfl (by first | assumption | exact ⟨by decide, rfl⟩) rfl (Nat.le_of_ble_eq_true rfl) rfl rfl (Nat.le_of_ble_eq_true rfl) (c_Row_clear w3 (fun M1 f1 r1 => ?_))
  refine pw_pV ?_
  refine pw_iconst (v := nI 0) 8 rfl rfl (by decide) ?_
  refine pw_istore2 9 rfl rfl rfl ?_
  exact find_out hw0 hb (hx.mv f1 (by omega)) hd hk (hkr.mv f1 (by omega)) hl (hy.mv f1 (by omega)) hn hd2 h60 (fun M' f => kk M' ((f1.wk (by omega) (by omega)).tr f)) ls.length 0 M1 _ _ rfl rfl (by omega) fr.rf r1
theorem c_prepare (hw : isWalk sh k kb) (hb : isBook sh kb) (hx : bookIs M kb rs) (hd : kb + 57 ≤ k ∨ k + 16 ≤ kb) (hl : isLine sh kl nl) (hy : lineIs M kl ls ss) (hn : ls.length ≤ nl) (hd2 : kl + 5 ≤ k ∨ k + 16 ≤ kl) (h60 : ls.length ≤ 60) (kk : ∀ M', fr (k + 1) (k + 7) M M' → wkIs M' k rs (kds rs) ls → Q none sh M' N) : PW mX9_prepare 0 [.ref k, .ref kl] [] sh M N Q := by
  have w0 := hw.1
  refine pw_aload_n 1 rfl rfl rfl ?_
  refine pw_cV0 4 rfl rfl (by first | assumption | exact ⟨by decide, rfl⟩) rfl (Nat.le_of_ble_eq_true rfl) rfl rfl (Nat.le_of_ble_eq_true rfl) (c_putInOrder hw hb hx hd (fun M1 f1 r1 => ?_))
  refine pw_pV ?_
  refine pw_aload_n 5 rfl rfl rfl ?_
  refine pw_cV0 8 rfl rfl (by first | assumption | exact ⟨by decide, rfl⟩) rfl (Nat.le_of_ble_eq_true rfl) rfl rfl (Nat.le_of_ble_eq_true rfl) (c_takeKinds hw hb (hx.mv f1 (by omega)) hd (fun M2 f2 r2 => ?_))
  refine pw_pV ?_
  have f12 := (f1.wk (c := k + 1) (d := k + 5) (by omega) (by omega)).tr (f2.wk (by omega) (by omega))
  refine pw_aload_n 9 rfl rfl rfl ?_
  refine pw_aload_n 10 rfl rfl rfl ?_
  refine pw_cV1 13 rfl rfl (by first | assumption | exact ⟨by decide, rfl⟩) rfl (Nat.le_of_ble_eq_true rfl) rfl rfl (Nat.le_of_ble_eq_true rfl) (c_findStanding hw hb (hx.mv f12 (by omega)) hd (kds_ok hx) r2 hl (hy.mv f12 (by omega)) hn hd2 h60 (fun M3 f3 r3 => ?_))
  refine pw_pV ?_
  skip
  exact pw_vret rfl (kk M3 ((f12.wk (by omega) (by omega)).tr (f3.wk (by omega) (by omega))) ⟨(r1.mv f2 (by omega)).mv f3 (by omega), r2.mv f3 (by omega), r3⟩)
theorem c_prepareAs {r d : Nat} (hw : isWalk sh k kb) (hb : isBook sh kb) (hx : bookIs M kb rs) (hd : kb + 57 ≤ k ∨ k + 16 ≤ kb) (hl : isLine sh kl nl) (hy : lineIs M kl ls ss) (hn : ls.length ≤ nl) (hd2 : kl + 5 ≤ k ∨ k + 16 ≤ kl) (h60 : ls.length ≤ 60) (hr : r < rs.length) (h5 : d < 5) (kk : ∀ M', fr (k + 1) (k + 7) M M' → wkIs M' k rs ((kds rs).set r d) ls → Q none sh M' N) : PW mX9_prepareAs 0 [.ref k, .ref kl, .int (nI r), .int (nI d)] [] sh M N Q := by
  have w0 := hw.1
  have w2 := hw.2.2.1
  have w2' := w2.1
  have h10 := hx.2.1
  have hkl : (kds rs).length = rs.length := by unfold kds; rw [List.length_map]
  refine pw_aload_n 1 rfl rfl rfl ?_
  refine pw_cV0 4 rfl rfl (by first | assumption | exact ⟨by decide, rfl⟩) rfl (Nat.le_of_ble_eq_true rfl) rfl rfl (Nat.le_of_ble_eq_true rfl) (c_putInOrder hw hb hx hd (fun M1 f1 r1 => ?_))
  refine pw_pV ?_
  refine pw_aload_n 5 rfl rfl rfl ?_
  refine pw_cV0 8 rfl rfl (by first | assumption | exact ⟨by decide, rfl⟩) rfl (Nat.le_of_ble_eq_true rfl) rfl rfl (Nat.le_of_ble_eq_true rfl) (c_takeKinds hw hb (hx.mv f1 (by omega)) hd (fun M2 f2 r2 => ?_))
  refine pw_pV ?_
  have f12 := (f1.wk (c := k + 1) (d := k + 5) (by omega) (by omega)).tr (f2.wk (by omega) (by omega))
  refine pw_aload_n 9 rfl rfl rfl ?_
  refine pw_getR 12 rfl rfl (by first | assumption | exact ⟨by decide, rfl⟩) rfl ?_
  refine pw_iload_n 13 rfl rfl rfl ?_
  refine pw_iload_n 14 rfl rfl rfl ?_
  refine pw_cV2 17 rfl rfl (by first | assumption | exact ⟨by decide, rfl⟩) rfl (Nat.le_of_ble_eq_true rfl) rfl rfl (Nat.le_of_ble_eq_true rfl) (c_Row_set w2 r2 (by rw [List.length_map]; omega) (j := r) (by rw [List.length_map]; omega) _ (fun M3 f3 r3 => ?_))
  refine pw_pV ?_
  rw [← List.map_set] at r3
  have f13 := f12.tr (f3.wk (by omega) (by omega))
  refine pw_aload_n 18 rfl rfl rfl ?_
  refine pw_aload_n 19 rfl rfl rfl ?_
  refine pw_cV1 22 rfl rfl (by first | assumption | exact ⟨by decide, rfl⟩) rfl (Nat.le_of_ble_eq_true rfl) rfl rfl (Nat.le_of_ble_eq_true rfl) (c_findStanding hw hb (hx.mv f13 (by omega)) hd (okK_set (kds_ok hx) h5) r3 hl (hy.mv f13 (by omega)) hn hd2 h60 (fun M4 f4 r4 => ?_))
  refine pw_pV ?_
  skip
  exact pw_vret rfl (kk M4 ((f13.wk (by omega) (by omega)).tr (f4.wk (by omega) (by omega))) ⟨((r1.mv f2 (by omega)).mv f3 (by omega)).mv f4 (by omega), r3.mv f4 (by omega), r4⟩)
end WLK
