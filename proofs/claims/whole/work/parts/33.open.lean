/-! HOW LONG A LINE IS MADE, AND HOW MUCH OF AN OPEN LINE IS SURE -/
def stO (kd : Nat) (ph ls : List Int32) (p kn : Nat) : Nat :=
  if kd ≠ 0 ∧ ahd ls p = true then 0 else if mtB ph ls p (min (p + ph.length) kn - p) = true then
    (if kn < p + ph.length then 2 else if kd = 1 ∨ kd = 3 then (if p + ph.length = kn then 2 else if wl (ls.getD (p + ph.length) 0) then 0 else 1) else 1) else 0
theorem stA_O {kd p kn d : Nat} {ph ls : List Int32} (h : stA kd ph ls p kn true d) : d = stO kd ph ls p kn := by
  unfold stO
  rcases h with ⟨rfl, h1, h2⟩ | ⟨h0, ⟨rfl, h1⟩ | ⟨h1, ⟨h2, h3⟩ | ⟨h2, ⟨h3, rfl⟩ | ⟨h3, ⟨h4, h5⟩ | ⟨h4, rfl⟩⟩⟩⟩⟩
  · rw [if_pos ⟨h1, h2⟩]
  · rw [if_neg h0, if_neg (fun q => h1 (mtB_iff.mp q))]
  · rw [if_neg h0, if_pos (mtB_iff.mpr h1), if_pos h2, h3]; rfl
  · rw [if_neg h0, if_pos (mtB_iff.mpr h1), if_neg (by omega), if_neg h3]
  · rw [if_neg h0, if_pos (mtB_iff.mpr h1), if_neg (by omega), if_pos h3, if_pos h4, h5]; rfl
  · rw [if_neg h0, if_pos (mtB_iff.mpr h1), if_neg (show ¬ kn < p + ph.length by omega), if_pos h3, if_neg (show ¬ p + ph.length = kn by omega)]
theorem stO_le (kd : Nat) (ph ls : List Int32) (p kn : Nat) : stO kd ph ls p kn ≤ 2 := by
  unfold stO; repeat' split
  all_goals decide
theorem stO_one {kd p kn : Nat} {ph ls : List Int32} (h0 : stO kd ph ls p kn ≠ 0) (h2 : stO kd ph ls p kn ≠ 2) : p + ph.length ≤ kn := by
  unfold stO at h0 h2
  by_cases a : kd ≠ 0 ∧ ahd ls p = true
  · rw [if_pos a] at h0; exact absurd rfl h0
  rw [if_neg a] at h0 h2
  by_cases b : mtB ph ls p (min (p + ph.length) kn - p) = true
  · rw [if_pos b] at h2
    by_cases c : kn < p + ph.length
    · rw [if_pos c] at h2; exact absurd rfl h2
    · omega
  · rw [if_neg b] at h0; exact absurd rfl h0
def opB (rs : List aR) (kd : List Nat) (ls : List Int32) (kn s p r : Nat) : Bool := s.testBit r && decide (stO (kd.getD r 0) (pPh rs r) ls p kn ≠ 0)
def fsp (rs : List aR) (kd : List Nat) (ls : List Int32) (kn s p : Nat) : Option Nat := (ord rs).find? (opB rs kd ls kn s p)
def stp (rs : List aR) (kd : List Nat) (ls : List Int32) (kn p : Nat) : Option Nat → Bool
  | none => false
  | some r => decide (stO (kd.getD r 0) (pPh rs r) ls p kn = 2)
def surF (rs : List aR) (kd : List Nat) (ls : List Int32) (kn : Nat) : Nat → Nat → Nat → Nat
  | 0, p, _ => p
  | f + 1, p, s => if p < kn then (if stp rs kd ls kn p (fsp rs kd ls kn s p) = true then p else surF rs kd ls kn f (p + adv rs (fsp rs kd ls kn s p)) (lef kd s (fsp rs kd ls kn s p))) else p
theorem fsp_some {rs : List aR} {kd : List Nat} {ls : List Int32} {kn s p r : Nat} (h : fsp rs kd ls kn s p = some r) : r < rs.length ∧ 1 ≤ (pPh rs r).length ∧ (pPh rs r).length ≤ 6 ∧ opB rs kd ls kn s p r = true := by
  have h1 := List.mem_of_find?_eq_some h
  have h2 := List.find?_some h
  have h3 := mem_ord.mp h1
  exact ⟨h3.1, h3.2.1, h3.2.2, h2⟩
theorem fsp_adv {rs : List aR} {kd : List Nat} {ls : List Int32} {kn s p : Nat} (hp : p < kn) (h : stp rs kd ls kn p (fsp rs kd ls kn s p) ≠ true) : 1 ≤ adv rs (fsp rs kd ls kn s p) ∧ p + adv rs (fsp rs kd ls kn s p) ≤ kn := by
  cases hq : fsp rs kd ls kn s p with
  | none => exact ⟨Nat.le_refl 1, hp⟩
  | some r =>
    rw [hq] at h
    have := fsp_some hq
    refine ⟨this.2.1, stO_one (kd := kd.getD r 0) (ls := ls) ?_ ?_⟩
    · have h4 := this.2.2.2
      unfold opB at h4
      rw [Bool.and_eq_true, decide_eq_true_eq] at h4
      exact h4.2
    · unfold stp at h; simpa using h
section OPN
variable {sh : pmS} {M : pmM} {N : pmN} {Q : pmPost} {k kb kl nl : Nat} {rs : List aR} {kd : List Nat} {ls ss : List Int32}
theorem lengthBy_loop {s0 : Nat} {x2 : Int32} (hw : isWalk sh k kb) (hb : isBook sh kb) (hx : bookIs M kb rs) (hk : okK rs kd) (hwk : wkIs M k rs kd ls) (hl : isLine sh kl nl) (hy : lineIs M kl ls ss) (h60 : ls.length ≤ 60)
    (kk : Q (some (.int (nI (outL rs kd ls (tr rs kd ls 0 s0)).length))) sh M N) :
    ∀ (d i p s a : Nat) (v : Value), pmIsL v = false → ls.length - p ≤ d → p ≤ 66 → i ≤ p → s < 1024 → a + (outL rs kd ls (tr rs kd ls p s)).length = (outL rs kd ls (tr rs kd ls 0 s0)).length →
      PW mX9_lengthBy 11 [.ref k, .ref kl, .int x2, .int (nI a), .int (nI s), .int (nI p), .int (nI i), v] [] sh M N Q := by
  have hb0 := hb
  have w0 := hw.1
  have l0 := hl.1
  obtain ⟨b1, b2, b3⟩ := hb
  have h10 := hx.2.1
  have stop : ∀ (i p s a : Nat) (v : Value), pmIsL v = false → ls.length ≤ p → p ≤ 66 → i ≤ p → a + (outL rs kd ls (tr rs kd ls p s)).length = (outL rs kd ls (tr rs kd ls 0 s0)).length →
      PW mX9_lengthBy 11 [.ref k, .ref kl, .int x2, .int (nI a), .int (nI s), .int (nI p), .int (nI i), v] [] sh M N Q := by
    intro i p s a v hv hdp hp66 hip ea
    rw [tr_end (by omega), outL, List.flatMap_nil, List.length_nil, Nat.add_zero] at ea
    rw [ea]
    by_cases q : ls.length ≤ i
    · refine pw_iload 13 rfl rfl rfl ?_
      refine pw_aload_n 14 rfl rfl rfl ?_
      refine pw_cV0 17 rfl rfl (by first | assumption | exact ⟨by decide, rfl⟩) rfl (Nat.le_of_ble_eq_true rfl) rfl rfl (Nat.le_of_ble_eq_true rfl) (c_Line_size hl hy ?_)
      refine pw_pI ?_
      skip
      refine pw_icmp_ge_t 95 rfl rfl (nI_le (by omega) (by omega)) ?_
      refine pw_iload_n 96 rfl rfl rfl ?_
      exact pw_iret rfl rfl (kk)
    · refine pw_iload 13 rfl rfl rfl ?_
      refine pw_aload_n 14 rfl rfl rfl ?_
      refine pw_cV0 17 rfl rfl (by first | assumption | exact ⟨by decide, rfl⟩) rfl (Nat.le_of_ble_eq_true rfl) rfl rfl (Nat.le_of_ble_eq_true rfl) (c_Line_size hl hy ?_)
      refine pw_pI ?_
      skip
      refine pw_icmp_ge_f 20 rfl rfl (nI_ge (by omega) (by omega)) ?_
      refine pw_iload 22 rfl rfl rfl ?_
      refine pw_aload_n 23 rfl rfl rfl ?_
      refine pw_cV0 26 rfl rfl (by first | assumption | exact ⟨by decide, rfl⟩) rfl (Nat.le_of_ble_eq_true rfl) rfl rfl (Nat.le_of_ble_eq_true rfl) (c_Line_size hl hy ?_)
      refine pw_pI ?_
      skip
      refine pw_icmp_ge_t 95 rfl rfl (nI_le (by omega) (by omega)) ?_
      refine pw_iload_n 96 rfl rfl rfl ?_
      exact pw_iret rfl rfl (kk)
  intro d
  induction d with
  | zero =>
    intro i p s a v hv hdp hp66 hip hs ea
    exact stop i p s a v hv (by omega) hp66 hip ea
  | succ d ih =>
    intro i p s a v hv hdp hp66 hip hs ea
    by_cases hp : p < ls.length
    · rw [tr_go hp] at ea
      have hlt := usd_lt (rs := rs) (kd := kd) (ls := ls) (s := s) (p := p)
      have hadv := adv_pos (rs := rs) (kd := kd) (ls := ls) (s := s) (p := p)
      have hadv6 : adv rs (usd rs kd ls s p) ≤ 6 := by
        cases hq : usd rs kd ls s p with
        | none => exact (by decide : (1 : Nat) ≤ 6)
        | some r => exact (usd_some hq).2.2.1
      have tail : ∀ a2, a2 = a + (oL rs kd ls (p, usd rs kd ls s p)).length → PW mX9_lengthBy 67 [.ref k, .ref kl, .int x2, .int (nI a), .int (nI s), .int (nI p), .int (nI i), .int (rI (usd rs kd ls s p))] [.int (nI a2)] sh M N Q := by
        intro a2 da
        refine pw_istore3 68 rfl rfl rfl ?_
        refine pw_aload_n 69 rfl rfl rfl ?_
        refine pw_iload 71 rfl rfl rfl ?_
        refine pw_iload 73 rfl rfl rfl ?_
        refine pw_cV2 76 rfl rfl (by first | assumption | exact ⟨by decide, rfl⟩) rfl (Nat.le_of_ble_eq_true rfl) rfl rfl (Nat.le_of_ble_eq_true rfl) (c_leftOf hw hwk.2.1 (by rw [hk.1]; exact h10) hk.2 hs (fun r hr => by have := hlt r hr; omega) ?_)
        refine pw_pI ?_
        refine pw_istore4 78 rfl rfl rfl ?_
        refine pw_iload 80 rfl rfl rfl ?_
        refine pw_aload_n 81 rfl rfl rfl ?_
        refine pw_iload 83 rfl rfl rfl ?_
        refine pw_cV1 86 rfl rfl (by first | assumption | exact ⟨by decide, rfl⟩) rfl (Nat.le_of_ble_eq_true rfl) rfl rfl (Nat.le_of_ble_eq_true rfl) (c_lengthGone hw hb0 hx hlt ?_)
        refine pw_pI ?_
        first | refine pw_iaddN 87 rfl rfl (by with_reducible rfl) (by with_reducible rfl) ?_ | refine pw_iadd 87 rfl rfl ?_
        refine pw_istore5 89 rfl rfl rfl ?_
        first | refine pw_iincN6 92 rfl rfl rfl (by with_reducible rfl) ?_ | refine pw_iinc6 (w := _) 92 rfl rfl rfl rfl ?_
        refine pw_goto rfl 11 rfl ?_
        refine ih (i + 1) (p + adv rs (usd rs kd ls s p)) (lef kd s (usd rs kd ls s p)) a2 _ rfl (by omega) (by omega) (by omega) (lef_lt hs _) ?_
        rw [da, ← ea, outL, outL, List.flatMap_cons, List.length_append, Nat.add_assoc]
      refine pw_iload 13 rfl rfl rfl ?_
      refine pw_aload_n 14 rfl rfl rfl ?_
      refine pw_cV0 17 rfl rfl (by first | assumption | exact ⟨by decide, rfl⟩) rfl (Nat.le_of_ble_eq_true rfl) rfl rfl (Nat.le_of_ble_eq_true rfl) (c_Line_size hl hy ?_)
      refine pw_pI ?_
      skip
      refine pw_icmp_ge_f 20 rfl rfl (nI_ge (by omega) (by omega)) ?_
      refine pw_iload 22 rfl rfl rfl ?_
      refine pw_aload_n 23 rfl rfl rfl ?_
      refine pw_cV0 26 rfl rfl (by first | assumption | exact ⟨by decide, rfl⟩) rfl (Nat.le_of_ble_eq_true rfl) rfl rfl (Nat.le_of_ble_eq_true rfl) (c_Line_size hl hy ?_)
      refine pw_pI ?_
      skip
      refine pw_icmp_ge_f 29 rfl rfl (nI_ge (by omega) (by omega)) ?_
      refine pw_aload_n 30 rfl rfl rfl ?_
      refine pw_iload 32 rfl rfl rfl ?_
      refine pw_iload 34 rfl rfl rfl ?_
      refine pw_cV2 37 rfl rfl (by first | assumption | exact ⟨by decide, rfl⟩) rfl (Nat.le_of_ble_eq_true rfl) rfl rfl (Nat.le_of_ble_eq_true rfl) (c_ruleUsed hw hwk h10 h60 hp ?_)
      refine pw_pI ?_
      refine pw_istore7 39 rfl rfl rfl ?_
      refine pw_iload_n 40 rfl rfl rfl ?_
      refine pw_iload 42 rfl rfl rfl ?_
      refine pw_bipush (v := (-4)) 44 rfl rfl (by decide) ?_
      cases hq : usd rs kd ls s p with
      | none =>
        rw [hq] at tail
        skip
        refine pw_icmp_ne_f 47 rfl rfl (fun q => q rfl) ?_
        refine pw_iconst (v := nI 1) 48 rfl rfl (by decide) ?_
        refine pw_goto rfl 66 rfl ?_
        first | refine pw_iaddN 67 rfl rfl (by with_reducible rfl) (by with_reducible rfl) ?_ | refine pw_iadd 67 rfl rfl ?_
        exact tail (a + 1) rfl
      | some r =>
        rw [hq] at tail
        have hr := hlt r hq
        have o1 := (b3 r (by omega)).1
        have o3 := (b3 r (by omega)).2.2
        have o3' := o3.1
        skip
        refine pw_icmp_ne_t 51 rfl rfl (nI_m4 (by omega)) ?_
        unfold rI
        refine pw_aload_n 52 rfl rfl rfl ?_
        refine pw_getR 55 rfl rfl (by first | assumption | exact ⟨by decide, rfl⟩) rfl ?_
        refine pw_iload 57 rfl rfl rfl ?_
        refine pw_cV1 60 rfl rfl (by first | assumption | exact ⟨by decide, rfl⟩) rfl (Nat.le_of_ble_eq_true rfl) rfl rfl (Nat.le_of_ble_eq_true rfl) (c_Book_get hb0 (i := r) (by omega) ?_)
        refine pw_pR ?_
        refine pw_getR 63 rfl rfl (by first | assumption | exact ⟨by decide, rfl⟩) rfl ?_
        refine pw_cV0 66 rfl rfl (by first | assumption | exact ⟨by decide, rfl⟩) rfl (Nat.le_of_ble_eq_true rfl) rfl rfl (Nat.le_of_ble_eq_true rfl) (c_Row_size o3 (bk_at hx hr).1.2.2 ?_)
        refine pw_pI ?_
        first | refine pw_iaddN 67 rfl rfl (by with_reducible rfl) (by with_reducible rfl) ?_ | refine pw_iadd 67 rfl rfl ?_
        exact tail _ (by simp only [oL, giv_len])
    · exact stop i p s a v hv (by omega) hp66 hip ea
theorem c_lengthBy {s : Nat} (hw : isWalk sh k kb) (hb : isBook sh kb) (hx : bookIs M kb rs) (hk : okK rs kd) (hwk : wkIs M k rs kd ls) (hl : isLine sh kl nl) (hy : lineIs M kl ls ss) (h60 : ls.length ≤ 60) (hs : s < 1024)
    (kk : Q (some (.int (nI (outL rs kd ls (tr rs kd ls 0 s)).length))) sh M N) : PW mX9_lengthBy 0 [.ref k, .ref kl, .int (nI s), .null, .null, .null, .null, .null] [] sh M N Q := by
  refine pw_iconst (v := nI 0) 1 rfl rfl (by decide) ?_
  refine pw_istore3 2 rfl rfl rfl ?_
  refine pw_iload_n 3 rfl rfl rfl ?_
  refine pw_istore4 5 rfl rfl rfl ?_
  refine pw_iconst (v := nI 0) 6 rfl rfl (by decide) ?_
  refine pw_istore5 8 rfl rfl rfl ?_
  refine pw_iconst (v := nI 0) 9 rfl rfl (by decide) ?_
  refine pw_istore6 11 rfl rfl rfl ?_
  exact lengthBy_loop hw hb hx hk hwk hl hy h60 kk ls.length 0 0 s 0 _ rfl (by omega) (by omega) (by omega) hs (Nat.zero_add _)
theorem c_standsInOpen {p kn r : Nat} (hw : isWalk sh k kb) (hb : isBook sh kb) (hx : bookIs M kb rs) (hk : okK rs kd) (hkr : rowIs M (k + 3) (kd.map nI)) (hl : isLine sh kl nl) (hy : lineIs M kl ls ss) (hn : ls.length ≤ nl) (hp : p < kn) (hkn : kn ≤ ls.length) (hr : r < rs.length)
    (kk : Q (some (.int (nI (stO (kd.getD r 0) (pPh rs r) ls p kn)))) sh M N) : PW mX9_standsInOpen 0 [.ref k, .ref kl, .int (nI p), .int (nI kn), .int (nI r)] [] sh M N Q := by
  have w0 := hw.1
  have w2 := hw.2.2.1
  have w2' := w2.1
  have b1 := hb.1
  have h10 := hx.2.1
  have o1 := (hb.2.2 r (by omega)).1
  have e := bk_at hx hr
  refine pw_aload_n 1 rfl rfl rfl ?_
  refine pw_getR 4 rfl rfl (by first | assumption | exact ⟨by decide, rfl⟩) rfl ?_
  refine pw_iload 6 rfl rfl rfl ?_
  refine pw_cV1 9 rfl rfl (by first | assumption | exact ⟨by decide, rfl⟩) rfl (Nat.le_of_ble_eq_true rfl) rfl rfl (Nat.le_of_ble_eq_true rfl) (c_Book_get hb (i := r) (by omega) ?_)
  refine pw_pR ?_
  refine pw_aload_n 10 rfl rfl rfl ?_
  refine pw_iload_n 11 rfl rfl rfl ?_
  refine pw_aload_n 12 rfl rfl rfl ?_
  refine pw_getR 15 rfl rfl (by first | assumption | exact ⟨by decide, rfl⟩) rfl ?_
  refine pw_iload 17 rfl rfl rfl ?_
  refine pw_cV1 20 rfl rfl (by first | assumption | exact ⟨by decide, rfl⟩) rfl (Nat.le_of_ble_eq_true rfl) rfl rfl (Nat.le_of_ble_eq_true rfl) (c_Row_get w2 hkr (by rw [List.length_map, hk.1]; exact h10) _ ?_)
  rw [gI_n (by omega), getD_mapN]
  refine pw_pI ?_
  refine pw_iload_n 21 rfl rfl rfl ?_
  refine pw_iconst (v := nI 1) 22 rfl rfl (by decide) ?_
  refine pw_cV5 25 rfl rfl (by first | assumption | exact ⟨by decide, rfl⟩) rfl (Nat.le_of_ble_eq_true rfl) rfl rfl (Nat.le_of_ble_eq_true rfl) (c_Rule_stands (op := true) (hb.2.2 r (by omega)) e.1 e.2.2.2.1 hl hy hn (hk.2 r) hp hkn (fun d hs => ?_))
  refine pw_pI ?_
  rw [stA_O hs]
  skip
  exact pw_iret rfl rfl (kk)
theorem first_loop {p kn s : Nat} (hw : isWalk sh k kb) (hb : isBook sh kb) (hx : bookIs M kb rs) (hk : okK rs kd) (hwk : wkIs M k rs kd ls) (hl : isLine sh kl nl) (hy : lineIs M kl ls ss) (hn : ls.length ≤ nl) (hp : p < kn) (hkn : kn ≤ ls.length) (hs : s < 1024)
    (kk : Q (some (.int (rI (fsp rs kd ls kn s p)))) sh M N) :
    ∀ (d i : Nat) (v : Value), pmIsL v = false → i + d = (ord rs).length → fsp rs kd ls kn s p = ((ord rs).drop i).find? (opB rs kd ls kn s p) → PW mX9_firstPossible 3 [.ref k, .ref kl, .int (nI p), .int (nI kn), .int (nI s), .int (nI i), v] [] sh M N Q := by
  have w0 := hw.1
  have w1 := hw.2.1
  have w1' := w1.1
  have h10 := hx.2.1
  have hol : (ord rs).length ≤ rs.length := ordF_len rs (Nat.le_refl 6)
  intro d
  induction d with
  | zero =>
    intro i v hv hi hu
    rw [List.drop_eq_nil_of_le (by omega)] at hu
    refine pw_iload 5 rfl rfl rfl ?_
    refine pw_aload_n 6 rfl rfl rfl ?_
    refine pw_getR 9 rfl rfl (by first | assumption | exact ⟨by decide, rfl⟩) rfl ?_
    refine pw_cV0 12 rfl rfl (by first | assumption | exact ⟨by decide, rfl⟩) rfl (Nat.le_of_ble_eq_true rfl) rfl rfl (Nat.le_of_ble_eq_true rfl) (c_Row_size w1 hwk.1 ?_)
    rw [List.length_map]
    refine pw_pI ?_
    skip
    refine pw_icmp_ge_t 58 rfl rfl (nI_le (by omega) (by omega)) ?_
    refine pw_bipush (v := (-4)) 60 rfl rfl (by decide) ?_
    rw [hu] at kk
    exact pw_iret rfl rfl (kk)
  | succ d ih =>
    intro i v hv hi hu
    have hi2 : i < (ord rs).length := by omega
    have hm : (ord rs)[i] ∈ ord rs := List.getElem_mem hi2
    have hr := (mem_ord.mp hm).1
    have hg : (ord rs).getD i 0 = (ord rs)[i] := by rw [List.getD_eq_getElem?_getD, List.getElem?_eq_getElem hi2]; rfl
    rw [List.drop_eq_getElem_cons hi2, List.find?_cons] at hu
    refine pw_iload 5 rfl rfl rfl ?_
    refine pw_aload_n 6 rfl rfl rfl ?_
    refine pw_getR 9 rfl rfl (by first | assumption | exact ⟨by decide, rfl⟩) rfl ?_
    refine pw_cV0 12 rfl rfl (by first | assumption | exact ⟨by decide, rfl⟩) rfl (Nat.le_of_ble_eq_true rfl) rfl rfl (Nat.le_of_ble_eq_true rfl) (c_Row_size w1 hwk.1 ?_)
    rw [List.length_map]
    refine pw_pI ?_
    skip
    refine pw_icmp_ge_f 15 rfl rfl (nI_ge (by omega) (by omega)) ?_
    refine pw_aload_n 16 rfl rfl rfl ?_
    refine pw_getR 19 rfl rfl (by first | assumption | exact ⟨by decide, rfl⟩) rfl ?_
    refine pw_iload 21 rfl rfl rfl ?_
    refine pw_cV1 24 rfl rfl (by first | assumption | exact ⟨by decide, rfl⟩) rfl (Nat.le_of_ble_eq_true rfl) rfl rfl (Nat.le_of_ble_eq_true rfl) (c_Row_get w1 hwk.1 (by rw [List.length_map]; omega) _ ?_)
    rw [gI_n (by omega), getD_mapN, hg]
    refine pw_pI ?_
    refine pw_istore6 26 rfl rfl rfl ?_
    refine pw_iload 28 rfl rfl rfl ?_
    refine pw_iload 30 rfl rfl rfl ?_
    refine pw_ishr 31 rfl rfl ?_
    refine pw_iconst (v := nI 1) 32 rfl rfl (by decide) ?_
    refine pw_iand 33 rfl rfl ?_
    rw [bit_v _ hs _ (by omega)]
    by_cases q : s.testBit (ord rs)[i] = true
    · rw [if_pos q]
      refine pw_iconst (v := nI 1) 34 rfl rfl (by decide) ?_
      refine pw_icmp_ne_f 37 rfl rfl (by decide) ?_
      refine pw_aload_n 38 rfl rfl rfl ?_
      refine pw_aload_n 39 rfl rfl rfl ?_
      refine pw_iload_n 40 rfl rfl rfl ?_
      refine pw_iload_n 41 rfl rfl rfl ?_
      refine pw_iload 43 rfl rfl rfl ?_
      refine pw_cV4 46 rfl rfl (by first | assumption | exact ⟨by decide, rfl⟩) rfl (Nat.le_of_ble_eq_true rfl) rfl rfl (Nat.le_of_ble_eq_true rfl) (c_standsInOpen hw hb hx hk hwk.2.1 hl hy hn hp hkn hr ?_)
      refine pw_pI ?_
      have h2 := stO_le (kd.getD (ord rs)[i] 0) (pPh rs (ord rs)[i]) ls p kn
      skip
      refine pw_if_eq 52 49 rfl rfl rfl (fun h => ?_) (fun h => ?_)
      · have h : stO (kd.getD (ord rs)[i] 0) (pPh rs (ord rs)[i]) ls p kn = 0 := (nI_eq (by omega) (by omega)).mp h
        have e : opB rs kd ls kn s p (ord rs)[i] = false := by unfold opB; rw [h]; simp
        rw [e] at hu
        first | refine pw_iincN5 55 rfl rfl rfl (by with_reducible rfl) ?_ | refine pw_iinc5 (w := _) 55 rfl rfl rfl rfl ?_
        refine pw_goto rfl 3 rfl ?_
        exact ih (i + 1) _ rfl (by omega) hu
      · have h : stO (kd.getD (ord rs)[i] 0) (pPh rs (ord rs)[i]) ls p kn ≠ 0 := fun q2 => h (by rw [q2]; rfl)
        have e : opB rs kd ls kn s p (ord rs)[i] = true := by unfold opB; rw [q, decide_eq_true h]; rfl
        rw [e] at hu
        rw [hu] at kk
        refine pw_iload 51 rfl rfl rfl ?_
        exact pw_iret rfl rfl (kk)
    · rw [if_neg q]
      have e : opB rs kd ls kn s p (ord rs)[i] = false := by unfold opB; simp [q]
      rw [e] at hu
      refine pw_iconst (v := nI 1) 34 rfl rfl (by decide) ?_
      refine pw_icmp_ne_t 52 rfl rfl (by decide) ?_
      first | refine pw_iincN5 55 rfl rfl rfl (by with_reducible rfl) ?_ | refine pw_iinc5 (w := _) 55 rfl rfl rfl rfl ?_
      refine pw_goto rfl 3 rfl ?_
      exact ih (i + 1) _ rfl (by omega) hu
theorem c_firstPossible {p kn s : Nat} (hw : isWalk sh k kb) (hb : isBook sh kb) (hx : bookIs M kb rs) (hk : okK rs kd) (hwk : wkIs M k rs kd ls) (hl : isLine sh kl nl) (hy : lineIs M kl ls ss) (hn : ls.length ≤ nl) (hp : p < kn) (hkn : kn ≤ ls.length) (hs : s < 1024)
    (kk : Q (some (.int (rI (fsp rs kd ls kn s p)))) sh M N) : PW mX9_firstPossible 0 [.ref k, .ref kl, .int (nI p), .int (nI kn), .int (nI s), .null, .null] [] sh M N Q := by
  refine pw_iconst (v := nI 0) 1 rfl rfl (by decide) ?_
  refine pw_istore5 3 rfl rfl rfl ?_
  exact first_loop hw hb hx hk hwk hl hy hn hp hkn hs kk (ord rs).length 0 _ rfl (by omega) rfl
theorem sureOf_loop {kn s0 : Nat} {x3 : Int32} (hw : isWalk sh k kb) (hb : isBook sh kb) (hx : bookIs M kb rs) (hk : okK rs kd) (hwk : wkIs M k rs kd ls) (hl : isLine sh kl nl) (hy : lineIs M kl ls ss) (hn : ls.length ≤ nl) (hkn : kn ≤ ls.length) (h60 : ls.length ≤ 60)
    (kk : Q (some (.int (nI (surF rs kd ls kn kn 0 s0)))) sh M N) :
    ∀ (d i p s : Nat) (v : Value), pmIsL v = false → kn - p ≤ d → p ≤ kn → i ≤ p → s < 1024 → surF rs kd ls kn d p s = surF rs kd ls kn kn 0 s0 →
      PW mX9_sureOf 9 [.ref k, .ref kl, .int (nI kn), .int x3, .int (nI s), .int (nI p), .int (nI i), v] [] sh M N Q := by
  have w0 := hw.1
  have h10 := hx.2.1
  have stop : ∀ (i p s : Nat) (v : Value), pmIsL v = false → kn ≤ p → p ≤ kn → i ≤ p → p = surF rs kd ls kn kn 0 s0 →
      PW mX9_sureOf 9 [.ref k, .ref kl, .int (nI kn), .int x3, .int (nI s), .int (nI p), .int (nI i), v] [] sh M N Q := by
    intro i p s v hv h1 h2 hip e
    rw [← e] at kk
    by_cases q : kn ≤ i
    · refine pw_iload 11 rfl rfl rfl ?_
      refine pw_iload_n 12 rfl rfl rfl ?_
      refine pw_icmp_ge_t 84 rfl rfl (nI_le (by omega) (by omega)) ?_
      refine pw_iload 86 rfl rfl rfl ?_
      exact pw_iret rfl rfl (kk)
    · refine pw_iload 11 rfl rfl rfl ?_
      refine pw_iload_n 12 rfl rfl rfl ?_
      refine pw_icmp_ge_f 15 rfl rfl (nI_ge (by omega) (by omega)) ?_
      refine pw_iload 17 rfl rfl rfl ?_
      refine pw_iload_n 18 rfl rfl rfl ?_
      refine pw_icmp_ge_t 84 rfl rfl (nI_le (by omega) (by omega)) ?_
      refine pw_iload 86 rfl rfl rfl ?_
      exact pw_iret rfl rfl (kk)
  intro d
  induction d with
  | zero =>
    intro i p s v hv hd hp hip hs e
    exact stop i p s v hv (by omega) hp hip e
  | succ d ih =>
    intro i p s v hv hd hp hip hs e
    rw [surF] at e
    by_cases h : p < kn
    · rw [if_pos h] at e
      have hfs : ∀ r, fsp rs kd ls kn s p = some r → r < rs.length := fun r q => (fsp_some q).1
      have tail : stp rs kd ls kn p (fsp rs kd ls kn s p) ≠ true → PW mX9_sureOf 57 [.ref k, .ref kl, .int (nI kn), .int x3, .int (nI s), .int (nI p), .int (nI i), .int (rI (fsp rs kd ls kn s p))] [] sh M N Q := by
        intro hst
        rw [if_neg hst] at e
        have hv2 := fsp_adv h hst
        refine pw_aload_n 58 rfl rfl rfl ?_
        refine pw_iload 60 rfl rfl rfl ?_
        refine pw_iload 62 rfl rfl rfl ?_
        refine pw_cV2 65 rfl rfl (by first | assumption | exact ⟨by decide, rfl⟩) rfl (Nat.le_of_ble_eq_true rfl) rfl rfl (Nat.le_of_ble_eq_true rfl) (c_leftOf hw hwk.2.1 (by rw [hk.1]; exact h10) hk.2 hs (fun r hr => by have := hfs r hr; omega) ?_)
        refine pw_pI ?_
        refine pw_istore4 67 rfl rfl rfl ?_
        refine pw_iload 69 rfl rfl rfl ?_
        refine pw_aload_n 70 rfl rfl rfl ?_
        refine pw_iload 72 rfl rfl rfl ?_
        refine pw_cV1 75 rfl rfl (by first | assumption | exact ⟨by decide, rfl⟩) rfl (Nat.le_of_ble_eq_true rfl) rfl rfl (Nat.le_of_ble_eq_true rfl) (c_lengthGone hw hb hx hfs ?_)
        refine pw_pI ?_
        first | refine pw_iaddN 76 rfl rfl (by with_reducible rfl) (by with_reducible rfl) ?_ | refine pw_iadd 76 rfl rfl ?_
        refine pw_istore5 78 rfl rfl rfl ?_
        first | refine pw_iincN6 81 rfl rfl rfl (by with_reducible rfl) ?_ | refine pw_iinc6 (w := _) 81 rfl rfl rfl rfl ?_
        refine pw_goto rfl 9 rfl ?_
        exact ih (i + 1) _ _ _ rfl (by omega) hv2.2 (by omega) (lef_lt hs _) e
      refine pw_iload 11 rfl rfl rfl ?_
      refine pw_iload_n 12 rfl rfl rfl ?_
      refine pw_icmp_ge_f 15 rfl rfl (nI_ge (by omega) (by omega)) ?_
      refine pw_iload 17 rfl rfl rfl ?_
      refine pw_iload_n 18 rfl rfl rfl ?_
      refine pw_icmp_ge_f 21 rfl rfl (nI_ge (by omega) (by omega)) ?_
      refine pw_aload_n 22 rfl rfl rfl ?_
      refine pw_aload_n 23 rfl rfl rfl ?_
      refine pw_iload 25 rfl rfl rfl ?_
      refine pw_iload_n 26 rfl rfl rfl ?_
      refine pw_iload 28 rfl rfl rfl ?_
      refine pw_cV4 31 rfl rfl (by first | assumption | exact ⟨by decide, rfl⟩) rfl (Nat.le_of_ble_eq_true rfl) rfl rfl (Nat.le_of_ble_eq_true rfl) (c_firstPossible hw hb hx hk hwk hl hy hn h hkn hs ?_)
      refine pw_pI ?_
      refine pw_istore7 33 rfl rfl rfl ?_
      refine pw_iload 35 rfl rfl rfl ?_
      refine pw_bipush (v := (-4)) 37 rfl rfl (by decide) ?_
      cases hq : fsp rs kd ls kn s p with
      | none =>
        rw [hq] at tail
        skip
        refine pw_icmp_eq_t 57 rfl rfl (rfl) ?_
        exact tail (fun q => by cases q)
      | some r =>
        rw [hq] at tail e
        have hr := hfs r hq
        have h2 := stO_le (kd.getD r 0) (pPh rs r) ls p kn
        skip
        refine pw_icmp_eq_f 40 rfl rfl (nI_m4 (by omega)) ?_
        unfold rI
        refine pw_aload_n 41 rfl rfl rfl ?_
        refine pw_aload_n 42 rfl rfl rfl ?_
        refine pw_iload 44 rfl rfl rfl ?_
        refine pw_iload_n 45 rfl rfl rfl ?_
        refine pw_iload 47 rfl rfl rfl ?_
        refine pw_cV4 50 rfl rfl (by first | assumption | exact ⟨by decide, rfl⟩) rfl (Nat.le_of_ble_eq_true rfl) rfl rfl (Nat.le_of_ble_eq_true rfl) (c_standsInOpen hw hb hx hk hwk.2.1 hl hy hn h hkn hr ?_)
        refine pw_pI ?_
        refine pw_iconst (v := nI 2) 51 rfl rfl (by decide) ?_
        refine pw_icmp_ne 57 54 rfl rfl rfl (fun h3 => ?_) (fun h3 => ?_)
        · exact tail (fun q => by unfold stp at q; rw [decide_eq_true_eq] at q; exact h3 (by rw [q]))
        · have h3 : stO (kd.getD r 0) (pPh rs r) ls p kn = 2 := (nI_eq (by omega) (by omega)).mp (Decidable.not_not.mp h3)
          rw [if_pos (by unfold stp; rw [decide_eq_true_eq]; exact h3)] at e
          rw [← e] at kk
          refine pw_iload 56 rfl rfl rfl ?_
          exact pw_iret rfl rfl (kk)
    · rw [if_neg h] at e
      exact stop i p s v hv (by omega) hp hip e
theorem c_sureOf {kn s : Nat} (hw : isWalk sh k kb) (hb : isBook sh kb) (hx : bookIs M kb rs) (hk : okK rs kd) (hwk : wkIs M k rs kd ls) (hl : isLine sh kl nl) (hy : lineIs M kl ls ss) (hn : ls.length ≤ nl) (hkn : kn ≤ ls.length) (h60 : ls.length ≤ 60) (hs : s < 1024)
    (kk : Q (some (.int (nI (surF rs kd ls kn kn 0 s)))) sh M N) : PW mX9_sureOf 0 [.ref k, .ref kl, .int (nI kn), .int (nI s), .null, .null, .null, .null] [] sh M N Q := by
  refine pw_iload_n 1 rfl rfl rfl ?_
  refine pw_istore4 3 rfl rfl rfl ?_
  refine pw_iconst (v := nI 0) 4 rfl rfl (by decide) ?_
  refine pw_istore5 6 rfl rfl rfl ?_
  refine pw_iconst (v := nI 0) 7 rfl rfl (by decide) ?_
  refine pw_istore6 9 rfl rfl rfl ?_
  exact sureOf_loop hw hb hx hk hwk hl hy hn hkn h60 kk kn 0 0 s _ rfl (by omega) (by omega) (by omega) hs rfl
end OPN
