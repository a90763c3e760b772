section SNW
variable {p : Program} {l : Launch} {e : Env} {R : Room} {s : State} {m : MethodId} {args : Array Value} {below : List Frame} {meth : Method} {c : Code} {Q : State → Prop} {D : va_G} {g : Nat → ClassId} {b base k0 t0 : Nat}
theorem pmTs_of {pc : Nat} {d lo hi : Int} {offs : Array Int} {x : Int32} {q : Nat} (h : pmTs pc d lo hi offs x = some q) : ((x.toInt < lo ∨ hi < x.toInt) ∧ (pc : Int) + d = (q : Int)) ∨ (¬ x.toInt < lo ∧ ¬ hi < x.toInt ∧ ∃ o, offs[(x.toInt - lo).toNat]? = some o ∧ (pc : Int) + o = (q : Int)) := by
  unfold pmTs at h
  simp only at h
  by_cases h1 : x.toInt < lo ∨ hi < x.toInt
  · rw [if_pos h1] at h
    simp only [Option.bind_some] at h
    split at h
    · rename_i h2
      cases h
      exact Or.inl ⟨h1, by omega⟩
    · cases h
  · rw [if_neg h1] at h
    cases ho : offs[(x.toInt - lo).toNat]? with
    | none => rw [ho] at h; cases h
    | some o =>
      rw [ho] at h
      simp only [Option.bind_some] at h
      split at h
      · rename_i h2
        cases h
        exact Or.inr ⟨fun q => h1 (Or.inl q), fun q => h1 (Or.inr q), o, rfl, by omega⟩
      · cases h
set_option maxHeartbeats 4000000 in
theorem snd_go {mi pc pc' : Nat} {ls st ls' st' : List Value} {sh sh' : pmS} {M M' : pmM} {N N' : pmN} (hnx : pmNx mi pc ls st sh M N = some (.inr (.inl (pc', ls', st', sh', M', N')))) (C0 : pmCx p R s m args meth c mi D g)
    (hXc : pmXc s b base mi sh M) (hs : s.heap.size = base + k0) (hk0 : k0 ≤ sh.length) (ht0 : t0 ≤ pmTo sh) (h10 : 1 ≤ k0) (hR1 : sh'.length - k0 ≤ R.cells) (hR2 : pmTo sh' - t0 ≤ R.slots)
    (kk : pmW p l e R s m args below meth c Q D g b base k0 t0 mi pc' ls' st' sh' M' N') : pmW p l e R s m args below meth c Q D g b base k0 t0 mi pc ls st sh M N := by
  have ex : ∀ {i : Instr} {len a bb cw : Nat}, pmCode mi pc = some (i, len, a, bb, cw) → pmEx i a bb ls st sh M N = some (ls', st', sh', M', N') → pc' = pc + len → pmW p l e R s m args below meth c Q D g b base k0 t0 mi pc ls st sh M N := by
    intro i len a bb cw hcode hex hpc
    subst hpc
    cases hA : pmA i with
    | true => exact snd_a hcode hex hA C0 kk
    | false => exact snd_b hcode hex hA C0 hXc hs hk0 ht0 h10 hR1 hR2 kk
  unfold pmNx at hnx
  split at hnx
  · cases hnx
  · rename_i i len a bb cw hcode
    split at hnx
    · repeat' split at hnx
      all_goals first | (cases hnx; done) | (simp only [Option.some.injEq, reduceCtorEq] at hnx; done)
    · repeat' split at hnx
      all_goals first | (cases hnx; done) | (simp only [Option.some.injEq, reduceCtorEq] at hnx; done)
    · repeat' split at hnx
      all_goals first | (cases hnx; done) | (simp only [Option.some.injEq, reduceCtorEq] at hnx; done)
    · repeat' split at hnx
      all_goals first | (cases hnx; done) | (simp only [Option.some.injEq, reduceCtorEq] at hnx; done)
    · -- goto
      simp only [Option.some.injEq, Sum.inr.injEq, Sum.inl.injEq, Prod.mk.injEq] at hnx
      obtain ⟨rfl, rfl, rfl, rfl, rfl, rfl⟩ := hnx
      obtain ⟨hd, hi⟩ := ck1 hcode (by intro q; cases q)
      simp only [ckI, decide_eq_true_eq] at hi
      obtain ⟨h1, rfl⟩ := hi
      obtain ⟨hx, hb, -⟩ := C0
      intro H locs lsA hP hS hl
      exact lv_goto hx hb hd h1 (kk H locs lsA hP hS hl)
    · -- if
      rename_i cd off
      split at hnx
      · rename_i x t
        simp only [Option.some.injEq, Sum.inr.injEq, Sum.inl.injEq, Prod.mk.injEq] at hnx
        obtain ⟨rfl, rfl, rfl, rfl, rfl, rfl⟩ := hnx
        obtain ⟨hd, hi⟩ := ck1 hcode (by intro q; cases q)
        simp only [ckI, decide_eq_true_eq] at hi
        obtain ⟨h1, rfl⟩ := hi
        obtain ⟨hx, hb, -⟩ := C0
        intro H locs lsA hP hS hl
        have k2 := kk H locs lsA hP hS hl
        cases cd with
        | eq => exact lv_if_eq hx hb hd h1 (fun hc => by rw [if_pos (by simp [pmC0, hc])] at k2; exact k2) (fun hc => by rw [if_neg (by simp [pmC0, hc])] at k2; exact k2)
        | ne => exact lv_if_ne hx hb hd h1 (fun hc => by rw [if_pos (by simp [pmC0, hc])] at k2; exact k2) (fun hc => by rw [if_neg (by simp [pmC0, hc])] at k2; exact k2)
        | lt => exact lv_if_lt hx hb hd h1 (fun hc => by simp only [pmC0, pmC2, hc, not_false_eq_true, decide_true, if_true] at k2; exact k2) (fun hc => by simp only [pmC0, pmC2, hc, decide_false, Bool.false_eq_true, if_false] at k2; exact k2)
        | ge => exact lv_if_ge hx hb hd h1 (fun hc => by simp only [pmC0, pmC2, hc, not_false_eq_true, decide_true, if_true] at k2; exact k2) (fun hc => by simp only [pmC0, pmC2, hc, decide_false, Bool.false_eq_true, if_false] at k2; exact k2)
        | gt => exact lv_if_gt hx hb hd h1 (fun hc => by simp only [pmC0, pmC2, hc, not_false_eq_true, decide_true, if_true] at k2; exact k2) (fun hc => by simp only [pmC0, pmC2, hc, decide_false, Bool.false_eq_true, if_false] at k2; exact k2)
        | le => exact lv_if_le hx hb hd h1 (fun hc => by simp only [pmC0, pmC2, hc, not_false_eq_true, decide_true, if_true] at k2; exact k2) (fun hc => by simp only [pmC0, pmC2, hc, decide_false, Bool.false_eq_true, if_false] at k2; exact k2)
      · cases hnx
    · -- if_icmp
      rename_i cd off
      split at hnx
      · rename_i y x t
        simp only [Option.some.injEq, Sum.inr.injEq, Sum.inl.injEq, Prod.mk.injEq] at hnx
        obtain ⟨rfl, rfl, rfl, rfl, rfl, rfl⟩ := hnx
        obtain ⟨hd, hi⟩ := ck1 hcode (by intro q; cases q)
        simp only [ckI, decide_eq_true_eq] at hi
        obtain ⟨h1, rfl⟩ := hi
        obtain ⟨hx, hb, -⟩ := C0
        intro H locs lsA hP hS hl
        have k2 := kk H locs lsA hP hS hl
        cases cd with
        | eq => exact lv_icmp_eq hx hb hd h1 (fun hc => by simp only [pmC0, pmC2, hc, not_false_eq_true, decide_true, if_true] at k2; exact k2) (fun hc => by simp only [pmC0, pmC2, hc, decide_false, Bool.false_eq_true, if_false] at k2; exact k2)
        | ne => exact lv_icmp_ne hx hb hd h1 (fun hc => by simp only [pmC0, pmC2, hc, not_false_eq_true, decide_true, if_true] at k2; exact k2) (fun hc => by simp only [pmC0, pmC2, hc, not_true_eq_false, decide_false, Bool.false_eq_true, if_false] at k2; exact k2)
        | lt => exact lv_icmp_lt hx hb hd h1 (fun hc => by simp only [pmC0, pmC2, hc, not_false_eq_true, decide_true, if_true] at k2; exact k2) (fun hc => by simp only [pmC0, pmC2, hc, decide_false, Bool.false_eq_true, if_false] at k2; exact k2)
        | ge => exact lv_icmp_ge hx hb hd h1 (fun hc => by simp only [pmC0, pmC2, hc, not_false_eq_true, decide_true, if_true] at k2; exact k2) (fun hc => by simp only [pmC0, pmC2, hc, decide_false, Bool.false_eq_true, if_false] at k2; exact k2)
        | gt => exact lv_icmp_gt hx hb hd h1 (fun hc => by simp only [pmC0, pmC2, hc, not_false_eq_true, decide_true, if_true] at k2; exact k2) (fun hc => by simp only [pmC0, pmC2, hc, decide_false, Bool.false_eq_true, if_false] at k2; exact k2)
        | le => exact lv_icmp_le hx hb hd h1 (fun hc => by simp only [pmC0, pmC2, hc, not_false_eq_true, decide_true, if_true] at k2; exact k2) (fun hc => by simp only [pmC0, pmC2, hc, decide_false, Bool.false_eq_true, if_false] at k2; exact k2)
      · cases hnx
    · -- tableswitch
      rename_i d lo hi offs
      split at hnx
      · rename_i x t
        split at hnx
        · rename_i q hq
          simp only [Option.some.injEq, Sum.inr.injEq, Sum.inl.injEq, Prod.mk.injEq] at hnx
          obtain ⟨rfl, rfl, rfl, rfl, rfl, rfl⟩ := hnx
          obtain ⟨hd, -⟩ := ck1 hcode (by intro q; cases q)
          obtain ⟨hx, hb, -⟩ := C0
          intro H locs lsA hP hS hl
          rcases pmTs_of hq with ⟨h1, h2⟩ | ⟨h1, h2, o, h3, h4⟩
          · exact lv_tableOut hx hb hd h1 h2 (kk H locs lsA hP hS hl)
          · exact lv_tableIn hx hb hd h1 h2 h3 h4 (kk H locs lsA hP hS hl)
        · cases hnx
      · cases hnx
    · -- lookupswitch
      rename_i d ps
      split at hnx
      · rename_i x t
        split at hnx
        · rename_i q hq
          simp only [Option.some.injEq, Sum.inr.injEq, Sum.inl.injEq, Prod.mk.injEq] at hnx
          obtain ⟨rfl, rfl, rfl, rfl, rfl, rfl⟩ := hnx
          obtain ⟨hd, hi⟩ := ck1 hcode (by intro q; cases q)
          simp only [ckI] at hi
          obtain ⟨hx, hb, -⟩ := C0
          intro H locs lsA hP hS hl
          unfold pmLk at hq
          simp only at hq
          split at hq
          · cases hq
            exact lv_lookup hx hb hd hi rfl (by omega) (kk H locs lsA hP hS hl)
          · cases hq
        · cases hnx
      · cases hnx
    · -- virtual
      split at hnx
      · simp only [Option.some.injEq, Sum.inr.injEq, reduceCtorEq] at hnx
      · cases hnx
    · split at hnx
      · split at hnx
        · rename_i x hq
          simp only [Option.some.injEq, Sum.inr.injEq, Sum.inl.injEq, Prod.mk.injEq] at hnx
          obtain ⟨h1, rfl⟩ := hnx
          exact ex hcode hq h1.symm
        · cases hnx
      · split at hnx
        · simp only [Option.some.injEq, Sum.inr.injEq, reduceCtorEq] at hnx
        · cases hnx
    · split at hnx
      · split at hnx
        · rename_i x hq
          simp only [Option.some.injEq, Sum.inr.injEq, Sum.inl.injEq, Prod.mk.injEq] at hnx
          obtain ⟨h1, rfl⟩ := hnx
          exact ex hcode hq h1.symm
        · cases hnx
      · split at hnx
        · simp only [Option.some.injEq, Sum.inr.injEq, reduceCtorEq] at hnx
        · cases hnx
    · split at hnx
      · rename_i x hq
        simp only [Option.some.injEq, Sum.inr.injEq, Sum.inl.injEq, Prod.mk.injEq] at hnx
        obtain ⟨h1, rfl⟩ := hnx
        exact ex hcode hq h1.symm
      · cases hnx
set_option maxHeartbeats 4000000 in
theorem pmNx_at {mi pc : Nat} {ls st : List Value} {sh sh' : pmS} {M M' : pmM} {N N' : pmN} {r : Option Value} (hnx : pmNx mi pc ls st sh M N = some (.inl (r, sh', M', N'))) : st = r.toList ∧ pmRetAt mi pc r := by
  unfold pmNx at hnx
  split at hnx
  · cases hnx
  · rename_i i len a bb cw hcode
    split at hnx
    · split at hnx
      · split at hnx
        · rename_i h0
          simp only [Option.some.injEq, Sum.inl.injEq, Prod.mk.injEq] at hnx
          obtain ⟨rfl, -⟩ := hnx
          obtain ⟨hd, hi⟩ := ck1 hcode (by intro q; cases q)
          simp only [ckI, decide_eq_true_eq] at hi
          subst hi
          exact ⟨rfl, Or.inl ⟨_, rfl, hd, h0⟩⟩
        · cases hnx
      · cases hnx
    · split at hnx
      · simp only [Option.some.injEq, Sum.inl.injEq, Prod.mk.injEq] at hnx
        obtain ⟨rfl, -⟩ := hnx
        obtain ⟨hd, hi⟩ := ck1 hcode (by intro q; cases q)
        simp only [ckI, decide_eq_true_eq] at hi
        obtain ⟨h1, rfl⟩ := hi
        exact ⟨rfl, Or.inr (Or.inl ⟨_, rfl, hd, h1⟩)⟩
      · cases hnx
    · split at hnx
      · simp only [Option.some.injEq, Sum.inl.injEq, Prod.mk.injEq] at hnx
        obtain ⟨rfl, -⟩ := hnx
        obtain ⟨hd, hi⟩ := ck1 hcode (by intro q; cases q)
        simp only [ckI, Bool.and_eq_true, decide_eq_true_eq] at hi
        obtain ⟨rfl, h1⟩ := hi
        split at h1
        · rename_i C hC
          exact ⟨rfl, Or.inr (Or.inr (Or.inl ⟨_, C, rfl, hd, hC⟩))⟩
        · cases h1
      · cases hnx
    · split at hnx
      · simp only [Option.some.injEq, Sum.inl.injEq, Prod.mk.injEq] at hnx
        obtain ⟨rfl, -⟩ := hnx
        obtain ⟨hd, hi⟩ := ck1 hcode (by intro q; cases q)
        simp only [ckI, decide_eq_true_eq] at hi
        obtain ⟨h1, rfl⟩ := hi
        exact ⟨rfl, Or.inr (Or.inr (Or.inr ⟨rfl, hd, h1⟩))⟩
      · cases hnx
    all_goals (repeat' split at hnx)
    all_goals first | (cases hnx; done) | (simp only [Option.some.injEq, reduceCtorEq] at hnx; done)
end SNW
/-- all that a run with this fuel gives -/
def pmOk (l : Launch) (D : va_G) (g : Nat → ClassId) (b base n : Nat) : Prop := ∀ (mi pc : Nat) (ls st : List Value) (sh : pmS) (M : pmM) (N : pmN) (r : Option Value) (sh' : pmS) (M' : pmM) (N' : pmN), pr n mi pc ls st sh M N = some (r, sh', M', N') →
  ∀ (p : Program) (e : Env) (R : Room) (s : State) (m : MethodId) (args : Array Value) (below : List Frame) (meth : Method) (c : Code) (Q : State → Prop) (k0 t0 : Nat), pmCx p R s m args meth c mi D g → pmNg s → pmXc s b base mi sh M → s.heap.size = base + k0 → k0 ≤ sh.length → t0 ≤ pmTo sh → 1 ≤ k0 → sh'.length - k0 ≤ R.cells → pmTo sh' - t0 ≤ R.slots →
  (∀ (pc' : Nat) (ls' : List Value), pmRetAt mi pc' r → pmW p l e R s m args below meth c Q D g b base k0 t0 mi pc' ls' r.toList sh' M' N') → pmW p l e R s m args below meth c Q D g b base k0 t0 mi pc ls st sh M N
theorem snd_met {l : Launch} {D : va_G} {g : Nat → ClassId} {b base n : Nat} (ih : pmOk l D g b base n) {mj : Nat} {as : List Value} {sh : pmS} {M : pmM} {N : pmN} {r : Option Value} {sh' : pmS} {M' : pmM} {N' : pmN} (h : pr n mj 0 (pmEn as (pmL mj)) [] sh M N = some (r, sh', M', N')) (h1 : 1 ≤ sh.length) (hmt : ckMt mj = true) (hj : mj < 189) (hok : as.all pmOkV = true) (hfit : (as.flatMap fun v => if pmIsL v then [v, .null] else [v]).length ≤ pmL mj) : pmMet l D g b base mj as sh M N r sh' M' N' := by
  refine va_MetF (cc := pmBy mj) (maxL := pmL mj) (ret := pmRt mj) (pf_all mj hj) rfl ?_
  intro p e s m args below meth c s₁ B hml hv
  obtain ⟨rfl, hsz, hP, hK, hN⟩ := hv
  have hts := atoms_spec (ws := pmWl mj) B.pre
  unfold ckMt at hmt
  simp only [Bool.and_eq_true, decide_eq_true_eq] at hmt
  obtain ⟨⟨⟨⟨hmh, hcls⟩, hcw⟩, hini⟩, hkd⟩ := hmt
  have hown : s.vm.findClass (pmOwn mj) = some m.cls := by rw [← hcls]; exact findClass_of_methodNamed B.named
  have C0 : pmCx p (headSpec (pmWl mj) (pmRm mj (sh'.length - sh.length) (pmTo sh' - pmTo sh))).room s m (as.map (pmCv (pmAd b base))).toArray meth c mj D g := by
    refine ⟨B.exec, B.bytes, hml, hown, pmTb_all (fun w hw => hts w (List.mem_cons_of_mem _ hw)) hN, hK, B.notSynchronized, B.returns, fun q => ?_, Nat.le_refl _, Nat.le_refl _⟩
    rw [q] at hkd
    simp only [Bool.and_eq_true, decide_eq_true_eq] at hkd
    rw [← hkd.1.1.2]
    exact (name_of_methodNamed B.named B.method).1
  rw [lg_entry_eq]
  have key := ih mj 0 (pmEn as (pmL mj)) [] sh M N r sh' M' N' h p e _ s m _ below meth c (MQ below (pmQc D g b base r sh' M' N') (as.map (pmCv (pmAd b base))).toArray s (sh'.length - sh.length) (pmTo sh' - pmTo sh) (fun q => base < q)) sh.length (pmTo sh) C0 hN (fun q => by rw [q] at hj; exact absurd hj (by decide)) hsz (Nat.le_refl _) (Nat.le_refl _) h1 (Nat.le_refl _) (Nat.le_refl _) ?_
  · have k2 := key s.heap [] _ hP va_S.rf (pmEn_lr hok hfit)
    rw [Nat.sub_self, Nat.sub_self] at k2
    exact k2
  · intro pc' ls' hr H locs lsA hP' hS' hl'
    have hq : ∀ t : State, t.heap = H → s.WarmedH t.vm → pmQc D g b base r sh' M' N' (as.map (pmCv (pmAd b base))).toArray s (.returned (r.map (pmCv (pmAd b base)))) t := fun t ht _ => ⟨rfl, by rw [ht]; exact hP', hS'.F ht⟩
    have hlocks := B.notSynchronized
    rcases hr with ⟨v, rfl, hd, hrt⟩ | ⟨v, rfl, hd, hrt⟩ | ⟨v, C, rfl, hd, hrt⟩ | ⟨rfl, hd, hrt⟩
    · rcases hrt with hrt | ⟨hrt, hz⟩
      · exact W.zret (ty := .int) B.exec B.bytes (B.returns.trans hrt) rfl hq hS'.2.2 hd hlocks
      · exact W.zret (ty := .boolean) B.exec B.bytes (B.returns.trans hrt) (by rcases hz with rfl | rfl <;> rfl) hq hS'.2.2 hd hlocks
    · exact W.lret B.exec B.bytes (B.returns.trans hrt) hq hS'.2.2 hd hlocks
    · exact W.aret (rt := .object C) B.exec B.bytes (B.returns.trans hrt) (Or.inl ⟨C, rfl⟩) (Or.inr ⟨_, rfl⟩) hq hS'.2.2 hd hlocks
    · exact W.vret B.exec B.bytes (B.returns.trans hrt) hq hS'.2.2 hd hlocks
theorem pmXc_kp {s : State} {b base mi : Nat} {sh sh' : pmS} {M M' : pmM} (h : pmXc s b base mi sh M) (hk : pmKp sh sh' M M') (h1 : 1 ≤ sh.length) : pmXc s b base mi sh' M' := by
  intro q
  obtain ⟨L, rs, e1, e2, e3⟩ := h q
  obtain ⟨f1, f2⟩ := hk.2.2 h1
  exact ⟨L, rs, f2.trans e1, by rw [f1]; exact e2, e3⟩
/-- SOUNDNESS: what the pure machine runs to, the real one comes to -/
theorem snd_main (l : Launch) (D : va_G) (g : Nat → ClassId) (b base : Nat) : ∀ n, pmOk l D g b base n := by
  intro n
  induction n with
  | zero => intro mi pc ls st sh M N r sh' M' N' h; cases h
  | succ n ih =>
    intro mi pc ls st sh M N r sh' M' N' h p e R s m args below meth c Q k0 t0 C0 hN hXc hs hk0 ht0 h10 hR1 hR2 fin
    rw [pr] at h
    cases hn : pmNx mi pc ls st sh M N with
    | none => rw [hn] at h; cases h
    | some x =>
      rw [hn] at h
      match x, hn, h with
      | .inl x, hn, h =>
        cases h
        obtain ⟨rfl, hr⟩ := pmNx_at hn
        obtain ⟨rfl, rfl, rfl⟩ := pmNx_ret hn
        exact fin pc ls hr
      | .inr (.inl (pc1, ls1, st1, sh1, M1, N1)), hn, h =>
        have k1 := pmNx_go hn
        have k2 := pr_kp _ _ _ _ _ _ _ _ _ _ _ _ h
        refine snd_go hn C0 hXc hs hk0 ht0 h10 (by have := k2.1; omega) (by have := k2.2.1; omega) ?_
        exact ih _ _ _ _ _ _ _ _ _ _ _ h p e R s m args below meth c Q k0 t0 C0 hN (pmXc_kp hXc k1 (by omega)) hs (Nat.le_trans hk0 k1.1) (Nat.le_trans ht0 k1.2.1) h10 hR1 hR2 fin
      | .inr (.inr (mj, as, rest)), hn, h =>
        simp only at h
        cases hc : pr n mj 0 (pmEn as (pmL mj)) [] sh M N with
        | none => rw [hc] at h; cases h
        | some y =>
          obtain ⟨r1, sh1, M1, N1⟩ := y
          rw [hc] at h
          have k1 := pr_kp _ _ _ _ _ _ _ _ _ _ _ _ hc
          have k2 := pr_kp _ _ _ _ _ _ _ _ _ _ _ _ h
          refine snd_call hn (fun hmt hj hok hfit => snd_met ih hc (by omega) hmt hj hok hfit) C0 hN hs hk0 ht0 h10 k1.1 k1.2.1 (by have := k2.1; omega) (by have := k2.2.1; omega) ?_
          exact ih _ _ _ _ _ _ _ _ _ _ _ h p e R s m args below meth c Q k0 t0 C0 hN (pmXc_kp hXc k1 (by omega)) hs (Nat.le_trans hk0 k1.1) (Nat.le_trans ht0 k1.2.1) h10 hR1 hR2 fin
