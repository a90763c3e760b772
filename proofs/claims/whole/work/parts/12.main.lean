section SNM
variable {p : Program} {l : Launch} {e : Env} {R : Room} {s : State} {m : MethodId} {args : Array Value} {below : List Frame} {meth : Method} {c : Code} {Q : State → Prop} {D : va_G} {g : Nat → ClassId} {b base k0 t0 : Nat}
theorem pmPc_blind {as : List Value} {sh : pmS} {M : pmM} {N : pmN} : FrameBlind (pmPc D g b base as sh M N) := by
  intro a U g2 mk h
  obtain ⟨h1, h2, h3, h4, h5⟩ := h
  exact ⟨h1, h2, h3, va_K.moved (u := U) (U := U.calling g2 mk a) (Vm.Alike.refl U.vm) h4, pmNg_same (u := U) (U := U.calling g2 mk a) rfl h5⟩
theorem pmGd_in {mj : Nat} (h : ckLw (pmWx.getD mj (0, 0, 0, 0)).1 (.code (pmY mj) (pmBy mj) (pmL mj) (pmRt mj)) = true) : GoodIn pmTb (pmWl mj) := by
  intro w hw
  rcases List.mem_cons.mp hw with rfl | hw
  · exact ⟨pmTb_of h rfl, Or.inl rfl⟩
  · obtain ⟨h1, h2⟩ := List.mem_filter.mp hw
    exact ⟨h1, good_of_word h2⟩
theorem pmArgs_of {kd mj : Nat} {st as rest : List Value} {sh : pmS} (h : pmArgs kd mj st sh = some (as, rest)) : st = as.reverse ++ rest ∧ as.length = pmNa mj ∧ pmCat rest ≤ 8 ∧ pmKd mj = kd ∧ pmRecv kd (pmCi mj) as sh = true ∧ as.all pmOkV = true ∧ (as.flatMap fun v => if pmIsL v then [v, .null] else [v]).length ≤ pmL mj := by
  unfold pmArgs at h
  simp only at h
  split at h
  · rename_i h0
    simp only [Option.some.injEq, Prod.mk.injEq] at h
    obtain ⟨rfl, rfl⟩ := h
    refine ⟨?_, ?_, h0.2⟩
    · rw [List.reverse_reverse, List.take_append_drop]
    · rw [List.length_reverse, List.length_take]
      omega
  · cases h
/-- behind a call -/
theorem snd_back {pc mi : Nat} {ls rest : List Value} {sh sh1 : pmS} {M1 : pmM} {N1 : pmN} {r : Option Value} {H : Heap} {locs : List Loc} {lsA : Array Slot} {stk : List Value} {a0 : Array Value}
    (hrun : va_Run p l e R s m args below meth c H locs (sh.length - k0) (pmTo sh - t0) (sh1.length - sh.length) (pmTo sh1 - pmTo sh) (F0 m pc lsA stk) (rest.map (pmCv (pmAd b base))) (pmQc D g b base r sh1 M1 N1 a0) (fun q => base < q))
    (hS : va_S (fun q => base < q) s.heap H locs) (hl : pmLr (pmAd b base) lsA (pmL mi) ls) (hk0 : k0 ≤ sh.length) (ht0 : t0 ≤ pmTo sh) (hm1 : sh.length ≤ sh1.length) (hm2 : pmTo sh ≤ pmTo sh1)
    (kk : pmW p l e R s m args below meth c Q D g b base k0 t0 mi (pc + 3) ls (r.toList ++ rest) sh1 M1 N1) : W p l e R s m args below meth c H locs (sh.length - k0) (pmTo sh - t0) Q (F0 m pc lsA stk) := by
  intro T hT X
  obtain ⟨v, st₀, t, T', L, h0, X', hL, e1, e2, ⟨hv, hP1, hz, hk⟩, st⟩ := hrun T hT X
  cases hv
  rw [h0] at hz hk
  have hS1 : va_S (fun q => base < q) s.heap T'.heap (locs ++ L) := by
    refine ⟨Nat.le_trans hS.1 (by rw [e1]; exact hz), fun q h1 h2 => ?_, fun q hq => ?_⟩
    · rw [e1, hk q (Nat.lt_of_lt_of_le h1 hS.1) h2]
      exact hS.2.1 q h1 h2
    · rcases List.mem_append.mp hq with h | h
      · exact hS.2.2 q h
      · exact hL q h
  have kW := kk T'.heap (locs ++ L) lsA (by rw [e1]; exact hP1) hS1 hl
  rw [show sh1.length - k0 = sh.length - k0 + (sh1.length - sh.length) by omega, show pmTo sh1 - t0 = pmTo sh - t0 + (pmTo sh1 - pmTo sh) by omega] at kW
  obtain ⟨t2, a1, b1⟩ := kW T' rfl X'
  have e3 : (r.toList ++ rest).map (pmCv (pmAd b base)) = (r.map (pmCv (pmAd b base))).toList ++ rest.map (pmCv (pmAd b base)) := by
    cases r <;> simp
  rw [e3] at a1
  exact ⟨t2, st t2 a1, b1⟩
theorem pmPc_at {H : Heap} {as : List Value} {sh : pmS} {M : pmM} {N : pmN} (hsz : H.size = base + sh.length) (hP : va_P D vwCl (pmWd g b base sh M N) H) (hK : va_K D vwCl (pmTy g) s) (hN : pmNg s) : ∀ U : State, U.heap = H → s.WarmedH U.vm → pmPc D g b base as sh M N (as.map (pmCv (pmAd b base))).toArray U :=
  fun U hU hW => ⟨rfl, by rw [hU]; exact hsz, by rw [hU]; exact hP, va_K.moved hW.alike hK, pmNg_warm hW hN⟩
set_option maxHeartbeats 4000000 in
theorem snd_call {mi mj pc : Nat} {ls st as rest : List Value} {sh sh1 : pmS} {M M1 : pmM} {N N1 : pmN} {r : Option Value} (hnx : pmNx mi pc ls st sh M N = some (.inr (.inr (mj, as, rest))))
    (hM : ckMt mj = true → mj < 189 → as.all pmOkV = true → (as.flatMap fun v => if pmIsL v then [v, .null] else [v]).length ≤ pmL mj → pmMet l D g b base mj as sh M N r sh1 M1 N1) (C0 : pmCx p R s m args meth c mi D g) (hN : pmNg s)
    (hs : s.heap.size = base + k0) (hk0 : k0 ≤ sh.length) (ht0 : t0 ≤ pmTo sh) (h10 : 1 ≤ k0) (hm1 : sh.length ≤ sh1.length) (hm2 : pmTo sh ≤ pmTo sh1) (hR1 : sh1.length - k0 ≤ R.cells) (hR2 : pmTo sh1 - t0 ≤ R.slots)
    (kk : pmW p l e R s m args below meth c Q D g b base k0 t0 mi (pc + 3) ls (r.toList ++ rest) sh1 M1 N1) : pmW p l e R s m args below meth c Q D g b base k0 t0 mi pc ls st sh M N := by
  obtain ⟨hx, hb, hml, hown, hts, hK, hlocks, hret, hin2, hfr, hgl⟩ := C0
  intro H locs lsA hP hS hl
  refine pmW_sz (fun hu => ?_)
  have hsz := pmSz hP hS hk0 h10 hs hu
  have hrR : sh.length - k0 + (sh1.length - sh.length) ≤ R.cells ∧ pmTo sh - t0 + (pmTo sh1 - pmTo sh) ≤ R.slots := ⟨by omega, by omega⟩
  unfold pmNx at hnx
  split at hnx
  · cases hnx
  · rename_i i len a bb cw hcode
    split at hnx
    all_goals first
      | (repeat' split at hnx
         all_goals first
           | (cases hnx; done)
           | (simp only [Option.some.injEq, Sum.inr.injEq, reduceCtorEq] at hnx; done))
      | skip
    · -- virtual
      rename_i idx
      split at hnx
      · rename_i as1 rest1 hargs
        simp only [Option.some.injEq, Sum.inr.injEq, Prod.mk.injEq] at hnx
        obtain ⟨rfl, rfl, rfl⟩ := hnx
        obtain ⟨rfl, hlen, hcat, hkd, hrec, hok, hfit⟩ := pmArgs_of hargs
        obtain ⟨hd, hi⟩ := ck1 hcode (by intro q; cases q)
        simp only [ckI, Bool.and_eq_true, decide_eq_true_eq] at hi
        obtain ⟨⟨rfl, hlk⟩, hroom⟩ := hi
        obtain ⟨hr1, hr2, hmt, hj⟩ := ckRoom_of hroom
        have hMet := hM hmt hj hok hfit
        unfold ckMt at hmt
        rw [hkd] at hmt
        simp only [Bool.and_eq_true, decide_eq_true_eq] at hmt
        obtain ⟨⟨⟨⟨hmh, hcls⟩, hcw⟩, hini⟩, ⟨⟨hins, hsel⟩, hvc⟩, hps, hna⟩ := hmt
        simp only [pmRecv] at hrec
        split at hrec
        · rename_i q as'
          split at hrec
          · rename_i cj sl hsh
            have hcj : cj = pmCi a := by simpa using hrec
            subst hcj
            obtain ⟨rc, hrc, hrn⟩ := Option.map_eq_some_iff.mp hvc
            have hG := pmGd_in hcw
            have hT : GoodIn pmTb (wsV (pmOwn mi) idx (pmY a).cls (pmY a) (pmWl a)) := by
              intro w hw
              unfold wsV at hw
              rcases List.mem_append.mp hw with hw | hw
              · simp only [List.mem_cons, List.not_mem_nil, or_false] at hw
                rcases hw with rfl | rfl | rfl | rfl
                · exact ⟨pmTb_of hlk rfl, Or.inl rfl⟩
                · exact ⟨pmTb_of hins rfl, Or.inl rfl⟩
                · exact ⟨pmTb_of hsel rfl, Or.inl rfl⟩
                · exact ⟨pmTb_of hini rfl, Or.inl rfl⟩
              · exact hG w hw
            have hrecv := va_recv (q := rc) hK hP hrc (pmWd_get (g := g) (b := b) (base := base) (M := M) (N := N) hsh)
            rw [hrn] at hrecv
            refine snd_back (va_runV (C := (pmY a).cls) (As := as'.map (pmCv (pmAd b base))) (b := base + (q + 1)) (n := pmNa a - 1) ⟨hx, hb, hml, hown, hts⟩ hMet (cwV (pmNa a - 1) hts hT rfl rfl rfl ⟨rfl, hmh.1, hmh.2, hps⟩ ⟨Nat.le_trans hr1 hfr, Nat.le_trans hr2 hgl⟩) ⟨pmPc_blind, hrecv, pmPc_at hsz hP hK hN⟩ rfl ?_ hl.2.1 ?_ (lv_room ?_) hd hrR) hS hl hk0 ht0 hm1 hm2 kk
            · rw [List.length_map]; simp only [List.length_cons] at hlen; omega
            · simp [pmCv, pmAd]
            · rw [pmCat_cv]; exact hcat
          · cases hrec
        · cases hrec
      · cases hnx
    · -- static
      rename_i idx
      split at hnx
      · split at hnx
        · simp only [Option.some.injEq, Sum.inr.injEq, reduceCtorEq] at hnx
        · cases hnx
      · rename_i hb1
        split at hnx
        · rename_i as1 rest1 hargs
          simp only [Option.some.injEq, Sum.inr.injEq, Prod.mk.injEq] at hnx
          obtain ⟨rfl, rfl, rfl⟩ := hnx
          obtain ⟨rfl, hlen, hcat, hkd, hrec, hok, hfit⟩ := pmArgs_of hargs
          obtain ⟨hd, hi⟩ := ck1 hcode (by intro q; cases q)
          simp only [ckI, if_neg hb1, Bool.and_eq_true, Bool.or_eq_true, decide_eq_true_eq] at hi
          obtain ⟨⟨rfl, hlk⟩, hroom⟩ := hi
          obtain ⟨hr1, hr2, hmt, hj⟩ := ckRoom_of hroom
          have hMet := hM hmt hj hok hfit
          unfold ckMt at hmt
          rw [hkd] at hmt
          simp only [Bool.and_eq_true, decide_eq_true_eq] at hmt
          obtain ⟨⟨⟨⟨hmh, hcls⟩, hcw⟩, hini⟩, hsta, hps⟩ := hmt
          have hG := pmGd_in hcw
          rcases hlk with hlk | hlk
          · have hT : GoodIn pmTb (va_wsS (pmOwn mi) idx (pmY a) (pmWl a)) := by
              intro w hw
              unfold va_wsS at hw
              rcases List.mem_append.mp hw with hw | hw
              · simp only [List.mem_cons, List.not_mem_nil, or_false] at hw
                rcases hw with rfl | rfl | rfl
                · exact ⟨pmTb_of hlk rfl, Or.inl rfl⟩
                · exact ⟨pmTb_of hsta rfl, Or.inl rfl⟩
                · exact ⟨pmTb_of hini rfl, Or.inl rfl⟩
              · exact hG w hw
            refine snd_back (va_runS (As := as1.map (pmCv (pmAd b base))) (n := pmNa a) ⟨hx, hb, hml, hown, hts⟩ hMet (va_cwS (pmNa a) hts hT rfl rfl rfl ⟨hmh.1, hmh.2, hps⟩ ⟨Nat.le_trans hr1 hfr, Nat.le_trans hr2 hgl⟩) ⟨pmPc_blind, pmPc_at hsz hP hK hN⟩ rfl ?_ hl.2.1 ?_ (lv_room ?_) hd hrR) hS hl hk0 ht0 hm1 hm2 kk
            · rw [List.length_map]; exact hlen
            · simp
            · rw [pmCat_cv]; exact hcat
          · refine snd_back (va_runSN (As := as1.map (pmCv (pmAd b base))) (n := pmNa a) ⟨hx, hb, hml, hown, hts⟩ hMet ⟨va_cnB (pmNa a) hts hG rfl rfl rfl (va_Nw.of rfl (hts _ (pmTb_of hlk rfl))) (hts _ (pmTb_of hini rfl)) ⟨hmh.1, hmh.2, hps⟩ ⟨Nat.le_trans hr1 hfr, Nat.le_trans hr2 hgl⟩, hts _ (pmTb_of hsta rfl), trivial⟩ ⟨pmPc_blind, pmPc_at hsz hP hK hN⟩ rfl ?_ hl.2.1 ?_ (lv_room ?_) hd hrR) hS hl hk0 ht0 hm1 hm2 kk
            · rw [List.length_map]; exact hlen
            · simp
            · rw [pmCat_cv]; exact hcat
        · cases hnx
    · -- a constructor
      rename_i idx
      split at hnx
      · split at hnx
        · simp only [Option.some.injEq, Sum.inr.injEq, reduceCtorEq] at hnx
        · cases hnx
      · rename_i hb1
        split at hnx
        · rename_i as1 rest1 hargs
          simp only [Option.some.injEq, Sum.inr.injEq, Prod.mk.injEq] at hnx
          obtain ⟨rfl, rfl, rfl⟩ := hnx
          obtain ⟨rfl, hlen, hcat, hkd, hrec, hok, hfit⟩ := pmArgs_of hargs
          obtain ⟨hd, hi⟩ := ck1 hcode (by intro q; cases q)
          simp only [ckI, if_neg hb1, Bool.and_eq_true, Bool.or_eq_true, decide_eq_true_eq] at hi
          obtain ⟨⟨rfl, hlk⟩, hroom⟩ := hi
          obtain ⟨hr1, hr2, hmt, hj⟩ := ckRoom_of hroom
          have hMet := hM hmt hj hok hfit
          unfold ckMt at hmt
          rw [hkd] at hmt
          simp only [Bool.and_eq_true, decide_eq_true_eq] at hmt
          obtain ⟨⟨⟨⟨hmh, hcls⟩, hcw⟩, hini⟩, ⟨⟨hins, hnam⟩, hrt⟩, hps, hna⟩ := hmt
          have hG := pmGd_in hcw
          simp only [pmRecv] at hrec
          split at hrec
          · rename_i q as'
            have hw : pmWl a = Cond.code (pmY a) (pmBy a) (pmL a) none :: pmGd := by unfold pmWl; rw [hrt]
            rcases hlk with hlk | hlk
            · refine snd_back (va_runI (As := as'.map (pmCv (pmAd b base))) (b := pmAd b base q) (n := pmNa a - 1) ⟨hx, hb, hml, hown, hts⟩ hMet (cwI (pmNa a - 1) hts hG hw rfl rfl (hts _ (pmTb_of hini rfl)) (hts _ (pmTb_of hlk rfl)) (hts _ (pmTb_of hins rfl)) hnam ⟨hmh.1, hmh.2, hps⟩ ⟨Nat.le_trans hr1 hfr, Nat.le_trans hr2 hgl⟩) ⟨pmPc_blind, pmPc_at hsz hP hK hN⟩ rfl ?_ hl.2.1 ?_ (lv_room ?_) hd hrR) hS hl hk0 ht0 hm1 hm2 kk
              · rw [List.length_map]; simp only [List.length_cons] at hlen; omega
              · simp [pmCv]
              · rw [pmCat_cv]; exact hcat
            · refine snd_back (va_runIN (As := as'.map (pmCv (pmAd b base))) (b := pmAd b base q) (n := pmNa a - 1) ⟨hx, hb, hml, hown, hts⟩ hMet ⟨va_cnB (pmNa a - 1) hts hG hw rfl rfl (va_Nw.of rfl (hts _ (pmTb_of hlk rfl))) (hts _ (pmTb_of hini rfl)) ⟨hmh.1, hmh.2, hps⟩ ⟨Nat.le_trans hr1 hfr, Nat.le_trans hr2 hgl⟩, hnam, hts _ (pmTb_of hins rfl)⟩ ⟨pmPc_blind, pmPc_at hsz hP hK hN⟩ rfl ?_ hl.2.1 ?_ (lv_room ?_) hd hrR) hS hl hk0 ht0 hm1 hm2 kk
              · rw [List.length_map]; simp only [List.length_cons] at hlen; omega
              · simp [pmCv]
              · rw [pmCat_cv]; exact hcat
          · cases hrec
        · cases hnx
end SNM
