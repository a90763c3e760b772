/-! A STEP of the pure machine is a step of the real one -/
/-- what a walk of method mi stands on -/
def pmCx (p : Program) (R : Room) (s : State) (m : MethodId) (args : Array Value) (meth : Method) (c : Code) (mi : Nat) (D : va_G) (g : Nat → ClassId) : Prop :=
  p.tables.exec = Jvm.exec ∧ c.code = pmBy mi ∧ c.maxLocals = pmL mi ∧ s.vm.findClass (pmOwn mi) = some m.cls ∧ (∀ w ∈ pmTb, w.before args s = true) ∧ va_K D vwCl (pmTy g) s ∧ meth.locks = false ∧ meth.sig.returnType = pmRt mi ∧ (pmKd mi = 2 → meth.name = "<init>") ∧ pmFr mi ≤ R.frames ∧ pmGl mi ≤ R.locals
/-- the script, where the law walks -/
def pmXc (s : State) (b base : Nat) (mi : Nat) (sh : pmS) (M : pmM) : Prop := mi = mL_law → ∃ (L : Nat) (rs : List (Option Nat)), sh[0]? = some (.inl (0, L, rs)) ∧ va_X b L (M 0) s s.heap ∧ b < s.heap.size ∧ b ≤ base
def pmW (p : Program) (l : Launch) (e : Env) (R : Room) (s : State) (m : MethodId) (args : Array Value) (below : List Frame) (meth : Method) (c : Code) (Q : State → Prop) (D : va_G) (g : Nat → ClassId) (b base k0 t0 mi pc : Nat) (ls st : List Value) (sh : pmS) (M : pmM) (N : pmN) : Prop :=
  ∀ (H : Heap) (locs : List Loc) (lsA : Array Slot), va_P D vwCl (pmWd g b base sh M N) H → va_S (fun q => base < q) s.heap H locs → pmLr (pmAd b base) lsA (pmL mi) ls → W p l e R s m args below meth c H locs (sh.length - k0) (pmTo sh - t0) Q (F0 m pc lsA (st.map (pmCv (pmAd b base))))
theorem pmSt_ne (M : pmM) (k j : Nat) (v : Int32) : ∀ x, x ≠ k → pmSt M k j v x = M x := fun x h => va_up_ne _ _ h
theorem pmStL_ne (N : pmN) (k j : Nat) (v : Int64) : ∀ x, x ≠ k → pmStL N k j v x = N x := fun x h => va_up_ne _ _ h
theorem pmSt_eq (M : pmM) (k j : Nat) (v : Int32) : pmSt M k j v k = upd (M k) j v := va_up_self _ _ _
theorem pmStL_eq (N : pmN) (k j : Nat) (v : Int64) : pmStL N k j v k = vp_updL (N k) j v := va_up_self _ _ _
theorem pmTo_app (sh : pmS) (x : (Nat × Nat × List (Option Nat)) ⊕ (Nat × List (Option (Option Nat)))) : pmTo (sh ++ [x]) = pmTo sh + (match x with
  | .inl x => x.2.1
  | .inr x => x.2.length) := by
  cases x <;> simp [pmTo]
theorem pmTo_set_aux {α : Type} (f : α → Nat) : ∀ (l : List α) (k : Nat) (x y : α), l[k]? = some x → f y = f x → ((l.set k y).map f).sum = (l.map f).sum
  | [], _, _, _, h, _ => by simp at h
  | z :: t, 0, x, y, h, e => by
    rw [List.getElem?_cons_zero] at h
    cases h
    simp [e]
  | z :: t, k + 1, x, y, h, e => by
    rw [List.getElem?_cons_succ] at h
    rw [List.set_cons_succ, List.map_cons, List.sum_cons, List.map_cons, List.sum_cons, pmTo_set_aux f t k x y h e]
theorem pmFs_st (ad : Nat → Nat) (f : Nat → Int32) (b : Nat) (x : Int32) {sl : List (Option (Option Nat))} (h : sl[b]? = some none) : (pmFs ad f 0 sl).set b (.int x) = pmFs ad (upd f b x) 0 sl := by
  have hb : b < sl.length := (List.getElem?_eq_some_iff.mp h).1
  apply List.ext_getElem?
  intro i
  by_cases hi : i = b
  · subst hi
    rw [List.getElem?_set_self (by rw [pmFs_len]; exact hb), pmFs_get, h]
    simp [pmFv, upd]
  · rw [List.getElem?_set_ne (Ne.symm hi), pmFs_get, pmFs_get]
    cases sl[i]? with
    | none => rfl
    | some q => cases q <;> simp [pmFv, upd, hi]
theorem pmFs_ref (ad : Nat → Nat) (f : Nat → Int32) (b r : Nat) {sl : List (Option (Option Nat))} (hb : b < sl.length) : (pmFs ad f 0 sl).set b (.ref (ad r)) = pmFs ad f 0 (sl.set b (some (some r))) := by
  apply List.ext_getElem?
  intro i
  by_cases hi : i = b
  · subst hi
    rw [List.getElem?_set_self (by rw [pmFs_len]; exact hb), pmFs_get, List.getElem?_set_self hb]
    rfl
  · rw [List.getElem?_set_ne (Ne.symm hi), pmFs_get, pmFs_get, List.getElem?_set_ne (Ne.symm hi)]
theorem ckFld_of {own : String} {idx ci j c : Nat} (h : ckFld own idx ci j c = true) : ∃ (R : String) (T : u_T) (n : Nat), vwCl[ci]? = some (R, T, n) ∧ j < n ∧ (T j).1 = R ∧ (Cond.fieldLink own idx R (T j).2.1 (T j).2.2.1 ∈ pmTb ∨ Cond.fieldLinkNest own idx R (T j).2.1 (T j).2.2.1 pmHost ∈ pmTb) := by
  unfold ckFld at h
  cases hv : vwCl[ci]? with
  | none => rw [hv] at h; cases h
  | some x =>
    obtain ⟨R, T, n⟩ := x
    rw [hv] at h
    simp only [Bool.and_eq_true, Bool.or_eq_true, decide_eq_true_eq] at h
    exact ⟨R, T, n, rfl, h.1.1, h.1.2, h.2.imp (fun q => pmTb_of q rfl) (fun q => pmTb_of q rfl)⟩
theorem pmTy_at (g : Nat → ClassId) : (pmTy g)[0]? = some (g 0, .int) ∧ (pmTy g)[1]? = some (g 1, .long) ∧ (pmTy g)[2]? = some (g 2, .boolean) := ⟨rfl, rfl, rfl⟩
theorem pmTy_el (g : Nat → ClassId) {tg ci : Nat} (h : pmEl tg = some ci) : ∃ r : vw_C, vwCl[ci]? = some r ∧ (pmTy g)[tg]? = some (g tg, .object r.1) ∧ 3 ≤ tg := by
  match tg, h with
  | 3, h => cases h; exact ⟨_, rfl, rfl, by decide⟩
  | 4, h => cases h; exact ⟨_, rfl, rfl, by decide⟩
  | 5, h => cases h; exact ⟨_, rfl, rfl, by decide⟩
  | 0, h => cases h
  | 1, h => cases h
  | 2, h => cases h
  | k + 6, h => cases h
theorem pmTy_tg (g : Nat → ClassId) {tg : Nat} (h1 : 3 ≤ tg) (h2 : tg ≤ 5) : ∃ C : String, (pmTy g)[tg]? = some (g tg, .object C) := by
  rcases (show tg = 3 ∨ tg = 4 ∨ tg = 5 by omega) with rfl | rfl | rfl <;> exact ⟨_, rfl⟩
theorem pmAr_i (ad : Nat → Nat) (fM : Nat → Int32) (fN : Nat → Int64) (n : Nat) (rs : List (Option Nat)) : pmAr ad fM fN 0 n rs = (n, .inl fM) := rfl
theorem pmAr_l (ad : Nat → Nat) (fM : Nat → Int32) (fN : Nat → Int64) (n : Nat) (rs : List (Option Nat)) : pmAr ad fM fN 1 n rs = (n, .inr (.inl fN)) := rfl
theorem pmAr_z (ad : Nat → Nat) (fM : Nat → Int32) (fN : Nat → Int64) (n : Nat) (rs : List (Option Nat)) : pmAr ad fM fN 2 n rs = (n, .inl fM) := rfl
theorem pmAr_q (ad : Nat → Nat) (fM : Nat → Int32) (fN : Nat → Int64) {t : Nat} (h : 3 ≤ t) (n : Nat) (rs : List (Option Nat)) : pmAr ad fM fN t n rs = (n, .inr (.inr (.inr (.inr (fun j => (rs.getD j none).map ad))))) := by
  unfold pmAr
  rw [if_neg (by omega), if_neg (by omega)]
/-- instructions that change neither cells nor shapes -/
def pmA : Instr → Bool
  | .iconst _ | .bipush _ | .sipush _ | .lconst _ | .ldc_w _ | .ldc2_w _ | .iload _ | .lload _ | .aload _ | .iload_n _ | .lload_n _ | .aload_n _ | .istore _ | .lstore _ | .astore _ | .istore_n _ | .lstore_n _ | .astore_n _ | .iinc _ _
  | .iadd | .isub | .imul | .iand | .ior | .ixor | .ishl | .ishr | .iushr | .irem | .ladd | .lmul | .land | .lor | .ldiv | .lrem | .lshl | .lcmp | .i2l | .l2i | .i2b | .i2s | .dup | .dup2 | .pop | .getfield _ => true
  | _ => false
section SND
variable {p : Program} {l : Launch} {e : Env} {R : Room} {s : State} {m : MethodId} {args : Array Value} {below : List Frame} {meth : Method} {c : Code} {Q : State → Prop} {D : va_G} {g : Nat → ClassId} {b base k0 t0 : Nat}
/-- how large the heap is -/
theorem pmW_sz {H : Heap} {locs : List Loc} {cells slots : Nat} {g' : JFrame} (h : H.size ≤ s.heap.size + cells → W p l e R s m args below meth c H locs cells slots Q g') : W p l e R s m args below meth c H locs cells slots Q g' := by
  intro T hT X
  have h3 := X.same.2.2.1
  exact h (by rw [← hT]; exact h3) T hT X
theorem pmSz {sh : pmS} {M : pmM} {N : pmN} {H : Heap} {locs : List Loc} (hP : va_P D vwCl (pmWd g b base sh M N) H) (hS : va_S (fun q => base < q) s.heap H locs) (hk : k0 ≤ sh.length) (h1 : 1 ≤ k0) (hs : s.heap.size = base + k0) (hu : H.size ≤ s.heap.size + (sh.length - k0)) : H.size = base + sh.length := by
  have hlow : base + sh.length ≤ H.size := by
    by_cases hq : sh.length = k0
    · rw [hq, ← hs]; exact hS.1
    · have hx : ∃ x, sh[(sh.length - 2) + 1]? = some x := ⟨_, List.getElem?_eq_getElem (by omega)⟩
      obtain ⟨x, hx⟩ := hx
      have h2 := (hP _ _ (pmWd_get (g := g) (b := b) (base := base) (M := M) (N := N) hx)).lt
      simp only at h2
      omega
  omega
theorem pmCv_c1 {ad : Nat → Nat} {v : Value} (h : v.category = 1) : (pmCv ad v).category = 1 := by
  cases v <;> first | exact h | rfl
set_option maxHeartbeats 4000000 in
/-- the instructions that change the frame alone, and getfield -/
theorem snd_a {i : Instr} {len a bb cw mi pc : Nat} {ls st ls' st' : List Value} {sh sh' : pmS} {M M' : pmM} {N N' : pmN} (hcode : pmCode mi pc = some (i, len, a, bb, cw)) (hex : pmEx i a bb ls st sh M N = some (ls', st', sh', M', N')) (hna : pmA i = true) (C0 : pmCx p R s m args meth c mi D g)
    (kk : pmW p l e R s m args below meth c Q D g b base k0 t0 mi (pc + len) ls' st' sh' M' N') : pmW p l e R s m args below meth c Q D g b base k0 t0 mi pc ls st sh M N := by
  obtain ⟨hx, hb, hml, hown, hts, hK, hlocks, hret, hin2, hfr, hgl⟩ := C0
  intro H locs lsA hP hS hl
  cases i with
  | iconst n =>
    simp only [pmEx] at hex
    simp only [Option.some.injEq, Prod.mk.injEq] at hex
    obtain ⟨rfl, rfl, rfl, rfl, rfl⟩ := hex
    obtain ⟨hd, hi⟩ := ck1 hcode (by intro q; cases q)
    simp only [ckI, Bool.and_eq_true, decide_eq_true_eq] at hi
    obtain rfl := hi
    exact lv_iconst hx hb hd rfl (kk H locs lsA hP hS hl)
  | bipush n =>
    simp only [pmEx] at hex
    simp only [Option.some.injEq, Prod.mk.injEq] at hex
    obtain ⟨rfl, rfl, rfl, rfl, rfl⟩ := hex
    obtain ⟨hd, hi⟩ := ck1 hcode (by intro q; cases q)
    simp only [ckI, Bool.and_eq_true, decide_eq_true_eq] at hi
    obtain rfl := hi
    exact lv_bipush hx hb hd rfl (kk H locs lsA hP hS hl)
  | sipush n =>
    simp only [pmEx] at hex
    simp only [Option.some.injEq, Prod.mk.injEq] at hex
    obtain ⟨rfl, rfl, rfl, rfl, rfl⟩ := hex
    obtain ⟨hd, hi⟩ := ck1 hcode (by intro q; cases q)
    simp only [ckI, Bool.and_eq_true, decide_eq_true_eq] at hi
    obtain rfl := hi
    exact lv_sipush hx hb hd rfl (kk H locs lsA hP hS hl)
  | lconst n =>
    simp only [pmEx] at hex
    simp only [Option.some.injEq, Prod.mk.injEq] at hex
    obtain ⟨rfl, rfl, rfl, rfl, rfl⟩ := hex
    obtain ⟨hd, hi⟩ := ck1 hcode (by intro q; cases q)
    simp only [ckI, Bool.and_eq_true, decide_eq_true_eq] at hi
    obtain rfl := hi
    exact lv_lconst hx hb hd rfl (kk H locs lsA hP hS hl)
  | ldc_w idx =>
    simp only [pmEx] at hex
    simp only [Option.some.injEq, Prod.mk.injEq] at hex
    obtain ⟨rfl, rfl, rfl, rfl, rfl⟩ := hex
    obtain ⟨hd, hi⟩ := ck1 hcode (by intro q; cases q)
    simp only [ckI, Bool.and_eq_true, decide_eq_true_eq] at hi
    obtain rfl := hi.1
    exact lv_ldcw hx hb hown (hts _ (pmTb_of hi.2 rfl)) hd (kk H locs lsA hP hS hl)
  | ldc2_w idx =>
    simp only [pmEx] at hex
    simp only [Option.some.injEq, Prod.mk.injEq] at hex
    obtain ⟨rfl, rfl, rfl, rfl, rfl⟩ := hex
    obtain ⟨hd, hi⟩ := ck1 hcode (by intro q; cases q)
    simp only [ckI, Bool.and_eq_true, decide_eq_true_eq] at hi
    obtain rfl := hi.1
    exact lv_ldc2 hx hb hown (hts _ (pmTb_of hi.2 rfl)) hd (kk H locs lsA hP hS hl)
  | iload k =>
    simp only [pmEx] at hex
    split at hex
    · rename_i x hx1
      simp only [Option.some.injEq, Prod.mk.injEq] at hex
      obtain ⟨rfl, rfl, rfl, rfl, rfl⟩ := hex
      obtain ⟨hd, hi⟩ := ck1 hcode (by intro q; cases q)
      simp only [ckI, Bool.and_eq_true, decide_eq_true_eq] at hi
      obtain ⟨rfl, rfl⟩ := hi
      exact lv_iload hx hb hd (pmLr_at hl hx1 (by intro q; cases q)) (kk H locs lsA hP hS hl)
    · cases hex
  | iload_n k =>
    simp only [pmEx] at hex
    split at hex
    · rename_i x hx1
      simp only [Option.some.injEq, Prod.mk.injEq] at hex
      obtain ⟨rfl, rfl, rfl, rfl, rfl⟩ := hex
      obtain ⟨hd, hi⟩ := ck1 hcode (by intro q; cases q)
      simp only [ckI, Bool.and_eq_true, decide_eq_true_eq] at hi
      obtain ⟨h1, rfl⟩ := hi
      exact lv_iload_n hx hb hd h1.symm (pmLr_at hl hx1 (by intro q; cases q)) (kk H locs lsA hP hS hl)
    · cases hex
  | istore k =>
    simp only [pmEx] at hex
    split at hex
    · split at hex
      · rename_i hlt
        simp only [Option.some.injEq, Prod.mk.injEq] at hex
        obtain ⟨rfl, rfl, rfl, rfl, rfl⟩ := hex
        obtain ⟨hd, hi⟩ := ck1 hcode (by intro q; cases q)
        simp only [ckI, Bool.and_eq_true, decide_eq_true_eq] at hi
        obtain ⟨rfl, rfl⟩ := hi
        exact lv_istore hx hb hd (pmLr_has hl) (by rw [← hl.1]; exact hlt) rfl (fun ls' h' => kk H locs ls' hP hS (pmLr_put hl.1 h'))
      · cases hex
    · cases hex
  | istore_n k =>
    simp only [pmEx] at hex
    split at hex
    · split at hex
      · rename_i hlt
        simp only [Option.some.injEq, Prod.mk.injEq] at hex
        obtain ⟨rfl, rfl, rfl, rfl, rfl⟩ := hex
        obtain ⟨hd, hi⟩ := ck1 hcode (by intro q; cases q)
        simp only [ckI, Bool.and_eq_true, decide_eq_true_eq] at hi
        obtain ⟨h1, rfl⟩ := hi
        exact lv_istore_n hx hb hd h1.symm (pmLr_has hl) (by rw [← hl.1]; exact hlt) rfl (fun ls' h' => kk H locs ls' hP hS (pmLr_put hl.1 h'))
      · cases hex
    · cases hex
  | lload k =>
    simp only [pmEx] at hex
    split at hex
    · rename_i x hx1
      simp only [Option.some.injEq, Prod.mk.injEq] at hex
      obtain ⟨rfl, rfl, rfl, rfl, rfl⟩ := hex
      obtain ⟨hd, hi⟩ := ck1 hcode (by intro q; cases q)
      simp only [ckI, Bool.and_eq_true, decide_eq_true_eq] at hi
      obtain ⟨rfl, rfl⟩ := hi
      exact lv_lload hx hb hd (pmLr_at hl hx1 (by intro q; cases q)) (kk H locs lsA hP hS hl)
    · cases hex
  | lload_n k =>
    simp only [pmEx] at hex
    split at hex
    · rename_i x hx1
      simp only [Option.some.injEq, Prod.mk.injEq] at hex
      obtain ⟨rfl, rfl, rfl, rfl, rfl⟩ := hex
      obtain ⟨hd, hi⟩ := ck1 hcode (by intro q; cases q)
      simp only [ckI, Bool.and_eq_true, decide_eq_true_eq] at hi
      obtain ⟨h1, rfl⟩ := hi
      exact lv_lload_n hx hb hd h1.symm (pmLr_at hl hx1 (by intro q; cases q)) (kk H locs lsA hP hS hl)
    · cases hex
  | lstore k =>
    simp only [pmEx] at hex
    split at hex
    · split at hex
      · rename_i hlt
        simp only [Option.some.injEq, Prod.mk.injEq] at hex
        obtain ⟨rfl, rfl, rfl, rfl, rfl⟩ := hex
        obtain ⟨hd, hi⟩ := ck1 hcode (by intro q; cases q)
        simp only [ckI, Bool.and_eq_true, decide_eq_true_eq] at hi
        obtain ⟨rfl, rfl⟩ := hi
        exact lv_lstore hx hb hd (pmLr_has hl) (by rw [← hl.1]; exact hlt) rfl (fun ls' h' => kk H locs ls' hP hS (pmLr_put2 hl.1 h'))
      · cases hex
    · cases hex
  | lstore_n k =>
    simp only [pmEx] at hex
    split at hex
    · split at hex
      · rename_i hlt
        simp only [Option.some.injEq, Prod.mk.injEq] at hex
        obtain ⟨rfl, rfl, rfl, rfl, rfl⟩ := hex
        obtain ⟨hd, hi⟩ := ck1 hcode (by intro q; cases q)
        simp only [ckI, Bool.and_eq_true, decide_eq_true_eq] at hi
        obtain ⟨h1, rfl⟩ := hi
        exact lv_lstore_n hx hb hd h1.symm (pmLr_has hl) (by rw [← hl.1]; exact hlt) rfl (fun ls' h' => kk H locs ls' hP hS (pmLr_put2 hl.1 h'))
      · cases hex
    · cases hex
  | aload k =>
    simp only [pmEx] at hex
    split at hex
    · rename_i x hx1
      simp only [Option.some.injEq, Prod.mk.injEq] at hex
      obtain ⟨rfl, rfl, rfl, rfl, rfl⟩ := hex
      obtain ⟨hd, hi⟩ := ck1 hcode (by intro q; cases q)
      simp only [ckI, Bool.and_eq_true, decide_eq_true_eq] at hi
      obtain ⟨rfl, rfl⟩ := hi
      exact lv_aload hx hb hd (pmLr_at hl hx1 (by intro q; cases q)) (kk H locs lsA hP hS hl)
    · cases hex
  | aload_n k =>
    simp only [pmEx] at hex
    split at hex
    · rename_i x hx1
      simp only [Option.some.injEq, Prod.mk.injEq] at hex
      obtain ⟨rfl, rfl, rfl, rfl, rfl⟩ := hex
      obtain ⟨hd, hi⟩ := ck1 hcode (by intro q; cases q)
      simp only [ckI, Bool.and_eq_true, decide_eq_true_eq] at hi
      obtain ⟨h1, rfl⟩ := hi
      exact lv_aload_n hx hb hd h1.symm (pmLr_at hl hx1 (by intro q; cases q)) (kk H locs lsA hP hS hl)
    · cases hex
  | astore k =>
    simp only [pmEx] at hex
    split at hex
    · split at hex
      · rename_i hlt
        simp only [Option.some.injEq, Prod.mk.injEq] at hex
        obtain ⟨rfl, rfl, rfl, rfl, rfl⟩ := hex
        obtain ⟨hd, hi⟩ := ck1 hcode (by intro q; cases q)
        simp only [ckI, Bool.and_eq_true, decide_eq_true_eq] at hi
        obtain ⟨rfl, rfl⟩ := hi
        exact lv_astore hx hb hd (pmLr_has hl) (by rw [← hl.1]; exact hlt) rfl (fun ls' h' => kk H locs ls' hP hS (pmLr_put hl.1 h'))
      · cases hex
    · cases hex
  | astore_n k =>
    simp only [pmEx] at hex
    split at hex
    · split at hex
      · rename_i hlt
        simp only [Option.some.injEq, Prod.mk.injEq] at hex
        obtain ⟨rfl, rfl, rfl, rfl, rfl⟩ := hex
        obtain ⟨hd, hi⟩ := ck1 hcode (by intro q; cases q)
        simp only [ckI, Bool.and_eq_true, decide_eq_true_eq] at hi
        obtain ⟨h1, rfl⟩ := hi
        exact lv_astore_n hx hb hd h1.symm (pmLr_has hl) (by rw [← hl.1]; exact hlt) rfl (fun ls' h' => kk H locs ls' hP hS (pmLr_put hl.1 h'))
      · cases hex
    · cases hex
  | iinc k n =>
    simp only [pmEx] at hex
    split at hex
    · rename_i x hx1
      simp only [Option.some.injEq, Prod.mk.injEq] at hex
      obtain ⟨rfl, rfl, rfl, rfl, rfl⟩ := hex
      obtain ⟨hd, hi⟩ := ck1 hcode (by intro q; cases q)
      simp only [ckI, Bool.and_eq_true, decide_eq_true_eq] at hi
      obtain ⟨rfl, rfl⟩ := hi
      obtain ⟨q, hq⟩ := List.getElem?_of_mem ((pmLv_mem (pmAd b base) ls 0 (a, Value.int x)).mpr ⟨a, .int x, hx1, by (intro q; cases q), by simp [pmCv]⟩)
      exact lv_iinc hx hb hd (pmLr_has hl) hq rfl (by rw [← hl.1]; exact (List.getElem?_eq_some_iff.mp hx1).1) rfl (fun ls' h' => kk H locs ls' hP hS (pmLr_put hl.1 h'))
    · cases hex
  | iadd =>
    simp only [pmEx] at hex
    split at hex
    · simp only [Option.some.injEq, Prod.mk.injEq] at hex
      obtain ⟨rfl, rfl, rfl, rfl, rfl⟩ := hex
      obtain ⟨hd, hi⟩ := ck1 hcode (by intro q; cases q)
      simp only [ckI, Bool.and_eq_true, decide_eq_true_eq] at hi
      obtain rfl := hi
      exact lv_iadd hx hb hd (kk H locs lsA hP hS hl)
    · cases hex
  | isub =>
    simp only [pmEx] at hex
    split at hex
    · simp only [Option.some.injEq, Prod.mk.injEq] at hex
      obtain ⟨rfl, rfl, rfl, rfl, rfl⟩ := hex
      obtain ⟨hd, hi⟩ := ck1 hcode (by intro q; cases q)
      simp only [ckI, Bool.and_eq_true, decide_eq_true_eq] at hi
      obtain rfl := hi
      exact lv_isub hx hb hd (kk H locs lsA hP hS hl)
    · cases hex
  | imul =>
    simp only [pmEx] at hex
    split at hex
    · simp only [Option.some.injEq, Prod.mk.injEq] at hex
      obtain ⟨rfl, rfl, rfl, rfl, rfl⟩ := hex
      obtain ⟨hd, hi⟩ := ck1 hcode (by intro q; cases q)
      simp only [ckI, Bool.and_eq_true, decide_eq_true_eq] at hi
      obtain rfl := hi
      exact lv_imul hx hb hd (kk H locs lsA hP hS hl)
    · cases hex
  | iand =>
    simp only [pmEx] at hex
    split at hex
    · simp only [Option.some.injEq, Prod.mk.injEq] at hex
      obtain ⟨rfl, rfl, rfl, rfl, rfl⟩ := hex
      obtain ⟨hd, hi⟩ := ck1 hcode (by intro q; cases q)
      simp only [ckI, Bool.and_eq_true, decide_eq_true_eq] at hi
      obtain rfl := hi
      exact lv_iand hx hb hd (kk H locs lsA hP hS hl)
    · cases hex
  | ior =>
    simp only [pmEx] at hex
    split at hex
    · simp only [Option.some.injEq, Prod.mk.injEq] at hex
      obtain ⟨rfl, rfl, rfl, rfl, rfl⟩ := hex
      obtain ⟨hd, hi⟩ := ck1 hcode (by intro q; cases q)
      simp only [ckI, Bool.and_eq_true, decide_eq_true_eq] at hi
      obtain rfl := hi
      exact lv_ior hx hb hd (kk H locs lsA hP hS hl)
    · cases hex
  | ixor =>
    simp only [pmEx] at hex
    split at hex
    · simp only [Option.some.injEq, Prod.mk.injEq] at hex
      obtain ⟨rfl, rfl, rfl, rfl, rfl⟩ := hex
      obtain ⟨hd, hi⟩ := ck1 hcode (by intro q; cases q)
      simp only [ckI, Bool.and_eq_true, decide_eq_true_eq] at hi
      obtain rfl := hi
      exact lv_ixor hx hb hd (kk H locs lsA hP hS hl)
    · cases hex
  | ishl =>
    simp only [pmEx] at hex
    split at hex
    · simp only [Option.some.injEq, Prod.mk.injEq] at hex
      obtain ⟨rfl, rfl, rfl, rfl, rfl⟩ := hex
      obtain ⟨hd, hi⟩ := ck1 hcode (by intro q; cases q)
      simp only [ckI, Bool.and_eq_true, decide_eq_true_eq] at hi
      obtain rfl := hi
      exact lv_ishl hx hb hd (kk H locs lsA hP hS hl)
    · cases hex
  | ishr =>
    simp only [pmEx] at hex
    split at hex
    · simp only [Option.some.injEq, Prod.mk.injEq] at hex
      obtain ⟨rfl, rfl, rfl, rfl, rfl⟩ := hex
      obtain ⟨hd, hi⟩ := ck1 hcode (by intro q; cases q)
      simp only [ckI, Bool.and_eq_true, decide_eq_true_eq] at hi
      obtain rfl := hi
      exact lv_ishr hx hb hd (kk H locs lsA hP hS hl)
    · cases hex
  | ladd =>
    simp only [pmEx] at hex
    split at hex
    · simp only [Option.some.injEq, Prod.mk.injEq] at hex
      obtain ⟨rfl, rfl, rfl, rfl, rfl⟩ := hex
      obtain ⟨hd, hi⟩ := ck1 hcode (by intro q; cases q)
      simp only [ckI, Bool.and_eq_true, decide_eq_true_eq] at hi
      obtain rfl := hi
      exact lv_ladd hx hb hd (kk H locs lsA hP hS hl)
    · cases hex
  | lmul =>
    simp only [pmEx] at hex
    split at hex
    · simp only [Option.some.injEq, Prod.mk.injEq] at hex
      obtain ⟨rfl, rfl, rfl, rfl, rfl⟩ := hex
      obtain ⟨hd, hi⟩ := ck1 hcode (by intro q; cases q)
      simp only [ckI, Bool.and_eq_true, decide_eq_true_eq] at hi
      obtain rfl := hi
      exact lv_lmul hx hb hd (kk H locs lsA hP hS hl)
    · cases hex
  | land =>
    simp only [pmEx] at hex
    split at hex
    · simp only [Option.some.injEq, Prod.mk.injEq] at hex
      obtain ⟨rfl, rfl, rfl, rfl, rfl⟩ := hex
      obtain ⟨hd, hi⟩ := ck1 hcode (by intro q; cases q)
      simp only [ckI, Bool.and_eq_true, decide_eq_true_eq] at hi
      obtain rfl := hi
      exact lv_land hx hb hd (kk H locs lsA hP hS hl)
    · cases hex
  | lor =>
    simp only [pmEx] at hex
    split at hex
    · simp only [Option.some.injEq, Prod.mk.injEq] at hex
      obtain ⟨rfl, rfl, rfl, rfl, rfl⟩ := hex
      obtain ⟨hd, hi⟩ := ck1 hcode (by intro q; cases q)
      simp only [ckI, Bool.and_eq_true, decide_eq_true_eq] at hi
      obtain rfl := hi
      exact lv_lor hx hb hd (kk H locs lsA hP hS hl)
    · cases hex
  | iushr =>
    simp only [pmEx] at hex
    split at hex
    · simp only [Option.some.injEq, Prod.mk.injEq] at hex
      obtain ⟨rfl, rfl, rfl, rfl, rfl⟩ := hex
      obtain ⟨hd, hi⟩ := ck1 hcode (by intro q; cases q)
      simp only [ckI, Bool.and_eq_true, decide_eq_true_eq] at hi
      obtain rfl := hi
      exact lv_iushr hx hb hd rfl (kk H locs lsA hP hS hl)
    · cases hex
  | lshl =>
    simp only [pmEx] at hex
    split at hex
    · simp only [Option.some.injEq, Prod.mk.injEq] at hex
      obtain ⟨rfl, rfl, rfl, rfl, rfl⟩ := hex
      obtain ⟨hd, hi⟩ := ck1 hcode (by intro q; cases q)
      simp only [ckI, Bool.and_eq_true, decide_eq_true_eq] at hi
      obtain rfl := hi
      exact lv_lshl hx hb hd rfl (kk H locs lsA hP hS hl)
    · cases hex
  | i2l =>
    simp only [pmEx] at hex
    split at hex
    · simp only [Option.some.injEq, Prod.mk.injEq] at hex
      obtain ⟨rfl, rfl, rfl, rfl, rfl⟩ := hex
      obtain ⟨hd, hi⟩ := ck1 hcode (by intro q; cases q)
      simp only [ckI, Bool.and_eq_true, decide_eq_true_eq] at hi
      obtain rfl := hi
      exact lv_i2l hx hb hd rfl (kk H locs lsA hP hS hl)
    · cases hex
  | l2i =>
    simp only [pmEx] at hex
    split at hex
    · simp only [Option.some.injEq, Prod.mk.injEq] at hex
      obtain ⟨rfl, rfl, rfl, rfl, rfl⟩ := hex
      obtain ⟨hd, hi⟩ := ck1 hcode (by intro q; cases q)
      simp only [ckI, Bool.and_eq_true, decide_eq_true_eq] at hi
      obtain rfl := hi
      exact lv_l2i hx hb hd rfl (kk H locs lsA hP hS hl)
    · cases hex
  | i2b =>
    simp only [pmEx] at hex
    split at hex
    · simp only [Option.some.injEq, Prod.mk.injEq] at hex
      obtain ⟨rfl, rfl, rfl, rfl, rfl⟩ := hex
      obtain ⟨hd, hi⟩ := ck1 hcode (by intro q; cases q)
      simp only [ckI, Bool.and_eq_true, decide_eq_true_eq] at hi
      obtain rfl := hi
      exact lv_i2b hx hb hd rfl (kk H locs lsA hP hS hl)
    · cases hex
  | i2s =>
    simp only [pmEx] at hex
    split at hex
    · simp only [Option.some.injEq, Prod.mk.injEq] at hex
      obtain ⟨rfl, rfl, rfl, rfl, rfl⟩ := hex
      obtain ⟨hd, hi⟩ := ck1 hcode (by intro q; cases q)
      simp only [ckI, Bool.and_eq_true, decide_eq_true_eq] at hi
      obtain rfl := hi
      exact lv_i2s hx hb hd rfl (kk H locs lsA hP hS hl)
    · cases hex
  | lcmp =>
    simp only [pmEx] at hex
    split at hex
    · simp only [Option.some.injEq, Prod.mk.injEq] at hex
      obtain ⟨rfl, rfl, rfl, rfl, rfl⟩ := hex
      obtain ⟨hd, hi⟩ := ck1 hcode (by intro q; cases q)
      simp only [ckI, Bool.and_eq_true, decide_eq_true_eq] at hi
      obtain rfl := hi
      exact W.lcmp hx hb hd (kk H locs lsA hP hS hl)
    · cases hex
  | irem =>
    simp only [pmEx] at hex
    split at hex
    · split at hex
      · cases hex
      · rename_i h0
        simp only [Option.some.injEq, Prod.mk.injEq] at hex
        obtain ⟨rfl, rfl, rfl, rfl, rfl⟩ := hex
        obtain ⟨hd, hi⟩ := ck1 hcode (by intro q; cases q)
        simp only [ckI, Bool.and_eq_true, decide_eq_true_eq] at hi
        obtain rfl := hi
        exact lv_irem hx hb hd h0 (kk H locs lsA hP hS hl)
    · cases hex
  | ldiv =>
    simp only [pmEx] at hex
    split at hex
    · split at hex
      · cases hex
      · rename_i h0
        simp only [Option.some.injEq, Prod.mk.injEq] at hex
        obtain ⟨rfl, rfl, rfl, rfl, rfl⟩ := hex
        obtain ⟨hd, hi⟩ := ck1 hcode (by intro q; cases q)
        simp only [ckI, Bool.and_eq_true, decide_eq_true_eq] at hi
        obtain rfl := hi
        exact lv_ldiv hx hb hd h0 (kk H locs lsA hP hS hl)
    · cases hex
  | lrem =>
    simp only [pmEx] at hex
    split at hex
    · split at hex
      · cases hex
      · rename_i h0
        simp only [Option.some.injEq, Prod.mk.injEq] at hex
        obtain ⟨rfl, rfl, rfl, rfl, rfl⟩ := hex
        obtain ⟨hd, hi⟩ := ck1 hcode (by intro q; cases q)
        simp only [ckI, Bool.and_eq_true, decide_eq_true_eq] at hi
        obtain rfl := hi
        exact lv_lrem hx hb hd h0 (kk H locs lsA hP hS hl)
    · cases hex
  | dup =>
    simp only [pmEx] at hex
    split at hex
    · split at hex
      · rename_i h0
        simp only [Option.some.injEq, Prod.mk.injEq] at hex
        obtain ⟨rfl, rfl, rfl, rfl, rfl⟩ := hex
        obtain ⟨hd, hi⟩ := ck1 hcode (by intro q; cases q)
        simp only [ckI, Bool.and_eq_true, decide_eq_true_eq] at hi
        obtain rfl := hi
        exact lv_dup hx hb hd (pmCv_c1 h0) (kk H locs lsA hP hS hl)
      · cases hex
    · cases hex
  | pop =>
    simp only [pmEx] at hex
    split at hex
    · split at hex
      · rename_i h0
        simp only [Option.some.injEq, Prod.mk.injEq] at hex
        obtain ⟨rfl, rfl, rfl, rfl, rfl⟩ := hex
        obtain ⟨hd, hi⟩ := ck1 hcode (by intro q; cases q)
        simp only [ckI, Bool.and_eq_true, decide_eq_true_eq] at hi
        obtain rfl := hi
        exact lv_pop hx hb hd (pmCv_c1 h0) (kk H locs lsA hP hS hl)
      · cases hex
    · cases hex
  | dup2 =>
    simp only [pmEx] at hex
    split at hex
    · split at hex
      · rename_i h0
        simp only [Option.some.injEq, Prod.mk.injEq] at hex
        obtain ⟨rfl, rfl, rfl, rfl, rfl⟩ := hex
        obtain ⟨hd, hi⟩ := ck1 hcode (by intro q; cases q)
        simp only [ckI, Bool.and_eq_true, decide_eq_true_eq] at hi
        obtain rfl := hi
        exact lv_dup2_11 hx hb hd (pmCv_c1 h0.1) (pmCv_c1 h0.2) (kk H locs lsA hP hS hl)
      · cases hex
    · cases hex
  | getfield idx =>
    simp only [pmEx] at hex
    split at hex
    · rename_i k t
      split at hex
      · rename_i ci sl hsh
        split at hex
        · rename_i hci
          subst hci
          obtain ⟨hd, hi⟩ := ck1 hcode (by intro q; cases q)
          simp only [ckI, Bool.and_eq_true, decide_eq_true_eq] at hi
          obtain ⟨rfl, hf⟩ := hi
          obtain ⟨Rn, T, n, hv, hj, hR, hlk⟩ := ckFld_of hf
          obtain ⟨-, -, -, hin, -, -⟩ := pmCk_of hv
          have he : (pmWd g b base sh M N)[k]? = some (base + (k + 1), .inr (ci, pmFs (pmAd b base) (M (k + 1)) 0 sl)) := pmWd_get hsh
          have fin : ∀ v : Value, (pmFs (pmAd b base) (M (k + 1)) 0 sl)[bb]? = some v → W p l e R s m args below meth c H locs (sh.length - k0) (pmTo sh - t0) Q (F0 m (pc + 3) lsA (v :: t.map (pmCv (pmAd b base)))) → W p l e R s m args below meth c H locs (sh.length - k0) (pmTo sh - t0) Q (F0 m pc lsA (.ref (base + (k + 1)) :: t.map (pmCv (pmAd b base)))) := by
            intro v hv2 hW
            rcases hlk with hlk | hlk
            · exact va_get (C := Rn) (T := T) (N := n) hx hb hts hin hown hK hP k he hv bb hj (hts _ hlk) (fun _ h9 => by rw [hR] at h9; exact h9) hv2 hd hW
            · exact va_getN (C := Rn) (T := T) (N := n) hx hb hts hin hown hK hP k he hv bb hj (hts _ hlk) (fun _ h9 => by rw [hR] at h9; exact h9) hv2 hd hW
          split at hex
          · rename_i hs1
            simp only [Option.some.injEq, Prod.mk.injEq] at hex
            obtain ⟨rfl, rfl, rfl, rfl, rfl⟩ := hex
            exact fin _ (by rw [pmFs_get, hs1]; simp [pmFv, pmCv]) (kk H locs lsA hP hS hl)
          · rename_i r hs1
            simp only [Option.some.injEq, Prod.mk.injEq] at hex
            obtain ⟨rfl, rfl, rfl, rfl, rfl⟩ := hex
            exact fin _ (by rw [pmFs_get, hs1]; rfl) (kk H locs lsA hP hS hl)
          · cases hex
        · cases hex
      · cases hex
    · cases hex
  | _ => cases hna

end SND
