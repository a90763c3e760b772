/-! THE INSTRUCTIONS THAT LOOK AT CELLS, OR MAKE THEM -/
section SNB
variable {p : Program} {l : Launch} {e : Env} {R : Room} {s : State} {m : MethodId} {args : Array Value} {below : List Frame} {meth : Method} {c : Code} {Q : State → Prop} {D : va_G} {g : Nat → ClassId} {b base k0 t0 : Nat}
theorem pmK_eq {t : Nat} {ty : FieldType} {cA : ClassId} (hK : va_K D vwCl (pmTy g) s) (hK2 : va_K D vwCl (pmTy g ++ [(cA, ty)]) s) (ht : (pmTy g)[t]? = some (g t, ty)) : cA = g t := by
  have h1 := (hK.2 t _ ht).2
  have h2 := (hK2.2 (pmTy g).length (cA, ty) (by rw [List.getElem?_append_right (Nat.le_refl _), Nat.sub_self]; rfl)).2
  cases ty with
  | object C =>
    obtain ⟨_, _, -, -, -, e1⟩ := h1
    obtain ⟨_, _, -, -, -, e2⟩ := h2
    exact Option.some.inj (e2.symm.trans e1)
  | _ => exact Option.some.inj ((show s.vm.findClass _ = some cA from h2).symm.trans h1)
/-- a new cell stands at the next address -/
theorem pmNew_q {sh : pmS} {M : pmM} {N : pmN} {q : Nat} {x : va_E} {H1 : Heap} (hP : va_P D vwCl (pmWd g b base sh M N ++ [(q, x)]) H1) (hD : va_D (fun q => base < q) (pmWd g b base sh M N ++ [(q, x)])) (hs : s.heap.size = base + k0) (hk : k0 ≤ sh.length) (h1 : 1 ≤ k0) (hu : H1.size ≤ s.heap.size + (sh.length - k0 + 1)) : q = base + sh.length := by
  have hlen : (pmWd g b base sh M N).length + 1 = sh.length := by
    unfold pmWd
    rw [pmWs_len, List.length_tail]
    omega
  have hq : (pmWd g b base sh M N ++ [(q, x)])[(pmWd g b base sh M N).length]? = some (q, x) := by
    rw [List.getElem?_append_right (Nat.le_refl _), Nat.sub_self]; rfl
  have h2 := (hP _ _ hq).lt
  have h3 : base < q := hD.2 _ _ hq
  simp only at h2
  by_cases hne : q = base + sh.length
  · exact hne
  · exfalso
    have hx : ∃ y, sh[(q - base - 1) + 1]? = some y := ⟨_, List.getElem?_eq_getElem (by omega)⟩
    obtain ⟨y, hy⟩ := hx
    have hy2 : (pmWd g b base sh M N ++ [(q, x)])[q - base - 1]? = some (base + ((q - base - 1) + 1), pmCe g (pmAd b base) M N ((q - base - 1) + 1) y) := by
      rw [List.getElem?_append_left (by omega)]
      exact pmWd_get hy
    have := hD.1 _ _ _ _ hq hy2 (by simp only; omega)
    omega
theorem pmBl_get (ad : Nat → Nat) {ci n : Nat} (h : pmNf.getD ci 0 = n) {j : Nat} (hj : j < n) : defaultValue ((pmTys.getD ci (fun _ => .int)) j) = vp_V (pmFs ad (fun _ => 0) 0 (pmBl ci)) j ∨ ∃ ty, (pmTys.getD ci (fun _ => .int)) j = ty ∧ (ty = .long ∨ ty = .float ∨ ty = .double) := by
  have hg : (pmBl ci)[j]? = some (match (pmTys.getD ci (fun _ => .int)) j with
    | .object _ => some none
    | .array _ => some none
    | _ => none) := by
    unfold pmBl pmBlank
    rw [h, List.getElem?_map, List.getElem?_range hj]
    rfl
  generalize hty : (pmTys.getD ci (fun _ => FieldType.int)) j = ty at hg ⊢
  cases ty with
  | long => exact Or.inr ⟨_, rfl, Or.inl rfl⟩
  | float => exact Or.inr ⟨_, rfl, Or.inr (Or.inl rfl)⟩
  | double => exact Or.inr ⟨_, rfl, Or.inr (Or.inr rfl)⟩
  | _ => exact Or.inl (by simp [vp_V, pmFs_get, hg, pmFv, defaultValue, va_rf])
theorem pmTys_ok : ∀ ci, ci < 12 → ∀ j, j < pmNf.getD ci 0 → (pmTys.getD ci (fun _ => .int)) j ≠ .long ∧ (pmTys.getD ci (fun _ => .int)) j ≠ .float ∧ (pmTys.getD ci (fun _ => .int)) j ≠ .double := by decide +kernel
theorem pmCl_lt {ci : Nat} {r : vw_C} (h : vwCl[ci]? = some r) : ci < 12 := (List.getElem?_eq_some_iff.mp h).1
theorem pmBl_len {ci n : Nat} (h : pmNf.getD ci 0 = n) : (pmBl ci).length = n := by
  unfold pmBl pmBlank
  rw [h]; simp
theorem pmCat_cv (ad : Nat → Nat) : ∀ t : List Value, ((t.map (pmCv ad)).map fun v => v.category).sum = pmCat t
  | [] => rfl
  | v :: t => by
    have := pmCat_cv ad t
    have e1 : (pmCv ad v).category = v.category := by cases v <;> rfl
    simp only [pmCat, List.map_cons, List.sum_cons] at this ⊢
    rw [e1, this]
theorem pmWg_int : ckLw (pmWg.getD 0 0) (.arrayClass .int) = true := by decide +kernel
theorem pmWg_long : ckLw (pmWg.getD 1 0) (.arrayClass .long) = true := by decide +kernel
theorem pmWg_boolean : ckLw (pmWg.getD 2 0) (.arrayClass .boolean) = true := by decide +kernel
theorem pmWg_3 : ckLw (pmWg.getD 3 0) (.arrayOver (.object (ckEl 3))) = true := by decide +kernel
theorem pmWg_4 : ckLw (pmWg.getD 4 0) (.arrayOver (.object (ckEl 4))) = true := by decide +kernel
theorem pmWg_5 : ckLw (pmWg.getD 5 0) (.arrayOver (.object (ckEl 5))) = true := by decide +kernel
theorem pmWg_6 : ckLw (pmWg.getD 6 0) (.native arraycopyName) = true := by decide +kernel
theorem pmWg_7 : ckLw (pmWg.getD 7 0) (.static arraycopyName) = true := by decide +kernel
theorem pmWg_8 : ckLw (pmWg.getD 8 0) (.initialized "java/lang/System") = true := by decide +kernel
theorem pmWg_9 : ckLw (pmWg.getD 9 0) (.instanceMethod objectInit) = true := by decide +kernel
theorem pmWg_10 : ckLw (pmWg.getD 10 0) (.code objectInit ⟨#[0xb1]⟩ 1 none) = true := by decide +kernel
set_option maxHeartbeats 4000000 in
theorem snd_b {i : Instr} {len a bb cw mi pc : Nat} {ls st ls' st' : List Value} {sh sh' : pmS} {M M' : pmM} {N N' : pmN} (hcode : pmCode mi pc = some (i, len, a, bb, cw)) (hex : pmEx i a bb ls st sh M N = some (ls', st', sh', M', N')) (hna : pmA i = false) (C0 : pmCx p R s m args meth c mi D g)
    (hXc : pmXc s b base mi sh M) (hs : s.heap.size = base + k0) (hk0 : k0 ≤ sh.length) (ht0 : t0 ≤ pmTo sh) (h10 : 1 ≤ k0) (hR1 : sh'.length - k0 ≤ R.cells) (hR2 : pmTo sh' - t0 ≤ R.slots)
    (kk : pmW p l e R s m args below meth c Q D g b base k0 t0 mi (pc + len) ls' st' sh' M' N') : pmW p l e R s m args below meth c Q D g b base k0 t0 mi pc ls st sh M N := by
  obtain ⟨hx, hb, hml, hown, hts, hK, hlocks, hret, hin2, hfr, hgl⟩ := C0
  intro H locs lsA hP hS hl
  cases i with
  | arraylength =>
    simp only [pmEx] at hex
    split at hex
    · rename_i k t
      split at hex
      · rename_i tg n rs hsh
        split at hex
        · rename_i h0
          simp only [Option.some.injEq, Prod.mk.injEq] at hex
          obtain ⟨rfl, rfl, rfl, rfl, rfl⟩ := hex
          obtain ⟨hd, hi⟩ := ck1 hcode (by intro q; cases q)
          simp only [ckI, Bool.and_eq_true, decide_eq_true_eq] at hi
          obtain ⟨rfl, hlw⟩ := hi
          cases k with
          | zero =>
            have hb1 : bb = 1 := by simpa using h0.1
            obtain ⟨L, rs2, hs2, hX, hbl, hbb⟩ := hXc (hlw hb1)
            have he := Option.some.inj (hsh.symm.trans hs2)
            cases he
            exact va_slen hx hb hX hbl (Nat.not_lt.mpr hbb) hS hd (kk H locs lsA hP hS hl)
          | succ k =>
            obtain ⟨ty, hty⟩ : ∃ ty, (pmTy g)[tg]? = some (g tg, ty) := by
              rcases (show tg = 0 ∨ tg = 1 ∨ tg = 2 ∨ tg = 3 ∨ tg = 4 ∨ tg = 5 by omega) with rfl | rfl | rfl | rfl | rfl | rfl <;> exact ⟨_, rfl⟩
            exact va_alen (x := pmAr (pmAd b base) (M (k + 1)) (N (k + 1)) tg n rs) hx hb hK hP k tg (pmWd_get hsh) hty rfl hd (kk H locs lsA hP hS hl)
        · cases hex
      · cases hex
    · cases hex
  | iaload =>
    simp only [pmEx] at hex
    split at hex
    · rename_i j k t
      split at hex
      · rename_i n rs hsh
        split at hex
        · rename_i h0
          simp only [Option.some.injEq, Prod.mk.injEq] at hex
          obtain ⟨rfl, rfl, rfl, rfl, rfl⟩ := hex
          obtain ⟨hd, hi⟩ := ck1 hcode (by intro q; cases q)
          simp only [ckI, Bool.and_eq_true, decide_eq_true_eq] at hi
          obtain ⟨rfl, hlw⟩ := hi
          cases k with
          | zero =>
            have hb1 : bb = 1 := by simpa using h0.1
            obtain ⟨L, rs2, hs2, hX, hbl, hbb⟩ := hXc (hlw hb1)
            have he := Option.some.inj (hsh.symm.trans hs2)
            cases he
            exact va_sld hx hb hX hbl (Nat.not_lt.mpr hbb) hS h0.2 hd (kk H locs lsA hP hS hl)
          | succ k => exact va_iald (f := M (k + 1)) (n := n) hx hb hK hP k 0 (pmWd_get hsh) rfl h0.2 hd (kk H locs lsA hP hS hl)
        · cases hex
      · cases hex
    · cases hex
  | baload =>
    simp only [pmEx] at hex
    split at hex
    · rename_i j k t
      split at hex
      · rename_i n rs hsh
        split at hex
        · rename_i h0
          simp only [Option.some.injEq, Prod.mk.injEq] at hex
          obtain ⟨rfl, rfl, rfl, rfl, rfl⟩ := hex
          obtain ⟨hd, hi⟩ := ck1 hcode (by intro q; cases q)
          simp only [ckI, Bool.and_eq_true, decide_eq_true_eq] at hi
          obtain rfl := hi
          exact va_zald (f := M (k + 1)) (n := n) hx hb hK hP k 2 (pmWd_get hsh) rfl h0 hd (kk H locs lsA hP hS hl)
        · cases hex
      · cases hex
    · cases hex
  | laload =>
    simp only [pmEx] at hex
    split at hex
    · rename_i j k t
      split at hex
      · rename_i n rs hsh
        split at hex
        · rename_i h0
          simp only [Option.some.injEq, Prod.mk.injEq] at hex
          obtain ⟨rfl, rfl, rfl, rfl, rfl⟩ := hex
          obtain ⟨hd, hi⟩ := ck1 hcode (by intro q; cases q)
          simp only [ckI, Bool.and_eq_true, decide_eq_true_eq] at hi
          obtain rfl := hi
          exact va_lald (f := N (k + 1)) (n := n) hx hb hK hP k 1 (pmWd_get hsh) rfl h0 hd (kk H locs lsA hP hS hl)
        · cases hex
      · cases hex
    · cases hex
  | aaload =>
    simp only [pmEx] at hex
    split at hex
    · rename_i j k t
      split at hex
      · rename_i tg n rs hsh
        split at hex
        · rename_i h0
          split at hex
          · rename_i r hr
            simp only [Option.some.injEq, Prod.mk.injEq] at hex
            obtain ⟨rfl, rfl, rfl, rfl, rfl⟩ := hex
            obtain ⟨hd, hi⟩ := ck1 hcode (by intro q; cases q)
            simp only [ckI, Bool.and_eq_true, decide_eq_true_eq] at hi
            obtain rfl := hi
            obtain ⟨C, hC⟩ := pmTy_tg g h0.1 h0.2.1
            refine va_aldq (f := fun j => (rs.getD j none).map (pmAd b base)) (n := n) hx hb hK hP k tg (by rw [pmWd_get hsh]; simp only [pmCe]; rw [pmAr_q _ _ _ h0.1]; rfl) hC h0.2.2 hd ?_
            have e1 : va_rf ((rs.getD j.toNatClampNeg none).map (pmAd b base)) = .ref (pmAd b base r) := by
              rw [List.getD_eq_getElem?_getD, hr]; rfl
            rw [e1]
            exact kk H locs lsA hP hS hl
          · cases hex
        · cases hex
      · cases hex
    · cases hex
  | iastore =>
    simp only [pmEx] at hex
    split at hex
    · rename_i x j k t
      split at hex
      · rename_i n rs hsh
        split at hex
        · rename_i h0
          simp only [Option.some.injEq, Prod.mk.injEq] at hex
          obtain ⟨rfl, rfl, rfl, rfl, rfl⟩ := hex
          obtain ⟨hd, hi⟩ := ck1 hcode (by intro q; cases q)
          simp only [ckI, Bool.and_eq_true, decide_eq_true_eq] at hi
          obtain rfl := hi
          refine va_iast (f := M (k + 1)) (n := n) hx hb hK hP pmWd_D hS k 0 (pmWd_get hsh) rfl h0 hd (fun H1 locs1 hP1 _ hS1 => ?_)
          refine kk H1 locs1 lsA ?_ hS1 hl
          rw [← pmWd_setM hsh (pmSt_ne M (k + 1) j.toNatClampNeg x) (fun _ _ => rfl)]
          simp only [pmCe, pmAr_i, pmSt_eq]
          exact hP1
        · cases hex
      · cases hex
    · cases hex
  | bastore =>
    simp only [pmEx] at hex
    split at hex
    · rename_i x j k t
      split at hex
      · rename_i n rs hsh
        split at hex
        · rename_i h0
          simp only [Option.some.injEq, Prod.mk.injEq] at hex
          obtain ⟨rfl, rfl, rfl, rfl, rfl⟩ := hex
          obtain ⟨hd, hi⟩ := ck1 hcode (by intro q; cases q)
          simp only [ckI, Bool.and_eq_true, decide_eq_true_eq] at hi
          obtain rfl := hi
          have hnar : vp_nar .boolean x = x := by rcases h0.2 with rfl | rfl <;> rfl
          refine va_zast (f := M (k + 1)) (n := n) hx hb hK hP pmWd_D hS k 2 (pmWd_get hsh) rfl h0.1 hd (fun H1 locs1 hP1 _ hS1 => ?_)
          refine kk H1 locs1 lsA ?_ hS1 hl
          rw [hnar] at hP1
          rw [← pmWd_setM hsh (pmSt_ne M (k + 1) j.toNatClampNeg x) (fun _ _ => rfl)]
          simp only [pmCe, pmAr_z, pmSt_eq]
          exact hP1
        · cases hex
      · cases hex
    · cases hex
  | lastore =>
    simp only [pmEx] at hex
    split at hex
    · rename_i x j k t
      split at hex
      · rename_i n rs hsh
        split at hex
        · rename_i h0
          simp only [Option.some.injEq, Prod.mk.injEq] at hex
          obtain ⟨rfl, rfl, rfl, rfl, rfl⟩ := hex
          obtain ⟨hd, hi⟩ := ck1 hcode (by intro q; cases q)
          simp only [ckI, Bool.and_eq_true, decide_eq_true_eq] at hi
          obtain rfl := hi
          refine va_last (f := N (k + 1)) (n := n) hx hb hK hP pmWd_D hS k 1 (pmWd_get hsh) rfl h0 hd (fun H1 locs1 hP1 _ hS1 => ?_)
          refine kk H1 locs1 lsA ?_ hS1 hl
          rw [← pmWd_setM hsh (fun _ _ => rfl) (pmStL_ne N (k + 1) j.toNatClampNeg x)]
          simp only [pmCe, pmAr_l, pmStL_eq]
          exact hP1
        · cases hex
      · cases hex
    · cases hex
  | aastore =>
    simp only [pmEx] at hex
    split at hex
    · rename_i r j k t
      split at hex
      · rename_i tg n rs ci sl hsh hsr
        split at hex
        · rename_i h0
          simp only [Option.some.injEq, Prod.mk.injEq] at hex
          obtain ⟨rfl, rfl, rfl, rfl, rfl⟩ := hex
          obtain ⟨hd, hi⟩ := ck1 hcode (by intro q; cases q)
          simp only [ckI, Bool.and_eq_true, decide_eq_true_eq] at hi
          obtain rfl := hi
          obtain ⟨rc, hrc, hty, h3⟩ := pmTy_el g h0.1
          have hlt : j.toNatClampNeg < rs.length := by rw [h0.2.2]; exact Nat.not_le.mp fun q => h0.2.1 (Or.inr q)
          refine va_astq (f := fun j => (rs.getD j none).map (pmAd b base)) (n := n) (v := base + (r + 1)) (vs := pmFs (pmAd b base) (M (r + 1)) 0 sl) (r := rc) hx hb hK hP pmWd_D hS k tg r ci (by rw [pmWd_get hsh]; simp only [pmCe]; rw [pmAr_q _ _ _ h3]; rfl) hty (pmWd_get hsr) hrc h0.2.1 hd (fun H1 locs1 hP1 _ hS1 => ?_)
          have hlen : (sh.set (k + 1) (.inl (tg, n, rs.set j.toNatClampNeg (some (r + 1))))).length = sh.length := List.length_set
          have hto : pmTo (sh.set (k + 1) (.inl (tg, n, rs.set j.toNatClampNeg (some (r + 1))))) = pmTo sh := pmTo_set_aux _ sh (k + 1) _ _ hsh rfl
          have k2 := kk H1 locs1 lsA ?_ hS1 hl
          · rw [hlen, hto] at k2
            exact k2
          · rw [← pmWd_set (e := .inl (tg, n, rs.set j.toNatClampNeg (some (r + 1)))) hsh (fun _ _ => rfl) (fun _ _ => rfl)]
            simp only [pmCe]
            rw [pmAr_q _ _ _ h3]
            have e1 : (fun i => ((rs.set j.toNatClampNeg (some (r + 1))).getD i none).map (pmAd b base)) = va_up (fun i => (rs.getD i none).map (pmAd b base)) j.toNatClampNeg (some (base + (r + 1))) := by
              funext i
              unfold va_up
              by_cases hij : i = j.toNatClampNeg
              · subst hij
                rw [if_pos rfl, List.getD_eq_getElem?_getD, List.getElem?_set_self hlt]
                rfl
              · rw [if_neg hij, List.getD_eq_getElem?_getD, List.getElem?_set_ne (Ne.symm hij), ← List.getD_eq_getElem?_getD]
            rw [e1]
            exact hP1
        · cases hex
      · cases hex
    · cases hex
  | putfield idx =>
    simp only [pmEx] at hex
    split at hex
    · rename_i x k t
      split at hex
      · rename_i ci sl hsh
        split at hex
        · rename_i h0
          obtain ⟨hci, ha2, hsl, hz⟩ := h0
          subst hci
          simp only [Option.some.injEq, Prod.mk.injEq] at hex
          obtain ⟨rfl, rfl, rfl, rfl, rfl⟩ := hex
          obtain ⟨hd, hi⟩ := ck1 hcode (by intro q; cases q)
          simp only [ckI, Bool.and_eq_true, decide_eq_true_eq] at hi
          obtain ⟨⟨rfl, hf⟩, hp⟩ := hi
          obtain ⟨Rn, T, n, hv, hj, hR, hlk⟩ := ckFld_of hf
          obtain ⟨hnf, hty, hnm, hin, -, -⟩ := pmCk_of hv
          unfold ckPut at hp
          rw [hv] at hp
          simp only [Bool.and_eq_true] at hp
          obtain ⟨hp1, hp2⟩ := hp
          have he : (pmWd g b base sh M N)[k]? = some (base + (k + 1), .inr (a % 100, pmFs (pmAd b base) (M (k + 1)) 0 sl)) := pmWd_get hsh
          have hl9 : bb < (pmFs (pmAd b base) (M (k + 1)) 0 sl).length := by rw [pmFs_len]; exact (List.getElem?_eq_some_iff.mp hsl).1
          obtain ⟨ty, hd9, hn9, hf9⟩ : ∃ ty, parseFieldDescriptor (T bb).2.2.1 = some ty ∧ narrow ty (.int x) = .int x ∧ fits ty (.int x) = true := by
            by_cases ha1 : a < 100
            · rw [if_pos ha1, decide_eq_true_eq] at hp2
              exact ⟨.int, by rw [hp2]; decide, rfl, rfl⟩
            · rw [if_neg ha1, if_pos ha2, decide_eq_true_eq] at hp2
              rcases hz with hz | rfl | rfl
              · exact absurd hz ha1
              · exact ⟨.boolean, by rw [hp2]; decide, rfl, rfl⟩
              · exact ⟨.boolean, by rw [hp2]; decide, rfl, rfl⟩
          have fin : ∀ (H1 : Heap) (locs1 : List Loc), va_P D vwCl ((pmWd g b base sh M N).set k (base + (k + 1), .inr (a % 100, (pmFs (pmAd b base) (M (k + 1)) 0 sl).set bb (.int x)))) H1 → va_S (fun q => base < q) s.heap H1 locs1 → W p l e R s m args below meth c H1 locs1 (sh.length - k0) (pmTo sh - t0) Q (F0 m (pc + 3) lsA (t.map (pmCv (pmAd b base)))) := by
            intro H1 locs1 hP1 hS1
            refine kk H1 locs1 lsA ?_ hS1 hl
            rw [← pmWd_setM hsh (pmSt_ne M (k + 1) bb x) (fun _ _ => rfl)]
            simp only [pmCe, pmSt_eq]
            rw [pmFs_st _ _ _ _ hsl] at hP1
            exact hP1
          by_cases hfin : (T bb).2.2.2 = true
          · rw [if_pos hfin] at hp1
            simp only [Bool.and_eq_true, decide_eq_true_eq] at hp1
            exact va_putF (C := Rn) (T := T) (N := n) hx hb hts hin _ hty hnm hown hK hP pmWd_D hS k he hv bb hj (hts _ (pmTb_of hp1.2 rfl)) (fun _ h9 => by rw [hR] at h9; exact h9) hfin (hin2 hp1.1.1) (by rw [hR]; exact hp1.1.2) hd9 hn9 hf9 hl9 hd (fun H1 locs1 hP1 _ hS1 => fin H1 locs1 hP1 hS1)
          · have hfin : (T bb).2.2.2 = false := by simpa using hfin
            rcases hlk with hlk | hlk
            · exact va_put (C := Rn) (T := T) (N := n) hx hb hts hin _ hty hnm hown hK hP pmWd_D hS k he hv bb hj (hts _ hlk) (fun _ h9 => by rw [hR] at h9; exact h9) hfin hd9 hn9 hf9 hl9 hd (fun H1 locs1 hP1 _ hS1 => fin H1 locs1 hP1 hS1)
            · exact va_putN (C := Rn) (T := T) (N := n) hx hb hts hin _ hty hnm hown hK hP pmWd_D hS k he hv bb hj (hts _ hlk) (fun _ h9 => by rw [hR] at h9; exact h9) hfin hd9 hn9 hf9 hl9 hd (fun H1 locs1 hP1 _ hS1 => fin H1 locs1 hP1 hS1)
        · cases hex
      · cases hex
    · rename_i r k t
      split at hex
      · rename_i ci sl hsh
        split at hex
        · rename_i h0
          obtain ⟨hci, ha2, hsl⟩ := h0
          subst hci
          simp only [Option.some.injEq, Prod.mk.injEq] at hex
          obtain ⟨rfl, rfl, rfl, rfl, rfl⟩ := hex
          obtain ⟨hd, hi⟩ := ck1 hcode (by intro q; cases q)
          simp only [ckI, Bool.and_eq_true, decide_eq_true_eq] at hi
          obtain ⟨⟨rfl, hf⟩, hp⟩ := hi
          obtain ⟨Rn, T, n, hv, hj, hR, hlk⟩ := ckFld_of hf
          obtain ⟨hnf, hty, hnm, hin, -, -⟩ := pmCk_of hv
          unfold ckPut at hp
          rw [hv] at hp
          simp only [Bool.and_eq_true] at hp
          obtain ⟨hp1, hp2⟩ := hp
          have hbl : bb < sl.length := by
            cases hq : sl[bb]? with
            | none => rw [hq] at hsl; cases hsl
            | some q => exact (List.getElem?_eq_some_iff.mp hq).1
          have he : (pmWd g b base sh M N)[k]? = some (base + (k + 1), .inr (a % 100, pmFs (pmAd b base) (M (k + 1)) 0 sl)) := pmWd_get hsh
          have hl9 : bb < (pmFs (pmAd b base) (M (k + 1)) 0 sl).length := by rw [pmFs_len]; exact hbl
          obtain ⟨ty, hd9, hn9, hf9⟩ : ∃ ty, parseFieldDescriptor (T bb).2.2.1 = some ty ∧ narrow ty (.ref (pmAd b base r)) = .ref (pmAd b base r) ∧ fits ty (.ref (pmAd b base r)) = true := by
            rw [if_neg (by omega), if_neg (by omega)] at hp2
            split at hp2
            · rename_i hq; exact ⟨_, hq, rfl, rfl⟩
            · rename_i hq; exact ⟨_, hq, rfl, rfl⟩
            · cases hp2
          have fin : ∀ (H1 : Heap) (locs1 : List Loc), va_P D vwCl ((pmWd g b base sh M N).set k (base + (k + 1), .inr (a % 100, (pmFs (pmAd b base) (M (k + 1)) 0 sl).set bb (.ref (pmAd b base r))))) H1 → va_S (fun q => base < q) s.heap H1 locs1 → W p l e R s m args below meth c H1 locs1 (sh.length - k0) (pmTo sh - t0) Q (F0 m (pc + 3) lsA (t.map (pmCv (pmAd b base)))) := by
            intro H1 locs1 hP1 hS1
            have hlen : (sh.set (k + 1) (.inr (a % 100, sl.set bb (some (some r))))).length = sh.length := List.length_set
            have hto : pmTo (sh.set (k + 1) (.inr (a % 100, sl.set bb (some (some r))))) = pmTo sh := pmTo_set_aux _ sh (k + 1) _ _ hsh (by simp)
            have k2 := kk H1 locs1 lsA ?_ hS1 hl
            · rw [hlen, hto] at k2
              exact k2
            · rw [← pmWd_set (e := .inr (a % 100, sl.set bb (some (some r)))) hsh (fun _ _ => rfl) (fun _ _ => rfl)]
              simp only [pmCe]
              rw [pmFs_ref _ _ _ _ hbl] at hP1
              exact hP1
          by_cases hfin : (T bb).2.2.2 = true
          · rw [if_pos hfin] at hp1
            simp only [Bool.and_eq_true, decide_eq_true_eq] at hp1
            exact va_putF (C := Rn) (T := T) (N := n) hx hb hts hin _ hty hnm hown hK hP pmWd_D hS k he hv bb hj (hts _ (pmTb_of hp1.2 rfl)) (fun _ h9 => by rw [hR] at h9; exact h9) hfin (hin2 hp1.1.1) (by rw [hR]; exact hp1.1.2) hd9 hn9 hf9 hl9 hd (fun H1 locs1 hP1 _ hS1 => fin H1 locs1 hP1 hS1)
          · have hfin : (T bb).2.2.2 = false := by simpa using hfin
            rcases hlk with hlk | hlk
            · exact va_put (C := Rn) (T := T) (N := n) hx hb hts hin _ hty hnm hown hK hP pmWd_D hS k he hv bb hj (hts _ hlk) (fun _ h9 => by rw [hR] at h9; exact h9) hfin hd9 hn9 hf9 hl9 hd (fun H1 locs1 hP1 _ hS1 => fin H1 locs1 hP1 hS1)
            · exact va_putN (C := Rn) (T := T) (N := n) hx hb hts hin _ hty hnm hown hK hP pmWd_D hS k he hv bb hj (hts _ hlk) (fun _ h9 => by rw [hR] at h9; exact h9) hfin hd9 hn9 hf9 hl9 hd (fun H1 locs1 hP1 _ hS1 => fin H1 locs1 hP1 hS1)
        · cases hex
      · cases hex
    · cases hex
  | new idx =>
    simp only [pmEx] at hex
    simp only [Option.some.injEq, Prod.mk.injEq] at hex
    obtain ⟨rfl, rfl, rfl, rfl, rfl⟩ := hex
    obtain ⟨hd, hi⟩ := ck1 hcode (by intro q; cases q)
    simp only [ckI, Bool.and_eq_true, decide_eq_true_eq] at hi
    obtain ⟨rfl, hlk⟩ := hi
    cases hv : vwCl[a]? with
    | none => rw [hv] at hlk; cases hlk
    | some r =>
      obtain ⟨Rn, T, n⟩ := r
      rw [hv] at hlk
      simp only at hlk
      obtain ⟨hnf, hty, hnm, hin, hw1, hw2⟩ := pmCk_of hv
      have hto : pmTo (sh ++ [.inr (a, pmBl a)]) = pmTo sh + n := by rw [pmTo_app]; simp only; rw [pmBl_len hnf]
      have hfs : ∀ j, j < n → defaultValue ((pmTys.getD a (fun _ => .int)) j) = vp_V (pmFs (pmAd b base) (fun _ => 0) 0 (pmBl a)) j := by
        intro j hj
        rcases pmBl_get (pmAd b base) hnf hj with h | ⟨ty, h1, h2⟩
        · exact h
        · have := pmTys_ok a (pmCl_lt hv) j (by rw [hnf]; exact hj)
          rcases h2 with rfl | rfl | rfl
          · exact absurd h1 this.1
          · exact absurd h1 this.2.1
          · exact absurd h1 this.2.2
      rw [List.length_append] at hR1
      simp only [List.length_cons, List.length_nil] at hR1
      rw [hto] at hR2
      refine va_new (C := Rn) (T := T) (N := n) (ci := a) (fs := pmFs (pmAd b base) (fun _ => 0) 0 (pmBl a)) hx hb hts hin _ hty hown (hts _ (pmTb_of hlk rfl)) (hts _ (pmTb_of hw1 rfl)) (hts _ (pmTb_of hw2 rfl)) hK hP pmWd_D hS (fun q hq => by show base < q; omega) hv hfs (by omega) (by omega) hd (fun q H1 hP1 hD1 hS1 => ?_)
      refine pmW_sz (fun hu => ?_)
      have hq : q = base + sh.length := pmNew_q hP1 hD1 hs hk0 h10 hu
      subst hq
      have k2 := kk H1 locs lsA ?_ hS1 hl
      · rw [List.length_append, hto] at k2
        simp only [List.length_cons, List.length_nil] at k2
        rw [show sh.length + (0 + 1) - k0 = sh.length - k0 + 1 by omega, show pmTo sh + n - t0 = pmTo sh - t0 + n by omega] at k2
        have e2 : pmAd b base sh.length = base + sh.length := by
          cases hz : sh.length with
          | zero => omega
          | succ z => rfl
        simp only [List.map_cons, pmCv, e2] at k2
        exact k2
      · rw [← pmWd_app (e := .inr (a, pmBl a)) (M := M) (N := N) (by omega) (fun x hx => va_up_ne _ _ hx) (fun _ _ => rfl)]
        simp only [pmCe, va_up_self]
        exact hP1
  | newarray aty =>
    simp only [pmEx] at hex
    split at hex
    · rename_i n t
      split at hex
      · cases hex
      · rename_i h0
        split at hex
        · simp only [Option.some.injEq, Prod.mk.injEq] at hex
          obtain ⟨rfl, rfl, rfl, rfl, rfl⟩ := hex
          obtain ⟨hd, hi⟩ := ck1 hcode (by intro q; cases q)
          simp only [ckI, Bool.and_eq_true, decide_eq_true_eq] at hi
          obtain rfl := hi
          have hto : pmTo (sh ++ [.inl (0, n.toNatClampNeg, [])]) = pmTo sh + n.toNatClampNeg := by rw [pmTo_app]
          rw [List.length_append] at hR1
          simp only [List.length_cons, List.length_nil] at hR1
          rw [hto] at hR2
          have hbytes : n.toNatClampNeg * componentBytes (FieldType.int) ≤ 536870912 := Nat.le_trans (Nat.mul_le_mul (Nat.not_lt.mp fun q => h0 (Or.inr q)) (show componentBytes (FieldType.int) ≤ 8 by decide)) (by decide)
          refine va_newa (atype := .int) (ty := .int) (a0 := (n.toNatClampNeg, .inl (fun _ => 0))) (N' := n.toNatClampNeg) hx hb (hts _ (pmTb_of pmWg_int rfl)) rfl hK hP pmWd_D hS (fun q hq => by show base < q; omega) (fun cA => rfl) (fun q => h0 (Or.inl q)) rfl hbytes (by omega) (by omega) hd (fun q cA H1 hK1 hP1 hD1 hS1 => ?_)
          have hcA : cA = g 0 := pmK_eq (t := 0) hK hK1 rfl
          subst hcA
          refine pmW_sz (fun hu => ?_)
          have hq : q = base + sh.length := pmNew_q hP1 hD1 hs hk0 h10 hu
          subst hq
          have k2 := kk H1 locs lsA ?_ hS1 hl
          · rw [List.length_append, hto] at k2
            simp only [List.length_cons, List.length_nil] at k2
            rw [show sh.length + (0 + 1) - k0 = sh.length - k0 + 1 by omega, show pmTo sh + n.toNatClampNeg - t0 = pmTo sh - t0 + n.toNatClampNeg by omega] at k2
            have e2 : pmAd b base sh.length = base + sh.length := by
              cases hz : sh.length with
              | zero => omega
              | succ z => rfl
            simp only [List.map_cons, pmCv, e2] at k2
            exact k2
          · rw [← pmWd_app (e := .inl (0, n.toNatClampNeg, [])) (M := M) (N := N) (by omega) (fun x hx => va_up_ne _ _ hx) (fun _ _ => rfl)]
            simp only [pmCe, va_up_self]
            exact hP1
        · simp only [Option.some.injEq, Prod.mk.injEq] at hex
          obtain ⟨rfl, rfl, rfl, rfl, rfl⟩ := hex
          obtain ⟨hd, hi⟩ := ck1 hcode (by intro q; cases q)
          simp only [ckI, Bool.and_eq_true, decide_eq_true_eq] at hi
          obtain rfl := hi
          have hto : pmTo (sh ++ [.inl (1, n.toNatClampNeg, [])]) = pmTo sh + n.toNatClampNeg := by rw [pmTo_app]
          rw [List.length_append] at hR1
          simp only [List.length_cons, List.length_nil] at hR1
          rw [hto] at hR2
          have hbytes : n.toNatClampNeg * componentBytes (FieldType.long) ≤ 536870912 := Nat.le_trans (Nat.mul_le_mul (Nat.not_lt.mp fun q => h0 (Or.inr q)) (show componentBytes (FieldType.long) ≤ 8 by decide)) (by decide)
          refine va_newa (atype := .long) (ty := .long) (a0 := (n.toNatClampNeg, .inr (.inl (fun _ => 0)))) (N' := n.toNatClampNeg) hx hb (hts _ (pmTb_of pmWg_long rfl)) rfl hK hP pmWd_D hS (fun q hq => by show base < q; omega) (fun cA => rfl) (fun q => h0 (Or.inl q)) rfl hbytes (by omega) (by omega) hd (fun q cA H1 hK1 hP1 hD1 hS1 => ?_)
          have hcA : cA = g 1 := pmK_eq (t := 1) hK hK1 rfl
          subst hcA
          refine pmW_sz (fun hu => ?_)
          have hq : q = base + sh.length := pmNew_q hP1 hD1 hs hk0 h10 hu
          subst hq
          have k2 := kk H1 locs lsA ?_ hS1 hl
          · rw [List.length_append, hto] at k2
            simp only [List.length_cons, List.length_nil] at k2
            rw [show sh.length + (0 + 1) - k0 = sh.length - k0 + 1 by omega, show pmTo sh + n.toNatClampNeg - t0 = pmTo sh - t0 + n.toNatClampNeg by omega] at k2
            have e2 : pmAd b base sh.length = base + sh.length := by
              cases hz : sh.length with
              | zero => omega
              | succ z => rfl
            simp only [List.map_cons, pmCv, e2] at k2
            exact k2
          · rw [← pmWd_app (e := .inl (1, n.toNatClampNeg, [])) (M := M) (N := N) (by omega) (fun _ _ => rfl) (fun x hx => va_up_ne _ _ hx)]
            simp only [pmCe, va_up_self]
            exact hP1
        · simp only [Option.some.injEq, Prod.mk.injEq] at hex
          obtain ⟨rfl, rfl, rfl, rfl, rfl⟩ := hex
          obtain ⟨hd, hi⟩ := ck1 hcode (by intro q; cases q)
          simp only [ckI, Bool.and_eq_true, decide_eq_true_eq] at hi
          obtain rfl := hi
          have hto : pmTo (sh ++ [.inl (2, n.toNatClampNeg, [])]) = pmTo sh + n.toNatClampNeg := by rw [pmTo_app]
          rw [List.length_append] at hR1
          simp only [List.length_cons, List.length_nil] at hR1
          rw [hto] at hR2
          have hbytes : n.toNatClampNeg * componentBytes (FieldType.boolean) ≤ 536870912 := Nat.le_trans (Nat.mul_le_mul (Nat.not_lt.mp fun q => h0 (Or.inr q)) (show componentBytes (FieldType.boolean) ≤ 8 by decide)) (by decide)
          refine va_newa (atype := .boolean) (ty := .boolean) (a0 := (n.toNatClampNeg, .inl (fun _ => 0))) (N' := n.toNatClampNeg) hx hb (hts _ (pmTb_of pmWg_boolean rfl)) rfl hK hP pmWd_D hS (fun q hq => by show base < q; omega) (fun cA => rfl) (fun q => h0 (Or.inl q)) rfl hbytes (by omega) (by omega) hd (fun q cA H1 hK1 hP1 hD1 hS1 => ?_)
          have hcA : cA = g 2 := pmK_eq (t := 2) hK hK1 rfl
          subst hcA
          refine pmW_sz (fun hu => ?_)
          have hq : q = base + sh.length := pmNew_q hP1 hD1 hs hk0 h10 hu
          subst hq
          have k2 := kk H1 locs lsA ?_ hS1 hl
          · rw [List.length_append, hto] at k2
            simp only [List.length_cons, List.length_nil] at k2
            rw [show sh.length + (0 + 1) - k0 = sh.length - k0 + 1 by omega, show pmTo sh + n.toNatClampNeg - t0 = pmTo sh - t0 + n.toNatClampNeg by omega] at k2
            have e2 : pmAd b base sh.length = base + sh.length := by
              cases hz : sh.length with
              | zero => omega
              | succ z => rfl
            simp only [List.map_cons, pmCv, e2] at k2
            exact k2
          · rw [← pmWd_app (e := .inl (2, n.toNatClampNeg, [])) (M := M) (N := N) (by omega) (fun x hx => va_up_ne _ _ hx) (fun _ _ => rfl)]
            simp only [pmCe, va_up_self]
            exact hP1
        · cases hex
    · cases hex
  | anewarray idx =>
    simp only [pmEx] at hex
    split at hex
    · rename_i n t
      split at hex
      · cases hex
      · rename_i h0
        simp only [Option.some.injEq, Prod.mk.injEq] at hex
        obtain ⟨rfl, rfl, rfl, rfl, rfl⟩ := hex
        obtain ⟨hd, hi⟩ := ck1 hcode (by intro q; cases q)
        simp only [ckI, Bool.and_eq_true, decide_eq_true_eq] at hi
        obtain ⟨⟨rfl, h35⟩, hlk⟩ := hi
        have hto : pmTo (sh ++ [.inl (a, n.toNatClampNeg, List.replicate n.toNatClampNeg none)]) = pmTo sh + n.toNatClampNeg := by rw [pmTo_app]
        rw [List.length_append] at hR1
        simp only [List.length_cons, List.length_nil] at hR1
        rw [hto] at hR2
        have hover : Cond.arrayOver (.object (ckEl a)) ∈ pmTb := by
          rcases (show a = 3 ∨ a = 4 ∨ a = 5 by omega) with rfl | rfl | rfl
          · exact pmTb_of pmWg_3 rfl
          · exact pmTb_of pmWg_4 rfl
          · exact pmTb_of pmWg_5 rfl
        have hty : (pmTy g)[a]? = some (g a, .object (ckEl a)) := by
          rcases (show a = 3 ∨ a = 4 ∨ a = 5 by omega) with rfl | rfl | rfl <;> rfl
        refine va_newq (C := ckEl a) (N' := n.toNatClampNeg) hx hb hown (hts _ (pmTb_of hlk rfl)) (va_AO.of (hts _ hover)) hK hP pmWd_D hS (fun q hq => by show base < q; omega) (fun q => h0 (Or.inl q)) rfl (Nat.le_trans (Nat.mul_le_mul (Nat.not_lt.mp fun q => h0 (Or.inr q)) (Nat.le_refl 4)) (by decide)) (by omega) (by omega) hd (fun q cA H1 hK1 hP1 hD1 hS1 => ?_)
        have hcA : cA = g a := pmK_eq (t := a) hK hK1 hty
        subst hcA
        refine pmW_sz (fun hu => ?_)
        have hq : q = base + sh.length := pmNew_q hP1 hD1 hs hk0 h10 hu
        subst hq
        have k2 := kk H1 locs lsA ?_ hS1 hl
        · rw [List.length_append, hto] at k2
          simp only [List.length_cons, List.length_nil] at k2
          rw [show sh.length + (0 + 1) - k0 = sh.length - k0 + 1 by omega, show pmTo sh + n.toNatClampNeg - t0 = pmTo sh - t0 + n.toNatClampNeg by omega] at k2
          have e2 : pmAd b base sh.length = base + sh.length := by
            cases hz : sh.length with
            | zero => omega
            | succ z => rfl
          simp only [List.map_cons, pmCv, e2] at k2
          exact k2
        · rw [← pmWd_app (e := .inl (a, n.toNatClampNeg, List.replicate n.toNatClampNeg none)) (M := M) (N := N) (by omega) (fun _ _ => rfl) (fun _ _ => rfl)]
          simp only [pmCe]
          rw [pmAr_q _ _ _ h35.1]
          have e3 : (fun j => ((List.replicate n.toNatClampNeg (none : Option Nat)).getD j none).map (pmAd b base)) = fun _ => none := by
            funext j
            rw [List.getD_eq_getElem?_getD, List.getElem?_replicate]
            by_cases hj : j < n.toNatClampNeg
            · rw [if_pos hj]; rfl
            · rw [if_neg hj]; rfl
          rw [e3]
          exact hP1
    · cases hex
  | invokespecial idx =>
    simp only [pmEx] at hex
    split at hex
    · rename_i r t
      split at hex
      · rename_i h0
        obtain ⟨hb1, hcat⟩ := h0
        subst hb1
        simp only [Option.some.injEq, Prod.mk.injEq] at hex
        obtain ⟨rfl, rfl, rfl, rfl, rfl⟩ := hex
        obtain ⟨hd, hi⟩ := ck1 hcode (by intro q; cases q)
        simp only [ckI, if_pos, Bool.and_eq_true, decide_eq_true_eq] at hi
        obtain ⟨⟨rfl, hlk⟩, hr1, hr2⟩ := hi
        have hr1 : 1 ≤ R.frames := Nat.le_trans hr1 hfr
        have hr2 := Nat.le_trans hr2 hgl
        exact W.objInit hx hb hown (hts _ (pmTb_of hlk rfl)) (hts _ (pmTb_of pmWg_9 rfl)) (hts _ (pmTb_of pmWg_10 rfl)) rfl (by rw [hml]; exact hl.2.1) rfl hd (by omega) (by rw [show 2 * (F0 m pc lsA (.ref (pmAd b base r) :: t.map (pmCv (pmAd b base)))).monitorRoom = 0 from rfl, pmCat_cv]; omega) (kk H locs lsA hP hS hl)
      · cases hex
    · cases hex
  | invokestatic idx =>
    simp only [pmEx] at hex
    split at hex
    · rename_i n dp q sp k t
      split at hex
      · rename_i h0
        have hb1 := h0.1
        subst hb1
        obtain ⟨hd, hi⟩ := ck1 hcode (by intro q; cases q)
        simp only [ckI, if_pos, Bool.and_eq_true, decide_eq_true_eq] at hi
        obtain ⟨⟨rfl, hlk⟩, hr1, hr2⟩ := hi
        have hr1 : 1 ≤ R.frames := Nat.le_trans hr1 hfr
        have hr2 := Nat.le_trans hr2 hgl
        split at hex
        · rename_i n0 rs0 n1 rs1 hs0 hs1
          split at hex
          · rename_i h9
            simp only [Option.some.injEq, Prod.mk.injEq] at hex
            obtain ⟨rfl, rfl, rfl, rfl, rfl⟩ := hex
            exact va_copyi (f := M (k + 1)) (g := M (q + 1)) (n0 := n0) (n1 := n1) hx hb (hml.trans hl.2.1.symm) hown (hts _ (pmTb_of hlk rfl)) (hts _ (pmTb_of pmWg_6 rfl)) (hts _ (pmTb_of pmWg_7 rfl)) (hts _ (pmTb_of pmWg_8 rfl)) hK hP pmWd_D hS k q 0 0 (pmWd_get hs0) (pmWd_get hs1) rfl rfl rfl h0.2.2.2.2 h0.2.2.2.1 h0.2.2.1 h9.1 h9.2 (fun _ _ => rfl) (by omega) (by rw [pmCat_cv, show nativeFrameWords "java/lang/System" "arraycopy" 5 = 7 from by decide]; omega) hd (fun H1 locs1 hP1 _ hS1 => kk H1 locs1 lsA (by
              rw [← pmWd_setM (M := M) (N := N) hs1 (fun x hx => va_up_ne _ _ hx) (fun _ _ => rfl)]
              simp only [pmCe, pmAr_i, va_up_self]
              exact hP1) hS1 hl)
          · cases hex
        · rename_i n0 rs0 n1 rs1 hs0 hs1
          split at hex
          · rename_i h9
            simp only [Option.some.injEq, Prod.mk.injEq] at hex
            obtain ⟨rfl, rfl, rfl, rfl, rfl⟩ := hex
            exact va_copyl (f := N (k + 1)) (g := N (q + 1)) (n0 := n0) (n1 := n1) hx hb (hml.trans hl.2.1.symm) hown (hts _ (pmTb_of hlk rfl)) (hts _ (pmTb_of pmWg_6 rfl)) (hts _ (pmTb_of pmWg_7 rfl)) (hts _ (pmTb_of pmWg_8 rfl)) hK hP pmWd_D hS k q 1 1 (pmWd_get hs0) (pmWd_get hs1) rfl rfl rfl h0.2.2.2.2 h0.2.2.2.1 h0.2.2.1 h9.1 h9.2 (fun _ _ => rfl) (by omega) (by rw [pmCat_cv, show nativeFrameWords "java/lang/System" "arraycopy" 5 = 7 from by decide]; omega) hd (fun H1 locs1 hP1 _ hS1 => kk H1 locs1 lsA (by
              rw [← pmWd_setM (M := M) (N := N) hs1 (fun _ _ => rfl) (fun x hx => va_up_ne _ _ hx)]
              simp only [pmCe, pmAr_l, va_up_self]
              exact hP1) hS1 hl)
          · cases hex
        · cases hex
      · cases hex
    · cases hex
  | _ => first | (cases hna; done) | (simp only [pmEx] at hex; cases hex; done) | (simp [pmEx] at hex; done)
end SNB
