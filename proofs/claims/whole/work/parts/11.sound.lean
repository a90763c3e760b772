/-! A RUN of the pure machine is a walk of the real one -/
def pmNk : Cond → Bool
  | .fieldLinkNest .. => true
  | .methodLinkNest .. => true
  | .arrayOver (.object _) => true
  | _ => false
theorem pmTb_kinds : (pmTb.all fun w => goodWord w || pmNk w) = true := by decide +kernel
def pmGd : List Cond := pmTb.filter goodWord
/-- the words that a resolving keeps, but by a road of their own -/
def pmNg (U : State) : Prop := ∀ w ∈ pmTb, goodWord w = false → w.before #[] U = true
theorem pmNk_of {w : Cond} (hw : w ∈ pmTb) (hg : goodWord w = false) : pmNk w = true := by
  have hk := List.all_eq_true.mp pmTb_kinds w hw
  rw [hg, Bool.false_or] at hk
  exact hk
theorem pmNg_warm {s U : State} (hW : s.WarmedH U.vm) (h : pmNg s) : pmNg U := by
  intro w hw hg
  have hk := pmNk_of hw hg
  have h1 := h w hw hg
  cases w <;> first
    | (simp [pmNk] at hk; done)
    | exact va_Nw.warmF hW h1
    | exact va_Nw.warmM hW h1
    | (rename_i ty; cases ty <;> first | (simp [pmNk] at hk; done) | exact va_AO.moved hW.alike h1)
theorem pmNg_same {u U : State} (hv : u.vm = U.vm) (h : pmNg u) : pmNg U := by
  intro w hw hg
  have hk := pmNk_of hw hg
  have h1 := h w hw hg
  cases w <;> first
    | (simp [pmNk] at hk; done)
    | exact va_Nw.same rfl hv h1
    | (rename_i ty; cases ty <;> first | (simp [pmNk] at hk; done) | exact va_AO.moved (by rw [hv]; exact Vm.Alike.refl _) h1)
theorem pmTb_all {s : State} {args : Array Value} (hG : ∀ w ∈ pmGd, w.before args s = true) (hN : pmNg s) : ∀ w ∈ pmTb, w.before args s = true := by
  intro w hw
  by_cases hg : goodWord w = true
  · exact hG w (List.mem_filter.mpr ⟨hw, hg⟩)
  · have hg : goodWord w = false := by simpa using hg
    have hk := pmNk_of hw hg
    have h1 := hN w hw hg
    cases w <;> first
      | (simp [pmNk] at hk; done)
      | exact va_Nw.use rfl h1
      | exact h1
def pmWl (mi : Nat) : List Cond := Cond.code (pmY mi) (pmBy mi) (pmL mi) (pmRt mi) :: pmGd
def pmPc (D : va_G) (g : Nat → ClassId) (b base : Nat) (as : List Value) (sh : pmS) (M : pmM) (N : pmN) : Array Value → State → Prop :=
  va_Pc (as.map (pmCv (pmAd b base))) (fun U => U.heap.size = base + sh.length ∧ va_P D vwCl (pmWd g b base sh M N) U.heap ∧ va_K D vwCl (pmTy g) U ∧ pmNg U)
def pmQc (D : va_G) (g : Nat → ClassId) (b base : Nat) (r : Option Value) (sh : pmS) (M : pmM) (N : pmN) : Array Value → State → Outcome → State → Prop :=
  fun _ st oc t => oc = .returned (r.map (pmCv (pmAd b base))) ∧ va_P D vwCl (pmWd g b base sh M N) t.heap ∧ va_F (fun q => base < q) st t
def pmRm (mi mc ms : Nat) : Room := { frames := pmFr mi, cells := mc, slots := ms, locals := pmGl mi }
def pmMet (l : Launch) (D : va_G) (g : Nat → ClassId) (b base mi : Nat) (as : List Value) (sh : pmS) (M : pmM) (N : pmN) (r : Option Value) (sh' : pmS) (M' : pmM) (N' : pmN) : Prop :=
  Met l (pmY mi) (pmWl mi) (pmRm mi (sh'.length - sh.length) (pmTo sh' - pmTo sh)) (pmPc D g b base as sh M N) (pmQc D g b base r sh' M' N') (sh'.length - sh.length) (pmTo sh' - pmTo sh) (fun q => base < q)
theorem pmFr_le : ∀ mi, mi < 190 → pmFr mi ≤ 9 := by decide +kernel
theorem pmFr_out {mi : Nat} (h : 190 ≤ mi) : pmFr mi = 0 := by
  have : pmP[mi]? = none := List.getElem?_eq_none (by rw [show pmP.length = 190 from by decide +kernel]; exact h)
  simp [pmFr, pmG, List.getD_eq_getElem?_getD, this, pmI0]
theorem ckRoom_of {mi mj : Nat} (h : ckRoom mi mj = true) : pmFr mj + 1 ≤ pmFr mi ∧ 8 + (pmL mj + 11) + pmGl mj ≤ pmGl mi ∧ ckMt mj = true ∧ mj < 189 := by
  unfold ckRoom at h
  have h := of_decide_eq_true h
  have hlt : mj < 189 := ?_
  · exact ⟨h.1, h.2.1, ckMt_all mj hlt, hlt⟩
  have h1 : mj < 190 := by have := h.2.2; rwa [show pmP.length = 190 from by decide +kernel] at this
  have h2 : pmFr mi ≤ 9 := by
    by_cases q : mi < 190
    · exact pmFr_le mi q
    · rw [pmFr_out (by omega)]; omega
  have h3 : pmFr mj + 1 ≤ pmFr mi := h.1
  by_cases q : mj = 189
  · subst q
    have : pmFr 189 = 9 := by decide +kernel
    omega
  · omega
/-- a method's answer, at its return instruction -/
def pmRetAt (mi pc : Nat) (r : Option Value) : Prop :=
  (∃ v, r = some (.int v) ∧ decode (pmBy mi) pc = .ok (.ireturn, 1) ∧ (pmRt mi = some .int ∨ (pmRt mi = some .boolean ∧ (v = 0 ∨ v = 1)))) ∨
  (∃ v, r = some (.long v) ∧ decode (pmBy mi) pc = .ok (.lreturn, 1) ∧ pmRt mi = some .long) ∨
  (∃ v C, r = some (.ref v) ∧ decode (pmBy mi) pc = .ok (.areturn, 1) ∧ pmRt mi = some (.object C)) ∨
  (r = none ∧ decode (pmBy mi) pc = .ok (.return_, 1) ∧ pmRt mi = none)
theorem pmEn_len {as : List Value} {n : Nat} (h : (as.flatMap fun v => if pmIsL v then [v, .null] else [v]).length ≤ n) : (pmEn as n).length = n := by
  unfold pmEn
  simp only [List.length_append, List.length_replicate]
  omega
theorem pmEn_aux (ad : Nat → Nat) : ∀ (as : List Value) (i j : Nat) (v : Value), as.all pmOkV = true → (as.flatMap fun v => if pmIsL v then [v, .null] else [v])[j]? = some v → v ≠ .null → (i + j, pmCv ad v) ∈ lv_args i (as.map (pmCv ad))
  | [], i, j, v, _, h, _ => by simp at h
  | x :: t, i, j, v, hok, h, hv => by
    simp only [List.all_cons, Bool.and_eq_true] at hok
    simp only [List.flatMap_cons] at h
    simp only [List.map_cons, lv_args]
    cases x with
    | long z =>
      simp only [show pmIsL (Value.long z) = true from rfl, if_true, List.cons_append, List.nil_append] at h
      match j, h with
      | 0, h => cases h; exact List.mem_cons_self
      | 1, h =>
        simp at h
        exact absurd h.symm hv
      | j + 2, h =>
        have := pmEn_aux ad t (i + 2) j v hok.2 (by simpa using h) hv
        refine List.mem_cons_of_mem _ ?_
        simp only [pmCv, Value.category, if_true]
        rw [show i + (j + 2) = i + 2 + j by omega]
        exact this
    | int z =>
      simp only [show pmIsL (Value.int z) = false from rfl, Bool.false_eq_true, if_false, List.cons_append, List.nil_append] at h
      match j, h with
      | 0, h => simp at h; subst h; exact List.mem_cons_self
      | j + 1, h =>
        have := pmEn_aux ad t (i + 1) j v hok.2 (by simpa using h) hv
        refine List.mem_cons_of_mem _ ?_
        simp only [pmCv, Value.category]
        rw [show i + (j + 1) = i + 1 + j by omega]
        exact this
    | ref z =>
      simp only [show pmIsL (Value.ref z) = false from rfl, Bool.false_eq_true, if_false, List.cons_append, List.nil_append] at h
      match j, h with
      | 0, h => simp at h; subst h; exact List.mem_cons_self
      | j + 1, h =>
        have := pmEn_aux ad t (i + 1) j v hok.2 (by simpa using h) hv
        refine List.mem_cons_of_mem _ ?_
        simp only [pmCv, Value.category]
        rw [show i + (j + 1) = i + 1 + j by omega]
        exact this
    | _ => simp [pmOkV] at hok
theorem pmEn_sl (ad : Nat → Nat) : ∀ (as : List Value), as.all pmOkV = true → (lg_sl (as.map (pmCv ad))).length = (as.flatMap fun v => if pmIsL v then [v, .null] else [v]).length
  | [], _ => rfl
  | x :: t, hok => by
    simp only [List.all_cons, Bool.and_eq_true] at hok
    have ih := pmEn_sl ad t hok.2
    simp only [lg_sl] at ih
    simp only [lg_sl, List.map_cons, List.flatMap_cons, List.length_append, ih]
    cases x <;> first | rfl | (simp [pmOkV] at hok; done)
theorem pmEn_lr {ad : Nat → Nat} {as : List Value} {n : Nat} (hok : as.all pmOkV = true) (h : (as.flatMap fun v => if pmIsL v then [v, .null] else [v]).length ≤ n) : pmLr ad (lg_sl (as.map (pmCv ad)) ++ List.replicate (n - (lg_sl (as.map (pmCv ad))).length) Slot.unset).toArray n (pmEn as n) := by
  have he := lv_entry (as.map (pmCv ad)) (n := n) (by rw [pmEn_sl ad as hok]; exact h)
  refine ⟨pmEn_len h, he.1, he.2.1, fun i v hi hv => ?_⟩
  have : (0 + i, pmCv ad v) ∈ lv_args 0 (as.map (pmCv ad)) := by
    refine pmEn_aux ad as 0 i v hok ?_ hv
    unfold pmEn at hi
    simp only at hi
    by_cases hlt : i < (as.flatMap fun v => if pmIsL v then [v, .null] else [v]).length
    · rwa [List.getElem?_append_left hlt] at hi
    · rw [List.getElem?_append_right (by omega), List.getElem?_replicate] at hi
      split at hi
      · cases hi; exact absurd rfl hv
      · cases hi
  have := he.2.2 _ this
  simpa using this
