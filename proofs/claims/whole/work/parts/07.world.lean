/-! the pure cells as a world of the kit -/
def pmAd (b base k : Nat) : Nat := match k with
  | 0 => b
  | k + 1 => base + (k + 1)
def pmCv (ad : Nat → Nat) : Value → Value
  | .ref k => .ref (ad k)
  | v => v
def pmFv (ad : Nat → Nat) (f : Nat → Int32) (j : Nat) : Option (Option Nat) → Value
  | none => .int (f j)
  | some r => va_rf (r.map ad)
def pmFs (ad : Nat → Nat) (f : Nat → Int32) : Nat → List (Option (Option Nat)) → List Value
  | _, [] => []
  | j, x :: t => pmFv ad f j x :: pmFs ad f (j + 1) t
theorem pmFs_get (ad : Nat → Nat) (f : Nat → Int32) : ∀ (sl : List (Option (Option Nat))) (j i : Nat), (pmFs ad f j sl)[i]? = (sl[i]?).map (pmFv ad f (j + i))
  | [], _, _ => by simp [pmFs]
  | x :: t, j, 0 => by simp [pmFs]
  | x :: t, j, i + 1 => by
    rw [pmFs, List.getElem?_cons_succ, List.getElem?_cons_succ, pmFs_get ad f t (j + 1) i]
    rw [show j + 1 + i = j + (i + 1) by omega]
theorem pmFs_len (ad : Nat → Nat) (f : Nat → Int32) : ∀ (sl : List (Option (Option Nat))) (j : Nat), (pmFs ad f j sl).length = sl.length
  | [], _ => rfl
  | x :: t, j => by simp [pmFs, pmFs_len ad f t (j + 1)]
def pmAr (ad : Nat → Nat) (fM : Nat → Int32) (fN : Nat → Int64) (t n : Nat) (rs : List (Option Nat)) : vp_A :=
  (n, if t = 1 then .inr (.inl fN) else if t < 3 then .inl fM else .inr (.inr (.inr (.inr (fun j => (rs.getD j none).map ad)))))
def pmCe (g : Nat → ClassId) (ad : Nat → Nat) (M : pmM) (N : pmN) (k : Nat) : ((Nat × Nat × List (Option Nat)) ⊕ (Nat × List (Option (Option Nat)))) → va_E
  | .inl x => .inl (g x.1, pmAr ad (M k) (N k) x.1 x.2.1 x.2.2)
  | .inr x => .inr (x.1, pmFs ad (M k) 0 x.2)
def pmWs (g : Nat → ClassId) (ad : Nat → Nat) (M : pmM) (N : pmN) : Nat → pmS → va_W
  | _, [] => []
  | k, e :: t => (ad k, pmCe g ad M N k e) :: pmWs g ad M N (k + 1) t
theorem pmWs_get (g : Nat → ClassId) (ad : Nat → Nat) (M : pmM) (N : pmN) : ∀ (sh : pmS) (k i : Nat), (pmWs g ad M N k sh)[i]? = (sh[i]?).map fun e => (ad (k + i), pmCe g ad M N (k + i) e)
  | [], _, _ => by simp [pmWs]
  | x :: t, k, 0 => by simp [pmWs]
  | x :: t, k, i + 1 => by
    rw [pmWs, List.getElem?_cons_succ, List.getElem?_cons_succ, pmWs_get g ad M N t (k + 1) i]
    rw [show k + 1 + i = k + (i + 1) by omega]
theorem pmWs_len (g : Nat → ClassId) (ad : Nat → Nat) (M : pmM) (N : pmN) : ∀ (sh : pmS) (k : Nat), (pmWs g ad M N k sh).length = sh.length
  | [], _ => rfl
  | x :: t, k => by simp [pmWs, pmWs_len g ad M N t (k + 1)]
/-- the world: the cells from 1 on -/
def pmWd (g : Nat → ClassId) (b base : Nat) (sh : pmS) (M : pmM) (N : pmN) : va_W := pmWs g (pmAd b base) M N 1 sh.tail
theorem pmWd_get' (g : Nat → ClassId) (b base : Nat) (sh : pmS) (M : pmM) (N : pmN) (k : Nat) : (pmWd g b base sh M N)[k]? = (sh[k + 1]?).map fun e => (base + (k + 1), pmCe g (pmAd b base) M N (k + 1) e) := by
  unfold pmWd
  rw [pmWs_get, List.getElem?_tail, Nat.add_comm 1 k]
  rfl
theorem pmWd_get {g : Nat → ClassId} {b base : Nat} {sh : pmS} {M : pmM} {N : pmN} {k : Nat} {e : (Nat × Nat × List (Option Nat)) ⊕ (Nat × List (Option (Option Nat)))} (h : sh[k + 1]? = some e) : (pmWd g b base sh M N)[k]? = some (base + (k + 1), pmCe g (pmAd b base) M N (k + 1) e) := by
  rw [pmWd_get', h]; rfl
theorem pmWd_set {g : Nat → ClassId} {b base : Nat} {sh : pmS} {M M' : pmM} {N N' : pmN} {k : Nat} {e0 e : (Nat × Nat × List (Option Nat)) ⊕ (Nat × List (Option (Option Nat)))} (h : sh[k + 1]? = some e0) (hM : ∀ x, x ≠ k + 1 → M' x = M x) (hN : ∀ x, x ≠ k + 1 → N' x = N x) :
    (pmWd g b base sh M N).set k (base + (k + 1), pmCe g (pmAd b base) M' N' (k + 1) e) = pmWd g b base (sh.set (k + 1) e) M' N' := by
  have hl : k < (pmWd g b base sh M N).length := (List.getElem?_eq_some_iff.mp (pmWd_get h)).1
  have hl2 : k + 1 < sh.length := (List.getElem?_eq_some_iff.mp h).1
  apply List.ext_getElem?
  intro i
  rw [pmWd_get']
  by_cases hi : i = k
  · subst hi
    rw [List.getElem?_set_self hl, List.getElem?_set_self hl2]
    rfl
  · rw [List.getElem?_set_ne (Ne.symm hi), pmWd_get', List.getElem?_set_ne (by omega)]
    cases sh[i + 1]? with
    | none => rfl
    | some e1 =>
      have h1 : M' (i + 1) = M (i + 1) := hM _ (by omega)
      have h2 : N' (i + 1) = N (i + 1) := hN _ (by omega)
      cases e1 <;> simp [pmCe, h1, h2]
theorem pmWd_setM {g : Nat → ClassId} {b base : Nat} {sh : pmS} {M M' : pmM} {N N' : pmN} {k : Nat} {e : (Nat × Nat × List (Option Nat)) ⊕ (Nat × List (Option (Option Nat)))} (h : sh[k + 1]? = some e) (hM : ∀ x, x ≠ k + 1 → M' x = M x) (hN : ∀ x, x ≠ k + 1 → N' x = N x) :
    (pmWd g b base sh M N).set k (base + (k + 1), pmCe g (pmAd b base) M' N' (k + 1) e) = pmWd g b base sh M' N' := by
  rw [pmWd_set h hM hN]
  congr 1
  apply List.ext_getElem?
  intro i
  by_cases hi : i = k + 1
  · subst hi
    rw [List.getElem?_set_self (List.getElem?_eq_some_iff.mp h).1, h]
  · rw [List.getElem?_set_ne (Ne.symm hi)]
theorem pmWd_app {g : Nat → ClassId} {b base : Nat} {sh : pmS} {M M' : pmM} {N N' : pmN} {e : (Nat × Nat × List (Option Nat)) ⊕ (Nat × List (Option (Option Nat)))} (h0 : 0 < sh.length) (hM : ∀ x, x ≠ sh.length → M' x = M x) (hN : ∀ x, x ≠ sh.length → N' x = N x) :
    pmWd g b base sh M N ++ [(base + sh.length, pmCe g (pmAd b base) M' N' sh.length e)] = pmWd g b base (sh ++ [e]) M' N' := by
  have hlen : (pmWd g b base sh M N).length + 1 = sh.length := by
    unfold pmWd
    rw [pmWs_len, List.length_tail]
    omega
  apply List.ext_getElem?
  intro i
  rw [pmWd_get']
  by_cases hi : i < (pmWd g b base sh M N).length
  · rw [List.getElem?_append_left hi, pmWd_get', List.getElem?_append_left (by omega)]
    cases sh[i + 1]? with
    | none => rfl
    | some e1 =>
      have h1 : M' (i + 1) = M (i + 1) := hM _ (by omega)
      have h2 : N' (i + 1) = N (i + 1) := hN _ (by omega)
      cases e1 <;> simp [pmCe, h1, h2]
  · rw [List.getElem?_append_right (by omega), List.getElem?_append_right (by omega)]
    by_cases hi2 : i = (pmWd g b base sh M N).length
    · subst hi2
      rw [Nat.sub_self, show (pmWd g b base sh M N).length + 1 - sh.length = 0 by omega, hlen]
      rfl
    · have e1 : ∃ d, i - (pmWd g b base sh M N).length = d + 1 := ⟨i - (pmWd g b base sh M N).length - 1, by omega⟩
      have e2 : ∃ d, i + 1 - sh.length = d + 1 := ⟨i + 1 - sh.length - 1, by omega⟩
      obtain ⟨d1, e1⟩ := e1
      obtain ⟨d2, e2⟩ := e2
      rw [e1, e2]
      simp
theorem pmWd_D {g : Nat → ClassId} {b base : Nat} {sh : pmS} {M : pmM} {N : pmN} : va_D (fun q => base < q) (pmWd g b base sh M N) := by
  refine ⟨fun i j p q hi hj hpq => ?_, fun k q hk => ?_⟩
  · rw [pmWd_get'] at hi hj
    obtain ⟨e1, -, rfl⟩ := Option.map_eq_some_iff.mp hi
    obtain ⟨e2, -, rfl⟩ := Option.map_eq_some_iff.mp hj
    simp only at hpq
    omega
  · rw [pmWd_get'] at hk
    obtain ⟨e1, -, rfl⟩ := Option.map_eq_some_iff.mp hk
    show base < base + (k + 1)
    omega
/-! locals -/
def pmLr (ad : Nat → Nat) (lsA : Array Slot) (nL : Nat) (ls : List Value) : Prop := ls.length = nL ∧ lsA.size = nL ∧ lv_wf lsA ∧ ∀ (i : Nat) (v : Value), ls[i]? = some v → v ≠ .null → lsA[i]? = some (.val (pmCv ad v))
def pmLv (ad : Nat → Nat) : Nat → List Value → List (Nat × Value)
  | _, [] => []
  | i, .null :: t => pmLv ad (i + 1) t
  | i, v :: t => (i, pmCv ad v) :: pmLv ad (i + 1) t
theorem pmLv_mem (ad : Nat → Nat) : ∀ (ls : List Value) (i : Nat) (q : Nat × Value), q ∈ pmLv ad i ls ↔ ∃ (j : Nat) (v : Value), ls[j]? = some v ∧ v ≠ .null ∧ q = (i + j, pmCv ad v)
  | [], i, q => by simp [pmLv]
  | x :: t, i, q => by
    have ih := pmLv_mem ad t (i + 1) q
    have key : (∃ (j : Nat) (v : Value), (x :: t)[j]? = some v ∧ v ≠ .null ∧ q = (i + j, pmCv ad v)) ↔ ((x ≠ .null ∧ q = (i, pmCv ad x)) ∨ ∃ (j : Nat) (v : Value), t[j]? = some v ∧ v ≠ .null ∧ q = (i + 1 + j, pmCv ad v)) := by
      constructor
      · rintro ⟨j, v, h1, h2, h3⟩
        cases j with
        | zero =>
          rw [List.getElem?_cons_zero] at h1
          cases h1
          exact Or.inl ⟨h2, h3⟩
        | succ j =>
          rw [List.getElem?_cons_succ] at h1
          exact Or.inr ⟨j, v, h1, h2, by rw [h3]; congr 1; omega⟩
      · rintro (⟨h1, h2⟩ | ⟨j, v, h1, h2, h3⟩)
        · exact ⟨0, x, rfl, h1, h2⟩
        · exact ⟨j + 1, v, by rw [List.getElem?_cons_succ]; exact h1, h2, by rw [h3]; congr 1; omega⟩
    rw [key, ← ih]
    cases x <;> simp [pmLv]
theorem pmLr_has {ad : Nat → Nat} {lsA : Array Slot} {nL : Nat} {ls : List Value} (h : pmLr ad lsA nL ls) : lv_has lsA nL (pmLv ad 0 ls) := by
  refine ⟨h.2.1, h.2.2.1, fun q hq => ?_⟩
  obtain ⟨j, v, h1, h2, rfl⟩ := (pmLv_mem ad ls 0 q).mp hq
  have := h.2.2.2 j v h1 h2
  simpa using this
theorem pmLr_at {ad : Nat → Nat} {lsA : Array Slot} {nL : Nat} {ls : List Value} (h : pmLr ad lsA nL ls) {i : Nat} {v : Value} (hv : ls[i]? = some v) (hn : v ≠ .null) : lsA[i]? = some (.val (pmCv ad v)) := h.2.2.2 i v hv hn
theorem pmPut_len (ls : List Value) (i : Nat) (v : Value) : (pmPut ls i v).length = ls.length := by
  cases i with
  | zero => simp [pmPut]
  | succ i =>
    unfold pmPut
    rw [List.length_set]
    split <;> simp
theorem pmPut_get {ls : List Value} {i j : Nat} {v w : Value} (h : (pmPut ls i v)[j]? = some w) (hw : w ≠ .null) : (j = i ∧ w = v) ∨ (j ≠ i ∧ ls[j]? = some w ∧ ¬ (j + 1 = i ∧ pmIsL w = true)) := by
  by_cases hj : j = i
  · subst hj
    left
    refine ⟨rfl, ?_⟩
    cases j with
    | zero =>
      simp only [pmPut] at h
      rw [List.getElem?_set] at h
      simp at h
      exact h.2.symm
    | succ j =>
      simp only [pmPut] at h
      rw [List.getElem?_set] at h
      simp at h
      exact h.2.symm
  · right
    refine ⟨hj, ?_⟩
    cases i with
    | zero =>
      simp only [pmPut] at h
      rw [List.getElem?_set_ne (Ne.symm hj)] at h
      exact ⟨h, by omega⟩
    | succ i =>
      simp only [pmPut] at h
      rw [List.getElem?_set_ne (Ne.symm hj)] at h
      by_cases hL : pmIsL (ls.getD i .null) = true
      · rw [if_pos hL] at h
        by_cases hji : j = i
        · subst hji
          rw [List.getElem?_set] at h
          simp at h
          exact absurd h.2.symm hw
        · rw [List.getElem?_set_ne (Ne.symm hji)] at h
          exact ⟨h, by omega⟩
      · rw [if_neg hL] at h
        refine ⟨h, ?_⟩
        rintro ⟨h1, h2⟩
        have hji : j = i := by omega
        subst hji
        rw [List.getD_eq_getElem?_getD, h] at hL
        exact hL h2
theorem pmCv_cat {ad : Nat → Nat} {v : Value} (hv : (pmCv ad v).category = 2) : pmIsL v = true := by
  cases v <;> first | rfl | (simp [pmCv, Value.category] at hv; done)
theorem pmLr_put {ad : Nat → Nat} {lsA : Array Slot} {nL i : Nat} {ls : List Value} {v : Value} (hn : ls.length = nL) (h : lv_has lsA nL ((i, pmCv ad v) :: (pmLv ad 0 ls).filter (fun q => !(q.1 == i) && !(q.1 + 1 == i && q.2.category == 2)))) : pmLr ad lsA nL (pmPut ls i v) := by
  refine ⟨(pmPut_len ls i v).trans hn, h.1, h.2.1, fun j w hj hw => ?_⟩
  rcases pmPut_get hj hw with ⟨rfl, rfl⟩ | ⟨h1, h2, h3⟩
  · exact h.2.2 (j, pmCv ad w) List.mem_cons_self
  · refine h.2.2 (j, pmCv ad w) (List.mem_cons_of_mem _ (List.mem_filter.mpr ⟨(pmLv_mem ad ls 0 _).mpr ⟨j, w, h2, hw, by simp⟩, ?_⟩))
    have h4 : ¬ (j + 1 = i ∧ (pmCv ad w).category = 2) := fun q => h3 ⟨q.1, pmCv_cat q.2⟩
    simp only [Bool.and_eq_true, Bool.not_eq_true', beq_eq_false_iff_ne, ne_eq, Bool.and_eq_false_iff]
    exact ⟨h1, by by_cases q : j + 1 = i; exact Or.inr (fun z => h4 ⟨q, z⟩); exact Or.inl q⟩
theorem pmLr_put2 {ad : Nat → Nat} {lsA : Array Slot} {nL i : Nat} {ls : List Value} {v : Value} (hn : ls.length = nL) (h : lv_has lsA nL ((i, pmCv ad v) :: (pmLv ad 0 ls).filter (fun q => !(q.1 == i) && (!(q.1 == i + 1) && !(q.1 + 1 == i && q.2.category == 2))))) : pmLr ad lsA nL (pmPut2 ls i v) := by
  refine ⟨by unfold pmPut2; rw [List.length_set, pmPut_len]; exact hn, h.1, h.2.1, fun j w hj hw => ?_⟩
  unfold pmPut2 at hj
  have hji : j ≠ i + 1 := by
    intro q
    subst q
    rw [List.getElem?_set] at hj
    simp at hj
    exact hw hj.2.symm
  rw [List.getElem?_set_ne (Ne.symm hji)] at hj
  rcases pmPut_get hj hw with ⟨rfl, rfl⟩ | ⟨h1, h2, h3⟩
  · exact h.2.2 (j, pmCv ad w) List.mem_cons_self
  · refine h.2.2 (j, pmCv ad w) (List.mem_cons_of_mem _ (List.mem_filter.mpr ⟨(pmLv_mem ad ls 0 _).mpr ⟨j, w, h2, hw, by simp⟩, ?_⟩))
    have h4 : ¬ (j + 1 = i ∧ (pmCv ad w).category = 2) := fun q => h3 ⟨q.1, pmCv_cat q.2⟩
    simp only [Bool.and_eq_true, Bool.not_eq_true', beq_eq_false_iff_ne, ne_eq, Bool.and_eq_false_iff]
    exact ⟨h1, hji, by by_cases q : j + 1 = i; exact Or.inr (fun z => h4 ⟨q, z⟩); exact Or.inl q⟩
/-! the tables' words, the classes -/
def pmUse : Cond → Bool
  | .privateMethod _ => false
  | _ => true
def pmTb : List Cond := lw_tbl.filter pmUse
theorem pmTb_of {c : Nat} {w : Cond} (h : ckLw c w = true) (hu : pmUse w = true) : w ∈ pmTb := by
  unfold ckLw at h
  exact List.mem_filter.mpr ⟨List.mem_of_getElem? (of_decide_eq_true h), hu⟩
def pmTy (g : Nat → ClassId) : List (ClassId × FieldType) := [(g 0, .int), (g 1, .long), (g 2, .boolean), (g 3, .object "PhraseSwaps$Rule"), (g 4, .object "PhraseSwaps$Moment"), (g 5, .object "PhraseSwaps$Sheet")]
def pmTo (sh : pmS) : Nat := (sh.map (fun e => match e with
  | .inl x => x.2.1
  | .inr x => x.2.length)).sum
abbrev pmY (mi : Nat) : MethodName := (pmG mi).1
abbrev pmBy (mi : Nat) : ByteArray := (pmG mi).2.1
abbrev pmOwn (mi : Nat) : String := (pmG mi).2.2.2.2.2.1
abbrev pmFr (mi : Nat) : Nat := (pmG mi).2.2.2.2.2.2.2.2.1
abbrev pmGl (mi : Nat) : Nat := (pmG mi).2.2.2.2.2.2.2.2.2
theorem pmU_0 : (wsX00.all fun w => pmTb.contains w) = true := by decide +kernel
theorem pmU_1 : (wsX10.all fun w => pmTb.contains w) = true := by decide +kernel
theorem pmU_2 : (wsX20.all fun w => pmTb.contains w) = true := by decide +kernel
theorem pmU_3 : (wsX30.all fun w => pmTb.contains w) = true := by decide +kernel
theorem pmU_4 : (wsX40.all fun w => pmTb.contains w) = true := by decide +kernel
theorem pmU_5 : (wsX50.all fun w => pmTb.contains w) = true := by decide +kernel
theorem pmU_6 : (wsX60.all fun w => pmTb.contains w) = true := by decide +kernel
theorem pmU_7 : (wsX70.all fun w => pmTb.contains w) = true := by decide +kernel
theorem pmU_8 : (wsX80.all fun w => pmTb.contains w) = true := by decide +kernel
theorem pmU_9 : (wsX90.all fun w => pmTb.contains w) = true := by decide +kernel
theorem pmU_10 : (wsX100.all fun w => pmTb.contains w) = true := by decide +kernel
theorem pmU_11 : (wsX110.all fun w => pmTb.contains w) = true := by decide +kernel
theorem pmU_in {ws : List Cond} (h : (ws.all fun w => pmTb.contains w) = true) : ∀ w ∈ ws, w ∈ pmTb := fun w hw => by
  have := List.all_eq_true.mp h w hw
  simpa using this
/-- what is known of a class by its number -/
def pmCk (ci : Nat) (R : String) (T : u_T) (n : Nat) : Prop := pmNf.getD ci 0 = n ∧ (∀ k, k < n → parseFieldDescriptor (T k).2.2.1 = some ((pmTys.getD ci (fun _ => .int)) k)) ∧ (∀ a, a < n → ∀ b, b < n → a ≠ b → (T a).2.1 ≠ (T b).2.1) ∧ (∀ w ∈ u_ws R T n, w ∈ pmTb) ∧ ckLw (pmWc.getD ci (0, 0)).1 (.instantiable R n) = true ∧ ckLw (pmWc.getD ci (0, 0)).2 (.initialized R) = true
theorem pmCk_of {ci : Nat} {R : String} {T : u_T} {n : Nat} (h : vwCl[ci]? = some (R, T, n)) : pmCk ci R T n := by
  match ci, h with
  | 0, h => cases h; exact ⟨rfl, tyX0_ok, nmX0, pmU_in pmU_0, by decide +kernel, by decide +kernel⟩
  | 1, h => cases h; exact ⟨rfl, tyX1_ok, nmX1, pmU_in pmU_1, by decide +kernel, by decide +kernel⟩
  | 2, h => cases h; exact ⟨rfl, tyX2_ok, nmX2, pmU_in pmU_2, by decide +kernel, by decide +kernel⟩
  | 3, h => cases h; exact ⟨rfl, tyX3_ok, nmX3, pmU_in pmU_3, by decide +kernel, by decide +kernel⟩
  | 4, h => cases h; exact ⟨rfl, tyX4_ok, nmX4, pmU_in pmU_4, by decide +kernel, by decide +kernel⟩
  | 5, h => cases h; exact ⟨rfl, tyX5_ok, nmX5, pmU_in pmU_5, by decide +kernel, by decide +kernel⟩
  | 6, h => cases h; exact ⟨rfl, tyX6_ok, nmX6, pmU_in pmU_6, by decide +kernel, by decide +kernel⟩
  | 7, h => cases h; exact ⟨rfl, tyX7_ok, nmX7, pmU_in pmU_7, by decide +kernel, by decide +kernel⟩
  | 8, h => cases h; exact ⟨rfl, tyX8_ok, nmX8, pmU_in pmU_8, by decide +kernel, by decide +kernel⟩
  | 9, h => cases h; exact ⟨rfl, tyX9_ok, nmX9, pmU_in pmU_9, by decide +kernel, by decide +kernel⟩
  | 10, h => cases h; exact ⟨rfl, tyX10_ok, nmX10, pmU_in pmU_10, by decide +kernel, by decide +kernel⟩
  | 11, h => cases h; exact ⟨rfl, tyX11_ok, nmX11, pmU_in pmU_11, by decide +kernel, by decide +kernel⟩
  | k + 12, h => simp [vwCl] at h
theorem pmWg_ok : ckLw 0 (.selects "PhraseSwaps$Tape" ⟨"PhraseSwaps$Tape", "takes", "(I)Z"⟩ ⟨"PhraseSwaps$Tape", "takes", "(I)Z"⟩) = true := by decide +kernel
theorem ck1 {mi pc len a b c : Nat} {i : Instr} (h : pmCode mi pc = some (i, len, a, b, c)) (hn : i ≠ .nop) : decode (pmBy mi) pc = .ok (i, len) ∧ ckI mi pc (i, len, a, b, c) = true := by
  have hk := ckE_of h
  unfold ckE at hk
  cases i <;> first | exact absurd rfl hn | (simp only [Bool.and_eq_true, decide_eq_true_eq] at hk; exact hk)
