/-! THE CONSTRUCTORS: all that is made is 0, only shapes grow -/
def fz (M : pmM) (N : pmN) (k : Nat) : Prop := ∀ x, k ≤ x → M x = (fun _ => 0) ∧ N x = fun _ => 0
theorem fz.wk {M : pmM} {N : pmN} {k l : Nat} (h : fz M N k) (hl : k ≤ l) : fz M N l := fun x hx => h x (by omega)
theorem z_st {M : pmM} {k j : Nat} (h : M k j = 0) : pmSt M k j (nI 0) = M := by
  funext x i
  by_cases hx : x = k
  · subst hx
    by_cases hi : i = j
    · subst hi; rw [st_same, h]; rfl
    · rw [st_row _ _ _ _ hi]
  · rw [st_ne _ _ _ _ hx]
theorem ap_lt {sh : pmS} {x : Nat} {c : (Nat × Nat × List (Option Nat)) ⊕ (Nat × List (Option (Option Nat)))} (h : x < sh.length) : (sh ++ [c])[x]? = sh[x]? := List.getElem?_append_left h
theorem ap_eq {sh : pmS} {K : Nat} {c : (Nat × Nat × List (Option Nat)) ⊕ (Nat × List (Option (Option Nat)))} (h : sh.length = K) : (sh ++ [c])[K]? = some c := by subst h; simp
theorem pmTo_setO {sh : pmS} {k ci : Nat} {sl sl' : List (Option (Option Nat))} (h : sh[k]? = some (.inr (ci, sl))) (e : sl'.length = sl.length) : pmTo (sh.set k (.inr (ci, sl'))) = pmTo sh := pmTo_set_aux _ sh k _ _ h (by simp [e])
theorem pmTo_setA {sh : pmS} {k tg n : Nat} {rs rs' : List (Option Nat)} (h : sh[k]? = some (.inl (tg, n, rs))) : pmTo (sh.set k (.inl (tg, n, rs'))) = pmTo sh := pmTo_set_aux _ sh k _ _ h rfl
theorem pmTo_new (sh : pmS) (ci m : Nat) (h : (pmBl ci).length = m) : pmTo (sh ++ [.inr (ci, pmBl ci)]) = pmTo sh + m := by rw [pmTo_app]; simp only; rw [h]
theorem pmTo_arr (sh : pmS) (tg n : Nat) (rs : List (Option Nat)) : pmTo (sh ++ [.inl (tg, n, rs)]) = pmTo sh + n := by rw [pmTo_app]
def grw (sh sh' : pmS) (k l t : Nat) : Prop := sh'.length = l ∧ (∀ x, x < k → sh'[x]? = sh[x]?) ∧ pmTo sh' = pmTo sh + t
section PWK
variable {mi pc len a b c : Nat} {ls st : List Value} {sh : pmS} {M : pmM} {N : pmN} {Q : pmPost}
theorem pw_newK {x : Nat} (K : Nat) (q : Nat) (h : pmCode mi pc = some (.new x, len, a, b, c)) (hp : pc + len = q) (hl : sh.length = K) (hM : M K = fun _ => 0) (kk : PW mi q ls (.ref K :: st) (sh ++ [.inr (a, pmBl a)]) M N Q) : PW mi pc ls st sh M N Q := by
  subst hl; exact pw_new q h hp hM kk
theorem pw_newIK {n : Int32} (k K : Nat) {t : List Value} (q : Nat) (h : pmCode mi pc = some (.newarray .int, len, a, b, c)) (hp : pc + len = q) (hn : n = nI k) (hk : k ≤ 1000) (hl : sh.length = K) (hM : M K = fun _ => 0) (kk : PW mi q ls (.ref K :: t) (sh ++ [.inl (0, k, [])]) M N Q) : PW mi pc ls (.int n :: t) sh M N Q := by
  subst hl; exact pw_newI k q h hp hn hk hM kk
theorem pw_newZK {n : Int32} (k K : Nat) {t : List Value} (q : Nat) (h : pmCode mi pc = some (.newarray .boolean, len, a, b, c)) (hp : pc + len = q) (hn : n = nI k) (hk : k ≤ 1000) (hl : sh.length = K) (hM : M K = fun _ => 0) (kk : PW mi q ls (.ref K :: t) (sh ++ [.inl (2, k, [])]) M N Q) : PW mi pc ls (.int n :: t) sh M N Q := by
  subst hl; exact pw_newZ k q h hp hn hk hM kk
theorem pw_newLK {n : Int32} (k K : Nat) {t : List Value} (q : Nat) (h : pmCode mi pc = some (.newarray .long, len, a, b, c)) (hp : pc + len = q) (hn : n = nI k) (hk : k ≤ 1000) (hl : sh.length = K) (hM : N K = fun _ => 0) (kk : PW mi q ls (.ref K :: t) (sh ++ [.inl (1, k, [])]) M N Q) : PW mi pc ls (.int n :: t) sh M N Q := by
  subst hl; exact pw_newL k q h hp hn hk hM kk
theorem pw_newQK {x : Nat} {n : Int32} (k K : Nat) {t : List Value} (q : Nat) (h : pmCode mi pc = some (.anewarray x, len, a, b, c)) (hp : pc + len = q) (hn : n = nI k) (hk : k ≤ 1000) (hl : sh.length = K) (kk : PW mi q ls (.ref K :: t) (sh ++ [.inl (a, k, List.replicate k none)]) M N Q) : PW mi pc ls (.int n :: t) sh M N Q := by
  subst hl; exact pw_newQ k q h hp hn hk kk
end PWK
/-- an array of references, filled so far -/
def rfA (f : Nat → Nat) (n i : Nat) : List (Option Nat) := ((List.range i).map fun j => some (f j)) ++ List.replicate (n - i) none
theorem rf_0 (f : Nat → Nat) (n : Nat) : rfA f n 0 = List.replicate n none := by simp [rfA]
theorem rf_n (f : Nat → Nat) (n : Nat) : rfA f n n = (List.range n).map fun j => some (f j) := by simp [rfA]
theorem rf_len (f : Nat → Nat) {n i : Nat} (h : i ≤ n) : (rfA f n i).length = n := by simp [rfA]; omega
theorem rf_set (f : Nat → Nat) {n i : Nat} (h : i < n) : (rfA f n i).set i (some (f i)) = rfA f n (i + 1) := by
  unfold rfA
  obtain ⟨m, hm⟩ : ∃ m, n - i = m + 1 := ⟨n - i - 1, by omega⟩
  rw [List.set_append_right _ _ (by simp), hm, List.length_map, List.length_range, Nat.sub_self, List.replicate_succ, List.set_cons_zero, List.range_succ, List.map_append, List.append_assoc, show n - (i + 1) = m by omega]
  rfl
section ISM
variable {sh sh' : pmS} {k n : Nat}
theorem isRow.mvS (h : isRow sh k n) (e : ∀ x, k ≤ x → x < k + 2 → sh'[x]? = sh[x]?) : isRow sh' k n := ⟨⟨h.1.1, by rw [e k (by omega) (by omega)]; exact h.1.2⟩, ⟨h.2.1, by rw [e (k + 1) (by omega) (by omega)]; exact h.2.2.1, h.2.2.2⟩⟩
theorem isLine.mvS (h : isLine sh k n) (e : ∀ x, k ≤ x → x < k + 5 → sh'[x]? = sh[x]?) : isLine sh' k n := ⟨⟨h.1.1, by rw [e k (by omega) (by omega)]; exact h.1.2⟩, h.2.1.mvS (fun x h1 h2 => e x (by omega) (by omega)), h.2.2.mvS (fun x h1 h2 => e x (by omega) (by omega))⟩
theorem isMom.mvS (h : isMom sh k) (e : ∀ x, k ≤ x → x < k + 6 → sh'[x]? = sh[x]?) : isMom sh' k := ⟨⟨h.1.1, by rw [e k (by omega) (by omega)]; exact h.1.2⟩, h.2.mvS (fun x h1 h2 => e x (by omega) (by omega))⟩
theorem isRule.mvS (h : isRule sh k) (e : ∀ x, k ≤ x → x < k + 5 → sh'[x]? = sh[x]?) : isRule sh' k := ⟨⟨h.1.1, by rw [e k (by omega) (by omega)]; exact h.1.2⟩, h.2.1.mvS (fun x h1 h2 => e x (by omega) (by omega)), h.2.2.mvS (fun x h1 h2 => e x (by omega) (by omega))⟩
theorem isBook.mvS (h : isBook sh k) (e : ∀ x, k ≤ x → x < k + 57 → sh'[x]? = sh[x]?) : isBook sh' k := ⟨⟨h.1.1, by rw [e k (by omega) (by omega)]; exact h.1.2⟩, ⟨h.2.1.1, by rw [e (k + 1) (by omega) (by omega)]; exact h.2.1.2.1, h.2.1.2.2⟩, fun i hi => (h.2.2 i hi).mvS (fun x h1 h2 => e x (by omega) (by omega))⟩
theorem isHist.mvS (h : isHist sh k) (e : ∀ x, k ≤ x → x < k + 50 → sh'[x]? = sh[x]?) : isHist sh' k := ⟨⟨h.1.1, by rw [e k (by omega) (by omega)]; exact h.1.2⟩, ⟨h.2.1.1, by rw [e (k + 1) (by omega) (by omega)]; exact h.2.1.2.1, h.2.1.2.2⟩, fun i hi => (h.2.2 i hi).mvS (fun x h1 h2 => e x (by omega) (by omega))⟩
theorem isState.mvS (h : isState sh k) (e : ∀ x, k ≤ x → x < k + 114 → sh'[x]? = sh[x]?) : isState sh' k := ⟨⟨h.1.1, by rw [e k (by omega) (by omega)]; exact h.1.2⟩, h.2.1.mvS (fun x h1 h2 => e x (by omega) (by omega)), h.2.2.1.mvS (fun x h1 h2 => e x (by omega) (by omega)), h.2.2.2.mvS (fun x h1 h2 => e x (by omega) (by omega))⟩
theorem isTape.mvS (h : isTape sh k) (e : ∀ x, k ≤ x → x < k + 3 → sh'[x]? = sh[x]?) : isTape sh' k := ⟨⟨h.1.1, by rw [e k (by omega) (by omega)]; exact h.1.2⟩, h.2.mvS (fun x h1 h2 => e x (by omega) (by omega))⟩
theorem isWalk.mvS {kb : Nat} (h : isWalk sh k kb) (e : ∀ x, k ≤ x → x < k + 16 → sh'[x]? = sh[x]?) : isWalk sh' k kb := ⟨⟨h.1.1, by rw [e k (by omega) (by omega)]; exact h.1.2⟩, h.2.1.mvS (fun x h1 h2 => e x (by omega) (by omega)), h.2.2.1.mvS (fun x h1 h2 => e x (by omega) (by omega)), h.2.2.2.1.mvS (fun x h1 h2 => e x (by omega) (by omega)), h.2.2.2.2.1.mvS (fun x h1 h2 => e x (by omega) (by omega)), h.2.2.2.2.2.1.mvS (fun x h1 h2 => e x (by omega) (by omega)), h.2.2.2.2.2.2.mvS (fun x h1 h2 => e x (by omega) (by omega))⟩
theorem isSheet.mvS (h : isSheet sh k) (e : ∀ x, k ≤ x → x < k + 2 → sh'[x]? = sh[x]?) : isSheet sh' k := ⟨⟨h.1.1, by rw [e k (by omega) (by omega)]; exact h.1.2⟩, ⟨h.2.1, by rw [e (k + 1) (by omega) (by omega)]; exact h.2.2.1, h.2.2.2⟩⟩
end ISM
section INI
variable {sh : pmS} {M : pmM} {N : pmN} {Q : pmPost} {k : Nat}
theorem i_Row {n : Nat} (hn : n ≤ 1000) (hk0 : 0 < k) (hk : sh.length = k + 1) (ho : sh[k]? = some (.inr (4, pmBl 4))) (hz : fz M N k) (kk : ∀ sh', grw sh sh' k (k + 2) n → isRow sh' k n → Q none sh' M N) : PW mX4_init 0 [.ref k, .int (nI n)] [] sh M N Q := by
  have bl : pmBl 4 = [some none, none] := rfl
  rw [bl] at ho
  have ob0 : pmOb sh k 4 [some none, none] := ⟨hk0, ho⟩
  refine pw_aload_n 1 rfl rfl rfl ?_
  refine pw_objInit 4 rfl rfl (Nat.le_of_ble_eq_true rfl) ?_
  refine pw_aload_n 5 rfl rfl rfl ?_
  refine pw_iconst (v := nI 0) 6 rfl rfl (by decide) ?_
  refine pw_putI 9 rfl rfl (by first | assumption | exact ⟨by decide, rfl⟩) rfl (by decide) ?_
  rw [z_st (by rw [(hz k (by omega)).1])]
  refine pw_aload_n 10 rfl rfl rfl ?_
  refine pw_iconst (v := nI 0) 11 rfl rfl (by decide) ?_
  refine pw_iload_n 12 rfl rfl rfl ?_
  refine pw_cS2 15 rfl rfl rfl (Nat.le_of_ble_eq_true rfl) rfl rfl (Nat.le_of_ble_eq_true rfl) (c_max (x := 0) (y := n) (by decide) (by omega) ?_)
  refine pw_pI ?_
  rw [Nat.max_eq_right (Nat.zero_le n)]
  refine pw_newIK n (k + 1) 17 rfl rfl rfl hn hk (hz _ (by omega)).1 ?_
  have ot : (sh ++ [.inl (0, n, [])])[k]? = some (.inr (4, [some none, none])) := by rw [ap_lt (by omega)]; exact ho
  refine pw_putR 20 rfl rfl ⟨hk0, ot⟩ rfl (by decide) ?_
  refine pw_vret rfl (kk _ ⟨?_, fun x hx => ?_, ?_⟩ ⟨⟨hk0, ?_⟩, ⟨by omega, ?_, hn⟩⟩)
  · rw [List.length_set, List.length_append, hk]; rfl
  · rw [List.getElem?_set_ne (by omega), ap_lt (by omega)]
  · have e1 := pmTo_setO (sl' := List.set [some none, none] 0 (some (some (k + 1)))) ot rfl
    have e3 := pmTo_arr sh 0 n []
    omega
  · exact List.getElem?_set_self (by rw [List.length_append]; omega)
  · rw [List.getElem?_set_ne (by omega)]; exact ap_eq hk
theorem i_Line {n : Nat} (hn : n ≤ 1000) (hk0 : 0 < k) (hk : sh.length = k + 1) (ho : sh[k]? = some (.inr (2, pmBl 2))) (hz : fz M N k) (kk : ∀ sh', grw sh sh' k (k + 5) (0 + (2 + (n)) + (2 + (n))) → isLine sh' k n → Q none sh' M N) : PW mX2_init 0 [.ref k, .int (nI n)] [] sh M N Q := by
  have bl : pmBl 2 = [some none, some none] := rfl
  rw [bl] at ho
  have O0 := ho
  have L0 := hk
  have F0 : ∀ x, x < k → sh[x]? = sh[x]? := fun _ _ => rfl
  have T0 : pmTo sh = pmTo sh + 0 := rfl
  have ob0 : pmOb sh k 2 [some none, some none] := ⟨hk0, O0⟩
  have hz0 : ∀ j, M k j = 0 := fun j => by rw [(hz k (by omega)).1]
  refine pw_aload_n 1 rfl rfl rfl ?_
  refine pw_objInit 4 rfl rfl (Nat.le_of_ble_eq_true rfl) ?_
  refine pw_aload_n 5 rfl rfl rfl ?_
  refine pw_newK (k + 1) 8 rfl rfl L0 (hz _ (by omega)).1 ?_
  refine pw_dup 9 rfl rfl rfl ?_
  refine pw_iload_n 10 rfl rfl rfl ?_
  refine pw_cI1 13 rfl rfl rfl (Nat.le_of_ble_eq_true rfl) rfl rfl (Nat.le_of_ble_eq_true rfl) (i_Row (k := k + 1) (n := n) (hn) (by omega) (by rw [List.length_append, L0]; rfl) (ap_eq L0) (hz.wk (by omega)) (fun t1 g1 it1 => ?_))
  refine pw_pV ?_
  have ot1 : t1[k]? = some (.inr (2, [some none, some none])) := by rw [g1.2.1 k (by omega), ap_lt (by omega)]; exact O0
  refine pw_putR 16 rfl rfl ⟨hk0, ot1⟩ rfl (by decide) ?_
  obtain ⟨s1, hs1⟩ : ∃ z, z = t1.set k (.inr (2, List.set [some none, some none] 0 (some (some (k + 1))))) := ⟨_, rfl⟩
  rw [← hs1]
  have L1 : s1.length = k + 3 := by have := g1.1; rw [hs1, List.length_set]; omega
  have O1 : s1[k]? = some (.inr (2, [some (some (k + 1)), some none])) := by rw [hs1]; exact List.getElem?_set_self (by have := g1.1; omega)
  have E1 : ∀ x, x < k + 1 → x ≠ k → s1[x]? = sh[x]? := fun x h1 h2 => by rw [hs1, List.getElem?_set_ne (Ne.symm h2), g1.2.1 x h1, ap_lt (by omega)]
  have T1 : pmTo s1 = pmTo sh + (0 + (2 + (n))) := by have e1 := pmTo_setO (sl' := List.set [some none, some none] 0 (some (some (k + 1)))) ot1 rfl; have e2 := g1.2.2; have e3 := pmTo_new sh 4 2 rfl; rw [hs1]; omega
  have F1 : ∀ x, x < k → s1[x]? = sh[x]? := fun x h => (E1 x (by omega) (by omega)).trans (F0 x h)
  have I1_1 : isRow s1 (k + 1) n := it1.mvS (fun x h1 h2 => by rw [hs1, List.getElem?_set_ne (by omega)])
  have ob1 : pmOb s1 k 2 [some (some (k + 1)), some none] := ⟨hk0, O1⟩
  clear hs1 ot1 g1 it1 E1 ob0 L0 O0 T0 F0 
  refine pw_aload_n 17 rfl rfl rfl ?_
  refine pw_newK (k + 3) 20 rfl rfl L1 (hz _ (by omega)).1 ?_
  refine pw_dup 21 rfl rfl rfl ?_
  refine pw_iload_n 22 rfl rfl rfl ?_
  refine pw_cI1 25 rfl rfl rfl (Nat.le_of_ble_eq_true rfl) rfl rfl (Nat.le_of_ble_eq_true rfl) (i_Row (k := k + 3) (n := n) (hn) (by omega) (by rw [List.length_append, L1]; rfl) (ap_eq L1) (hz.wk (by omega)) (fun t2 g2 it2 => ?_))
  refine pw_pV ?_
  have ot2 : t2[k]? = some (.inr (2, [some (some (k + 1)), some none])) := by rw [g2.2.1 k (by omega), ap_lt (by omega)]; exact O1
  refine pw_putR 28 rfl rfl ⟨hk0, ot2⟩ rfl (by decide) ?_
  obtain ⟨s2, hs2⟩ : ∃ z, z = t2.set k (.inr (2, List.set [some (some (k + 1)), some none] 1 (some (some (k + 3))))) := ⟨_, rfl⟩
  rw [← hs2]
  have L2 : s2.length = k + 5 := by have := g2.1; rw [hs2, List.length_set]; omega
  have O2 : s2[k]? = some (.inr (2, [some (some (k + 1)), some (some (k + 3))])) := by rw [hs2]; exact List.getElem?_set_self (by have := g2.1; omega)
  have E2 : ∀ x, x < k + 3 → x ≠ k → s2[x]? = s1[x]? := fun x h1 h2 => by rw [hs2, List.getElem?_set_ne (Ne.symm h2), g2.2.1 x h1, ap_lt (by omega)]
  have T2 : pmTo s2 = pmTo sh + (0 + (2 + (n)) + (2 + (n))) := by have e1 := pmTo_setO (sl' := List.set [some (some (k + 1)), some none] 1 (some (some (k + 3)))) ot2 rfl; have e2 := g2.2.2; have e3 := pmTo_new s1 4 2 rfl; rw [hs2]; omega
  have F2 : ∀ x, x < k → s2[x]? = sh[x]? := fun x h => (E2 x (by omega) (by omega)).trans (F1 x h)
  have I1_2 : isRow s2 (k + 1) n := I1_1.mvS (fun x h1 h2 => E2 x (by omega) (by omega))
  have I2_2 : isRow s2 (k + 3) n := it2.mvS (fun x h1 h2 => by rw [hs2, List.getElem?_set_ne (by omega)])
  have ob2 : pmOb s2 k 2 [some (some (k + 1)), some (some (k + 3))] := ⟨hk0, O2⟩
  clear hs2 ot2 g2 it2 E2 ob1 L1 O1 T1 F1 I1_1
  exact pw_vret rfl (kk s2 ⟨L2, F2, T2⟩ ⟨ob2, I1_2, I2_2⟩)
theorem i_Mom (hk0 : 0 < k) (hk : sh.length = k + 1) (ho : sh[k]? = some (.inr (3, pmBl 3))) (hz : fz M N k) (kk : ∀ sh', grw sh sh' k (k + 6) 126 → isMom sh' k → Q none sh' M N) : PW mX3_init 0 [.ref k] [] sh M N Q := by
  have bl : pmBl 3 = [some none, none] := rfl
  rw [bl] at ho
  have O0 := ho
  have L0 := hk
  have F0 : ∀ x, x < k → sh[x]? = sh[x]? := fun _ _ => rfl
  have T0 : pmTo sh = pmTo sh + 0 := rfl
  have ob0 : pmOb sh k 3 [some none, none] := ⟨hk0, O0⟩
  have hz0 : ∀ j, M k j = 0 := fun j => by rw [(hz k (by omega)).1]
  refine pw_aload_n 1 rfl rfl rfl ?_
  refine pw_objInit 4 rfl rfl (Nat.le_of_ble_eq_true rfl) ?_
  refine pw_aload_n 5 rfl rfl rfl ?_
  refine pw_newK (k + 1) 8 rfl rfl L0 (hz _ (by omega)).1 ?_
  refine pw_dup 9 rfl rfl rfl ?_
  refine pw_bipush (v := nI 60) 11 rfl rfl (by decide) ?_
  refine pw_cI1 14 rfl rfl rfl (Nat.le_of_ble_eq_true rfl) rfl rfl (Nat.le_of_ble_eq_true rfl) (i_Line (k := k + 1) (n := 60) (by decide) (by omega) (by rw [List.length_append, L0]; rfl) (ap_eq L0) (hz.wk (by omega)) (fun t1 g1 it1 => ?_))
  refine pw_pV ?_
  have ot1 : t1[k]? = some (.inr (3, [some none, none])) := by rw [g1.2.1 k (by omega), ap_lt (by omega)]; exact O0
  refine pw_putR 17 rfl rfl ⟨hk0, ot1⟩ rfl (by decide) ?_
  obtain ⟨s1, hs1⟩ : ∃ z, z = t1.set k (.inr (3, List.set [some none, none] 0 (some (some (k + 1))))) := ⟨_, rfl⟩
  rw [← hs1]
  have L1 : s1.length = k + 6 := by have := g1.1; rw [hs1, List.length_set]; omega
  have O1 : s1[k]? = some (.inr (3, [some (some (k + 1)), none])) := by rw [hs1]; exact List.getElem?_set_self (by have := g1.1; omega)
  have E1 : ∀ x, x < k + 1 → x ≠ k → s1[x]? = sh[x]? := fun x h1 h2 => by rw [hs1, List.getElem?_set_ne (Ne.symm h2), g1.2.1 x h1, ap_lt (by omega)]
  have T1 : pmTo s1 = pmTo sh + (126) := by have e1 := pmTo_setO (sl' := List.set [some none, none] 0 (some (some (k + 1)))) ot1 rfl; have e2 := g1.2.2; have e3 := pmTo_new sh 2 2 rfl; rw [hs1]; omega
  have F1 : ∀ x, x < k → s1[x]? = sh[x]? := fun x h => (E1 x (by omega) (by omega)).trans (F0 x h)
  have I1_1 : isLine s1 (k + 1) 60 := it1.mvS (fun x h1 h2 => by rw [hs1, List.getElem?_set_ne (by omega)])
  have ob1 : pmOb s1 k 3 [some (some (k + 1)), none] := ⟨hk0, O1⟩
  clear hs1 ot1 g1 it1 E1 ob0 L0 O0 T0 F0 
  refine pw_aload_n 18 rfl rfl rfl ?_
  refine pw_iconst (v := nI 0) 19 rfl rfl (by decide) ?_
  refine pw_putI 22 rfl rfl (by first | assumption | exact ⟨by decide, rfl⟩) rfl (by decide) ?_
  rw [z_st (hz0 1)]
  exact pw_vret rfl (kk s1 ⟨L1, F1, T1⟩ ⟨ob1, I1_1⟩)
theorem i_Rule (hk0 : 0 < k) (hk : sh.length = k + 1) (ho : sh[k]? = some (.inr (5, pmBl 5))) (hz : fz M N k) (kk : ∀ sh', grw sh sh' k (k + 5) 16 → isRule sh' k → Q none sh' M N) : PW mX5_init 0 [.ref k] [] sh M N Q := by
  have bl : pmBl 5 = [none, some none, some none] := rfl
  rw [bl] at ho
  have O0 := ho
  have L0 := hk
  have F0 : ∀ x, x < k → sh[x]? = sh[x]? := fun _ _ => rfl
  have T0 : pmTo sh = pmTo sh + 0 := rfl
  have ob0 : pmOb sh k 5 [none, some none, some none] := ⟨hk0, O0⟩
  have hz0 : ∀ j, M k j = 0 := fun j => by rw [(hz k (by omega)).1]
  refine pw_aload_n 1 rfl rfl rfl ?_
  refine pw_objInit 4 rfl rfl (Nat.le_of_ble_eq_true rfl) ?_
  refine pw_aload_n 5 rfl rfl rfl ?_
  refine pw_iconst (v := nI 0) 6 rfl rfl (by decide) ?_
  refine pw_putI 9 rfl rfl (by first | assumption | exact ⟨by decide, rfl⟩) rfl (by decide) ?_
  rw [z_st (hz0 0)]
  refine pw_aload_n 10 rfl rfl rfl ?_
  refine pw_newK (k + 1) 13 rfl rfl L0 (hz _ (by omega)).1 ?_
  refine pw_dup 14 rfl rfl rfl ?_
  refine pw_bipush (v := nI 6) 16 rfl rfl (by decide) ?_
  refine pw_cI1 19 rfl rfl rfl (Nat.le_of_ble_eq_true rfl) rfl rfl (Nat.le_of_ble_eq_true rfl) (i_Row (k := k + 1) (n := 6) (by decide) (by omega) (by rw [List.length_append, L0]; rfl) (ap_eq L0) (hz.wk (by omega)) (fun t1 g1 it1 => ?_))
  refine pw_pV ?_
  have ot1 : t1[k]? = some (.inr (5, [none, some none, some none])) := by rw [g1.2.1 k (by omega), ap_lt (by omega)]; exact O0
  refine pw_putR 22 rfl rfl ⟨hk0, ot1⟩ rfl (by decide) ?_
  obtain ⟨s1, hs1⟩ : ∃ z, z = t1.set k (.inr (5, List.set [none, some none, some none] 1 (some (some (k + 1))))) := ⟨_, rfl⟩
  rw [← hs1]
  have L1 : s1.length = k + 3 := by have := g1.1; rw [hs1, List.length_set]; omega
  have O1 : s1[k]? = some (.inr (5, [none, some (some (k + 1)), some none])) := by rw [hs1]; exact List.getElem?_set_self (by have := g1.1; omega)
  have E1 : ∀ x, x < k + 1 → x ≠ k → s1[x]? = sh[x]? := fun x h1 h2 => by rw [hs1, List.getElem?_set_ne (Ne.symm h2), g1.2.1 x h1, ap_lt (by omega)]
  have T1 : pmTo s1 = pmTo sh + (8) := by have e1 := pmTo_setO (sl' := List.set [none, some none, some none] 1 (some (some (k + 1)))) ot1 rfl; have e2 := g1.2.2; have e3 := pmTo_new sh 4 2 rfl; rw [hs1]; omega
  have F1 : ∀ x, x < k → s1[x]? = sh[x]? := fun x h => (E1 x (by omega) (by omega)).trans (F0 x h)
  have I1_1 : isRow s1 (k + 1) 6 := it1.mvS (fun x h1 h2 => by rw [hs1, List.getElem?_set_ne (by omega)])
  have ob1 : pmOb s1 k 5 [none, some (some (k + 1)), some none] := ⟨hk0, O1⟩
  clear hs1 ot1 g1 it1 E1 ob0 L0 O0 T0 F0 
  refine pw_aload_n 23 rfl rfl rfl ?_
  refine pw_newK (k + 3) 26 rfl rfl L1 (hz _ (by omega)).1 ?_
  refine pw_dup 27 rfl rfl rfl ?_
  refine pw_bipush (v := nI 6) 29 rfl rfl (by decide) ?_
  refine pw_cI1 32 rfl rfl rfl (Nat.le_of_ble_eq_true rfl) rfl rfl (Nat.le_of_ble_eq_true rfl) (i_Row (k := k + 3) (n := 6) (by decide) (by omega) (by rw [List.length_append, L1]; rfl) (ap_eq L1) (hz.wk (by omega)) (fun t2 g2 it2 => ?_))
  refine pw_pV ?_
  have ot2 : t2[k]? = some (.inr (5, [none, some (some (k + 1)), some none])) := by rw [g2.2.1 k (by omega), ap_lt (by omega)]; exact O1
  refine pw_putR 35 rfl rfl ⟨hk0, ot2⟩ rfl (by decide) ?_
  obtain ⟨s2, hs2⟩ : ∃ z, z = t2.set k (.inr (5, List.set [none, some (some (k + 1)), some none] 2 (some (some (k + 3))))) := ⟨_, rfl⟩
  rw [← hs2]
  have L2 : s2.length = k + 5 := by have := g2.1; rw [hs2, List.length_set]; omega
  have O2 : s2[k]? = some (.inr (5, [none, some (some (k + 1)), some (some (k + 3))])) := by rw [hs2]; exact List.getElem?_set_self (by have := g2.1; omega)
  have E2 : ∀ x, x < k + 3 → x ≠ k → s2[x]? = s1[x]? := fun x h1 h2 => by rw [hs2, List.getElem?_set_ne (Ne.symm h2), g2.2.1 x h1, ap_lt (by omega)]
  have T2 : pmTo s2 = pmTo sh + (16) := by have e1 := pmTo_setO (sl' := List.set [none, some (some (k + 1)), some none] 2 (some (some (k + 3)))) ot2 rfl; have e2 := g2.2.2; have e3 := pmTo_new s1 4 2 rfl; rw [hs2]; omega
  have F2 : ∀ x, x < k → s2[x]? = sh[x]? := fun x h => (E2 x (by omega) (by omega)).trans (F1 x h)
  have I1_2 : isRow s2 (k + 1) 6 := I1_1.mvS (fun x h1 h2 => E2 x (by omega) (by omega))
  have I2_2 : isRow s2 (k + 3) 6 := it2.mvS (fun x h1 h2 => by rw [hs2, List.getElem?_set_ne (by omega)])
  have ob2 : pmOb s2 k 5 [none, some (some (k + 1)), some (some (k + 3))] := ⟨hk0, O2⟩
  clear hs2 ot2 g2 it2 E2 ob1 L1 O1 T1 F1 I1_1
  exact pw_vret rfl (kk s2 ⟨L2, F2, T2⟩ ⟨ob2, I1_2, I2_2⟩)
theorem i_Tape (hk0 : 0 < k) (hk : sh.length = k + 1) (ho : sh[k]? = some (.inr (8, pmBl 8))) (hz : fz M N k) (kk : ∀ sh', grw sh sh' k (k + 3) 152 → isTape sh' k → Q none sh' M N) : PW mX8_init 0 [.ref k] [] sh M N Q := by
  have bl : pmBl 8 = [some none, none] := rfl
  rw [bl] at ho
  have O0 := ho
  have L0 := hk
  have F0 : ∀ x, x < k → sh[x]? = sh[x]? := fun _ _ => rfl
  have T0 : pmTo sh = pmTo sh + 0 := rfl
  have ob0 : pmOb sh k 8 [some none, none] := ⟨hk0, O0⟩
  have hz0 : ∀ j, M k j = 0 := fun j => by rw [(hz k (by omega)).1]
  refine pw_aload_n 1 rfl rfl rfl ?_
  refine pw_objInit 4 rfl rfl (Nat.le_of_ble_eq_true rfl) ?_
  refine pw_aload_n 5 rfl rfl rfl ?_
  refine pw_newK (k + 1) 8 rfl rfl L0 (hz _ (by omega)).1 ?_
  refine pw_dup 9 rfl rfl rfl ?_
  refine pw_sipush (v := nI 150) 12 rfl rfl (by decide) ?_
  refine pw_cI1 15 rfl rfl rfl (Nat.le_of_ble_eq_true rfl) rfl rfl (Nat.le_of_ble_eq_true rfl) (i_Row (k := k + 1) (n := 150) (by decide) (by omega) (by rw [List.length_append, L0]; rfl) (ap_eq L0) (hz.wk (by omega)) (fun t1 g1 it1 => ?_))
  refine pw_pV ?_
  have ot1 : t1[k]? = some (.inr (8, [some none, none])) := by rw [g1.2.1 k (by omega), ap_lt (by omega)]; exact O0
  refine pw_putR 18 rfl rfl ⟨hk0, ot1⟩ rfl (by decide) ?_
  obtain ⟨s1, hs1⟩ : ∃ z, z = t1.set k (.inr (8, List.set [some none, none] 0 (some (some (k + 1))))) := ⟨_, rfl⟩
  rw [← hs1]
  have L1 : s1.length = k + 3 := by have := g1.1; rw [hs1, List.length_set]; omega
  have O1 : s1[k]? = some (.inr (8, [some (some (k + 1)), none])) := by rw [hs1]; exact List.getElem?_set_self (by have := g1.1; omega)
  have E1 : ∀ x, x < k + 1 → x ≠ k → s1[x]? = sh[x]? := fun x h1 h2 => by rw [hs1, List.getElem?_set_ne (Ne.symm h2), g1.2.1 x h1, ap_lt (by omega)]
  have T1 : pmTo s1 = pmTo sh + (152) := by have e1 := pmTo_setO (sl' := List.set [some none, none] 0 (some (some (k + 1)))) ot1 rfl; have e2 := g1.2.2; have e3 := pmTo_new sh 4 2 rfl; rw [hs1]; omega
  have F1 : ∀ x, x < k → s1[x]? = sh[x]? := fun x h => (E1 x (by omega) (by omega)).trans (F0 x h)
  have I1_1 : isRow s1 (k + 1) 150 := it1.mvS (fun x h1 h2 => by rw [hs1, List.getElem?_set_ne (by omega)])
  have ob1 : pmOb s1 k 8 [some (some (k + 1)), none] := ⟨hk0, O1⟩
  clear hs1 ot1 g1 it1 E1 ob0 L0 O0 T0 F0 
  refine pw_aload_n 19 rfl rfl rfl ?_
  refine pw_iconst (v := nI 0) 20 rfl rfl (by decide) ?_
  refine pw_putI 23 rfl rfl (by first | assumption | exact ⟨by decide, rfl⟩) rfl (by decide) ?_
  rw [z_st (hz0 1)]
  exact pw_vret rfl (kk s1 ⟨L1, F1, T1⟩ ⟨ob1, I1_1⟩)
theorem i_Sheet (hk0 : 0 < k) (hk : sh.length = k + 1) (ho : sh[k]? = some (.inr (6, pmBl 6))) (hz : fz M N k) (kk : ∀ sh', grw sh sh' k (k + 2) 60 → isSheet sh' k → Q none sh' M N) : PW mX6_init 0 [.ref k] [] sh M N Q := by
  have bl : pmBl 6 = [some none, none, none, none] := rfl
  rw [bl] at ho
  have O0 := ho
  have L0 := hk
  have F0 : ∀ x, x < k → sh[x]? = sh[x]? := fun _ _ => rfl
  have T0 : pmTo sh = pmTo sh + 0 := rfl
  have ob0 : pmOb sh k 6 [some none, none, none, none] := ⟨hk0, O0⟩
  have hz0 : ∀ j, M k j = 0 := fun j => by rw [(hz k (by omega)).1]
  refine pw_aload_n 1 rfl rfl rfl ?_
  refine pw_objInit 4 rfl rfl (Nat.le_of_ble_eq_true rfl) ?_
  refine pw_aload_n 5 rfl rfl rfl ?_
  refine pw_bipush (v := nI 60) 7 rfl rfl (by decide) ?_
  refine pw_newLK 60 (k + 1) 9 rfl rfl rfl (by decide) L0 (hz _ (by omega)).2 ?_
  have ot1 : (sh ++ [Sum.inl (1, 60, [])])[k]? = some (.inr (6, [some none, none, none, none])) := by rw [ap_lt (by omega)]; exact O0
  refine pw_putR 12 rfl rfl ⟨hk0, ot1⟩ rfl (by decide) ?_
  obtain ⟨s1, hs1⟩ : ∃ z, z = (sh ++ [Sum.inl (1, 60, [])]).set k (.inr (6, List.set [some none, none, none, none] 0 (some (some (k + 1))))) := ⟨_, rfl⟩
  rw [← hs1]
  have L1 : s1.length = k + 2 := by rw [hs1, List.length_set, List.length_append, L0]; rfl
  have O1 : s1[k]? = some (.inr (6, [some (some (k + 1)), none, none, none])) := by rw [hs1]; exact List.getElem?_set_self (by rw [List.length_append]; omega)
  have E1 : ∀ x, x < k + 1 → x ≠ k → s1[x]? = sh[x]? := fun x h1 h2 => by rw [hs1, List.getElem?_set_ne (Ne.symm h2), ap_lt (by omega)]
  have T1 : pmTo s1 = pmTo sh + (60) := by have e1 := pmTo_setO (sl' := List.set [some none, none, none, none] 0 (some (some (k + 1)))) ot1 rfl; have e3 := pmTo_arr sh 1 60 ([]); rw [hs1]; omega
  have F1 : ∀ x, x < k → s1[x]? = sh[x]? := fun x h => (E1 x (by omega) (by omega)).trans (F0 x h)
  have I1_1 : pmAy s1 (k + 1) 1 60 [] := ⟨by omega, by rw [hs1, List.getElem?_set_ne (by omega)]; exact ap_eq L0, by decide⟩
  have ob1 : pmOb s1 k 6 [some (some (k + 1)), none, none, none] := ⟨hk0, O1⟩
  clear hs1 ot1 E1 ob0 L0 O0 T0 F0 
  refine pw_aload_n 13 rfl rfl rfl ?_
  refine pw_iconst (v := nI 0) 14 rfl rfl (by decide) ?_
  refine pw_putZ 17 rfl rfl (by first | assumption | exact ⟨by decide, rfl⟩) rfl (by decide) (by first | exact Or.inl rfl | exact Or.inr rfl | assumption) ?_
  rw [z_st (hz0 1)]
  refine pw_aload_n 18 rfl rfl rfl ?_
  refine pw_iconst (v := nI 0) 19 rfl rfl (by decide) ?_
  refine pw_putI 22 rfl rfl (by first | assumption | exact ⟨by decide, rfl⟩) rfl (by decide) ?_
  rw [z_st (hz0 2)]
  refine pw_aload_n 23 rfl rfl rfl ?_
  refine pw_iconst (v := nI 0) 24 rfl rfl (by decide) ?_
  refine pw_putI 27 rfl rfl (by first | assumption | exact ⟨by decide, rfl⟩) rfl (by decide) ?_
  rw [z_st (hz0 3)]
  exact pw_vret rfl (kk s1 ⟨L1, F1, T1⟩ ⟨ob1, I1_1⟩)
theorem iBook_loop (hk0 : 0 < k) (hz : fz M N (k + 7)) {s0 : pmS} (O0 : s0[k]? = some (.inr (0, [some (some (k + 1)), some (some (k + 2)), none]))) (kk : ∀ s, s.length = k + 57 → s[k + 1]? = some (.inl (3, 10, (List.range 10).map fun j => some (k + 7 + 5 * j))) → (∀ x, x ≠ k + 1 → x < k + 7 → s[x]? = s0[x]?) → (∀ j, j < 10 → isRule s (k + 7 + 5 * j)) → pmTo s = pmTo s0 + 190 → PW mX0_init 56 [.ref k, .int (nI 10)] [] s M N Q) :
    ∀ (d i : Nat) (s : pmS), i + d = 10 → s.length = k + 7 + 5 * i → s[k + 1]? = some (.inl (3, 10, rfA (fun j => k + 7 + 5 * j) 10 i)) → (∀ x, x ≠ k + 1 → x < k + 7 → s[x]? = s0[x]?) → (∀ j, j < i → isRule s (k + 7 + 5 * j)) → pmTo s = pmTo s0 + 19 * i → PW mX0_init 31 [.ref k, .int (nI i)] [] s M N Q := by
  intro d
  induction d with
  | zero =>
    intro i s hi hl ha hf he ht
    have : i = 10 := by omega
    subst this
    rw [rf_n] at ha
    refine pw_iload_n 32 rfl rfl rfl ?_
    refine pw_bipush (v := nI 10) 34 rfl rfl (by decide) ?_
    refine pw_icmp_ge_t 56 rfl rfl (by decide) ?_
    exact kk s hl ha hf he ht
  | succ d ih =>
    intro i s hi hl ha hf he ht
    have ob : pmOb s k 0 [some (some (k + 1)), some (some (k + 2)), none] := ⟨hk0, by rw [hf k (by omega) (by omega)]; exact O0⟩
    refine pw_iload_n 32 rfl rfl rfl ?_
    refine pw_bipush (v := nI 10) 34 rfl rfl (by decide) ?_
    refine pw_icmp_ge_f 37 rfl rfl (nI_ge (by omega) (by omega)) ?_
    refine pw_aload_n 38 rfl rfl rfl ?_
    refine pw_getR 41 rfl rfl (by first | assumption | exact ⟨by decide, rfl⟩) rfl ?_
    refine pw_iload_n 42 rfl rfl rfl ?_
    refine pw_newK (k + 7 + 5 * i) 45 rfl rfl hl (hz _ (by omega)).1 ?_
    refine pw_dup 46 rfl rfl rfl ?_
    refine pw_cI0 49 rfl rfl rfl (Nat.le_of_ble_eq_true rfl) rfl rfl (Nat.le_of_ble_eq_true rfl) (i_Rule (k := k + 7 + 5 * i) (by omega) (by rw [List.length_append, hl]; rfl) (ap_eq hl) (hz.wk (by omega)) (fun t g it => ?_))
    refine pw_pV ?_
    have at1 : t[k + 1]? = some (.inl (3, 10, rfA (fun j => k + 7 + 5 * j) 10 i)) := by rw [g.2.1 _ (by omega), ap_lt (by omega)]; exact ha
    refine pw_aast i 50 rfl rfl ⟨by omega, at1, by decide⟩ it.1 rfl rfl (by omega) (rf_len _ (by omega)) ?_
    rw [rf_set (fun j => k + 7 + 5 * j) (show i < 10 by omega)]
    have eu : ∀ x, x ≠ k + 1 → x < k + 7 + 5 * i → (t.set (k + 1) (.inl (3, 10, rfA (fun j => k + 7 + 5 * j) 10 (i + 1))))[x]? = s[x]? := fun x h1 h2 => by rw [List.getElem?_set_ne (Ne.symm h1), g.2.1 x h2, ap_lt (by omega)]
    first | refine pw_iincN1 53 rfl rfl rfl (by with_reducible rfl) ?_ | refine pw_iinc1 (w := _) 53 rfl rfl rfl rfl ?_
    refine pw_goto rfl 31 rfl ?_
    refine ih (i + 1) _ (by omega) ?_ ?_ (fun x h1 h2 => by rw [eu x h1 (by omega)]; exact hf x h1 h2) (fun j hj => ?_) ?_
    · rw [List.length_set, g.1]; omega
    · exact List.getElem?_set_self (by have := g.1; omega)
    · by_cases q : j = i
      · subst q; exact it.mvS (fun x h1 h2 => by rw [List.getElem?_set_ne (by omega)])
      · exact (he j (by omega)).mvS (fun x h1 h2 => eu x (by omega) (by omega))
    · have e1 := pmTo_setA (rs' := rfA (fun j => k + 7 + 5 * j) 10 (i + 1)) at1
      have e2 := g.2.2
      have e3 := pmTo_new s 5 3 rfl
      omega
theorem iHist_loop (hk0 : 0 < k) (hz : fz M N (k + 2)) {s0 : pmS} (O0 : s0[k]? = some (.inr (1, [some (some (k + 1)), none, none]))) (kk : ∀ s, s.length = k + 50 → s[k + 1]? = some (.inl (4, 8, (List.range 8).map fun j => some (k + 2 + 6 * j))) → (∀ x, x ≠ k + 1 → x < k + 2 → s[x]? = s0[x]?) → (∀ j, j < 8 → isMom s (k + 2 + 6 * j)) → pmTo s = pmTo s0 + 1024 → PW mX1_init 50 [.ref k, .int (nI 8)] [] s M N Q) :
    ∀ (d i : Nat) (s : pmS), i + d = 8 → s.length = k + 2 + 6 * i → s[k + 1]? = some (.inl (4, 8, rfA (fun j => k + 2 + 6 * j) 8 i)) → (∀ x, x ≠ k + 1 → x < k + 2 → s[x]? = s0[x]?) → (∀ j, j < i → isMom s (k + 2 + 6 * j)) → pmTo s = pmTo s0 + 128 * i → PW mX1_init 25 [.ref k, .int (nI i)] [] s M N Q := by
  intro d
  induction d with
  | zero =>
    intro i s hi hl ha hf he ht
    have : i = 8 := by omega
    subst this
    rw [rf_n] at ha
    refine pw_iload_n 26 rfl rfl rfl ?_
    refine pw_bipush (v := nI 8) 28 rfl rfl (by decide) ?_
    refine pw_icmp_ge_t 50 rfl rfl (by decide) ?_
    exact kk s hl ha hf he ht
  | succ d ih =>
    intro i s hi hl ha hf he ht
    have ob : pmOb s k 1 [some (some (k + 1)), none, none] := ⟨hk0, by rw [hf k (by omega) (by omega)]; exact O0⟩
    refine pw_iload_n 26 rfl rfl rfl ?_
    refine pw_bipush (v := nI 8) 28 rfl rfl (by decide) ?_
    refine pw_icmp_ge_f 31 rfl rfl (nI_ge (by omega) (by omega)) ?_
    refine pw_aload_n 32 rfl rfl rfl ?_
    refine pw_getR 35 rfl rfl (by first | assumption | exact ⟨by decide, rfl⟩) rfl ?_
    refine pw_iload_n 36 rfl rfl rfl ?_
    refine pw_newK (k + 2 + 6 * i) 39 rfl rfl hl (hz _ (by omega)).1 ?_
    refine pw_dup 40 rfl rfl rfl ?_
    refine pw_cI0 43 rfl rfl rfl (Nat.le_of_ble_eq_true rfl) rfl rfl (Nat.le_of_ble_eq_true rfl) (i_Mom (k := k + 2 + 6 * i) (by omega) (by rw [List.length_append, hl]; rfl) (ap_eq hl) (hz.wk (by omega)) (fun t g it => ?_))
    refine pw_pV ?_
    have at1 : t[k + 1]? = some (.inl (4, 8, rfA (fun j => k + 2 + 6 * j) 8 i)) := by rw [g.2.1 _ (by omega), ap_lt (by omega)]; exact ha
    refine pw_aast i 44 rfl rfl ⟨by omega, at1, by decide⟩ it.1 rfl rfl (by omega) (rf_len _ (by omega)) ?_
    rw [rf_set (fun j => k + 2 + 6 * j) (show i < 8 by omega)]
    have eu : ∀ x, x ≠ k + 1 → x < k + 2 + 6 * i → (t.set (k + 1) (.inl (4, 8, rfA (fun j => k + 2 + 6 * j) 8 (i + 1))))[x]? = s[x]? := fun x h1 h2 => by rw [List.getElem?_set_ne (Ne.symm h1), g.2.1 x h2, ap_lt (by omega)]
    first | refine pw_iincN1 47 rfl rfl rfl (by with_reducible rfl) ?_ | refine pw_iinc1 (w := _) 47 rfl rfl rfl rfl ?_
    refine pw_goto rfl 25 rfl ?_
    refine ih (i + 1) _ (by omega) ?_ ?_ (fun x h1 h2 => by rw [eu x h1 (by omega)]; exact hf x h1 h2) (fun j hj => ?_) ?_
    · rw [List.length_set, g.1]; omega
    · exact List.getElem?_set_self (by have := g.1; omega)
    · by_cases q : j = i
      · subst q; exact it.mvS (fun x h1 h2 => by rw [List.getElem?_set_ne (by omega)])
      · exact (he j (by omega)).mvS (fun x h1 h2 => eu x (by omega) (by omega))
    · have e1 := pmTo_setA (rs' := rfA (fun j => k + 2 + 6 * j) 8 (i + 1)) at1
      have e2 := g.2.2
      have e3 := pmTo_new s 3 2 rfl
      omega
theorem iApp_loop (hk0 : 0 < k) (hz : fz M N (k + 315)) {s0 : pmS} (O0 : s0[k]? = some (.inr (10, [some (some (k + 1)), some (some (k + 4)), some (some (k + 118)), none, some (some (k + 232)), some (some (k + 234)), some (some (k + 291)), some (some (k + 307)), some (some (k + 312)), some (some (k + 314)), none, none]))) (kk : ∀ s, s.length = k + 323 → s[k + 314]? = some (.inl (5, 4, (List.range 4).map fun j => some (k + 315 + 2 * j))) → (∀ x, x ≠ k + 314 → x < k + 315 → s[x]? = s0[x]?) → (∀ j, j < 4 → isSheet s (k + 315 + 2 * j)) → pmTo s = pmTo s0 + 256 → PW mX10_init 155 [.ref k, .int (nI 4)] [] s M N Q) :
    ∀ (d i : Nat) (s : pmS), i + d = 4 → s.length = k + 315 + 2 * i → s[k + 314]? = some (.inl (5, 4, rfA (fun j => k + 315 + 2 * j) 4 i)) → (∀ x, x ≠ k + 314 → x < k + 315 → s[x]? = s0[x]?) → (∀ j, j < i → isSheet s (k + 315 + 2 * j)) → pmTo s = pmTo s0 + 64 * i → PW mX10_init 131 [.ref k, .int (nI i)] [] s M N Q := by
  intro d
  induction d with
  | zero =>
    intro i s hi hl ha hf he ht
    have : i = 4 := by omega
    subst this
    rw [rf_n] at ha
    refine pw_iload_n 132 rfl rfl rfl ?_
    refine pw_iconst (v := nI 4) 133 rfl rfl (by decide) ?_
    refine pw_icmp_ge_t 155 rfl rfl (by decide) ?_
    exact kk s hl ha hf he ht
  | succ d ih =>
    intro i s hi hl ha hf he ht
    have ob : pmOb s k 10 [some (some (k + 1)), some (some (k + 4)), some (some (k + 118)), none, some (some (k + 232)), some (some (k + 234)), some (some (k + 291)), some (some (k + 307)), some (some (k + 312)), some (some (k + 314)), none, none] := ⟨hk0, by rw [hf k (by omega) (by omega)]; exact O0⟩
    refine pw_iload_n 132 rfl rfl rfl ?_
    refine pw_iconst (v := nI 4) 133 rfl rfl (by decide) ?_
    refine pw_icmp_ge_f 136 rfl rfl (nI_ge (by omega) (by omega)) ?_
    refine pw_aload_n 137 rfl rfl rfl ?_
    refine pw_getR 140 rfl rfl (by first | assumption | exact ⟨by decide, rfl⟩) rfl ?_
    refine pw_iload_n 141 rfl rfl rfl ?_
    refine pw_newK (k + 315 + 2 * i) 144 rfl rfl hl (hz _ (by omega)).1 ?_
    refine pw_dup 145 rfl rfl rfl ?_
    refine pw_cI0 148 rfl rfl rfl (Nat.le_of_ble_eq_true rfl) rfl rfl (Nat.le_of_ble_eq_true rfl) (i_Sheet (k := k + 315 + 2 * i) (by omega) (by rw [List.length_append, hl]; rfl) (ap_eq hl) (hz.wk (by omega)) (fun t g it => ?_))
    refine pw_pV ?_
    have at1 : t[k + 314]? = some (.inl (5, 4, rfA (fun j => k + 315 + 2 * j) 4 i)) := by rw [g.2.1 _ (by omega), ap_lt (by omega)]; exact ha
    refine pw_aast i 149 rfl rfl ⟨by omega, at1, by decide⟩ it.1 rfl rfl (by omega) (rf_len _ (by omega)) ?_
    rw [rf_set (fun j => k + 315 + 2 * j) (show i < 4 by omega)]
    have eu : ∀ x, x ≠ k + 314 → x < k + 315 + 2 * i → (t.set (k + 314) (.inl (5, 4, rfA (fun j => k + 315 + 2 * j) 4 (i + 1))))[x]? = s[x]? := fun x h1 h2 => by rw [List.getElem?_set_ne (Ne.symm h1), g.2.1 x h2, ap_lt (by omega)]
    first | refine pw_iincN1 152 rfl rfl rfl (by with_reducible rfl) ?_ | refine pw_iinc1 (w := _) 152 rfl rfl rfl rfl ?_
    refine pw_goto rfl 131 rfl ?_
    refine ih (i + 1) _ (by omega) ?_ ?_ (fun x h1 h2 => by rw [eu x h1 (by omega)]; exact hf x h1 h2) (fun j hj => ?_) ?_
    · rw [List.length_set, g.1]; omega
    · exact List.getElem?_set_self (by have := g.1; omega)
    · by_cases q : j = i
      · subst q; exact it.mvS (fun x h1 h2 => by rw [List.getElem?_set_ne (by omega)])
      · exact (he j (by omega)).mvS (fun x h1 h2 => eu x (by omega) (by omega))
    · have e1 := pmTo_setA (rs' := rfA (fun j => k + 315 + 2 * j) 4 (i + 1)) at1
      have e2 := g.2.2
      have e3 := pmTo_new s 6 4 rfl
      omega
theorem i_Book (hk0 : 0 < k) (hk : sh.length = k + 1) (ho : sh[k]? = some (.inr (0, pmBl 0))) (hz : fz M N k) (kk : ∀ sh', grw sh sh' k (k + 57) 219 → isBook sh' k → Q none sh' M N) : PW mX0_init 0 [.ref k, .null] [] sh M N Q := by
  have bl : pmBl 0 = [some none, some none, none] := rfl
  rw [bl] at ho
  have O0 := ho
  have L0 := hk
  have F0 : ∀ x, x < k → sh[x]? = sh[x]? := fun _ _ => rfl
  have T0 : pmTo sh = pmTo sh + 0 := rfl
  have ob0 : pmOb sh k 0 [some none, some none, none] := ⟨hk0, O0⟩
  have hz0 : ∀ j, M k j = 0 := fun j => by rw [(hz k (by omega)).1]
  refine pw_aload_n 1 rfl rfl rfl ?_
  refine pw_objInit 4 rfl rfl (Nat.le_of_ble_eq_true rfl) ?_
  refine pw_aload_n 5 rfl rfl rfl ?_
  refine pw_bipush (v := nI 10) 7 rfl rfl (by decide) ?_
  refine pw_newQK 10 (k + 1) 10 rfl rfl rfl (by decide) L0 ?_
  have ot1 : (sh ++ [Sum.inl (3, 10, List.replicate 10 none)])[k]? = some (.inr (0, [some none, some none, none])) := by rw [ap_lt (by omega)]; exact O0
  refine pw_putR 13 rfl rfl ⟨hk0, ot1⟩ rfl (by decide) ?_
  obtain ⟨s1, hs1⟩ : ∃ z, z = (sh ++ [Sum.inl (3, 10, List.replicate 10 none)]).set k (.inr (0, List.set [some none, some none, none] 0 (some (some (k + 1))))) := ⟨_, rfl⟩
  rw [← hs1]
  have L1 : s1.length = k + 2 := by rw [hs1, List.length_set, List.length_append, L0]; rfl
  have O1 : s1[k]? = some (.inr (0, [some (some (k + 1)), some none, none])) := by rw [hs1]; exact List.getElem?_set_self (by rw [List.length_append]; omega)
  have E1 : ∀ x, x < k + 1 → x ≠ k → s1[x]? = sh[x]? := fun x h1 h2 => by rw [hs1, List.getElem?_set_ne (Ne.symm h2), ap_lt (by omega)]
  have T1 : pmTo s1 = pmTo sh + (10) := by have e1 := pmTo_setO (sl' := List.set [some none, some none, none] 0 (some (some (k + 1)))) ot1 rfl; have e3 := pmTo_arr sh 3 10 (List.replicate 10 none); rw [hs1]; omega
  have F1 : ∀ x, x < k → s1[x]? = sh[x]? := fun x h => (E1 x (by omega) (by omega)).trans (F0 x h)
  have I1_1 : pmAy s1 (k + 1) 3 10 (List.replicate 10 none) := ⟨by omega, by rw [hs1, List.getElem?_set_ne (by omega)]; exact ap_eq L0, by decide⟩
  have ob1 : pmOb s1 k 0 [some (some (k + 1)), some none, none] := ⟨hk0, O1⟩
  clear hs1 ot1 E1 ob0 L0 O0 T0 F0 
  refine pw_aload_n 14 rfl rfl rfl ?_
  refine pw_newK (k + 2) 17 rfl rfl L1 (hz _ (by omega)).1 ?_
  refine pw_dup 18 rfl rfl rfl ?_
  refine pw_cI0 21 rfl rfl rfl (Nat.le_of_ble_eq_true rfl) rfl rfl (Nat.le_of_ble_eq_true rfl) (i_Rule (k := k + 2) (by omega) (by rw [List.length_append, L1]; rfl) (ap_eq L1) (hz.wk (by omega)) (fun t2 g2 it2 => ?_))
  refine pw_pV ?_
  have ot2 : t2[k]? = some (.inr (0, [some (some (k + 1)), some none, none])) := by rw [g2.2.1 k (by omega), ap_lt (by omega)]; exact O1
  refine pw_putR 24 rfl rfl ⟨hk0, ot2⟩ rfl (by decide) ?_
  obtain ⟨s2, hs2⟩ : ∃ z, z = t2.set k (.inr (0, List.set [some (some (k + 1)), some none, none] 1 (some (some (k + 2))))) := ⟨_, rfl⟩
  rw [← hs2]
  have L2 : s2.length = k + 7 := by have := g2.1; rw [hs2, List.length_set]; omega
  have O2 : s2[k]? = some (.inr (0, [some (some (k + 1)), some (some (k + 2)), none])) := by rw [hs2]; exact List.getElem?_set_self (by have := g2.1; omega)
  have E2 : ∀ x, x < k + 2 → x ≠ k → s2[x]? = s1[x]? := fun x h1 h2 => by rw [hs2, List.getElem?_set_ne (Ne.symm h2), g2.2.1 x h1, ap_lt (by omega)]
  have T2 : pmTo s2 = pmTo sh + (29) := by have e1 := pmTo_setO (sl' := List.set [some (some (k + 1)), some none, none] 1 (some (some (k + 2)))) ot2 rfl; have e2 := g2.2.2; have e3 := pmTo_new s1 5 3 rfl; rw [hs2]; omega
  have F2 : ∀ x, x < k → s2[x]? = sh[x]? := fun x h => (E2 x (by omega) (by omega)).trans (F1 x h)
  have I1_2 : pmAy s2 (k + 1) 3 10 (List.replicate 10 none) := ⟨by omega, by rw [E2 _ (by omega) (by omega)]; exact I1_1.2.1, by decide⟩
  have I2_2 : isRule s2 (k + 2) := it2.mvS (fun x h1 h2 => by rw [hs2, List.getElem?_set_ne (by omega)])
  have ob2 : pmOb s2 k 0 [some (some (k + 1)), some (some (k + 2)), none] := ⟨hk0, O2⟩
  clear hs2 ot2 g2 it2 E2 ob1 L1 O1 T1 F1 I1_1
  refine pw_aload_n 25 rfl rfl rfl ?_
  refine pw_iconst (v := nI 0) 26 rfl rfl (by decide) ?_
  refine pw_putI 29 rfl rfl (by first | assumption | exact ⟨by decide, rfl⟩) rfl (by decide) ?_
  rw [z_st (hz0 2)]
  refine pw_iconst (v := nI 0) 30 rfl rfl (by decide) ?_
  refine pw_istore1 31 rfl rfl rfl ?_
  refine iBook_loop hk0 (hz.wk (by omega)) O2 (fun s l1 l2 l3 l4 l5 => ?_) 10 0 s2 (by decide) L2 (by rw [rf_0]; exact I1_2.2.1) (fun _ _ _ => rfl) (fun j hj => absurd hj (Nat.not_lt_zero j)) rfl
  skip
  exact pw_vret rfl (kk s ⟨l1, fun x hx => by rw [l3 x (by omega) (by omega)]; exact F2 x hx, by omega⟩ ⟨⟨hk0, by rw [l3 k (by omega) (by omega)]; exact O2⟩, ⟨by omega, l2, by decide⟩, l4⟩)
theorem i_Hist (hk0 : 0 < k) (hk : sh.length = k + 1) (ho : sh[k]? = some (.inr (1, pmBl 1))) (hz : fz M N k) (kk : ∀ sh', grw sh sh' k (k + 50) 1032 → isHist sh' k → Q none sh' M N) : PW mX1_init 0 [.ref k, .null] [] sh M N Q := by
  have bl : pmBl 1 = [some none, none, none] := rfl
  rw [bl] at ho
  have O0 := ho
  have L0 := hk
  have F0 : ∀ x, x < k → sh[x]? = sh[x]? := fun _ _ => rfl
  have T0 : pmTo sh = pmTo sh + 0 := rfl
  have ob0 : pmOb sh k 1 [some none, none, none] := ⟨hk0, O0⟩
  have hz0 : ∀ j, M k j = 0 := fun j => by rw [(hz k (by omega)).1]
  refine pw_aload_n 1 rfl rfl rfl ?_
  refine pw_objInit 4 rfl rfl (Nat.le_of_ble_eq_true rfl) ?_
  refine pw_aload_n 5 rfl rfl rfl ?_
  refine pw_bipush (v := nI 8) 7 rfl rfl (by decide) ?_
  refine pw_newQK 8 (k + 1) 10 rfl rfl rfl (by decide) L0 ?_
  have ot1 : (sh ++ [Sum.inl (4, 8, List.replicate 8 none)])[k]? = some (.inr (1, [some none, none, none])) := by rw [ap_lt (by omega)]; exact O0
  refine pw_putR 13 rfl rfl ⟨hk0, ot1⟩ rfl (by decide) ?_
  obtain ⟨s1, hs1⟩ : ∃ z, z = (sh ++ [Sum.inl (4, 8, List.replicate 8 none)]).set k (.inr (1, List.set [some none, none, none] 0 (some (some (k + 1))))) := ⟨_, rfl⟩
  rw [← hs1]
  have L1 : s1.length = k + 2 := by rw [hs1, List.length_set, List.length_append, L0]; rfl
  have O1 : s1[k]? = some (.inr (1, [some (some (k + 1)), none, none])) := by rw [hs1]; exact List.getElem?_set_self (by rw [List.length_append]; omega)
  have E1 : ∀ x, x < k + 1 → x ≠ k → s1[x]? = sh[x]? := fun x h1 h2 => by rw [hs1, List.getElem?_set_ne (Ne.symm h2), ap_lt (by omega)]
  have T1 : pmTo s1 = pmTo sh + (8) := by have e1 := pmTo_setO (sl' := List.set [some none, none, none] 0 (some (some (k + 1)))) ot1 rfl; have e3 := pmTo_arr sh 4 8 (List.replicate 8 none); rw [hs1]; omega
  have F1 : ∀ x, x < k → s1[x]? = sh[x]? := fun x h => (E1 x (by omega) (by omega)).trans (F0 x h)
  have I1_1 : pmAy s1 (k + 1) 4 8 (List.replicate 8 none) := ⟨by omega, by rw [hs1, List.getElem?_set_ne (by omega)]; exact ap_eq L0, by decide⟩
  have ob1 : pmOb s1 k 1 [some (some (k + 1)), none, none] := ⟨hk0, O1⟩
  clear hs1 ot1 E1 ob0 L0 O0 T0 F0 
  refine pw_aload_n 14 rfl rfl rfl ?_
  refine pw_iconst (v := nI 0) 15 rfl rfl (by decide) ?_
  refine pw_putI 18 rfl rfl (by first | assumption | exact ⟨by decide, rfl⟩) rfl (by decide) ?_
  rw [z_st (hz0 1)]
  refine pw_aload_n 19 rfl rfl rfl ?_
  refine pw_iconst (v := nI 0) 20 rfl rfl (by decide) ?_
  refine pw_putI 23 rfl rfl (by first | assumption | exact ⟨by decide, rfl⟩) rfl (by decide) ?_
  rw [z_st (hz0 2)]
  refine pw_iconst (v := nI 0) 24 rfl rfl (by decide) ?_
  refine pw_istore1 25 rfl rfl rfl ?_
  refine iHist_loop hk0 (hz.wk (by omega)) O1 (fun s l1 l2 l3 l4 l5 => ?_) 8 0 s1 (by decide) L1 (by rw [rf_0]; exact I1_1.2.1) (fun _ _ _ => rfl) (fun j hj => absurd hj (Nat.not_lt_zero j)) rfl
  skip
  exact pw_vret rfl (kk s ⟨l1, fun x hx => by rw [l3 x (by omega) (by omega)]; exact F1 x hx, by omega⟩ ⟨⟨hk0, by rw [l3 k (by omega) (by omega)]; exact O1⟩, ⟨by omega, l2, by decide⟩, l4⟩)
theorem i_State (hk0 : 0 < k) (hk : sh.length = k + 1) (ho : sh[k]? = some (.inr (7, pmBl 7))) (hz : fz M N k) (kk : ∀ sh', grw sh sh' k (k + 114) 1385 → isState sh' k → Q none sh' M N) : PW mX7_init 0 [.ref k] [] sh M N Q := by
  have bl : pmBl 7 = [some none, some none, some none] := rfl
  rw [bl] at ho
  have O0 := ho
  have L0 := hk
  have F0 : ∀ x, x < k → sh[x]? = sh[x]? := fun _ _ => rfl
  have T0 : pmTo sh = pmTo sh + 0 := rfl
  have ob0 : pmOb sh k 7 [some none, some none, some none] := ⟨hk0, O0⟩
  have hz0 : ∀ j, M k j = 0 := fun j => by rw [(hz k (by omega)).1]
  refine pw_aload_n 1 rfl rfl rfl ?_
  refine pw_objInit 4 rfl rfl (Nat.le_of_ble_eq_true rfl) ?_
  refine pw_aload_n 5 rfl rfl rfl ?_
  refine pw_newK (k + 1) 8 rfl rfl L0 (hz _ (by omega)).1 ?_
  refine pw_dup 9 rfl rfl rfl ?_
  refine pw_cI0 12 rfl rfl rfl (Nat.le_of_ble_eq_true rfl) rfl rfl (Nat.le_of_ble_eq_true rfl) (i_Mom (k := k + 1) (by omega) (by rw [List.length_append, L0]; rfl) (ap_eq L0) (hz.wk (by omega)) (fun t1 g1 it1 => ?_))
  refine pw_pV ?_
  have ot1 : t1[k]? = some (.inr (7, [some none, some none, some none])) := by rw [g1.2.1 k (by omega), ap_lt (by omega)]; exact O0
  refine pw_putR 15 rfl rfl ⟨hk0, ot1⟩ rfl (by decide) ?_
  obtain ⟨s1, hs1⟩ : ∃ z, z = t1.set k (.inr (7, List.set [some none, some none, some none] 0 (some (some (k + 1))))) := ⟨_, rfl⟩
  rw [← hs1]
  have L1 : s1.length = k + 7 := by have := g1.1; rw [hs1, List.length_set]; omega
  have O1 : s1[k]? = some (.inr (7, [some (some (k + 1)), some none, some none])) := by rw [hs1]; exact List.getElem?_set_self (by have := g1.1; omega)
  have E1 : ∀ x, x < k + 1 → x ≠ k → s1[x]? = sh[x]? := fun x h1 h2 => by rw [hs1, List.getElem?_set_ne (Ne.symm h2), g1.2.1 x h1, ap_lt (by omega)]
  have T1 : pmTo s1 = pmTo sh + (128) := by have e1 := pmTo_setO (sl' := List.set [some none, some none, some none] 0 (some (some (k + 1)))) ot1 rfl; have e2 := g1.2.2; have e3 := pmTo_new sh 3 2 rfl; rw [hs1]; omega
  have F1 : ∀ x, x < k → s1[x]? = sh[x]? := fun x h => (E1 x (by omega) (by omega)).trans (F0 x h)
  have I1_1 : isMom s1 (k + 1) := it1.mvS (fun x h1 h2 => by rw [hs1, List.getElem?_set_ne (by omega)])
  have ob1 : pmOb s1 k 7 [some (some (k + 1)), some none, some none] := ⟨hk0, O1⟩
  clear hs1 ot1 g1 it1 E1 ob0 L0 O0 T0 F0 
  refine pw_aload_n 16 rfl rfl rfl ?_
  refine pw_newK (k + 7) 19 rfl rfl L1 (hz _ (by omega)).1 ?_
  refine pw_dup 20 rfl rfl rfl ?_
  refine pw_cI0 23 rfl rfl rfl (Nat.le_of_ble_eq_true rfl) rfl rfl (Nat.le_of_ble_eq_true rfl) (i_Book (k := k + 7) (by omega) (by rw [List.length_append, L1]; rfl) (ap_eq L1) (hz.wk (by omega)) (fun t2 g2 it2 => ?_))
  refine pw_pV ?_
  have ot2 : t2[k]? = some (.inr (7, [some (some (k + 1)), some none, some none])) := by rw [g2.2.1 k (by omega), ap_lt (by omega)]; exact O1
  refine pw_putR 26 rfl rfl ⟨hk0, ot2⟩ rfl (by decide) ?_
  obtain ⟨s2, hs2⟩ : ∃ z, z = t2.set k (.inr (7, List.set [some (some (k + 1)), some none, some none] 1 (some (some (k + 7))))) := ⟨_, rfl⟩
  rw [← hs2]
  have L2 : s2.length = k + 64 := by have := g2.1; rw [hs2, List.length_set]; omega
  have O2 : s2[k]? = some (.inr (7, [some (some (k + 1)), some (some (k + 7)), some none])) := by rw [hs2]; exact List.getElem?_set_self (by have := g2.1; omega)
  have E2 : ∀ x, x < k + 7 → x ≠ k → s2[x]? = s1[x]? := fun x h1 h2 => by rw [hs2, List.getElem?_set_ne (Ne.symm h2), g2.2.1 x h1, ap_lt (by omega)]
  have T2 : pmTo s2 = pmTo sh + (350) := by have e1 := pmTo_setO (sl' := List.set [some (some (k + 1)), some none, some none] 1 (some (some (k + 7)))) ot2 rfl; have e2 := g2.2.2; have e3 := pmTo_new s1 0 3 rfl; rw [hs2]; omega
  have F2 : ∀ x, x < k → s2[x]? = sh[x]? := fun x h => (E2 x (by omega) (by omega)).trans (F1 x h)
  have I1_2 : isMom s2 (k + 1) := I1_1.mvS (fun x h1 h2 => E2 x (by omega) (by omega))
  have I2_2 : isBook s2 (k + 7) := it2.mvS (fun x h1 h2 => by rw [hs2, List.getElem?_set_ne (by omega)])
  have ob2 : pmOb s2 k 7 [some (some (k + 1)), some (some (k + 7)), some none] := ⟨hk0, O2⟩
  clear hs2 ot2 g2 it2 E2 ob1 L1 O1 T1 F1 I1_1
  refine pw_aload_n 27 rfl rfl rfl ?_
  refine pw_newK (k + 64) 30 rfl rfl L2 (hz _ (by omega)).1 ?_
  refine pw_dup 31 rfl rfl rfl ?_
  refine pw_cI0 34 rfl rfl rfl (Nat.le_of_ble_eq_true rfl) rfl rfl (Nat.le_of_ble_eq_true rfl) (i_Hist (k := k + 64) (by omega) (by rw [List.length_append, L2]; rfl) (ap_eq L2) (hz.wk (by omega)) (fun t3 g3 it3 => ?_))
  refine pw_pV ?_
  have ot3 : t3[k]? = some (.inr (7, [some (some (k + 1)), some (some (k + 7)), some none])) := by rw [g3.2.1 k (by omega), ap_lt (by omega)]; exact O2
  refine pw_putR 37 rfl rfl ⟨hk0, ot3⟩ rfl (by decide) ?_
  obtain ⟨s3, hs3⟩ : ∃ z, z = t3.set k (.inr (7, List.set [some (some (k + 1)), some (some (k + 7)), some none] 2 (some (some (k + 64))))) := ⟨_, rfl⟩
  rw [← hs3]
  have L3 : s3.length = k + 114 := by have := g3.1; rw [hs3, List.length_set]; omega
  have O3 : s3[k]? = some (.inr (7, [some (some (k + 1)), some (some (k + 7)), some (some (k + 64))])) := by rw [hs3]; exact List.getElem?_set_self (by have := g3.1; omega)
  have E3 : ∀ x, x < k + 64 → x ≠ k → s3[x]? = s2[x]? := fun x h1 h2 => by rw [hs3, List.getElem?_set_ne (Ne.symm h2), g3.2.1 x h1, ap_lt (by omega)]
  have T3 : pmTo s3 = pmTo sh + (1385) := by have e1 := pmTo_setO (sl' := List.set [some (some (k + 1)), some (some (k + 7)), some none] 2 (some (some (k + 64)))) ot3 rfl; have e2 := g3.2.2; have e3 := pmTo_new s2 1 3 rfl; rw [hs3]; omega
  have F3 : ∀ x, x < k → s3[x]? = sh[x]? := fun x h => (E3 x (by omega) (by omega)).trans (F2 x h)
  have I1_3 : isMom s3 (k + 1) := I1_2.mvS (fun x h1 h2 => E3 x (by omega) (by omega))
  have I2_3 : isBook s3 (k + 7) := I2_2.mvS (fun x h1 h2 => E3 x (by omega) (by omega))
  have I3_3 : isHist s3 (k + 64) := it3.mvS (fun x h1 h2 => by rw [hs3, List.getElem?_set_ne (by omega)])
  have ob3 : pmOb s3 k 7 [some (some (k + 1)), some (some (k + 7)), some (some (k + 64))] := ⟨hk0, O3⟩
  clear hs3 ot3 g3 it3 E3 ob2 L2 O2 T2 F2 I1_2 I2_2
  exact pw_vret rfl (kk s3 ⟨L3, F3, T3⟩ ⟨ob3, I1_3, I2_3, I3_3⟩)
theorem i_Walk {kb : Nat} (hk0 : 0 < k) (hk : sh.length = k + 1) (ho : sh[k]? = some (.inr (9, pmBl 9))) (hz : fz M N k) (kk : ∀ sh', grw sh sh' k (k + 16) 886 → isWalk sh' k kb → Q none sh' M N) : PW mX9_init 0 [.ref k, .ref kb] [] sh M N Q := by
  have bl : pmBl 9 = [some none, some none, some none, some none, some none, some none, some none] := rfl
  rw [bl] at ho
  have O0 := ho
  have L0 := hk
  have F0 : ∀ x, x < k → sh[x]? = sh[x]? := fun _ _ => rfl
  have T0 : pmTo sh = pmTo sh + 0 := rfl
  have ob0 : pmOb sh k 9 [some none, some none, some none, some none, some none, some none, some none] := ⟨hk0, O0⟩
  have hz0 : ∀ j, M k j = 0 := fun j => by rw [(hz k (by omega)).1]
  refine pw_aload_n 1 rfl rfl rfl ?_
  refine pw_objInit 4 rfl rfl (Nat.le_of_ble_eq_true rfl) ?_
  refine pw_aload_n 5 rfl rfl rfl ?_
  refine pw_newK (k + 1) 8 rfl rfl L0 (hz _ (by omega)).1 ?_
  refine pw_dup 9 rfl rfl rfl ?_
  refine pw_bipush (v := nI 10) 11 rfl rfl (by decide) ?_
  refine pw_cI1 14 rfl rfl rfl (Nat.le_of_ble_eq_true rfl) rfl rfl (Nat.le_of_ble_eq_true rfl) (i_Row (k := k + 1) (n := 10) (by decide) (by omega) (by rw [List.length_append, L0]; rfl) (ap_eq L0) (hz.wk (by omega)) (fun t1 g1 it1 => ?_))
  refine pw_pV ?_
  have ot1 : t1[k]? = some (.inr (9, [some none, some none, some none, some none, some none, some none, some none])) := by rw [g1.2.1 k (by omega), ap_lt (by omega)]; exact O0
  refine pw_putR 17 rfl rfl ⟨hk0, ot1⟩ rfl (by decide) ?_
  obtain ⟨s1, hs1⟩ : ∃ z, z = t1.set k (.inr (9, List.set [some none, some none, some none, some none, some none, some none, some none] 1 (some (some (k + 1))))) := ⟨_, rfl⟩
  rw [← hs1]
  have L1 : s1.length = k + 3 := by have := g1.1; rw [hs1, List.length_set]; omega
  have O1 : s1[k]? = some (.inr (9, [some none, some (some (k + 1)), some none, some none, some none, some none, some none])) := by rw [hs1]; exact List.getElem?_set_self (by have := g1.1; omega)
  have E1 : ∀ x, x < k + 1 → x ≠ k → s1[x]? = sh[x]? := fun x h1 h2 => by rw [hs1, List.getElem?_set_ne (Ne.symm h2), g1.2.1 x h1, ap_lt (by omega)]
  have T1 : pmTo s1 = pmTo sh + (12) := by have e1 := pmTo_setO (sl' := List.set [some none, some none, some none, some none, some none, some none, some none] 1 (some (some (k + 1)))) ot1 rfl; have e2 := g1.2.2; have e3 := pmTo_new sh 4 2 rfl; rw [hs1]; omega
  have F1 : ∀ x, x < k → s1[x]? = sh[x]? := fun x h => (E1 x (by omega) (by omega)).trans (F0 x h)
  have I1_1 : isRow s1 (k + 1) 10 := it1.mvS (fun x h1 h2 => by rw [hs1, List.getElem?_set_ne (by omega)])
  have ob1 : pmOb s1 k 9 [some none, some (some (k + 1)), some none, some none, some none, some none, some none] := ⟨hk0, O1⟩
  clear hs1 ot1 g1 it1 E1 ob0 L0 O0 T0 F0 
  refine pw_aload_n 18 rfl rfl rfl ?_
  refine pw_newK (k + 3) 21 rfl rfl L1 (hz _ (by omega)).1 ?_
  refine pw_dup 22 rfl rfl rfl ?_
  refine pw_bipush (v := nI 10) 24 rfl rfl (by decide) ?_
  refine pw_cI1 27 rfl rfl rfl (Nat.le_of_ble_eq_true rfl) rfl rfl (Nat.le_of_ble_eq_true rfl) (i_Row (k := k + 3) (n := 10) (by decide) (by omega) (by rw [List.length_append, L1]; rfl) (ap_eq L1) (hz.wk (by omega)) (fun t2 g2 it2 => ?_))
  refine pw_pV ?_
  have ot2 : t2[k]? = some (.inr (9, [some none, some (some (k + 1)), some none, some none, some none, some none, some none])) := by rw [g2.2.1 k (by omega), ap_lt (by omega)]; exact O1
  refine pw_putR 30 rfl rfl ⟨hk0, ot2⟩ rfl (by decide) ?_
  obtain ⟨s2, hs2⟩ : ∃ z, z = t2.set k (.inr (9, List.set [some none, some (some (k + 1)), some none, some none, some none, some none, some none] 2 (some (some (k + 3))))) := ⟨_, rfl⟩
  rw [← hs2]
  have L2 : s2.length = k + 5 := by have := g2.1; rw [hs2, List.length_set]; omega
  have O2 : s2[k]? = some (.inr (9, [some none, some (some (k + 1)), some (some (k + 3)), some none, some none, some none, some none])) := by rw [hs2]; exact List.getElem?_set_self (by have := g2.1; omega)
  have E2 : ∀ x, x < k + 3 → x ≠ k → s2[x]? = s1[x]? := fun x h1 h2 => by rw [hs2, List.getElem?_set_ne (Ne.symm h2), g2.2.1 x h1, ap_lt (by omega)]
  have T2 : pmTo s2 = pmTo sh + (24) := by have e1 := pmTo_setO (sl' := List.set [some none, some (some (k + 1)), some none, some none, some none, some none, some none] 2 (some (some (k + 3)))) ot2 rfl; have e2 := g2.2.2; have e3 := pmTo_new s1 4 2 rfl; rw [hs2]; omega
  have F2 : ∀ x, x < k → s2[x]? = sh[x]? := fun x h => (E2 x (by omega) (by omega)).trans (F1 x h)
  have I1_2 : isRow s2 (k + 1) 10 := I1_1.mvS (fun x h1 h2 => E2 x (by omega) (by omega))
  have I2_2 : isRow s2 (k + 3) 10 := it2.mvS (fun x h1 h2 => by rw [hs2, List.getElem?_set_ne (by omega)])
  have ob2 : pmOb s2 k 9 [some none, some (some (k + 1)), some (some (k + 3)), some none, some none, some none, some none] := ⟨hk0, O2⟩
  clear hs2 ot2 g2 it2 E2 ob1 L1 O1 T1 F1 I1_1
  refine pw_aload_n 31 rfl rfl rfl ?_
  refine pw_newK (k + 5) 34 rfl rfl L2 (hz _ (by omega)).1 ?_
  refine pw_dup 35 rfl rfl rfl ?_
  refine pw_bipush (v := nI 60) 37 rfl rfl (by decide) ?_
  refine pw_cI1 40 rfl rfl rfl (Nat.le_of_ble_eq_true rfl) rfl rfl (Nat.le_of_ble_eq_true rfl) (i_Row (k := k + 5) (n := 60) (by decide) (by omega) (by rw [List.length_append, L2]; rfl) (ap_eq L2) (hz.wk (by omega)) (fun t3 g3 it3 => ?_))
  refine pw_pV ?_
  have ot3 : t3[k]? = some (.inr (9, [some none, some (some (k + 1)), some (some (k + 3)), some none, some none, some none, some none])) := by rw [g3.2.1 k (by omega), ap_lt (by omega)]; exact O2
  refine pw_putR 43 rfl rfl ⟨hk0, ot3⟩ rfl (by decide) ?_
  obtain ⟨s3, hs3⟩ : ∃ z, z = t3.set k (.inr (9, List.set [some none, some (some (k + 1)), some (some (k + 3)), some none, some none, some none, some none] 3 (some (some (k + 5))))) := ⟨_, rfl⟩
  rw [← hs3]
  have L3 : s3.length = k + 7 := by have := g3.1; rw [hs3, List.length_set]; omega
  have O3 : s3[k]? = some (.inr (9, [some none, some (some (k + 1)), some (some (k + 3)), some (some (k + 5)), some none, some none, some none])) := by rw [hs3]; exact List.getElem?_set_self (by have := g3.1; omega)
  have E3 : ∀ x, x < k + 5 → x ≠ k → s3[x]? = s2[x]? := fun x h1 h2 => by rw [hs3, List.getElem?_set_ne (Ne.symm h2), g3.2.1 x h1, ap_lt (by omega)]
  have T3 : pmTo s3 = pmTo sh + (86) := by have e1 := pmTo_setO (sl' := List.set [some none, some (some (k + 1)), some (some (k + 3)), some none, some none, some none, some none] 3 (some (some (k + 5)))) ot3 rfl; have e2 := g3.2.2; have e3 := pmTo_new s2 4 2 rfl; rw [hs3]; omega
  have F3 : ∀ x, x < k → s3[x]? = sh[x]? := fun x h => (E3 x (by omega) (by omega)).trans (F2 x h)
  have I1_3 : isRow s3 (k + 1) 10 := I1_2.mvS (fun x h1 h2 => E3 x (by omega) (by omega))
  have I2_3 : isRow s3 (k + 3) 10 := I2_2.mvS (fun x h1 h2 => E3 x (by omega) (by omega))
  have I3_3 : isRow s3 (k + 5) 60 := it3.mvS (fun x h1 h2 => by rw [hs3, List.getElem?_set_ne (by omega)])
  have ob3 : pmOb s3 k 9 [some none, some (some (k + 1)), some (some (k + 3)), some (some (k + 5)), some none, some none, some none] := ⟨hk0, O3⟩
  clear hs3 ot3 g3 it3 E3 ob2 L2 O2 T2 F2 I1_2 I2_2
  refine pw_aload_n 44 rfl rfl rfl ?_
  refine pw_newK (k + 7) 47 rfl rfl L3 (hz _ (by omega)).1 ?_
  refine pw_dup 48 rfl rfl rfl ?_
  refine pw_bipush (v := nI 60) 50 rfl rfl (by decide) ?_
  refine pw_cI1 53 rfl rfl rfl (Nat.le_of_ble_eq_true rfl) rfl rfl (Nat.le_of_ble_eq_true rfl) (i_Row (k := k + 7) (n := 60) (by decide) (by omega) (by rw [List.length_append, L3]; rfl) (ap_eq L3) (hz.wk (by omega)) (fun t4 g4 it4 => ?_))
  refine pw_pV ?_
  have ot4 : t4[k]? = some (.inr (9, [some none, some (some (k + 1)), some (some (k + 3)), some (some (k + 5)), some none, some none, some none])) := by rw [g4.2.1 k (by omega), ap_lt (by omega)]; exact O3
  refine pw_putR 56 rfl rfl ⟨hk0, ot4⟩ rfl (by decide) ?_
  obtain ⟨s4, hs4⟩ : ∃ z, z = t4.set k (.inr (9, List.set [some none, some (some (k + 1)), some (some (k + 3)), some (some (k + 5)), some none, some none, some none] 4 (some (some (k + 7))))) := ⟨_, rfl⟩
  rw [← hs4]
  have L4 : s4.length = k + 9 := by have := g4.1; rw [hs4, List.length_set]; omega
  have O4 : s4[k]? = some (.inr (9, [some none, some (some (k + 1)), some (some (k + 3)), some (some (k + 5)), some (some (k + 7)), some none, some none])) := by rw [hs4]; exact List.getElem?_set_self (by have := g4.1; omega)
  have E4 : ∀ x, x < k + 7 → x ≠ k → s4[x]? = s3[x]? := fun x h1 h2 => by rw [hs4, List.getElem?_set_ne (Ne.symm h2), g4.2.1 x h1, ap_lt (by omega)]
  have T4 : pmTo s4 = pmTo sh + (148) := by have e1 := pmTo_setO (sl' := List.set [some none, some (some (k + 1)), some (some (k + 3)), some (some (k + 5)), some none, some none, some none] 4 (some (some (k + 7)))) ot4 rfl; have e2 := g4.2.2; have e3 := pmTo_new s3 4 2 rfl; rw [hs4]; omega
  have F4 : ∀ x, x < k → s4[x]? = sh[x]? := fun x h => (E4 x (by omega) (by omega)).trans (F3 x h)
  have I1_4 : isRow s4 (k + 1) 10 := I1_3.mvS (fun x h1 h2 => E4 x (by omega) (by omega))
  have I2_4 : isRow s4 (k + 3) 10 := I2_3.mvS (fun x h1 h2 => E4 x (by omega) (by omega))
  have I3_4 : isRow s4 (k + 5) 60 := I3_3.mvS (fun x h1 h2 => E4 x (by omega) (by omega))
  have I4_4 : isRow s4 (k + 7) 60 := it4.mvS (fun x h1 h2 => by rw [hs4, List.getElem?_set_ne (by omega)])
  have ob4 : pmOb s4 k 9 [some none, some (some (k + 1)), some (some (k + 3)), some (some (k + 5)), some (some (k + 7)), some none, some none] := ⟨hk0, O4⟩
  clear hs4 ot4 g4 it4 E4 ob3 L3 O3 T3 F3 I1_3 I2_3 I3_3
  refine pw_aload_n 57 rfl rfl rfl ?_
  refine pw_newK (k + 9) 60 rfl rfl L4 (hz _ (by omega)).1 ?_
  refine pw_dup 61 rfl rfl rfl ?_
  refine pw_bipush (v := nI 10) 63 rfl rfl (by decide) ?_
  refine pw_cI1 66 rfl rfl rfl (Nat.le_of_ble_eq_true rfl) rfl rfl (Nat.le_of_ble_eq_true rfl) (i_Row (k := k + 9) (n := 10) (by decide) (by omega) (by rw [List.length_append, L4]; rfl) (ap_eq L4) (hz.wk (by omega)) (fun t5 g5 it5 => ?_))
  refine pw_pV ?_
  have ot5 : t5[k]? = some (.inr (9, [some none, some (some (k + 1)), some (some (k + 3)), some (some (k + 5)), some (some (k + 7)), some none, some none])) := by rw [g5.2.1 k (by omega), ap_lt (by omega)]; exact O4
  refine pw_putR 69 rfl rfl ⟨hk0, ot5⟩ rfl (by decide) ?_
  obtain ⟨s5, hs5⟩ : ∃ z, z = t5.set k (.inr (9, List.set [some none, some (some (k + 1)), some (some (k + 3)), some (some (k + 5)), some (some (k + 7)), some none, some none] 5 (some (some (k + 9))))) := ⟨_, rfl⟩
  rw [← hs5]
  have L5 : s5.length = k + 11 := by have := g5.1; rw [hs5, List.length_set]; omega
  have O5 : s5[k]? = some (.inr (9, [some none, some (some (k + 1)), some (some (k + 3)), some (some (k + 5)), some (some (k + 7)), some (some (k + 9)), some none])) := by rw [hs5]; exact List.getElem?_set_self (by have := g5.1; omega)
  have E5 : ∀ x, x < k + 9 → x ≠ k → s5[x]? = s4[x]? := fun x h1 h2 => by rw [hs5, List.getElem?_set_ne (Ne.symm h2), g5.2.1 x h1, ap_lt (by omega)]
  have T5 : pmTo s5 = pmTo sh + (160) := by have e1 := pmTo_setO (sl' := List.set [some none, some (some (k + 1)), some (some (k + 3)), some (some (k + 5)), some (some (k + 7)), some none, some none] 5 (some (some (k + 9)))) ot5 rfl; have e2 := g5.2.2; have e3 := pmTo_new s4 4 2 rfl; rw [hs5]; omega
  have F5 : ∀ x, x < k → s5[x]? = sh[x]? := fun x h => (E5 x (by omega) (by omega)).trans (F4 x h)
  have I1_5 : isRow s5 (k + 1) 10 := I1_4.mvS (fun x h1 h2 => E5 x (by omega) (by omega))
  have I2_5 : isRow s5 (k + 3) 10 := I2_4.mvS (fun x h1 h2 => E5 x (by omega) (by omega))
  have I3_5 : isRow s5 (k + 5) 60 := I3_4.mvS (fun x h1 h2 => E5 x (by omega) (by omega))
  have I4_5 : isRow s5 (k + 7) 60 := I4_4.mvS (fun x h1 h2 => E5 x (by omega) (by omega))
  have I5_5 : isRow s5 (k + 9) 10 := it5.mvS (fun x h1 h2 => by rw [hs5, List.getElem?_set_ne (by omega)])
  have ob5 : pmOb s5 k 9 [some none, some (some (k + 1)), some (some (k + 3)), some (some (k + 5)), some (some (k + 7)), some (some (k + 9)), some none] := ⟨hk0, O5⟩
  clear hs5 ot5 g5 it5 E5 ob4 L4 O4 T4 F4 I1_4 I2_4 I3_4 I4_4
  refine pw_aload_n 70 rfl rfl rfl ?_
  refine pw_newK (k + 11) 73 rfl rfl L5 (hz _ (by omega)).1 ?_
  refine pw_dup 74 rfl rfl rfl ?_
  refine pw_sipush (v := nI 360) 77 rfl rfl (by decide) ?_
  refine pw_cI1 80 rfl rfl rfl (Nat.le_of_ble_eq_true rfl) rfl rfl (Nat.le_of_ble_eq_true rfl) (i_Line (k := k + 11) (n := 360) (by decide) (by omega) (by rw [List.length_append, L5]; rfl) (ap_eq L5) (hz.wk (by omega)) (fun t6 g6 it6 => ?_))
  refine pw_pV ?_
  have ot6 : t6[k]? = some (.inr (9, [some none, some (some (k + 1)), some (some (k + 3)), some (some (k + 5)), some (some (k + 7)), some (some (k + 9)), some none])) := by rw [g6.2.1 k (by omega), ap_lt (by omega)]; exact O5
  refine pw_putR 83 rfl rfl ⟨hk0, ot6⟩ rfl (by decide) ?_
  obtain ⟨s6, hs6⟩ : ∃ z, z = t6.set k (.inr (9, List.set [some none, some (some (k + 1)), some (some (k + 3)), some (some (k + 5)), some (some (k + 7)), some (some (k + 9)), some none] 6 (some (some (k + 11))))) := ⟨_, rfl⟩
  rw [← hs6]
  have L6 : s6.length = k + 16 := by have := g6.1; rw [hs6, List.length_set]; omega
  have O6 : s6[k]? = some (.inr (9, [some none, some (some (k + 1)), some (some (k + 3)), some (some (k + 5)), some (some (k + 7)), some (some (k + 9)), some (some (k + 11))])) := by rw [hs6]; exact List.getElem?_set_self (by have := g6.1; omega)
  have E6 : ∀ x, x < k + 11 → x ≠ k → s6[x]? = s5[x]? := fun x h1 h2 => by rw [hs6, List.getElem?_set_ne (Ne.symm h2), g6.2.1 x h1, ap_lt (by omega)]
  have T6 : pmTo s6 = pmTo sh + (886) := by have e1 := pmTo_setO (sl' := List.set [some none, some (some (k + 1)), some (some (k + 3)), some (some (k + 5)), some (some (k + 7)), some (some (k + 9)), some none] 6 (some (some (k + 11)))) ot6 rfl; have e2 := g6.2.2; have e3 := pmTo_new s5 2 2 rfl; rw [hs6]; omega
  have F6 : ∀ x, x < k → s6[x]? = sh[x]? := fun x h => (E6 x (by omega) (by omega)).trans (F5 x h)
  have I1_6 : isRow s6 (k + 1) 10 := I1_5.mvS (fun x h1 h2 => E6 x (by omega) (by omega))
  have I2_6 : isRow s6 (k + 3) 10 := I2_5.mvS (fun x h1 h2 => E6 x (by omega) (by omega))
  have I3_6 : isRow s6 (k + 5) 60 := I3_5.mvS (fun x h1 h2 => E6 x (by omega) (by omega))
  have I4_6 : isRow s6 (k + 7) 60 := I4_5.mvS (fun x h1 h2 => E6 x (by omega) (by omega))
  have I5_6 : isRow s6 (k + 9) 10 := I5_5.mvS (fun x h1 h2 => E6 x (by omega) (by omega))
  have I6_6 : isLine s6 (k + 11) 360 := it6.mvS (fun x h1 h2 => by rw [hs6, List.getElem?_set_ne (by omega)])
  have ob6 : pmOb s6 k 9 [some none, some (some (k + 1)), some (some (k + 3)), some (some (k + 5)), some (some (k + 7)), some (some (k + 9)), some (some (k + 11))] := ⟨hk0, O6⟩
  clear hs6 ot6 g6 it6 E6 ob5 L5 O5 T5 F5 I1_5 I2_5 I3_5 I4_5 I5_5
  refine pw_aload_n 84 rfl rfl rfl ?_
  refine pw_aload_n 85 rfl rfl rfl ?_
  refine pw_putR 88 rfl rfl ob6 rfl (by decide) ?_
  refine pw_vret rfl (kk _ ⟨by rw [List.length_set]; exact L6, fun x hx => by rw [List.getElem?_set_ne (by omega)]; exact F6 x hx, ?_⟩ ⟨⟨hk0, List.getElem?_set_self (by omega)⟩, I1_6.mvS (fun x h1 h2 => List.getElem?_set_ne (by omega)), I2_6.mvS (fun x h1 h2 => List.getElem?_set_ne (by omega)), I3_6.mvS (fun x h1 h2 => List.getElem?_set_ne (by omega)), I4_6.mvS (fun x h1 h2 => List.getElem?_set_ne (by omega)), I5_6.mvS (fun x h1 h2 => List.getElem?_set_ne (by omega)), I6_6.mvS (fun x h1 h2 => List.getElem?_set_ne (by omega))⟩)
  have e1 := pmTo_setO (sl' := List.set [some none, some (some (k + 1)), some (some (k + 3)), some (some (k + 5)), some (some (k + 7)), some (some (k + 9)), some (some (k + 11))] 0 (some (some kb))) O6 rfl
  omega
end INI
