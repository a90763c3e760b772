theorem ruled_cong {f g : Nat → Int32} {rs : List aR} (h : ruled f rs) (h10 : rs.length ≤ 10) (hw : ∀ r, r < rs.length → (pPh rs r).length ≤ 6 ∧ (pGf rs r).length ≤ 6) (e : ∀ i, i < 151 → g i = f i) : ruled g rs := by
  refine ⟨by rw [e 0 (by decide)]; exact h.1, fun r hr => ?_⟩
  obtain ⟨a1, a2, a3, a4, a5⟩ := h.2 r hr
  obtain ⟨l1, l2⟩ := hw r hr
  exact ⟨by rw [e _ (by omega)]; exact a1, by rw [e _ (by omega)]; exact a2, by rw [e _ (by omega)]; exact a3, fun i hi => by rw [e _ (by omega)]; exact a4 i hi, fun i hi => by rw [e _ (by omega)]; exact a5 i hi⟩
theorem wfR_lens {rs : List aR} (h : ∀ r ∈ rs, wfR r) : ∀ r, r < rs.length → (pPh rs r).length ≤ 6 ∧ (pGf rs r).length ≤ 6 := by
  intro r hr
  have e : gR rs r = rs[r] := by unfold gR; rw [List.getD_eq_getElem?_getD, List.getElem?_eq_getElem hr]; rfl
  have := h _ (List.getElem_mem hr)
  unfold pPh pGf
  rw [e]; exact ⟨this.2.2.1, this.2.2.2⟩
theorem held_cong {f g : Nat → Int32} {o : Nat} {m : aM} (h : held f o m) (h60 : m.1.length ≤ 60) (e : ∀ i, i < 122 → g (o + i) = f (o + i)) : held g o m := by
  obtain ⟨a1, a2, a3, a4⟩ := h
  refine ⟨by have := e 0 (by decide); rw [Nat.add_zero] at this; rw [this]; exact a1, by rw [e 1 (by decide)]; exact a2, fun i hi => ?_, fun i hi => ?_⟩
  · rw [Nat.add_assoc, e _ (by omega), ← Nat.add_assoc]; exact a3 i hi
  · rw [Nat.add_assoc, e _ (by omega), ← Nat.add_assoc]; exact a4 i hi
/-- a line begun -/
theorem held_job {f : Nat → Int32} {xs : List Int32} {on : Nat} (h60 : xs.length ≤ 60) (h0 : f 0 = nI xs.length) (h1 : f 1 = nI on) (h2 : ∀ i, i < xs.length → f (2 + i) = xs.getD i 0 ∧ f (62 + i) = nI i) : held f 0 (xs, plc xs.length, on) := by
  refine ⟨h0, h1, fun i hi => ?_, fun i hi => ?_⟩
  · rw [Nat.zero_add]; exact (h2 i hi).1
  · rw [Nat.zero_add, (h2 i hi).2]
    unfold plc
    rw [getD_mapN, List.getD_eq_getElem?_getD, List.getElem?_range hi]; rfl
section MJB
variable {sh : pmS} {M : pmM} {N : pmN} {Q : pmPost} {k : Nat}
theorem mjob_loop {xs : List Int32} (hb : isMod sh k) (h60 : xs.length ≤ 60) (hm : M k 21 = nI xs.length) (hr : ∀ i, i < xs.length → M (k + 14) i = xs.getD i 0)
    (kk : ∀ M', fr (k + 3) (k + 4) M M' → M' (k + 3) 0 = M (k + 3) 0 → M' (k + 3) 1 = M (k + 3) 1 → (∀ i, i < xs.length → M' (k + 3) (2 + i) = xs.getD i 0 ∧ M' (k + 3) (62 + i) = nI i) → PW mX11_job 109 [.ref k, .int (nI xs.length)] [] sh M' N Q) :
    ∀ (d i : Nat) (M1 : pmM), i + d = xs.length → fr (k + 3) (k + 4) M M1 → M1 (k + 3) 0 = M (k + 3) 0 → M1 (k + 3) 1 = M (k + 3) 1 → (∀ j, j < i → M1 (k + 3) (2 + j) = xs.getD j 0 ∧ M1 (k + 3) (62 + j) = nI j) → PW mX11_job 71 [.ref k, .int (nI i)] [] sh M1 N Q := by
  obtain ⟨b0, a1, a2, a3, a4, a5, a6, a7, a8, a9, a10, a11, a12, a13, a14, a15, a16, a17, a18, a19, a20⟩ := hb
  intro d
  induction d with
  | zero =>
    intro i M1 hi hf e0 e1 hv
    have : i = xs.length := by omega
    subst this
    refine pw_iload_n 72 rfl rfl rfl ?_
    refine pw_aload_n 73 rfl rfl rfl ?_
    refine pw_getI 76 rfl rfl (by first | assumption | exact ⟨by decide, rfl⟩) rfl ?_
    rw [hf k (by omega), hm]
    refine pw_icmp_ge_t 109 rfl rfl (nI_le (by omega) (by omega)) ?_
    exact kk M1 hf e0 e1 hv
  | succ d ih =>
    intro i M1 hi hf e0 e1 hv
    have hi2 : 2 + i < 122 := by omega
    have hi3 : 62 + i < 122 := by omega
    have hi4 : i < 60 := by omega
    refine pw_iload_n 72 rfl rfl rfl ?_
    refine pw_aload_n 73 rfl rfl rfl ?_
    refine pw_getI 76 rfl rfl (by first | assumption | exact ⟨by decide, rfl⟩) rfl ?_
    rw [hf k (by omega), hm]
    refine pw_icmp_ge_f 79 rfl rfl (nI_ge (by omega) (by omega)) ?_
    refine pw_aload_n 80 rfl rfl rfl ?_
    refine pw_getR 83 rfl rfl (by first | assumption | exact ⟨by decide, rfl⟩) rfl ?_
    refine pw_iconst (v := nI 2) 84 rfl rfl (by decide) ?_
    refine pw_iload_n 85 rfl rfl rfl ?_
    first | refine pw_iaddN 86 rfl rfl (by with_reducible rfl) (by with_reducible rfl) ?_ | refine pw_iadd 86 rfl rfl ?_
    refine pw_aload_n 87 rfl rfl rfl ?_
    refine pw_getR 90 rfl rfl (by first | assumption | exact ⟨by decide, rfl⟩) rfl ?_
    refine pw_iload_n 91 rfl rfl rfl ?_
    refine pw_iald _ 92 rfl rfl (by first | assumption | exact ⟨by decide, rfl, by decide⟩) (by with_reducible rfl) (by first | assumption | omega) ?_
    rw [hf (k + 14) (by omega), hr i (by omega)]
    refine pw_iast _ 93 rfl rfl (by first | assumption | exact ⟨by decide, rfl, by decide⟩) (by with_reducible rfl) (by first | assumption | omega) ?_
    refine pw_aload_n 94 rfl rfl rfl ?_
    refine pw_getR 97 rfl rfl (by first | assumption | exact ⟨by decide, rfl⟩) rfl ?_
    refine pw_bipush (v := nI 62) 99 rfl rfl (by decide) ?_
    refine pw_iload_n 100 rfl rfl rfl ?_
    first | refine pw_iaddN 101 rfl rfl (by with_reducible rfl) (by with_reducible rfl) ?_ | refine pw_iadd 101 rfl rfl ?_
    refine pw_iload_n 102 rfl rfl rfl ?_
    refine pw_iast _ 103 rfl rfl (by first | assumption | exact ⟨by decide, rfl, by decide⟩) (by with_reducible rfl) (by first | assumption | omega) ?_
    first | refine pw_iincN1 106 rfl rfl rfl (by with_reducible rfl) ?_ | refine pw_iinc1 (w := _) 106 rfl rfl rfl rfl ?_
    refine pw_goto rfl 71 rfl ?_
    refine ih (i + 1) _ (by omega) ((hf.tr (fr_st _ _ _ (by omega) (by omega))).tr (fr_st _ _ _ (by omega) (by omega))) ?_ ?_ (fun j hj => ?_)
    · rw [st_row _ _ _ _ (by omega), st_row _ _ _ _ (by omega)]; exact e0
    · rw [st_row _ _ _ _ (by omega), st_row _ _ _ _ (by omega)]; exact e1
    · by_cases q : j = i
      · subst q
        exact ⟨by rw [st_row _ _ _ _ (by omega), st_same], by rw [st_same]⟩
      · rw [st_row _ _ _ _ (by omega), st_row _ _ _ _ (by omega), st_row _ _ _ _ (by omega), st_row _ _ _ _ (by omega)]
        exact hv j (by omega)
end MJB
