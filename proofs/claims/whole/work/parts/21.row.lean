/-! ROW -/
section ROW
variable {sh : pmS} {M : pmM} {N : pmN} {Q : pmPost} {k n : Nat} {xs : List Int32}
theorem c_Row_size (hr : isRow sh k n) (hx : rowIs M k xs) (kk : Q (some (.int (nI xs.length))) sh M N) : PW mX4_size 0 [.ref k] [] sh M N Q := by
  obtain ⟨h1, h2⟩ := hr
  refine pw_aload_n 1 rfl rfl rfl ?_
  refine pw_getI 4 rfl rfl (by first | assumption | exact ⟨by decide, rfl⟩) rfl ?_
  rw [hx.1]
  exact pw_iret rfl rfl (kk)
theorem c_Row_most (hr : isRow sh k n) (kk : Q (some (.int (nI n))) sh M N) : PW mX4_most 0 [.ref k] [] sh M N Q := by
  obtain ⟨h1, h2⟩ := hr
  refine pw_aload_n 1 rfl rfl rfl ?_
  refine pw_getR 4 rfl rfl (by first | assumption | exact ⟨by decide, rfl⟩) rfl ?_
  refine pw_alen 5 rfl rfl (by first | assumption | exact ⟨by decide, rfl, by decide⟩) (by decide) ?_
  exact pw_iret rfl rfl (kk)
theorem c_Row_get (hr : isRow sh k n) (hx : rowIs M k xs) (hl : xs.length ≤ n) (i : Int32) (kk : Q (some (.int (gI xs i))) sh M N) : PW mX4_get 0 [.ref k, .int i] [] sh M N Q := by
  obtain ⟨h1, h2⟩ := hr
  have hn : n ≤ 1000 := h2.2.2
  have out : gI xs i = 0 → PW mX4_get 30 [.ref k, .int i] [] sh M N Q := by
    intro e
    rw [e] at kk
    refine pw_iconst (v := nI 0) 31 rfl rfl (by decide) ?_
    exact pw_iret rfl rfl (kk)
  refine pw_iload_n 1 rfl rfl rfl ?_
  refine pw_if_lt 30 4 rfl rfl rfl (fun h => ?_) (fun h => ?_)
  · exact out (gI_neg h)
  · obtain ⟨j, hj, rfl⟩ := nI_of h
    rw [gI_n hj] at kk out
    refine pw_iload_n 5 rfl rfl rfl ?_
    refine pw_aload_n 6 rfl rfl rfl ?_
    refine pw_getR 9 rfl rfl (by first | assumption | exact ⟨by decide, rfl⟩) rfl ?_
    refine pw_alen 10 rfl rfl (by first | assumption | exact ⟨by decide, rfl, by decide⟩) (by decide) ?_
    refine pw_icmp_ge 30 13 rfl rfl rfl (fun h => ?_) (fun h => ?_)
    · exact out (getD_out (by have := (nI_leI (by omega) hj).mp h; omega))
    · refine pw_iload_n 14 rfl rfl rfl ?_
      refine pw_aload_n 15 rfl rfl rfl ?_
      refine pw_getI 18 rfl rfl (by first | assumption | exact ⟨by decide, rfl⟩) rfl ?_
      rw [hx.1]
      refine pw_icmp_ge 30 21 rfl rfl rfl (fun h3 => ?_) (fun h3 => ?_)
      · exact out (getD_out (by have := (nI_leI (by omega) hj).mp h3; omega))
      · have hlt : j < xs.length := by
          rcases Nat.lt_or_ge j xs.length with q | q
          · exact q
          · exact absurd ((nI_leI (by omega) hj).mpr q) h3
        have hlt2 : j < n := by omega
        refine pw_aload_n 22 rfl rfl rfl ?_
        refine pw_getR 25 rfl rfl (by first | assumption | exact ⟨by decide, rfl⟩) rfl ?_
        refine pw_iload_n 26 rfl rfl rfl ?_
        refine pw_iald _ 27 rfl rfl (by first | assumption | exact ⟨by decide, rfl, by decide⟩) (by with_reducible rfl) (by first | assumption | omega) ?_
        refine pw_goto rfl 31 rfl ?_
        rw [hx.2 j hlt]
        exact pw_iret rfl rfl (kk)
theorem c_Row_set (hr : isRow sh k n) (hx : rowIs M k xs) (hl : xs.length ≤ n) {j : Nat} (hj : j < xs.length) (v : Int32) (kk : ∀ M', fr (k + 1) (k + 2) M M' → rowIs M' k (xs.set j v) → Q none sh M' N) : PW mX4_set 0 [.ref k, .int (nI j), .int v] [] sh M N Q := by
  obtain ⟨h1, h2⟩ := hr
  have hn : n ≤ 1000 := h2.2.2
  refine pw_iload_n 1 rfl rfl rfl ?_
  refine pw_if_lt_f 4 rfl rfl (nI_pos (by omega)) ?_
  refine pw_iload_n 5 rfl rfl rfl ?_
  refine pw_aload_n 6 rfl rfl rfl ?_
  refine pw_getR 9 rfl rfl (by first | assumption | exact ⟨by decide, rfl⟩) rfl ?_
  refine pw_alen 10 rfl rfl (by first | assumption | exact ⟨by decide, rfl, by decide⟩) (by decide) ?_
  refine pw_icmp_ge_f 13 rfl rfl (fun q => by have := (nI_leI (by omega) (by omega)).mp q; omega) ?_
  refine pw_iload_n 14 rfl rfl rfl ?_
  refine pw_aload_n 15 rfl rfl rfl ?_
  refine pw_getI 18 rfl rfl (by first | assumption | exact ⟨by decide, rfl⟩) rfl ?_
  rw [hx.1]
  refine pw_icmp_ge_f 21 rfl rfl (fun q => by have := (nI_leI (by omega) (by omega)).mp q; omega) ?_
  have hj2 : j < n := by omega
  refine pw_aload_n 22 rfl rfl rfl ?_
  refine pw_getR 25 rfl rfl (by first | assumption | exact ⟨by decide, rfl⟩) rfl ?_
  refine pw_iload_n 26 rfl rfl rfl ?_
  refine pw_iload_n 27 rfl rfl rfl ?_
  refine pw_iast _ 28 rfl rfl (by first | assumption | exact ⟨by decide, rfl, by decide⟩) (by with_reducible rfl) (by first | assumption | omega) ?_
  refine pw_vret rfl (kk _ (fr_st M j v (by omega) (by omega)) ⟨?_, fun i hi => ?_⟩)
  · rw [st_ne M _ _ _ (by omega), List.length_set]; exact hx.1
  · rw [List.length_set] at hi
    rw [getD_set hj]
    by_cases q : i = j
    · subst q; rw [if_pos rfl, st_same]
    · rw [if_neg q, st_row _ _ _ _ q]; exact hx.2 i hi
theorem c_Row_clear (hr : isRow sh k n) (kk : ∀ M', fr k (k + 1) M M' → rowIs M' k [] → Q none sh M' N) : PW mX4_clear 0 [.ref k] [] sh M N Q := by
  obtain ⟨h1, h2⟩ := hr
  refine pw_aload_n 1 rfl rfl rfl ?_
  refine pw_iconst (v := nI 0) 2 rfl rfl (by decide) ?_
  refine pw_putI 5 rfl rfl (by first | assumption | exact ⟨by decide, rfl⟩) rfl (by decide) ?_
  exact pw_vret rfl (kk _ (fr_st M 1 _ (by omega) (by omega)) ⟨st_same _ _ _ _, fun i hi => absurd hi (Nat.not_lt_zero i)⟩)
theorem c_Row_add (hr : isRow sh k n) (hx : rowIs M k xs) (hl : xs.length < n) (v : Int32) (kk : ∀ M', fr k (k + 2) M M' → rowIs M' k (xs ++ [v]) → Q (some (.int (nI 1))) sh M' N) : PW mX4_add 0 [.ref k, .int v] [] sh M N Q := by
  obtain ⟨h1, h2⟩ := hr
  have hn : n ≤ 1000 := h2.2.2
  refine pw_aload_n 1 rfl rfl rfl ?_
  refine pw_getI 4 rfl rfl (by first | assumption | exact ⟨by decide, rfl⟩) rfl ?_
  rw [hx.1]
  refine pw_if_lt_f 7 rfl rfl (nI_pos (by omega)) ?_
  refine pw_aload_n 8 rfl rfl rfl ?_
  refine pw_getI 11 rfl rfl (by first | assumption | exact ⟨by decide, rfl⟩) rfl ?_
  refine pw_aload_n 12 rfl rfl rfl ?_
  refine pw_getR 15 rfl rfl (by first | assumption | exact ⟨by decide, rfl⟩) rfl ?_
  refine pw_alen 16 rfl rfl (by first | assumption | exact ⟨by decide, rfl, by decide⟩) (by decide) ?_
  rw [hx.1]
  refine pw_icmp_lt_t 21 rfl rfl ((nI_ltI (by omega) (by omega)).mpr hl) ?_
  refine pw_aload_n 22 rfl rfl rfl ?_
  refine pw_getR 25 rfl rfl (by first | assumption | exact ⟨by decide, rfl⟩) rfl ?_
  refine pw_aload_n 26 rfl rfl rfl ?_
  refine pw_getI 29 rfl rfl (by first | assumption | exact ⟨by decide, rfl⟩) rfl ?_
  refine pw_iload_n 30 rfl rfl rfl ?_
  rw [hx.1]
  refine pw_iast _ 31 rfl rfl (by first | assumption | exact ⟨by decide, rfl, by decide⟩) (by with_reducible rfl) (by first | assumption | omega) ?_
  refine pw_aload_n 32 rfl rfl rfl ?_
  refine pw_dup 33 rfl rfl rfl ?_
  refine pw_getI 36 rfl rfl (by first | assumption | exact ⟨by decide, rfl⟩) rfl ?_
  refine pw_iconst (v := nI 1) 37 rfl rfl (by decide) ?_
  first | refine pw_iaddN 38 rfl rfl (by with_reducible rfl) (by with_reducible rfl) ?_ | refine pw_iadd 38 rfl rfl ?_
  refine pw_putI 41 rfl rfl (by first | assumption | exact ⟨by decide, rfl⟩) rfl (by decide) ?_
  refine pw_iconst (v := nI 1) 42 rfl rfl (by decide) ?_
  have e1 : pmSt M (k + 1) xs.length v k 1 = nI xs.length := by rw [st_ne _ _ _ _ (by omega)]; exact hx.1
  rw [e1, nI_add]
  refine pw_zret rfl rfl (Or.inr rfl) (kk _ (fun x h => ?_) ⟨?_, fun i hi => ?_⟩)
  · rw [st_ne _ _ _ _ (by omega), st_ne _ _ _ _ (by omega)]
  · rw [st_same, List.length_append]; rfl
  · rw [st_ne _ _ _ _ (by omega), getD_app]
    rw [List.length_append, List.length_cons, List.length_nil] at hi
    by_cases q : i < xs.length
    · rw [if_pos q, st_row _ _ _ _ (by omega)]; exact hx.2 i q
    · have : i = xs.length := by omega
      subst this
      rw [if_neg q, if_pos rfl, st_same]
theorem c_Row_addFull (hr : isRow sh k n) (hx : rowIs M k xs) (hl : xs.length = n) (v : Int32) (kk : Q (some (.int (nI 0))) sh M N) : PW mX4_add 0 [.ref k, .int v] [] sh M N Q := by
  obtain ⟨h1, h2⟩ := hr
  have hn : n ≤ 1000 := h2.2.2
  refine pw_aload_n 1 rfl rfl rfl ?_
  refine pw_getI 4 rfl rfl (by first | assumption | exact ⟨by decide, rfl⟩) rfl ?_
  rw [hx.1]
  refine pw_if_lt_f 7 rfl rfl (nI_pos (by omega)) ?_
  refine pw_aload_n 8 rfl rfl rfl ?_
  refine pw_getI 11 rfl rfl (by first | assumption | exact ⟨by decide, rfl⟩) rfl ?_
  refine pw_aload_n 12 rfl rfl rfl ?_
  refine pw_getR 15 rfl rfl (by first | assumption | exact ⟨by decide, rfl⟩) rfl ?_
  refine pw_alen 16 rfl rfl (by first | assumption | exact ⟨by decide, rfl, by decide⟩) (by decide) ?_
  rw [hx.1]
  refine pw_icmp_lt_f 19 rfl rfl (nI_nlt (by omega) (by omega)) ?_
  refine pw_iconst (v := nI 0) 20 rfl rfl (by decide) ?_
  exact pw_zret rfl rfl (by first | exact Or.inl rfl | exact Or.inr rfl | assumption) (kk)
end ROW
