def mst (k : Nat) (sh : pmS) (M : pmM) (N : pmN) (Q : pmPost) (v : Value) (a : aW) : Prop := ∀ M' N', fr k (k + 21) M M' → (∀ x, (x < k ∨ k + 21 ≤ x) → N' x = N x) → modIs M' N' k a → Q (some v) sh M' N'
theorem modIs.tape {M M' : pmM} {N : pmN} {k : Nat} {a : aW} {xs : List Int32} (h : modIs M N k a) (h1 : ∀ j, j ≠ 1 → j ≠ 18 → j ≠ 21 → j ≠ 24 → M' k j = M k j) (h2 : ∀ x, k + 2 ≤ x → x ≤ k + 10 → M' x = M x) (ht : tpIs M' k xs) : modIs M' N k (wTp a xs) := by
  obtain ⟨_, hr⟩ := h
  refine ⟨ht, ?_⟩
  rw [h1 5 (by decide) (by decide) (by decide) (by decide), h1 6 (by decide) (by decide) (by decide) (by decide), h1 7 (by decide) (by decide) (by decide) (by decide), h1 11 (by decide) (by decide) (by decide) (by decide), h1 12 (by decide) (by decide) (by decide) (by decide), h2 (k + 2) (by omega) (by omega), h2 (k + 3) (by omega) (by omega), h2 (k + 4) (by omega) (by omega), h2 (k + 5) (by omega) (by omega), h2 (k + 6) (by omega) (by omega), h2 (k + 7) (by omega) (by omega), h2 (k + 8) (by omega) (by omega), h2 (k + 9) (by omega) (by omega), h2 (k + 10) (by omega) (by omega)]
  exact hr
section MTY
variable {sh : pmS} {M : pmM} {N : pmN} {Q : pmPost} {k : Nat} {a : aW}
theorem mst.at {v : Value} (h : mst k sh M N Q v a) (hx : modIs M N k a) : Q (some v) sh M N := h M N fr.rf (fun _ _ => rfl) hx
theorem mst.go {M1 : pmM} {v : Value} (h : mst k sh M N Q v a) (hf : fr k (k + 21) M M1) (hx : modIs M1 N k a) : Q (some v) sh M1 N := h M1 N hf (fun _ _ => rfl) hx
theorem m_type {x : Int32} (hb : isMod sh k) (hl : a.tp.length ≤ 150) (hx : modIs M N k a) (kk : mst k sh M N Q (.int (vType a x).1) (vType a x).2) : PW mX11_type 0 [.ref k, .int x] [] sh M N Q := by
  obtain ⟨b0, a1, a2, a3, a4, a5, a6, a7, a8, a9, a10, a11, a12, a13, a14, a15, a16, a17, a18, a19, a20⟩ := hb
  have ht : tpIs M k a.tp := hx.1
  unfold vType at kk
  refine pw_iload_n 1 rfl rfl rfl ?_
  refine pw_i2l 2 rfl rfl ?_
  refine pw_ldc2_w (v := lN 32) 5 rfl rfl rfl ?_
  refine pw_ldc2_w (v := lN 126) 8 rfl rfl rfl ?_
  refine pw_cS3 11 rfl rfl rfl (Nat.le_of_ble_eq_true rfl) rfl rfl (Nat.le_of_ble_eq_true rfl) (c_inX (b := 32) (c := 127) (by decide) (by decide) rfl (fun j h1 h2 e => ?_) (fun hn => ?_))
  · refine pw_pI ?_
    subst e
    rw [if_neg (fun q => q.elim (nI_nlt h1 (by omega)) (nI_nlt (by omega) (by decide)))] at kk
    skip
    refine pw_if_ne_t 16 rfl rfl (by decide) ?_
    refine pw_aload_n 17 rfl rfl rfl ?_
    refine pw_getI 20 rfl rfl (by first | assumption | exact ⟨by decide, rfl⟩) rfl ?_
    refine pw_sipush (v := nI 150) 23 rfl rfl (by decide) ?_
    rw [ht.1]
    by_cases q : a.tp.length = 150
    · rw [if_pos q] at kk
      rw [q]
      skip
      refine pw_icmp_ne_f 26 rfl rfl (fun e => e rfl) ?_
      refine pw_bipush (v := (-3)) 28 rfl rfl (by decide) ?_
      exact pw_iret rfl rfl (kk.at hx)
    · rw [if_neg q] at kk
      have hlt : a.tp.length < 150 := by omega
      skip
      refine pw_icmp_ne_t 29 rfl rfl (fun e => q ((nI_eq (by omega) (by decide)).mp e)) ?_
      refine pw_aload_n 30 rfl rfl rfl ?_
      refine pw_getR 33 rfl rfl (by first | assumption | exact ⟨by decide, rfl⟩) rfl ?_
      refine pw_aload_n 34 rfl rfl rfl ?_
      refine pw_getI 37 rfl rfl (by first | assumption | exact ⟨by decide, rfl⟩) rfl ?_
      refine pw_iload_n 38 rfl rfl rfl ?_
      rw [ht.1]
      refine pw_iast _ 39 rfl rfl (by first | assumption | exact ⟨by decide, rfl, by decide⟩) (by with_reducible rfl) (by first | assumption | omega) ?_
      refine pw_aload_n 40 rfl rfl rfl ?_
      refine pw_dup 41 rfl rfl rfl ?_
      refine pw_getI 44 rfl rfl (by first | assumption | exact ⟨by decide, rfl⟩) rfl ?_
      refine pw_iconst (v := nI 1) 45 rfl rfl (by decide) ?_
      rw [st_ne _ _ _ _ (by omega), ht.1]
      first | refine pw_iaddN 46 rfl rfl (by with_reducible rfl) (by with_reducible rfl) ?_ | refine pw_iadd 46 rfl rfl ?_
      refine pw_putI 49 rfl rfl (by first | assumption | exact ⟨by decide, rfl⟩) rfl (by decide) ?_
      refine pw_aload_n 50 rfl rfl rfl ?_
      refine pw_getI 53 rfl rfl (by first | assumption | exact ⟨by decide, rfl⟩) rfl ?_
      rw [st_same]
      refine pw_iret rfl rfl (kk.go (fun z hz => ?_) (hx.tape (fun j h1 _ _ _ => ?_) (fun z h1 h2 => ?_) ⟨?_, fun i hi => ?_⟩))
      · rw [st_ne _ _ _ _ (by omega), st_ne _ _ _ _ (by omega)]
      · rw [st_row _ _ _ _ h1, st_ne _ _ _ _ (by omega)]
      · rw [st_ne _ _ _ _ (by omega), st_ne _ _ _ _ (by omega)]
      · rw [st_same, List.length_append]; rfl
      · rw [List.length_append, List.length_singleton] at hi
        rw [st_ne _ _ _ _ (by omega), getD_app]
        by_cases q3 : i = a.tp.length
        · subst q3
          rw [st_same, if_neg (by omega), if_pos rfl]
        · rw [st_row _ _ _ _ q3, if_pos (by omega)]; exact ht.2 i (by omega)
  · refine pw_pI ?_
    have bad : x < nI 32 ∨ nI 126 < x := by
      rcases i_cases x with h | ⟨j, hj, rfl⟩
      · exact Or.inl (Int32.lt_trans h (by decide))
      · by_cases q : j < 32
        · exact Or.inl (nI_lt q (by decide))
        · by_cases q2 : j < 127
          · exact absurd rfl (hn j (by omega) q2)
          · exact Or.inr (nI_lt (by omega) hj)
    rw [if_pos bad] at kk
    skip
    refine pw_if_ne_f 14 rfl rfl (by decide) ?_
    refine pw_iconst (v := (-1)) 15 rfl rfl (by decide) ?_
    exact pw_iret rfl rfl (kk.at hx)
end MTY
