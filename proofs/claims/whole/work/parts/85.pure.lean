set_option maxRecDepth 20000 in
theorem pure_law (L : Nat) (xs : Nat → Int32) (hL : L ≤ 3072) : PW mL_law 0 [.ref 0, .null, .null, .null] [] [.inl (0, L, [])] (va_up (fun _ _ => 0) 0 xs) (fun _ _ => 0) (fun r sh' _ _ => r = some (.int 1) ∧ sh'.length ≤ 1000 ∧ pmTo sh' ≤ L + 100000) := by
  have hz : fz (va_up (fun _ _ => 0) 0 xs) (fun _ _ => 0) 1 := fun x hx => ⟨va_up_ne _ _ (by omega), rfl⟩
  refine pw_newK 1 3 rfl rfl rfl (hz 1 (by decide)).1 ?_
  refine pw_dup 4 rfl rfl rfl ?_
  refine pw_cI0 7 rfl rfl rfl (Nat.le_of_ble_eq_true rfl) rfl rfl (Nat.le_of_ble_eq_true rfl) (i_App (k := 1) (by decide) rfl rfl hz (fun s1 g1 i1 => ?_))
  refine pw_pV ?_
  have hz1 : fz (pmSt (va_up (fun _ _ => 0) 0 xs) 1 10 (-4)) (fun _ _ => 0) 324 := fun x hx => ⟨by rw [st_ne _ _ _ _ (by omega)]; exact (hz x (by omega)).1, rfl⟩
  have l1 : s1.length = 324 := g1.1
  refine pw_astore1 8 rfl rfl rfl ?_
  refine pw_newK 324 11 rfl rfl l1 (hz1 324 (by decide)).1 ?_
  refine pw_dup 12 rfl rfl rfl ?_
  refine pw_cI0 15 rfl rfl rfl (Nat.le_of_ble_eq_true rfl) rfl rfl (Nat.le_of_ble_eq_true rfl) (i_Mod (k := 324) (by decide) (by rw [List.length_append, l1]; rfl) (ap_eq l1) hz1 (fun s2 g2 i2 => ?_))
  refine pw_pV ?_
  refine pw_astore2 16 rfl rfl rfl ?_
  refine pw_iconst (v := nI 0) 17 rfl rfl (by decide) ?_
  refine pw_istore3 18 rfl rfl rfl ?_
  have hA : isApp s2 1 := i1.mvS (fun x h1 h2 => by rw [g2.2.1 x (by omega), ap_lt (by omega)])
  have hsc : s2[0]? = some (.inl (0, L, [])) := by rw [g2.2.1 0 (by decide), ap_lt (by omega), g1.2.1 0 (by decide)]; rfl
  have x1 := a00_app hz
  have y1 := a00_mod hz1
  have hlen : s2.length ≤ 1000 := by have := g2.1; omega
  have hto : pmTo s2 ≤ L + 100000 := by
    have e1 := g1.2.2
    have e2 := g2.2.2
    have e3 := pmTo_new s1 11 29 rfl
    have e4 := pmTo_new [.inl (0, L, [])] 10 12 rfl
    have e5 : pmTo [.inl (0, L, [])] = L := by simp [pmTo]
    rw [e4, e5] at e1
    omega
  have inv : lI (pmSt (pmSt (va_up (fun _ _ => 0) 0 xs) 1 10 (-4)) 324 7 (-4)) (fun _ _ => 0) xs a00 := by
    refine ⟨?_, ?_, y1, a00_wf⟩
    · rw [st_ne _ _ _ _ (by decide), st_ne _ _ _ _ (by decide), va_up_self]
    · exact x1.frr (u := 324) (v := 325) (fr_st _ _ _ (by decide) (by decide)) (by decide) (fun _ _ => rfl)
  exact law_loop (xs := xs) hL hsc hA i2 (fun M' N' => ⟨rfl, hlen, hto⟩) (L + 6) 0 _ _ a00 (by omega) (by decide) inv
