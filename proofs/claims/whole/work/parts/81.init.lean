section INJ
variable {sh : pmS} {M : pmM} {N : pmN} {Q : pmPost} {k : Nat}
set_option maxHeartbeats 8000000 in
theorem i_App (hk0 : 0 < k) (hk : sh.length = k + 1) (ho : sh[k]? = some (.inr (10, pmBl 10))) (hz : fz M N k) (kk : ∀ sh', grw sh sh' k (k + 323) 4506 → isApp sh' k → Q none sh' (pmSt M k 10 (-4)) N) : PW mX10_init 0 [.ref k, .null] [] sh M N Q := by
  have bl : pmBl 10 = [some none, some none, some none, none, some none, some none, some none, some none, some none, some none, none, none] := rfl
  rw [bl] at ho
  have O0 := ho
  have L0 := hk
  have F0 : ∀ x, x < k → sh[x]? = sh[x]? := fun _ _ => rfl
  have T0 : pmTo sh = pmTo sh + 0 := rfl
  have ob0 : pmOb sh k 10 [some none, some none, some none, none, some none, some none, some none, some none, some none, some none, none, none] := ⟨hk0, O0⟩
  have hz0 : ∀ j, M k j = 0 := fun j => by rw [(hz k (by omega)).1]
  refine pw_aload_n 1 rfl rfl rfl ?_
  refine pw_objInit 4 rfl rfl (Nat.le_of_ble_eq_true rfl) ?_
  refine pw_aload_n 5 rfl rfl rfl ?_
  refine pw_newK (k + 1) 8 rfl rfl L0 (hz _ (by omega)).1 ?_
  refine pw_dup 9 rfl rfl rfl ?_
  refine pw_cI0 12 rfl rfl rfl (Nat.le_of_ble_eq_true rfl) rfl rfl (Nat.le_of_ble_eq_true rfl) (i_Tape (k := k + 1) (by omega) (by rw [List.length_append, L0]; rfl) (ap_eq L0) (hz.wk (by omega)) (fun t1 g1 it1 => ?_))
  refine pw_pV ?_
  have ot1 : t1[k]? = some (.inr (10, [some none, some none, some none, none, some none, some none, some none, some none, some none, some none, none, none])) := by rw [g1.2.1 k (by omega), ap_lt (by omega)]; exact O0
  refine pw_putR 15 rfl rfl ⟨hk0, ot1⟩ rfl (by decide) ?_
  obtain ⟨s1, hs1⟩ : ∃ z, z = t1.set k (.inr (10, List.set [some none, some none, some none, none, some none, some none, some none, some none, some none, some none, none, none] 0 (some (some (k + 1))))) := ⟨_, rfl⟩
  rw [← hs1]
  have L1 : s1.length = k + 4 := by have := g1.1; rw [hs1, List.length_set]; omega
  have O1 : s1[k]? = some (.inr (10, [some (some (k + 1)), some none, some none, none, some none, some none, some none, some none, some none, some none, none, none])) := by rw [hs1]; exact List.getElem?_set_self (by have := g1.1; omega)
  have E1 : ∀ x, x < k + 1 → x ≠ k → s1[x]? = sh[x]? := fun x h1 h2 => by rw [hs1, List.getElem?_set_ne (Ne.symm h2), g1.2.1 x h1, ap_lt (by omega)]
  have T1 : pmTo s1 = pmTo sh + (154) := by have e1 := pmTo_setO (sl' := List.set [some none, some none, some none, none, some none, some none, some none, some none, some none, some none, none, none] 0 (some (some (k + 1)))) ot1 rfl; have e2 := g1.2.2; have e3 := pmTo_new sh 8 2 rfl; rw [hs1]; omega
  have F1 : ∀ x, x < k → s1[x]? = sh[x]? := fun x h => (E1 x (by omega) (by omega)).trans (F0 x h)
  have I1_1 : isTape s1 (k + 1) := it1.mvS (fun x h1 h2 => by rw [hs1, List.getElem?_set_ne (by omega)])
  have ob1 : pmOb s1 k 10 [some (some (k + 1)), some none, some none, none, some none, some none, some none, some none, some none, some none, none, none] := ⟨hk0, O1⟩
  clear hs1 ot1 g1 it1 E1 ob0 L0 O0 T0 F0 
  refine pw_aload_n 16 rfl rfl rfl ?_
  refine pw_newK (k + 4) 19 rfl rfl L1 (hz _ (by omega)).1 ?_
  refine pw_dup 20 rfl rfl rfl ?_
  refine pw_cI0 23 rfl rfl rfl (Nat.le_of_ble_eq_true rfl) rfl rfl (Nat.le_of_ble_eq_true rfl) (i_State (k := k + 4) (by omega) (by rw [List.length_append, L1]; rfl) (ap_eq L1) (hz.wk (by omega)) (fun t2 g2 it2 => ?_))
  refine pw_pV ?_
  have ot2 : t2[k]? = some (.inr (10, [some (some (k + 1)), some none, some none, none, some none, some none, some none, some none, some none, some none, none, none])) := by rw [g2.2.1 k (by omega), ap_lt (by omega)]; exact O1
  refine pw_putR 26 rfl rfl ⟨hk0, ot2⟩ rfl (by decide) ?_
  obtain ⟨s2, hs2⟩ : ∃ z, z = t2.set k (.inr (10, List.set [some (some (k + 1)), some none, some none, none, some none, some none, some none, some none, some none, some none, none, none] 1 (some (some (k + 4))))) := ⟨_, rfl⟩
  rw [← hs2]
  have L2 : s2.length = k + 118 := by have := g2.1; rw [hs2, List.length_set]; omega
  have O2 : s2[k]? = some (.inr (10, [some (some (k + 1)), some (some (k + 4)), some none, none, some none, some none, some none, some none, some none, some none, none, none])) := by rw [hs2]; exact List.getElem?_set_self (by have := g2.1; omega)
  have E2 : ∀ x, x < k + 4 → x ≠ k → s2[x]? = s1[x]? := fun x h1 h2 => by rw [hs2, List.getElem?_set_ne (Ne.symm h2), g2.2.1 x h1, ap_lt (by omega)]
  have T2 : pmTo s2 = pmTo sh + (1542) := by have e1 := pmTo_setO (sl' := List.set [some (some (k + 1)), some none, some none, none, some none, some none, some none, some none, some none, some none, none, none] 1 (some (some (k + 4)))) ot2 rfl; have e2 := g2.2.2; have e3 := pmTo_new s1 7 3 rfl; rw [hs2]; omega
  have F2 : ∀ x, x < k → s2[x]? = sh[x]? := fun x h => (E2 x (by omega) (by omega)).trans (F1 x h)
  have I1_2 : isTape s2 (k + 1) := I1_1.mvS (fun x h1 h2 => E2 x (by omega) (by omega))
  have NOW_2 : isState s2 (k + 4) := it2.mvS (fun x h1 h2 => by rw [hs2, List.getElem?_set_ne (by omega)])
  have ob2 : pmOb s2 k 10 [some (some (k + 1)), some (some (k + 4)), some none, none, some none, some none, some none, some none, some none, some none, none, none] := ⟨hk0, O2⟩
  clear hs2 ot2 g2 it2 E2 ob1 L1 O1 T1 F1 I1_1
  refine pw_aload_n 27 rfl rfl rfl ?_
  refine pw_newK (k + 118) 30 rfl rfl L2 (hz _ (by omega)).1 ?_
  refine pw_dup 31 rfl rfl rfl ?_
  refine pw_cI0 34 rfl rfl rfl (Nat.le_of_ble_eq_true rfl) rfl rfl (Nat.le_of_ble_eq_true rfl) (i_State (k := k + 118) (by omega) (by rw [List.length_append, L2]; rfl) (ap_eq L2) (hz.wk (by omega)) (fun t3 g3 it3 => ?_))
  refine pw_pV ?_
  have ot3 : t3[k]? = some (.inr (10, [some (some (k + 1)), some (some (k + 4)), some none, none, some none, some none, some none, some none, some none, some none, none, none])) := by rw [g3.2.1 k (by omega), ap_lt (by omega)]; exact O2
  refine pw_putR 37 rfl rfl ⟨hk0, ot3⟩ rfl (by decide) ?_
  obtain ⟨s3, hs3⟩ : ∃ z, z = t3.set k (.inr (10, List.set [some (some (k + 1)), some (some (k + 4)), some none, none, some none, some none, some none, some none, some none, some none, none, none] 2 (some (some (k + 118))))) := ⟨_, rfl⟩
  rw [← hs3]
  have L3 : s3.length = k + 232 := by have := g3.1; rw [hs3, List.length_set]; omega
  have O3 : s3[k]? = some (.inr (10, [some (some (k + 1)), some (some (k + 4)), some (some (k + 118)), none, some none, some none, some none, some none, some none, some none, none, none])) := by rw [hs3]; exact List.getElem?_set_self (by have := g3.1; omega)
  have E3 : ∀ x, x < k + 118 → x ≠ k → s3[x]? = s2[x]? := fun x h1 h2 => by rw [hs3, List.getElem?_set_ne (Ne.symm h2), g3.2.1 x h1, ap_lt (by omega)]
  have T3 : pmTo s3 = pmTo sh + (2930) := by have e1 := pmTo_setO (sl' := List.set [some (some (k + 1)), some (some (k + 4)), some none, none, some none, some none, some none, some none, some none, some none, none, none] 2 (some (some (k + 118)))) ot3 rfl; have e2 := g3.2.2; have e3 := pmTo_new s2 7 3 rfl; rw [hs3]; omega
  have F3 : ∀ x, x < k → s3[x]? = sh[x]? := fun x h => (E3 x (by omega) (by omega)).trans (F2 x h)
  have I1_3 : isTape s3 (k + 1) := I1_2.mvS (fun x h1 h2 => E3 x (by omega) (by omega))
  have NOW_3 : isState s3 (k + 4) := NOW_2.mvS (fun x h1 h2 => E3 x (by omega) (by omega))
  have I3_3 : isState s3 (k + 118) := it3.mvS (fun x h1 h2 => by rw [hs3, List.getElem?_set_ne (by omega)])
  have ob3 : pmOb s3 k 10 [some (some (k + 1)), some (some (k + 4)), some (some (k + 118)), none, some none, some none, some none, some none, some none, some none, none, none] := ⟨hk0, O3⟩
  clear hs3 ot3 g3 it3 E3 ob2 L2 O2 T2 F2 I1_2 NOW_2
  refine pw_aload_n 38 rfl rfl rfl ?_
  refine pw_iconst (v := nI 0) 39 rfl rfl (by decide) ?_
  refine pw_putZ 42 rfl rfl (by first | assumption | exact ⟨by decide, rfl⟩) rfl (by decide) (by first | exact Or.inl rfl | exact Or.inr rfl | assumption) ?_
  rw [z_st (hz0 3)]
  refine pw_aload_n 43 rfl rfl rfl ?_
  refine pw_newK (k + 232) 46 rfl rfl L3 (hz _ (by omega)).1 ?_
  refine pw_dup 47 rfl rfl rfl ?_
  refine pw_bipush (v := nI 60) 49 rfl rfl (by decide) ?_
  refine pw_cI1 52 rfl rfl rfl (Nat.le_of_ble_eq_true rfl) rfl rfl (Nat.le_of_ble_eq_true rfl) (i_Row (k := k + 232) (n := 60) (by decide) (by omega) (by rw [List.length_append, L3]; rfl) (ap_eq L3) (hz.wk (by omega)) (fun t4 g4 it4 => ?_))
  refine pw_pV ?_
  have ot4 : t4[k]? = some (.inr (10, [some (some (k + 1)), some (some (k + 4)), some (some (k + 118)), none, some none, some none, some none, some none, some none, some none, none, none])) := by rw [g4.2.1 k (by omega), ap_lt (by omega)]; exact O3
  refine pw_putR 55 rfl rfl ⟨hk0, ot4⟩ rfl (by decide) ?_
  obtain ⟨s4, hs4⟩ : ∃ z, z = t4.set k (.inr (10, List.set [some (some (k + 1)), some (some (k + 4)), some (some (k + 118)), none, some none, some none, some none, some none, some none, some none, none, none] 4 (some (some (k + 232))))) := ⟨_, rfl⟩
  rw [← hs4]
  have L4 : s4.length = k + 234 := by have := g4.1; rw [hs4, List.length_set]; omega
  have O4 : s4[k]? = some (.inr (10, [some (some (k + 1)), some (some (k + 4)), some (some (k + 118)), none, some (some (k + 232)), some none, some none, some none, some none, some none, none, none])) := by rw [hs4]; exact List.getElem?_set_self (by have := g4.1; omega)
  have E4 : ∀ x, x < k + 232 → x ≠ k → s4[x]? = s3[x]? := fun x h1 h2 => by rw [hs4, List.getElem?_set_ne (Ne.symm h2), g4.2.1 x h1, ap_lt (by omega)]
  have T4 : pmTo s4 = pmTo sh + (2992) := by have e1 := pmTo_setO (sl' := List.set [some (some (k + 1)), some (some (k + 4)), some (some (k + 118)), none, some none, some none, some none, some none, some none, some none, none, none] 4 (some (some (k + 232)))) ot4 rfl; have e2 := g4.2.2; have e3 := pmTo_new s3 4 2 rfl; rw [hs4]; omega
  have F4 : ∀ x, x < k → s4[x]? = sh[x]? := fun x h => (E4 x (by omega) (by omega)).trans (F3 x h)
  have I1_4 : isTape s4 (k + 1) := I1_3.mvS (fun x h1 h2 => E4 x (by omega) (by omega))
  have NOW_4 : isState s4 (k + 4) := NOW_3.mvS (fun x h1 h2 => E4 x (by omega) (by omega))
  have I3_4 : isState s4 (k + 118) := I3_3.mvS (fun x h1 h2 => E4 x (by omega) (by omega))
  have I4_4 : isRow s4 (k + 232) 60 := it4.mvS (fun x h1 h2 => by rw [hs4, List.getElem?_set_ne (by omega)])
  have ob4 : pmOb s4 k 10 [some (some (k + 1)), some (some (k + 4)), some (some (k + 118)), none, some (some (k + 232)), some none, some none, some none, some none, some none, none, none] := ⟨hk0, O4⟩
  clear hs4 ot4 g4 it4 E4 ob3 L3 O3 T3 F3 I1_3 NOW_3 I3_3
  refine pw_aload_n 56 rfl rfl rfl ?_
  refine pw_newK (k + 234) 59 rfl rfl L4 (hz _ (by omega)).1 ?_
  refine pw_dup 60 rfl rfl rfl ?_
  refine pw_cI0 63 rfl rfl rfl (Nat.le_of_ble_eq_true rfl) rfl rfl (Nat.le_of_ble_eq_true rfl) (i_Book (k := k + 234) (by omega) (by rw [List.length_append, L4]; rfl) (ap_eq L4) (hz.wk (by omega)) (fun t5 g5 it5 => ?_))
  refine pw_pV ?_
  have ot5 : t5[k]? = some (.inr (10, [some (some (k + 1)), some (some (k + 4)), some (some (k + 118)), none, some (some (k + 232)), some none, some none, some none, some none, some none, none, none])) := by rw [g5.2.1 k (by omega), ap_lt (by omega)]; exact O4
  refine pw_putR 66 rfl rfl ⟨hk0, ot5⟩ rfl (by decide) ?_
  obtain ⟨s5, hs5⟩ : ∃ z, z = t5.set k (.inr (10, List.set [some (some (k + 1)), some (some (k + 4)), some (some (k + 118)), none, some (some (k + 232)), some none, some none, some none, some none, some none, none, none] 5 (some (some (k + 234))))) := ⟨_, rfl⟩
  rw [← hs5]
  have L5 : s5.length = k + 291 := by have := g5.1; rw [hs5, List.length_set]; omega
  have O5 : s5[k]? = some (.inr (10, [some (some (k + 1)), some (some (k + 4)), some (some (k + 118)), none, some (some (k + 232)), some (some (k + 234)), some none, some none, some none, some none, none, none])) := by rw [hs5]; exact List.getElem?_set_self (by have := g5.1; omega)
  have E5 : ∀ x, x < k + 234 → x ≠ k → s5[x]? = s4[x]? := fun x h1 h2 => by rw [hs5, List.getElem?_set_ne (Ne.symm h2), g5.2.1 x h1, ap_lt (by omega)]
  have T5 : pmTo s5 = pmTo sh + (3214) := by have e1 := pmTo_setO (sl' := List.set [some (some (k + 1)), some (some (k + 4)), some (some (k + 118)), none, some (some (k + 232)), some none, some none, some none, some none, some none, none, none] 5 (some (some (k + 234)))) ot5 rfl; have e2 := g5.2.2; have e3 := pmTo_new s4 0 3 rfl; rw [hs5]; omega
  have F5 : ∀ x, x < k → s5[x]? = sh[x]? := fun x h => (E5 x (by omega) (by omega)).trans (F4 x h)
  have I1_5 : isTape s5 (k + 1) := I1_4.mvS (fun x h1 h2 => E5 x (by omega) (by omega))
  have NOW_5 : isState s5 (k + 4) := NOW_4.mvS (fun x h1 h2 => E5 x (by omega) (by omega))
  have I3_5 : isState s5 (k + 118) := I3_4.mvS (fun x h1 h2 => E5 x (by omega) (by omega))
  have I4_5 : isRow s5 (k + 232) 60 := I4_4.mvS (fun x h1 h2 => E5 x (by omega) (by omega))
  have I5_5 : isBook s5 (k + 234) := it5.mvS (fun x h1 h2 => by rw [hs5, List.getElem?_set_ne (by omega)])
  have ob5 : pmOb s5 k 10 [some (some (k + 1)), some (some (k + 4)), some (some (k + 118)), none, some (some (k + 232)), some (some (k + 234)), some none, some none, some none, some none, none, none] := ⟨hk0, O5⟩
  clear hs5 ot5 g5 it5 E5 ob4 L4 O4 T4 F4 I1_4 NOW_4 I3_4 I4_4
  refine pw_aload_n 67 rfl rfl rfl ?_
  refine pw_newK (k + 291) 70 rfl rfl L5 (hz _ (by omega)).1 ?_
  have a9 : pmOb (s5 ++ [.inr (9, pmBl 9)]) k 10 [some (some (k + 1)), some (some (k + 4)), some (some (k + 118)), none, some (some (k + 232)), some (some (k + 234)), some none, some none, some none, some none, none, none] := ⟨hk0, by rw [ap_lt (by omega)]; exact O5⟩
  have a8 : pmOb (s5 ++ [.inr (9, pmBl 9)]) (k + 4) 7 [some (some (k + 4 + 1)), some (some (k + 4 + 7)), some (some (k + 4 + 64))] := ⟨by omega, by rw [ap_lt (by omega)]; exact NOW_5.1.2⟩
  refine pw_dup 71 rfl rfl rfl ?_
  refine pw_aload_n 72 rfl rfl rfl ?_
  refine pw_getR 75 rfl rfl (by first | assumption | exact ⟨by decide, rfl⟩) rfl ?_
  refine pw_getR 78 rfl rfl (by first | assumption | exact ⟨by decide, rfl⟩) rfl ?_
  refine pw_cI1 81 rfl rfl rfl (Nat.le_of_ble_eq_true rfl) rfl rfl (Nat.le_of_ble_eq_true rfl) (i_Walk (k := k + 291) (kb := k + 11) (by omega) (by rw [List.length_append, L5]; rfl) (ap_eq L5) (hz.wk (by omega)) (fun t6 g6 it6 => ?_))
  refine pw_pV ?_
  have ot6 : t6[k]? = some (.inr (10, [some (some (k + 1)), some (some (k + 4)), some (some (k + 118)), none, some (some (k + 232)), some (some (k + 234)), some none, some none, some none, some none, none, none])) := by rw [g6.2.1 k (by omega), ap_lt (by omega)]; exact O5
  refine pw_putR 84 rfl rfl ⟨hk0, ot6⟩ rfl (by decide) ?_
  obtain ⟨s6, hs6⟩ : ∃ z, z = t6.set k (.inr (10, List.set [some (some (k + 1)), some (some (k + 4)), some (some (k + 118)), none, some (some (k + 232)), some (some (k + 234)), some none, some none, some none, some none, none, none] 6 (some (some (k + 291))))) := ⟨_, rfl⟩
  rw [← hs6]
  have L6 : s6.length = k + 307 := by have := g6.1; rw [hs6, List.length_set]; omega
  have O6 : s6[k]? = some (.inr (10, [some (some (k + 1)), some (some (k + 4)), some (some (k + 118)), none, some (some (k + 232)), some (some (k + 234)), some (some (k + 291)), some none, some none, some none, none, none])) := by rw [hs6]; exact List.getElem?_set_self (by have := g6.1; omega)
  have E6 : ∀ x, x < k + 291 → x ≠ k → s6[x]? = s5[x]? := fun x h1 h2 => by rw [hs6, List.getElem?_set_ne (Ne.symm h2), g6.2.1 x h1, ap_lt (by omega)]
  have T6 : pmTo s6 = pmTo sh + (4107) := by have e1 := pmTo_setO (sl' := List.set [some (some (k + 1)), some (some (k + 4)), some (some (k + 118)), none, some (some (k + 232)), some (some (k + 234)), some none, some none, some none, some none, none, none] 6 (some (some (k + 291)))) ot6 rfl; have e2 := g6.2.2; have e3 := pmTo_new s5 9 7 rfl; rw [hs6]; omega
  have F6 : ∀ x, x < k → s6[x]? = sh[x]? := fun x h => (E6 x (by omega) (by omega)).trans (F5 x h)
  have I1_6 : isTape s6 (k + 1) := I1_5.mvS (fun x h1 h2 => E6 x (by omega) (by omega))
  have NOW_6 : isState s6 (k + 4) := NOW_5.mvS (fun x h1 h2 => E6 x (by omega) (by omega))
  have I3_6 : isState s6 (k + 118) := I3_5.mvS (fun x h1 h2 => E6 x (by omega) (by omega))
  have I4_6 : isRow s6 (k + 232) 60 := I4_5.mvS (fun x h1 h2 => E6 x (by omega) (by omega))
  have I5_6 : isBook s6 (k + 234) := I5_5.mvS (fun x h1 h2 => E6 x (by omega) (by omega))
  have I6_6 : isWalk s6 (k + 291) (k + 11) := it6.mvS (fun x h1 h2 => by rw [hs6, List.getElem?_set_ne (by omega)])
  have ob6 : pmOb s6 k 10 [some (some (k + 1)), some (some (k + 4)), some (some (k + 118)), none, some (some (k + 232)), some (some (k + 234)), some (some (k + 291)), some none, some none, some none, none, none] := ⟨hk0, O6⟩
  clear hs6 ot6 g6 it6 E6 ob5 L5 O5 T5 F5 I1_5 NOW_5 I3_5 I4_5 I5_5 a9 a8
  refine pw_aload_n 85 rfl rfl rfl ?_
  refine pw_newK (k + 307) 88 rfl rfl L6 (hz _ (by omega)).1 ?_
  refine pw_dup 89 rfl rfl rfl ?_
  refine pw_bipush (v := nI 60) 91 rfl rfl (by decide) ?_
  refine pw_cI1 94 rfl rfl rfl (Nat.le_of_ble_eq_true rfl) rfl rfl (Nat.le_of_ble_eq_true rfl) (i_Line (k := k + 307) (n := 60) (by decide) (by omega) (by rw [List.length_append, L6]; rfl) (ap_eq L6) (hz.wk (by omega)) (fun t7 g7 it7 => ?_))
  refine pw_pV ?_
  have ot7 : t7[k]? = some (.inr (10, [some (some (k + 1)), some (some (k + 4)), some (some (k + 118)), none, some (some (k + 232)), some (some (k + 234)), some (some (k + 291)), some none, some none, some none, none, none])) := by rw [g7.2.1 k (by omega), ap_lt (by omega)]; exact O6
  refine pw_putR 97 rfl rfl ⟨hk0, ot7⟩ rfl (by decide) ?_
  obtain ⟨s7, hs7⟩ : ∃ z, z = t7.set k (.inr (10, List.set [some (some (k + 1)), some (some (k + 4)), some (some (k + 118)), none, some (some (k + 232)), some (some (k + 234)), some (some (k + 291)), some none, some none, some none, none, none] 7 (some (some (k + 307))))) := ⟨_, rfl⟩
  rw [← hs7]
  have L7 : s7.length = k + 312 := by have := g7.1; rw [hs7, List.length_set]; omega
  have O7 : s7[k]? = some (.inr (10, [some (some (k + 1)), some (some (k + 4)), some (some (k + 118)), none, some (some (k + 232)), some (some (k + 234)), some (some (k + 291)), some (some (k + 307)), some none, some none, none, none])) := by rw [hs7]; exact List.getElem?_set_self (by have := g7.1; omega)
  have E7 : ∀ x, x < k + 307 → x ≠ k → s7[x]? = s6[x]? := fun x h1 h2 => by rw [hs7, List.getElem?_set_ne (Ne.symm h2), g7.2.1 x h1, ap_lt (by omega)]
  have T7 : pmTo s7 = pmTo sh + (4233) := by have e1 := pmTo_setO (sl' := List.set [some (some (k + 1)), some (some (k + 4)), some (some (k + 118)), none, some (some (k + 232)), some (some (k + 234)), some (some (k + 291)), some none, some none, some none, none, none] 7 (some (some (k + 307)))) ot7 rfl; have e2 := g7.2.2; have e3 := pmTo_new s6 2 2 rfl; rw [hs7]; omega
  have F7 : ∀ x, x < k → s7[x]? = sh[x]? := fun x h => (E7 x (by omega) (by omega)).trans (F6 x h)
  have I1_7 : isTape s7 (k + 1) := I1_6.mvS (fun x h1 h2 => E7 x (by omega) (by omega))
  have NOW_7 : isState s7 (k + 4) := NOW_6.mvS (fun x h1 h2 => E7 x (by omega) (by omega))
  have I3_7 : isState s7 (k + 118) := I3_6.mvS (fun x h1 h2 => E7 x (by omega) (by omega))
  have I4_7 : isRow s7 (k + 232) 60 := I4_6.mvS (fun x h1 h2 => E7 x (by omega) (by omega))
  have I5_7 : isBook s7 (k + 234) := I5_6.mvS (fun x h1 h2 => E7 x (by omega) (by omega))
  have I6_7 : isWalk s7 (k + 291) (k + 11) := I6_6.mvS (fun x h1 h2 => E7 x (by omega) (by omega))
  have I7_7 : isLine s7 (k + 307) 60 := it7.mvS (fun x h1 h2 => by rw [hs7, List.getElem?_set_ne (by omega)])
  have ob7 : pmOb s7 k 10 [some (some (k + 1)), some (some (k + 4)), some (some (k + 118)), none, some (some (k + 232)), some (some (k + 234)), some (some (k + 291)), some (some (k + 307)), some none, some none, none, none] := ⟨hk0, O7⟩
  clear hs7 ot7 g7 it7 E7 ob6 L6 O6 T6 F6 I1_6 NOW_6 I3_6 I4_6 I5_6 I6_6
  refine pw_aload_n 98 rfl rfl rfl ?_
  refine pw_newK (k + 312) 101 rfl rfl L7 (hz _ (by omega)).1 ?_
  refine pw_dup 102 rfl rfl rfl ?_
  refine pw_bipush (v := nI 11) 104 rfl rfl (by decide) ?_
  refine pw_cI1 107 rfl rfl rfl (Nat.le_of_ble_eq_true rfl) rfl rfl (Nat.le_of_ble_eq_true rfl) (i_Row (k := k + 312) (n := 11) (by decide) (by omega) (by rw [List.length_append, L7]; rfl) (ap_eq L7) (hz.wk (by omega)) (fun t8 g8 it8 => ?_))
  refine pw_pV ?_
  have ot8 : t8[k]? = some (.inr (10, [some (some (k + 1)), some (some (k + 4)), some (some (k + 118)), none, some (some (k + 232)), some (some (k + 234)), some (some (k + 291)), some (some (k + 307)), some none, some none, none, none])) := by rw [g8.2.1 k (by omega), ap_lt (by omega)]; exact O7
  refine pw_putR 110 rfl rfl ⟨hk0, ot8⟩ rfl (by decide) ?_
  obtain ⟨s8, hs8⟩ : ∃ z, z = t8.set k (.inr (10, List.set [some (some (k + 1)), some (some (k + 4)), some (some (k + 118)), none, some (some (k + 232)), some (some (k + 234)), some (some (k + 291)), some (some (k + 307)), some none, some none, none, none] 8 (some (some (k + 312))))) := ⟨_, rfl⟩
  rw [← hs8]
  have L8 : s8.length = k + 314 := by have := g8.1; rw [hs8, List.length_set]; omega
  have O8 : s8[k]? = some (.inr (10, [some (some (k + 1)), some (some (k + 4)), some (some (k + 118)), none, some (some (k + 232)), some (some (k + 234)), some (some (k + 291)), some (some (k + 307)), some (some (k + 312)), some none, none, none])) := by rw [hs8]; exact List.getElem?_set_self (by have := g8.1; omega)
  have E8 : ∀ x, x < k + 312 → x ≠ k → s8[x]? = s7[x]? := fun x h1 h2 => by rw [hs8, List.getElem?_set_ne (Ne.symm h2), g8.2.1 x h1, ap_lt (by omega)]
  have T8 : pmTo s8 = pmTo sh + (4246) := by have e1 := pmTo_setO (sl' := List.set [some (some (k + 1)), some (some (k + 4)), some (some (k + 118)), none, some (some (k + 232)), some (some (k + 234)), some (some (k + 291)), some (some (k + 307)), some none, some none, none, none] 8 (some (some (k + 312)))) ot8 rfl; have e2 := g8.2.2; have e3 := pmTo_new s7 4 2 rfl; rw [hs8]; omega
  have F8 : ∀ x, x < k → s8[x]? = sh[x]? := fun x h => (E8 x (by omega) (by omega)).trans (F7 x h)
  have I1_8 : isTape s8 (k + 1) := I1_7.mvS (fun x h1 h2 => E8 x (by omega) (by omega))
  have NOW_8 : isState s8 (k + 4) := NOW_7.mvS (fun x h1 h2 => E8 x (by omega) (by omega))
  have I3_8 : isState s8 (k + 118) := I3_7.mvS (fun x h1 h2 => E8 x (by omega) (by omega))
  have I4_8 : isRow s8 (k + 232) 60 := I4_7.mvS (fun x h1 h2 => E8 x (by omega) (by omega))
  have I5_8 : isBook s8 (k + 234) := I5_7.mvS (fun x h1 h2 => E8 x (by omega) (by omega))
  have I6_8 : isWalk s8 (k + 291) (k + 11) := I6_7.mvS (fun x h1 h2 => E8 x (by omega) (by omega))
  have I7_8 : isLine s8 (k + 307) 60 := I7_7.mvS (fun x h1 h2 => E8 x (by omega) (by omega))
  have I8_8 : isRow s8 (k + 312) 11 := it8.mvS (fun x h1 h2 => by rw [hs8, List.getElem?_set_ne (by omega)])
  have ob8 : pmOb s8 k 10 [some (some (k + 1)), some (some (k + 4)), some (some (k + 118)), none, some (some (k + 232)), some (some (k + 234)), some (some (k + 291)), some (some (k + 307)), some (some (k + 312)), some none, none, none] := ⟨hk0, O8⟩
  clear hs8 ot8 g8 it8 E8 ob7 L7 O7 T7 F7 I1_7 NOW_7 I3_7 I4_7 I5_7 I6_7 I7_7
  refine pw_aload_n 111 rfl rfl rfl ?_
  refine pw_iconst (v := nI 4) 112 rfl rfl (by decide) ?_
  refine pw_newQK 4 (k + 314) 115 rfl rfl rfl (by decide) L8 ?_
  have ot9 : (s8 ++ [Sum.inl (5, 4, List.replicate 4 none)])[k]? = some (.inr (10, [some (some (k + 1)), some (some (k + 4)), some (some (k + 118)), none, some (some (k + 232)), some (some (k + 234)), some (some (k + 291)), some (some (k + 307)), some (some (k + 312)), some none, none, none])) := by rw [ap_lt (by omega)]; exact O8
  refine pw_putR 118 rfl rfl ⟨hk0, ot9⟩ rfl (by decide) ?_
  obtain ⟨s9, hs9⟩ : ∃ z, z = (s8 ++ [Sum.inl (5, 4, List.replicate 4 none)]).set k (.inr (10, List.set [some (some (k + 1)), some (some (k + 4)), some (some (k + 118)), none, some (some (k + 232)), some (some (k + 234)), some (some (k + 291)), some (some (k + 307)), some (some (k + 312)), some none, none, none] 9 (some (some (k + 314))))) := ⟨_, rfl⟩
  rw [← hs9]
  have L9 : s9.length = k + 315 := by rw [hs9, List.length_set, List.length_append, L8]; rfl
  have O9 : s9[k]? = some (.inr (10, [some (some (k + 1)), some (some (k + 4)), some (some (k + 118)), none, some (some (k + 232)), some (some (k + 234)), some (some (k + 291)), some (some (k + 307)), some (some (k + 312)), some (some (k + 314)), none, none])) := by rw [hs9]; exact List.getElem?_set_self (by rw [List.length_append]; omega)
  have E9 : ∀ x, x < k + 314 → x ≠ k → s9[x]? = s8[x]? := fun x h1 h2 => by rw [hs9, List.getElem?_set_ne (Ne.symm h2), ap_lt (by omega)]
  have T9 : pmTo s9 = pmTo sh + (4250) := by have e1 := pmTo_setO (sl' := List.set [some (some (k + 1)), some (some (k + 4)), some (some (k + 118)), none, some (some (k + 232)), some (some (k + 234)), some (some (k + 291)), some (some (k + 307)), some (some (k + 312)), some none, none, none] 9 (some (some (k + 314)))) ot9 rfl; have e3 := pmTo_arr s8 5 4 (List.replicate 4 none); rw [hs9]; omega
  have F9 : ∀ x, x < k → s9[x]? = sh[x]? := fun x h => (E9 x (by omega) (by omega)).trans (F8 x h)
  have I1_9 : isTape s9 (k + 1) := I1_8.mvS (fun x h1 h2 => E9 x (by omega) (by omega))
  have NOW_9 : isState s9 (k + 4) := NOW_8.mvS (fun x h1 h2 => E9 x (by omega) (by omega))
  have I3_9 : isState s9 (k + 118) := I3_8.mvS (fun x h1 h2 => E9 x (by omega) (by omega))
  have I4_9 : isRow s9 (k + 232) 60 := I4_8.mvS (fun x h1 h2 => E9 x (by omega) (by omega))
  have I5_9 : isBook s9 (k + 234) := I5_8.mvS (fun x h1 h2 => E9 x (by omega) (by omega))
  have I6_9 : isWalk s9 (k + 291) (k + 11) := I6_8.mvS (fun x h1 h2 => E9 x (by omega) (by omega))
  have I7_9 : isLine s9 (k + 307) 60 := I7_8.mvS (fun x h1 h2 => E9 x (by omega) (by omega))
  have I8_9 : isRow s9 (k + 312) 11 := I8_8.mvS (fun x h1 h2 => E9 x (by omega) (by omega))
  have I9_9 : pmAy s9 (k + 314) 5 4 (List.replicate 4 none) := ⟨by omega, by rw [hs9, List.getElem?_set_ne (by omega)]; exact ap_eq L8, by decide⟩
  have ob9 : pmOb s9 k 10 [some (some (k + 1)), some (some (k + 4)), some (some (k + 118)), none, some (some (k + 232)), some (some (k + 234)), some (some (k + 291)), some (some (k + 307)), some (some (k + 312)), some (some (k + 314)), none, none] := ⟨hk0, O9⟩
  clear hs9 ot9 E9 ob8 L8 O8 T8 F8 I1_8 NOW_8 I3_8 I4_8 I5_8 I6_8 I7_8 I8_8
  refine pw_aload_n 119 rfl rfl rfl ?_
  refine pw_bipush (v := (-4)) 121 rfl rfl (by decide) ?_
  refine pw_putI 124 rfl rfl (by first | assumption | exact ⟨by decide, rfl⟩) rfl (by decide) ?_
  refine pw_aload_n 125 rfl rfl rfl ?_
  refine pw_iconst (v := nI 0) 126 rfl rfl (by decide) ?_
  refine pw_putI 129 rfl rfl (by first | assumption | exact ⟨by decide, rfl⟩) rfl (by decide) ?_
  rw [z_st (by rw [st_row _ _ _ _ (by decide)]; exact hz0 11)]
  refine pw_iconst (v := nI 0) 130 rfl rfl (by decide) ?_
  refine pw_istore1 131 rfl rfl rfl ?_
  have hz2 : fz (pmSt M k 10 (-4)) N (k + 315) := fun x hx => ⟨by rw [st_ne _ _ _ _ (by omega)]; exact (hz x (by omega)).1, (hz x (by omega)).2⟩
  refine iApp_loop hk0 hz2 O9 (fun s l1 l2 l3 l4 l5 => ?_) 4 0 s9 (by decide) L9 (by rw [rf_0]; exact I9_9.2.1) (fun _ _ _ => rfl) (fun j hj => absurd hj (Nat.not_lt_zero j)) rfl
  skip
  have e9 : ∀ x, x ≠ k + 314 → x < k + 315 → s[x]? = s9[x]? := l3
  exact pw_vret rfl (kk s ⟨l1, fun x hx => by rw [e9 x (by omega) (by omega)]; exact F9 x hx, by omega⟩ ⟨⟨hk0, by rw [e9 k (by omega) (by omega)]; exact O9⟩, I1_9.mvS (fun x h1 h2 => e9 x (by omega) (by omega)), NOW_9.mvS (fun x h1 h2 => e9 x (by omega) (by omega)), I3_9.mvS (fun x h1 h2 => e9 x (by omega) (by omega)), I4_9.mvS (fun x h1 h2 => e9 x (by omega) (by omega)), I5_9.mvS (fun x h1 h2 => e9 x (by omega) (by omega)), I6_9.mvS (fun x h1 h2 => e9 x (by omega) (by omega)), I7_9.mvS (fun x h1 h2 => e9 x (by omega) (by omega)), I8_9.mvS (fun x h1 h2 => e9 x (by omega) (by omega)), ⟨by omega, l2, by decide⟩, l4⟩)
/-- the reference, made so far: of its arrays the first ones -/
def mS (sh s : pmS) (k i : Nat) (SL : List (Option (Option Nat))) (c : Nat) (As : List (Nat × Nat)) : Prop := (s.length = k + 1 + i ∧ As.length = i) ∧ s[k]? = some (.inr (11, SL)) ∧ (∀ x, x < k → s[x]? = sh[x]?) ∧ pmTo s = pmTo sh + c ∧ ∀ j tn, As[j]? = some tn → s[k + 1 + j]? = some (.inl (tn.1, tn.2, []))
theorem mS_arr {s : pmS} {i c n tg : Nat} {SL SL' : List (Option (Option Nat))} {As : List (Nat × Nat)} (h : mS sh s k i SL c As) (e : SL'.length = SL.length) : mS sh ((s ++ [Sum.inl (tg, n, [])]).set k (.inr (11, SL'))) k (i + 1) SL' (c + n) (As ++ [(tg, n)]) := by
  obtain ⟨⟨h1, h0⟩, h2, h3, h4, h5⟩ := h
  have ot : (s ++ [Sum.inl (tg, n, [])])[k]? = some (.inr (11, SL)) := by rw [ap_lt (by omega)]; exact h2
  refine ⟨⟨?_, ?_⟩, ?_, fun x hx => ?_, ?_, fun j tn hj => ?_⟩
  · rw [List.length_set, List.length_append, h1]; rfl
  · rw [List.length_append, h0]; rfl
  · exact List.getElem?_set_self (by rw [List.length_append]; omega)
  · rw [List.getElem?_set_ne (by omega), ap_lt (by omega)]; exact h3 x hx
  · have e1 := pmTo_setO (sl' := SL') ot e
    have e3 := pmTo_arr s tg n []
    omega
  · rw [List.getElem?_set_ne (by omega)]
    by_cases q : j < i
    · rw [List.getElem?_append_left (by omega)] at hj
      rw [ap_lt (by omega)]; exact h5 j tn hj
    · rw [List.getElem?_append_right (by omega)] at hj
      have hj0 : j = i := by
        have := (List.getElem?_eq_some_iff.mp hj).1
        simp only [List.length_singleton] at this
        omega
      subst hj0
      rw [h0, Nat.sub_self] at hj
      cases hj
      exact ap_eq h1
theorem pw_mI {mi pc len a b c0 x b2 len2 j i c n : Nat} {ls t : List Value} {s : pmS} {SL : List (Option (Option Nat))} {As : List (Nat × Nat)} (q q2 : Nat) (h : pmCode mi pc = some (.newarray .int, len, a, b, c0)) (hp : pc + len = q) (h' : pmCode mi q = some (.putfield x, len2, 11 + 200, j, b2)) (hp2 : q + len2 = q2) (hk0 : 0 < k) (hn : n ≤ 1000) (hm : mS sh s k i SL c As) (hM : M (k + 1 + i) = fun _ => 0) (hj : (SL[j]?).map Option.isSome = some true) (kk : ∀ s', mS sh s' k (i + 1) (SL.set j (some (some (k + 1 + i)))) (c + n) (As ++ [(0, n)]) → PW mi q2 ls t s' M N Q) : PW mi pc ls (.int (nI n) :: .ref k :: t) s M N Q :=
  pw_newIK n (k + 1 + i) q h hp rfl hn hm.1.1 hM (pw_putR q2 h' hp2 ⟨hk0, by rw [ap_lt (by have := hm.1.1; omega)]; exact hm.2.1⟩ hj (by decide) (kk _ (mS_arr hm (by simp))))
theorem pw_mZ {mi pc len a b c0 x b2 len2 j i c n : Nat} {ls t : List Value} {s : pmS} {SL : List (Option (Option Nat))} {As : List (Nat × Nat)} (q q2 : Nat) (h : pmCode mi pc = some (.newarray .boolean, len, a, b, c0)) (hp : pc + len = q) (h' : pmCode mi q = some (.putfield x, len2, 11 + 200, j, b2)) (hp2 : q + len2 = q2) (hk0 : 0 < k) (hn : n ≤ 1000) (hm : mS sh s k i SL c As) (hM : M (k + 1 + i) = fun _ => 0) (hj : (SL[j]?).map Option.isSome = some true) (kk : ∀ s', mS sh s' k (i + 1) (SL.set j (some (some (k + 1 + i)))) (c + n) (As ++ [(2, n)]) → PW mi q2 ls t s' M N Q) : PW mi pc ls (.int (nI n) :: .ref k :: t) s M N Q :=
  pw_newZK n (k + 1 + i) q h hp rfl hn hm.1.1 hM (pw_putR q2 h' hp2 ⟨hk0, by rw [ap_lt (by have := hm.1.1; omega)]; exact hm.2.1⟩ hj (by decide) (kk _ (mS_arr hm (by simp))))
theorem pw_mL {mi pc len a b c0 x b2 len2 j i c n : Nat} {ls t : List Value} {s : pmS} {SL : List (Option (Option Nat))} {As : List (Nat × Nat)} (q q2 : Nat) (h : pmCode mi pc = some (.newarray .long, len, a, b, c0)) (hp : pc + len = q) (h' : pmCode mi q = some (.putfield x, len2, 11 + 200, j, b2)) (hp2 : q + len2 = q2) (hk0 : 0 < k) (hn : n ≤ 1000) (hm : mS sh s k i SL c As) (hM : N (k + 1 + i) = fun _ => 0) (hj : (SL[j]?).map Option.isSome = some true) (kk : ∀ s', mS sh s' k (i + 1) (SL.set j (some (some (k + 1 + i)))) (c + n) (As ++ [(1, n)]) → PW mi q2 ls t s' M N Q) : PW mi pc ls (.int (nI n) :: .ref k :: t) s M N Q :=
  pw_newLK n (k + 1 + i) q h hp rfl hn hm.1.1 hM (pw_putR q2 h' hp2 ⟨hk0, by rw [ap_lt (by have := hm.1.1; omega)]; exact hm.2.1⟩ hj (by decide) (kk _ (mS_arr hm (by simp))))
set_option maxHeartbeats 4000000 in
theorem i_Mod (hk0 : 0 < k) (hk : sh.length = k + 1) (ho : sh[k]? = some (.inr (11, pmBl 11))) (hz : fz M N k) (kk : ∀ sh', grw sh sh' k (k + 21) 4093 → isMod sh' k → Q none sh' (pmSt M k 7 (-4)) N) : PW mX11_init 0 [.ref k] [] sh M N Q := by
  have bl : pmBl 11 = [some none, none, some none, some none, some none, none, none, none, some none, some none, some none, none, none, some none, some none, some none, some none, some none, none, some none, some none, none, some none, some none, none, some none, some none, some none, some none] := rfl
  rw [bl] at ho
  have h0 : mS sh sh k 0 [some none, none, some none, some none, some none, none, none, none, some none, some none, some none, none, none, some none, some none, some none, some none, some none, none, some none, some none, none, some none, some none, none, some none, some none, some none, some none] 0 [] := ⟨⟨hk, rfl⟩, ho, fun _ _ => rfl, rfl, fun j tn hj => by simp at hj⟩
  refine pw_aload_n 1 rfl rfl rfl ?_
  refine pw_objInit 4 rfl rfl (Nat.le_of_ble_eq_true rfl) ?_
  refine pw_aload_n 5 rfl rfl rfl ?_
  refine pw_sipush (v := nI 150) 8 rfl rfl (by decide) ?_
  refine pw_mI (n := 150) 10 13 rfl rfl rfl rfl hk0 (by decide) h0 (hz _ (by omega)).1 rfl (fun s1 g => ?_)
  have h1 : mS sh s1 k 1 [some (some (k + 1)), none, some none, some none, some none, none, none, none, some none, some none, some none, none, none, some none, some none, some none, some none, some none, none, some none, some none, none, some none, some none, none, some none, some none, some none, some none] 150 [(0, 150)] := g
  clear g h0
  refine pw_aload_n 14 rfl rfl rfl ?_
  refine pw_sipush (v := nI 151) 17 rfl rfl (by decide) ?_
  refine pw_mI (n := 151) 19 22 rfl rfl rfl rfl hk0 (by decide) h1 (hz _ (by omega)).1 rfl (fun s2 g => ?_)
  have h2 : mS sh s2 k 2 [some (some (k + 1)), none, some (some (k + 2)), some none, some none, none, none, none, some none, some none, some none, none, none, some none, some none, some none, some none, some none, none, some none, some none, none, some none, some none, none, some none, some none, some none, some none] 301 [(0, 150), (0, 151)] := g
  clear g h1
  refine pw_aload_n 23 rfl rfl rfl ?_
  refine pw_bipush (v := nI 122) 25 rfl rfl (by decide) ?_
  refine pw_mI (n := 122) 27 30 rfl rfl rfl rfl hk0 (by decide) h2 (hz _ (by omega)).1 rfl (fun s3 g => ?_)
  have h3 : mS sh s3 k 3 [some (some (k + 1)), none, some (some (k + 2)), some (some (k + 3)), some none, none, none, none, some none, some none, some none, none, none, some none, some none, some none, some none, some none, none, some none, some none, none, some none, some none, none, some none, some none, some none, some none] 423 [(0, 150), (0, 151), (0, 122)] := g
  clear g h2
  refine pw_aload_n 31 rfl rfl rfl ?_
  refine pw_sipush (v := nI 976) 34 rfl rfl (by decide) ?_
  refine pw_mI (n := 976) 36 39 rfl rfl rfl rfl hk0 (by decide) h3 (hz _ (by omega)).1 rfl (fun s4 g => ?_)
  have h4 : mS sh s4 k 4 [some (some (k + 1)), none, some (some (k + 2)), some (some (k + 3)), some (some (k + 4)), none, none, none, some none, some none, some none, none, none, some none, some none, some none, some none, some none, none, some none, some none, none, some none, some none, none, some none, some none, some none, some none] 1399 [(0, 150), (0, 151), (0, 122), (0, 976)] := g
  clear g h3
  have ob : pmOb s4 k 11 [some (some (k + 1)), none, some (some (k + 2)), some (some (k + 3)), some (some (k + 4)), none, none, none, some none, some none, some none, none, none, some none, some none, some none, some none, some none, none, some none, some none, none, some none, some none, none, some none, some none, some none, some none] := ⟨hk0, h4.2.1⟩
  refine pw_aload_n 40 rfl rfl rfl ?_
  refine pw_bipush (v := (-4)) 42 rfl rfl (by decide) ?_
  refine pw_putI 45 rfl rfl (by first | assumption | exact ⟨by decide, rfl⟩) rfl (by decide) ?_
  clear ob
  have hz : fz (pmSt M k 7 (-4)) N (k + 1) := fun x hx => ⟨by rw [st_ne _ _ _ _ (by omega)]; exact (hz x (by omega)).1, (hz x (by omega)).2⟩
  refine pw_aload_n 46 rfl rfl rfl ?_
  refine pw_sipush (v := nI 151) 49 rfl rfl (by decide) ?_
  refine pw_mI (n := 151) 51 54 rfl rfl rfl rfl hk0 (by decide) h4 (hz _ (by omega)).1 rfl (fun s5 g => ?_)
  have h5 : mS sh s5 k 5 [some (some (k + 1)), none, some (some (k + 2)), some (some (k + 3)), some (some (k + 4)), none, none, none, some (some (k + 5)), some none, some none, none, none, some none, some none, some none, some none, some none, none, some none, some none, none, some none, some none, none, some none, some none, some none, some none] 1550 [(0, 150), (0, 151), (0, 122), (0, 976), (0, 151)] := g
  clear g h4
  refine pw_aload_n 55 rfl rfl rfl ?_
  refine pw_bipush (v := nI 122) 57 rfl rfl (by decide) ?_
  refine pw_mI (n := 122) 59 62 rfl rfl rfl rfl hk0 (by decide) h5 (hz _ (by omega)).1 rfl (fun s6 g => ?_)
  have h6 : mS sh s6 k 6 [some (some (k + 1)), none, some (some (k + 2)), some (some (k + 3)), some (some (k + 4)), none, none, none, some (some (k + 5)), some (some (k + 6)), some none, none, none, some none, some none, some none, some none, some none, none, some none, some none, none, some none, some none, none, some none, some none, some none, some none] 1672 [(0, 150), (0, 151), (0, 122), (0, 976), (0, 151), (0, 122)] := g
  clear g h5
  refine pw_aload_n 63 rfl rfl rfl ?_
  refine pw_sipush (v := nI 976) 66 rfl rfl (by decide) ?_
  refine pw_mI (n := 976) 68 71 rfl rfl rfl rfl hk0 (by decide) h6 (hz _ (by omega)).1 rfl (fun s7 g => ?_)
  have h7 : mS sh s7 k 7 [some (some (k + 1)), none, some (some (k + 2)), some (some (k + 3)), some (some (k + 4)), none, none, none, some (some (k + 5)), some (some (k + 6)), some (some (k + 7)), none, none, some none, some none, some none, some none, some none, none, some none, some none, none, some none, some none, none, some none, some none, some none, some none] 2648 [(0, 150), (0, 151), (0, 122), (0, 976), (0, 151), (0, 122), (0, 976)] := g
  clear g h6
  refine pw_aload_n 72 rfl rfl rfl ?_
  refine pw_iconst (v := nI 4) 73 rfl rfl (by decide) ?_
  refine pw_mZ (n := 4) 75 78 rfl rfl rfl rfl hk0 (by decide) h7 (hz _ (by omega)).1 rfl (fun s8 g => ?_)
  have h8 : mS sh s8 k 8 [some (some (k + 1)), none, some (some (k + 2)), some (some (k + 3)), some (some (k + 4)), none, none, none, some (some (k + 5)), some (some (k + 6)), some (some (k + 7)), none, none, some (some (k + 8)), some none, some none, some none, some none, none, some none, some none, none, some none, some none, none, some none, some none, some none, some none] 2652 [(0, 150), (0, 151), (0, 122), (0, 976), (0, 151), (0, 122), (0, 976), (2, 4)] := g
  clear g h7
  refine pw_aload_n 79 rfl rfl rfl ?_
  refine pw_iconst (v := nI 4) 80 rfl rfl (by decide) ?_
  refine pw_mI (n := 4) 82 85 rfl rfl rfl rfl hk0 (by decide) h8 (hz _ (by omega)).1 rfl (fun s9 g => ?_)
  have h9 : mS sh s9 k 9 [some (some (k + 1)), none, some (some (k + 2)), some (some (k + 3)), some (some (k + 4)), none, none, none, some (some (k + 5)), some (some (k + 6)), some (some (k + 7)), none, none, some (some (k + 8)), some (some (k + 9)), some none, some none, some none, none, some none, some none, none, some none, some none, none, some none, some none, some none, some none] 2656 [(0, 150), (0, 151), (0, 122), (0, 976), (0, 151), (0, 122), (0, 976), (2, 4), (0, 4)] := g
  clear g h8
  refine pw_aload_n 86 rfl rfl rfl ?_
  refine pw_iconst (v := nI 4) 87 rfl rfl (by decide) ?_
  refine pw_mI (n := 4) 89 92 rfl rfl rfl rfl hk0 (by decide) h9 (hz _ (by omega)).1 rfl (fun s10 g => ?_)
  have h10 : mS sh s10 k 10 [some (some (k + 1)), none, some (some (k + 2)), some (some (k + 3)), some (some (k + 4)), none, none, none, some (some (k + 5)), some (some (k + 6)), some (some (k + 7)), none, none, some (some (k + 8)), some (some (k + 9)), some (some (k + 10)), some none, some none, none, some none, some none, none, some none, some none, none, some none, some none, some none, some none] 2660 [(0, 150), (0, 151), (0, 122), (0, 976), (0, 151), (0, 122), (0, 976), (2, 4), (0, 4), (0, 4)] := g
  clear g h9
  refine pw_aload_n 93 rfl rfl rfl ?_
  refine pw_sipush (v := nI 240) 96 rfl rfl (by decide) ?_
  refine pw_mL (n := 240) 98 101 rfl rfl rfl rfl hk0 (by decide) h10 (hz _ (by omega)).2 rfl (fun s11 g => ?_)
  have h11 : mS sh s11 k 11 [some (some (k + 1)), none, some (some (k + 2)), some (some (k + 3)), some (some (k + 4)), none, none, none, some (some (k + 5)), some (some (k + 6)), some (some (k + 7)), none, none, some (some (k + 8)), some (some (k + 9)), some (some (k + 10)), some (some (k + 11)), some none, none, some none, some none, none, some none, some none, none, some none, some none, some none, some none] 2900 [(0, 150), (0, 151), (0, 122), (0, 976), (0, 151), (0, 122), (0, 976), (2, 4), (0, 4), (0, 4), (1, 240)] := g
  clear g h10
  refine pw_aload_n 102 rfl rfl rfl ?_
  refine pw_bipush (v := nI 60) 104 rfl rfl (by decide) ?_
  refine pw_mL (n := 60) 106 109 rfl rfl rfl rfl hk0 (by decide) h11 (hz _ (by omega)).2 rfl (fun s12 g => ?_)
  have h12 : mS sh s12 k 12 [some (some (k + 1)), none, some (some (k + 2)), some (some (k + 3)), some (some (k + 4)), none, none, none, some (some (k + 5)), some (some (k + 6)), some (some (k + 7)), none, none, some (some (k + 8)), some (some (k + 9)), some (some (k + 10)), some (some (k + 11)), some (some (k + 12)), none, some none, some none, none, some none, some none, none, some none, some none, some none, some none] 2960 [(0, 150), (0, 151), (0, 122), (0, 976), (0, 151), (0, 122), (0, 976), (2, 4), (0, 4), (0, 4), (1, 240), (1, 60)] := g
  clear g h11
  refine pw_aload_n 110 rfl rfl rfl ?_
  refine pw_sipush (v := nI 151) 113 rfl rfl (by decide) ?_
  refine pw_mI (n := 151) 115 118 rfl rfl rfl rfl hk0 (by decide) h12 (hz _ (by omega)).1 rfl (fun s13 g => ?_)
  have h13 : mS sh s13 k 13 [some (some (k + 1)), none, some (some (k + 2)), some (some (k + 3)), some (some (k + 4)), none, none, none, some (some (k + 5)), some (some (k + 6)), some (some (k + 7)), none, none, some (some (k + 8)), some (some (k + 9)), some (some (k + 10)), some (some (k + 11)), some (some (k + 12)), none, some (some (k + 13)), some none, none, some none, some none, none, some none, some none, some none, some none] 3111 [(0, 150), (0, 151), (0, 122), (0, 976), (0, 151), (0, 122), (0, 976), (2, 4), (0, 4), (0, 4), (1, 240), (1, 60), (0, 151)] := g
  clear g h12
  refine pw_aload_n 119 rfl rfl rfl ?_
  refine pw_bipush (v := nI 60) 121 rfl rfl (by decide) ?_
  refine pw_mI (n := 60) 123 126 rfl rfl rfl rfl hk0 (by decide) h13 (hz _ (by omega)).1 rfl (fun s14 g => ?_)
  have h14 : mS sh s14 k 14 [some (some (k + 1)), none, some (some (k + 2)), some (some (k + 3)), some (some (k + 4)), none, none, none, some (some (k + 5)), some (some (k + 6)), some (some (k + 7)), none, none, some (some (k + 8)), some (some (k + 9)), some (some (k + 10)), some (some (k + 11)), some (some (k + 12)), none, some (some (k + 13)), some (some (k + 14)), none, some none, some none, none, some none, some none, some none, some none] 3171 [(0, 150), (0, 151), (0, 122), (0, 976), (0, 151), (0, 122), (0, 976), (2, 4), (0, 4), (0, 4), (1, 240), (1, 60), (0, 151), (0, 60)] := g
  clear g h13
  refine pw_aload_n 127 rfl rfl rfl ?_
  refine pw_sipush (v := nI 360) 130 rfl rfl (by decide) ?_
  refine pw_mI (n := 360) 132 135 rfl rfl rfl rfl hk0 (by decide) h14 (hz _ (by omega)).1 rfl (fun s15 g => ?_)
  have h15 : mS sh s15 k 15 [some (some (k + 1)), none, some (some (k + 2)), some (some (k + 3)), some (some (k + 4)), none, none, none, some (some (k + 5)), some (some (k + 6)), some (some (k + 7)), none, none, some (some (k + 8)), some (some (k + 9)), some (some (k + 10)), some (some (k + 11)), some (some (k + 12)), none, some (some (k + 13)), some (some (k + 14)), none, some (some (k + 15)), some none, none, some none, some none, some none, some none] 3531 [(0, 150), (0, 151), (0, 122), (0, 976), (0, 151), (0, 122), (0, 976), (2, 4), (0, 4), (0, 4), (1, 240), (1, 60), (0, 151), (0, 60), (0, 360)] := g
  clear g h14
  refine pw_aload_n 136 rfl rfl rfl ?_
  refine pw_sipush (v := nI 360) 139 rfl rfl (by decide) ?_
  refine pw_mI (n := 360) 141 144 rfl rfl rfl rfl hk0 (by decide) h15 (hz _ (by omega)).1 rfl (fun s16 g => ?_)
  have h16 : mS sh s16 k 16 [some (some (k + 1)), none, some (some (k + 2)), some (some (k + 3)), some (some (k + 4)), none, none, none, some (some (k + 5)), some (some (k + 6)), some (some (k + 7)), none, none, some (some (k + 8)), some (some (k + 9)), some (some (k + 10)), some (some (k + 11)), some (some (k + 12)), none, some (some (k + 13)), some (some (k + 14)), none, some (some (k + 15)), some (some (k + 16)), none, some none, some none, some none, some none] 3891 [(0, 150), (0, 151), (0, 122), (0, 976), (0, 151), (0, 122), (0, 976), (2, 4), (0, 4), (0, 4), (1, 240), (1, 60), (0, 151), (0, 60), (0, 360), (0, 360)] := g
  clear g h15
  refine pw_aload_n 145 rfl rfl rfl ?_
  refine pw_bipush (v := nI 10) 147 rfl rfl (by decide) ?_
  refine pw_mI (n := 10) 149 152 rfl rfl rfl rfl hk0 (by decide) h16 (hz _ (by omega)).1 rfl (fun s17 g => ?_)
  have h17 : mS sh s17 k 17 [some (some (k + 1)), none, some (some (k + 2)), some (some (k + 3)), some (some (k + 4)), none, none, none, some (some (k + 5)), some (some (k + 6)), some (some (k + 7)), none, none, some (some (k + 8)), some (some (k + 9)), some (some (k + 10)), some (some (k + 11)), some (some (k + 12)), none, some (some (k + 13)), some (some (k + 14)), none, some (some (k + 15)), some (some (k + 16)), none, some (some (k + 17)), some none, some none, some none] 3901 [(0, 150), (0, 151), (0, 122), (0, 976), (0, 151), (0, 122), (0, 976), (2, 4), (0, 4), (0, 4), (1, 240), (1, 60), (0, 151), (0, 60), (0, 360), (0, 360), (0, 10)] := g
  clear g h16
  refine pw_aload_n 153 rfl rfl rfl ?_
  refine pw_bipush (v := nI 60) 155 rfl rfl (by decide) ?_
  refine pw_mI (n := 60) 157 160 rfl rfl rfl rfl hk0 (by decide) h17 (hz _ (by omega)).1 rfl (fun s18 g => ?_)
  have h18 : mS sh s18 k 18 [some (some (k + 1)), none, some (some (k + 2)), some (some (k + 3)), some (some (k + 4)), none, none, none, some (some (k + 5)), some (some (k + 6)), some (some (k + 7)), none, none, some (some (k + 8)), some (some (k + 9)), some (some (k + 10)), some (some (k + 11)), some (some (k + 12)), none, some (some (k + 13)), some (some (k + 14)), none, some (some (k + 15)), some (some (k + 16)), none, some (some (k + 17)), some (some (k + 18)), some none, some none] 3961 [(0, 150), (0, 151), (0, 122), (0, 976), (0, 151), (0, 122), (0, 976), (2, 4), (0, 4), (0, 4), (1, 240), (1, 60), (0, 151), (0, 60), (0, 360), (0, 360), (0, 10), (0, 60)] := g
  clear g h17
  refine pw_aload_n 161 rfl rfl rfl ?_
  refine pw_bipush (v := nI 10) 163 rfl rfl (by decide) ?_
  refine pw_mI (n := 10) 165 168 rfl rfl rfl rfl hk0 (by decide) h18 (hz _ (by omega)).1 rfl (fun s19 g => ?_)
  have h19 : mS sh s19 k 19 [some (some (k + 1)), none, some (some (k + 2)), some (some (k + 3)), some (some (k + 4)), none, none, none, some (some (k + 5)), some (some (k + 6)), some (some (k + 7)), none, none, some (some (k + 8)), some (some (k + 9)), some (some (k + 10)), some (some (k + 11)), some (some (k + 12)), none, some (some (k + 13)), some (some (k + 14)), none, some (some (k + 15)), some (some (k + 16)), none, some (some (k + 17)), some (some (k + 18)), some (some (k + 19)), some none] 3971 [(0, 150), (0, 151), (0, 122), (0, 976), (0, 151), (0, 122), (0, 976), (2, 4), (0, 4), (0, 4), (1, 240), (1, 60), (0, 151), (0, 60), (0, 360), (0, 360), (0, 10), (0, 60), (0, 10)] := g
  clear g h18
  refine pw_aload_n 169 rfl rfl rfl ?_
  refine pw_bipush (v := nI 122) 171 rfl rfl (by decide) ?_
  refine pw_mI (n := 122) 173 176 rfl rfl rfl rfl hk0 (by decide) h19 (hz _ (by omega)).1 rfl (fun s20 g => ?_)
  have h20 : mS sh s20 k 20 [some (some (k + 1)), none, some (some (k + 2)), some (some (k + 3)), some (some (k + 4)), none, none, none, some (some (k + 5)), some (some (k + 6)), some (some (k + 7)), none, none, some (some (k + 8)), some (some (k + 9)), some (some (k + 10)), some (some (k + 11)), some (some (k + 12)), none, some (some (k + 13)), some (some (k + 14)), none, some (some (k + 15)), some (some (k + 16)), none, some (some (k + 17)), some (some (k + 18)), some (some (k + 19)), some (some (k + 20))] 4093 [(0, 150), (0, 151), (0, 122), (0, 976), (0, 151), (0, 122), (0, 976), (2, 4), (0, 4), (0, 4), (1, 240), (1, 60), (0, 151), (0, 60), (0, 360), (0, 360), (0, 10), (0, 60), (0, 10), (0, 122)] := g
  clear g h19
  obtain ⟨⟨g1, -⟩, g2, g3, g4, g5⟩ := h20
  refine pw_vret rfl (kk s20 ⟨g1, g3, g4⟩ ⟨⟨hk0, g2⟩, ⟨by omega, g5 0 _ rfl, by decide⟩, ⟨by omega, g5 1 _ rfl, by decide⟩, ⟨by omega, g5 2 _ rfl, by decide⟩, ⟨by omega, g5 3 _ rfl, by decide⟩, ⟨by omega, g5 4 _ rfl, by decide⟩, ⟨by omega, g5 5 _ rfl, by decide⟩, ⟨by omega, g5 6 _ rfl, by decide⟩, ⟨by omega, g5 7 _ rfl, by decide⟩, ⟨by omega, g5 8 _ rfl, by decide⟩, ⟨by omega, g5 9 _ rfl, by decide⟩, ⟨by omega, g5 10 _ rfl, by decide⟩, ⟨by omega, g5 11 _ rfl, by decide⟩, ⟨by omega, g5 12 _ rfl, by decide⟩, ⟨by omega, g5 13 _ rfl, by decide⟩, ⟨by omega, g5 14 _ rfl, by decide⟩, ⟨by omega, g5 15 _ rfl, by decide⟩, ⟨by omega, g5 16 _ rfl, by decide⟩, ⟨by omega, g5 17 _ rfl, by decide⟩, ⟨by omega, g5 18 _ rfl, by decide⟩, ⟨by omega, g5 19 _ rfl, by decide⟩⟩)
end INJ
