/-! the methods that are called: their words -/
/-- what is known of a method that is called -/
def ckMt (mi : Nat) : Bool :=
  let y := pmY mi
  let x := pmWx.getD mi (0, 0, 0, 0)
  let ps := (parseMethodDescriptor y.desc).map (fun d => d.parameters.length)
  decide (y.cls ≠ "java/lang/invoke/MethodHandle" ∧ y.cls ≠ "java/lang/invoke/VarHandle") && decide (y.cls = pmOwn mi) && ckLw x.1 (.code y (pmBy mi) (pmL mi) (pmRt mi)) && ckLw x.2.2.2 (.initialized y.cls) &&
  (match pmKd mi with
    | 0 => ckLw x.2.1 (.instanceMethod y) && ckLw x.2.2.1 (.selects y.cls y y) && decide ((vwCl[pmCi mi]?).map (fun r => r.1) = some y.cls) && decide (ps = some (pmNa mi - 1) ∧ 1 ≤ pmNa mi)
    | 1 => ckLw x.2.1 (.static y) && decide (ps = some (pmNa mi))
    | 2 => ckLw x.2.1 (.instanceMethod y) && decide (y.name = "<init>") && decide (pmRt mi = none) && decide (ps = some (pmNa mi - 1) ∧ 1 ≤ pmNa mi)
    | _ => false)
theorem ckMt_0 : ((List.range 21).all fun j => ckMt (0 + j)) = true := by decide +kernel
theorem ckMt_1 : ((List.range 21).all fun j => ckMt (21 + j)) = true := by decide +kernel
theorem ckMt_2 : ((List.range 21).all fun j => ckMt (42 + j)) = true := by decide +kernel
theorem ckMt_3 : ((List.range 21).all fun j => ckMt (63 + j)) = true := by decide +kernel
theorem ckMt_4 : ((List.range 21).all fun j => ckMt (84 + j)) = true := by decide +kernel
theorem ckMt_5 : ((List.range 21).all fun j => ckMt (105 + j)) = true := by decide +kernel
theorem ckMt_6 : ((List.range 21).all fun j => ckMt (126 + j)) = true := by decide +kernel
theorem ckMt_7 : ((List.range 21).all fun j => ckMt (147 + j)) = true := by decide +kernel
theorem ckMt_8 : ((List.range 21).all fun j => ckMt (168 + j)) = true := by decide +kernel
theorem ckMt_all : ∀ mj, mj < 189 → ckMt mj = true := by
  intro mj h
  have hd : mj = 21 * (mj / 21) + mj % 21 := by omega
  have hq : mj / 21 < 9 := by omega
  have hr : mj % 21 < 21 := by omega
  generalize mj / 21 = q at hd hq
  generalize mj % 21 = r at hd hr
  subst hd
  match q, hq with
  | 0, _ => exact List.all_eq_true.mp ckMt_0 r (List.mem_range.mpr hr)
  | 1, _ => exact List.all_eq_true.mp ckMt_1 r (List.mem_range.mpr hr)
  | 2, _ => exact List.all_eq_true.mp ckMt_2 r (List.mem_range.mpr hr)
  | 3, _ => exact List.all_eq_true.mp ckMt_3 r (List.mem_range.mpr hr)
  | 4, _ => exact List.all_eq_true.mp ckMt_4 r (List.mem_range.mpr hr)
  | 5, _ => exact List.all_eq_true.mp ckMt_5 r (List.mem_range.mpr hr)
  | 6, _ => exact List.all_eq_true.mp ckMt_6 r (List.mem_range.mpr hr)
  | 7, _ => exact List.all_eq_true.mp ckMt_7 r (List.mem_range.mpr hr)
  | 8, _ => exact List.all_eq_true.mp ckMt_8 r (List.mem_range.mpr hr)
theorem pf_floorMod : plainFor yJ9_floorMod_7cf53 = true := by decide +kernel
theorem pf_max : plainFor yJ9_max_7cf53 = true := by decide +kernel
theorem pf_min : plainFor yJ9_min_7cf53 = true := by decide +kernel
theorem pf_rest : ((List.range 189).all fun j => j == 185 || j == 186 || j == 187 || plainName (pmY j).cls) = true := by decide +kernel
theorem pf_all (mj : Nat) (h : mj < 189) : plainFor (pmY mj) = true := by
  have h1 := List.all_eq_true.mp pf_rest mj (List.mem_range.mpr h)
  by_cases h5 : mj = 185
  · subst h5; exact pf_floorMod
  by_cases h6 : mj = 186
  · subst h6; exact pf_max
  by_cases h7 : mj = 187
  · subst h7; exact pf_min
  simp [h5, h6, h7] at h1
  exact plainFor_of_name h1
