/-- only the place of reading and one row have changed -/
def frR (k kr : Nat) (M M' : pmM) : Prop := (∀ x, x ≠ k → x ≠ kr → M' x = M x) ∧ ∀ j, j ≠ 18 → M' k j = M k j
theorem frR.rf {k kr : Nat} {M : pmM} : frR k kr M M := ⟨fun _ _ _ => rfl, fun _ _ => rfl⟩
theorem frR.tr {k kr : Nat} {M M1 M2 : pmM} (h : frR k kr M M1) (h2 : frR k kr M1 M2) : frR k kr M M2 := ⟨fun x hx hy => (h2.1 x hx hy).trans (h.1 x hx hy), fun j hj => (h2.2 j hj).trans (h.2 j hj)⟩
theorem frP.r {k kr : Nat} {M M1 : pmM} (h : frP k M M1) : frR k kr M M1 := ⟨fun x hx _ => h.1 x hx, h.2⟩
theorem frR_st {k kr : Nat} (M : pmM) (j : Nat) (v : Int32) (h : kr ≠ k) : frR k kr M (pmSt M kr j v) := ⟨fun _ _ hx => st_ne M kr j v hx, fun _ _ => by rw [st_ne M kr j v (Ne.symm h)]⟩
theorem tpIs.mvR {M M' : pmM} {k kr : Nat} {tp : List Int32} (h : tpIs M k tp) (hf : frR k kr M M') (hk : kr ≠ k + 1) : tpIs M' k tp := ⟨by rw [hf.2 1 (by decide)]; exact h.1, fun i hi => by rw [hf.1 (k + 1) (by omega) (Ne.symm hk)]; exact h.2 i hi⟩
/-- numbers put into a row from a place on -/
def putIn (f : Nat → Int32) (o : Nat) (xs : List Int32) : Nat → Int32 := fun j => if o ≤ j ∧ j < o + xs.length then xs.getD (j - o) 0 else f j
theorem putIn_nil (f : Nat → Int32) (o : Nat) : putIn f o [] = f := by
  funext j
  unfold putIn
  rw [if_neg (by simp only [List.length_nil]; omega)]
theorem putIn_app (f : Nat → Int32) (o : Nat) (xs : List Int32) (v : Int32) : upd (putIn f o xs) (o + xs.length) v = putIn f o (xs ++ [v]) := by
  funext j
  have u1 : upd (putIn f o xs) (o + xs.length) v j = if j = o + xs.length then v else putIn f o xs j := rfl
  rw [u1]
  unfold putIn
  rw [List.length_append, List.length_singleton]
  by_cases q : j = o + xs.length
  · subst q
    rw [if_pos rfl, if_pos (show o ≤ o + xs.length ∧ o + xs.length < o + (xs.length + 1) by omega), getD_app, if_neg (show ¬ o + xs.length - o < xs.length by omega), if_pos (show o + xs.length - o = xs.length by omega)]
  · rw [if_neg q]
    by_cases q2 : o ≤ j ∧ j < o + xs.length
    · rw [if_pos q2, if_pos (show o ≤ j ∧ j < o + (xs.length + 1) by omega), getD_app, if_pos (show j - o < xs.length by omega)]
    · rw [if_neg q2, if_neg (show ¬ (o ≤ j ∧ j < o + (xs.length + 1)) by omega)]
section MRE
variable {sh : pmS} {M : pmM} {N : pmN} {Q : pmPost} {k : Nat} {tp : List Int32}
theorem hX_sk (tp : List Int32) (p : Nat) : hX tp (sk tp p) = hX tp p := by unfold hX cur; rw [sk_idem]
theorem tl_loop {kr n o m p0 : Nat} (hb : isMod sh k) (hl : tp.length ≤ 150) (hr : pmAy sh kr 0 n []) (hk : kr ≠ k) (hk1 : kr ≠ k + 1) (ho : o + m ≤ n)
    (kk : ∀ M', frR k kr M M' → M' kr = putIn (M kr) o (rdL tp m p0).1 → M' k 18 = nI (rdL tp m p0).2 → Q (some (.int (nI (rdL tp m p0).1.length))) sh M' N) :
    ∀ (d i p : Nat) (xs : List Int32) (M1 : pmM), i + d = m → xs.length = i → p ≤ tp.length → frR k kr M M1 → tpIs M1 k tp → M1 kr = putIn (M kr) o xs → M1 k 18 = nI p → (xs ++ (rdL tp d p).1, (rdL tp d p).2) = rdL tp m p0 → PW mX11_takesLetters 3 [.ref k, .ref kr, .int (nI o), .int (nI m), .int (nI i)] [] sh M1 N Q := by
  have b0 := hb.1
  have hn : n ≤ 1000 := hr.2.2
  intro d
  induction d with
  | zero =>
    intro i p xs M1 hi hx hp hf ht hm hM e
    rw [rdL, List.append_nil] at e
    rw [← e] at kk
    subst hx
    refine pw_iload 5 rfl rfl rfl ?_
    refine pw_iload_n 6 rfl rfl rfl ?_
    refine pw_icmp_ge_t 45 rfl rfl (nI_le (by omega) (by omega)) ?_
    refine pw_iload 47 rfl rfl rfl ?_
    exact pw_iret rfl rfl (kk M1 hf hm hM)
  | succ d ih =>
    intro i p xs M1 hi hx hp hf ht hm hM e
    rw [rdL] at e
    refine pw_iload 5 rfl rfl rfl ?_
    refine pw_iload_n 6 rfl rfl rfl ?_
    refine pw_icmp_ge_f 9 rfl rfl (nI_ge (by omega) (by omega)) ?_
    refine pw_aload_n 10 rfl rfl rfl ?_
    refine pw_cV0 13 rfl rfl (by first | assumption | exact ⟨by decide, rfl⟩) rfl (Nat.le_of_ble_eq_true rfl) rfl rfl (Nat.le_of_ble_eq_true rfl) (c_here hb hl ht hp hM (fun M2 f2 p2 => ?_))
    refine pw_pI ?_
    have ht2 := ht.mv f2
    skip
    refine pw_cS1 16 rfl rfl rfl (Nat.le_of_ble_eq_true rfl) rfl rfl (Nat.le_of_ble_eq_true rfl) (c_isLetterM (fun hy => ?_) (fun hn => ?_))
    · refine pw_pI ?_
      rw [hX_ltr] at hy
      rw [if_pos hy] at e
      have hsk := sk_le hp
      have hlt : sk tp p < tp.length := by
        cases hc : cur tp p with
        | none => rw [hc] at hy; cases hy
        | some c => exact (cur_lt hc).1
      have hin : o + i < n := by omega
      skip
      refine pw_if_eq_f 19 rfl rfl (by decide) ?_
      refine pw_aload_n 20 rfl rfl rfl ?_
      refine pw_iload_n 21 rfl rfl rfl ?_
      refine pw_iload 23 rfl rfl rfl ?_
      first | refine pw_iaddN 24 rfl rfl (by with_reducible rfl) (by with_reducible rfl) ?_ | refine pw_iadd 24 rfl rfl ?_
      refine pw_aload_n 25 rfl rfl rfl ?_
      refine pw_cV0 28 rfl rfl (by first | assumption | exact ⟨by decide, rfl⟩) rfl (Nat.le_of_ble_eq_true rfl) rfl rfl (Nat.le_of_ble_eq_true rfl) (c_here hb hl ht2 hsk p2 (fun M3 f3 p3 => ?_))
      refine pw_pI ?_
      rw [sk_idem] at p3
      rw [hX_sk]
      refine pw_iast _ 29 rfl rfl (by first | assumption | exact ⟨by decide, rfl, by decide⟩) (by with_reducible rfl) (by first | assumption | omega) ?_
      refine pw_aload_n 30 rfl rfl rfl ?_
      refine pw_dup 31 rfl rfl rfl ?_
      refine pw_getI 34 rfl rfl (by first | assumption | exact ⟨by decide, rfl⟩) rfl ?_
      refine pw_iconst (v := nI 1) 35 rfl rfl (by decide) ?_
      rw [st_ne _ _ _ _ (Ne.symm hk), p3]
      first | refine pw_iaddN 36 rfl rfl (by with_reducible rfl) (by with_reducible rfl) ?_ | refine pw_iadd 36 rfl rfl ?_
      refine pw_putI 39 rfl rfl (by first | assumption | exact ⟨by decide, rfl⟩) rfl (by decide) ?_
      first | refine pw_iincN4 42 rfl rfl rfl (by with_reducible rfl) ?_ | refine pw_iinc4 (w := _) 42 rfl rfl rfl rfl ?_
      refine pw_goto rfl 3 rfl ?_
      have f14 : frR k kr M (pmSt (pmSt M3 kr (o + i) (hX tp p)) k 18 (nI (sk tp p + 1))) := (((hf.tr f2.r).tr f3.r).tr (frR_st M3 _ _ hk)).tr (frP_st k _ _).r
      refine ih (i + 1) (sk tp p + 1) (xs ++ [hX tp p]) _ (by omega) (by rw [List.length_append, hx]; rfl) (by omega) f14 (((ht2.mv f3).mvR (frR_st M3 _ _ hk) hk1).mv (frP_st k _ _)) ?_ (st_same _ _ _ _) ?_
      · rw [st_ne _ _ _ _ hk]
        unfold pmSt
        rw [va_up_self, f3.1 kr hk, f2.1 kr hk, hm, ← hx, putIn_app]
      · rw [List.append_assoc]
        have e2 : hX tp p = (cur tp p).getD 0 := by
          unfold hX
          cases hc : cur tp p with
          | none => rw [hc] at hy; cases hy
          | some c => rfl
        rw [e2]; exact e
    · refine pw_pI ?_
      rw [hX_ltr] at hn
      rw [if_neg (by rw [hn]; decide), List.append_nil] at e
      rw [← e] at kk
      subst hx
      skip
      refine pw_if_eq_t 45 rfl rfl (by decide) ?_
      refine pw_iload 47 rfl rfl rfl ?_
      exact pw_iret rfl rfl (kk M2 (hf.tr f2.r) (by rw [f2.1 kr hk]; exact hm) p2)
theorem c_takesLetters {kr n o m p : Nat} (hb : isMod sh k) (hl : tp.length ≤ 150) (ht : tpIs M k tp) (hp : p ≤ tp.length) (hM : M k 18 = nI p) (hr : pmAy sh kr 0 n []) (hk : kr ≠ k) (hk1 : kr ≠ k + 1) (ho : o + m ≤ n)
    (kk : ∀ M', frR k kr M M' → M' kr = putIn (M kr) o (rdL tp m p).1 → M' k 18 = nI (rdL tp m p).2 → Q (some (.int (nI (rdL tp m p).1.length))) sh M' N) : PW mX11_takesLetters 0 [.ref k, .ref kr, .int (nI o), .int (nI m), .null] [] sh M N Q := by
  refine pw_iconst (v := nI 0) 1 rfl rfl (by decide) ?_
  refine pw_istore4 3 rfl rfl rfl ?_
  exact tl_loop hb hl hr hk hk1 ho kk m 0 p [] M (Nat.zero_add _) rfl hp frR.rf ht (by rw [putIn_nil]) hM rfl
end MRE
