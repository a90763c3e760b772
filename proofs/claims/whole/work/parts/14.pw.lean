/-! PW: from here the method comes to its answer, with Q -/
abbrev pmPost : Type := Option Value → pmS → pmM → pmN → Prop
def PW (mi pc : Nat) (ls st : List Value) (sh : pmS) (M : pmM) (N : pmN) (Q : pmPost) : Prop := ∃ (n : Nat) (r : Option Value) (sh' : pmS) (M' : pmM) (N' : pmN), pr n mi pc ls st sh M N = some (r, sh', M', N') ∧ Q r sh' M' N'
/-- cells by their kinds -/
def pmOb (sh : pmS) (k ci : Nat) (sl : List (Option (Option Nat))) : Prop := 0 < k ∧ sh[k]? = some (.inr (ci, sl))
def pmAy (sh : pmS) (k t n : Nat) (rs : List (Option Nat)) : Prop := 0 < k ∧ sh[k]? = some (.inl (t, n, rs)) ∧ n ≤ 1000
theorem vp_nj {x : Int32} {j n : Nat} (hx : x = nI j) (hj : j < n) (hn : n ≤ 1000) : ¬ (x < 0 ∨ n ≤ x.toNatClampNeg) ∧ x.toNatClampNeg = j := by
  subst hx
  have h1 : (nI j).toNatClampNeg = j := nI_clamp (by omega)
  refine ⟨?_, h1⟩
  rw [h1]
  rintro (h | h)
  · exact nI_pos (by omega) h
  · omega
section PWR
variable {mi pc len a b c : Nat} {ls st : List Value} {sh : pmS} {M : pmM} {N : pmN} {Q : pmPost}
theorem pw_go {pc' : Nat} {ls' st' : List Value} {sh' : pmS} {M' : pmM} {N' : pmN} (h : pmNx mi pc ls st sh M N = some (.inr (.inl (pc', ls', st', sh', M', N')))) (k : PW mi pc' ls' st' sh' M' N' Q) : PW mi pc ls st sh M N Q := by
  obtain ⟨n, r, s1, M1, N1, h1, h2⟩ := k
  exact ⟨n + 1, r, s1, M1, N1, by rw [pr, h]; exact h1, h2⟩
theorem pw_rt {r : Option Value} (h : pmNx mi pc ls st sh M N = some (.inl (r, sh, M, N))) (k : Q r sh M N) : PW mi pc ls st sh M N Q := ⟨1, r, sh, M, N, by rw [pr, h], k⟩
theorem pw_cl {mj : Nat} {as rest : List Value} (h : pmNx mi pc ls st sh M N = some (.inr (.inr (mj, as, rest)))) (k : PW mj 0 (pmEn as (pmL mj)) [] sh M N (fun r sh' M' N' => PW mi (pc + 3) ls (r.toList ++ rest) sh' M' N' Q)) : PW mi pc ls st sh M N Q := by
  obtain ⟨n, r, s1, M1, N1, h1, n2, r2, s2, M2, N2, h2, h3⟩ := k
  refine ⟨max n n2 + 1, r2, s2, M2, N2, ?_, h3⟩
  rw [pr, h]
  simp only
  rw [pr_le h1 (Nat.le_max_left n n2)]
  exact pr_le h2 (Nat.le_max_right n n2)
theorem pw_mono {Q' : pmPost} (h : PW mi pc ls st sh M N Q) (hq : ∀ r sh' M' N', Q r sh' M' N' → Q' r sh' M' N') : PW mi pc ls st sh M N Q' := by
  obtain ⟨n, r, s1, M1, N1, h1, h2⟩ := h
  exact ⟨n, r, s1, M1, N1, h1, hq _ _ _ _ h2⟩
theorem pw_ex {i : Instr} {ls' st' : List Value} {sh' : pmS} {M' : pmM} {N' : pmN} (h : pmCode mi pc = some (i, len, a, b, c)) (hA : pmA i = true) (hx : pmEx i a b ls st sh M N = some (ls', st', sh', M', N')) (q : Nat) (hp : pc + len = q) (k : PW mi q ls' st' sh' M' N' Q) : PW mi pc ls st sh M N Q := by
  subst hp
  refine pw_go ?_ k
  unfold pmNx
  rw [h]
  cases i <;> first | (cases hA; done) | (simp only [hx])
/-- the instructions that are neither calls nor jumps -/
def pmB : Instr → Bool
  | .putfield _ | .new _ | .newarray _ | .anewarray _ | .arraylength | .iaload | .baload | .laload | .aaload | .iastore | .bastore | .lastore | .aastore => true
  | _ => false
theorem pw_ey {i : Instr} {ls' st' : List Value} {sh' : pmS} {M' : pmM} {N' : pmN} (h : pmCode mi pc = some (i, len, a, b, c)) (hA : pmB i = true) (hx : pmEx i a b ls st sh M N = some (ls', st', sh', M', N')) (q : Nat) (hp : pc + len = q) (k : PW mi q ls' st' sh' M' N' Q) : PW mi pc ls st sh M N Q := by
  subst hp
  refine pw_go ?_ k
  unfold pmNx
  rw [h]
  cases i <;> first | (cases hA; done) | (simp only [hx])
theorem pw_iconst {n : Int} (v : Int32) (q : Nat) (h : pmCode mi pc = some (.iconst n, len, a, b, c)) (hp : pc + len = q) (hv : Int32.ofInt n = v) (k : PW mi q ls (.int v :: st) sh M N Q) : PW mi pc (ls) (st) sh M N Q := pw_ex h rfl (by subst hv; rfl) q hp k
theorem pw_bipush {n : Int} (v : Int32) (q : Nat) (h : pmCode mi pc = some (.bipush n, len, a, b, c)) (hp : pc + len = q) (hv : (Int8.ofInt n).toInt32 = v) (k : PW mi q ls (.int v :: st) sh M N Q) : PW mi pc (ls) (st) sh M N Q := pw_ex h rfl (by subst hv; rfl) q hp k
theorem pw_sipush {n : Int} (v : Int32) (q : Nat) (h : pmCode mi pc = some (.sipush n, len, a, b, c)) (hp : pc + len = q) (hv : (Int16.ofInt n).toInt32 = v) (k : PW mi q ls (.int v :: st) sh M N Q) : PW mi pc (ls) (st) sh M N Q := pw_ex h rfl (by subst hv; rfl) q hp k
theorem pw_ldc_w {x : Nat} (q : Nat) (h : pmCode mi pc = some (.ldc_w x, len, a, b, c)) (hp : pc + len = q)  (k : PW mi q ls (.int (nI a) :: st) sh M N Q) : PW mi pc (ls) (st) sh M N Q := pw_ex h rfl (rfl) q hp k
theorem pw_lconst {n : Fin 2} (v : Int64) (q : Nat) (h : pmCode mi pc = some (.lconst n, len, a, b, c)) (hp : pc + len = q) (hv : Int64.ofNat (n : Nat) = v) (k : PW mi q ls (.long v :: st) sh M N Q) : PW mi pc (ls) (st) sh M N Q := pw_ex h rfl (by subst hv; rfl) q hp k
theorem pw_ldc2_w {x : Nat} (v : Int64) (q : Nat) (h : pmCode mi pc = some (.ldc2_w x, len, a, b, c)) (hp : pc + len = q) (hv : (if b = 0 then lN a else - lN a) = v) (k : PW mi q ls (.long v :: st) sh M N Q) : PW mi pc (ls) (st) sh M N Q := pw_ex h rfl (by subst hv; rfl) q hp k
theorem pw_iload {x : Nat} {v : Int32} (q : Nat) (h : pmCode mi pc = some (.iload x, len, a, b, c)) (hp : pc + len = q) (hl : ls[a]? = some (.int v)) (k : PW mi q ls (.int v :: st) sh M N Q) : PW mi pc (ls) (st) sh M N Q := pw_ex h rfl (by simp only [pmEx, hl]) q hp k
theorem pw_iload_n {x : Fin 4} {v : Int32} (q : Nat) (h : pmCode mi pc = some (.iload_n x, len, a, b, c)) (hp : pc + len = q) (hl : ls[a]? = some (.int v)) (k : PW mi q ls (.int v :: st) sh M N Q) : PW mi pc (ls) (st) sh M N Q := pw_ex h rfl (by simp only [pmEx, hl]) q hp k
theorem pw_istore0 {x : Fin 4} {v : Int32} {z : Value} {t : List Value} (q : Nat) (h : pmCode mi pc = some (.istore_n x, len, 0, b, c)) (hp : pc + len = q)  (k : PW mi q (.int v :: t) (st) sh M N Q) : PW mi pc (z :: t) (.int v :: st) sh M N Q := pw_ex h rfl (by simp [pmEx, pmPut]) q hp k
theorem pw_istore1 {x : Fin 4} {v : Int32} {y0 z : Value} {t : List Value} (q : Nat) (h : pmCode mi pc = some (.istore_n x, len, 1, b, c)) (hp : pc + len = q) (hL : pmIsL y0 = false) (k : PW mi q (y0 :: .int v :: t) (st) sh M N Q) : PW mi pc (y0 :: z :: t) (.int v :: st) sh M N Q := pw_ex h rfl (by simp [pmEx, pmPut, hL]) q hp k
theorem pw_istore2 {x : Fin 4} {v : Int32} {y0 y1 z : Value} {t : List Value} (q : Nat) (h : pmCode mi pc = some (.istore_n x, len, 2, b, c)) (hp : pc + len = q) (hL : pmIsL y1 = false) (k : PW mi q (y0 :: y1 :: .int v :: t) (st) sh M N Q) : PW mi pc (y0 :: y1 :: z :: t) (.int v :: st) sh M N Q := pw_ex h rfl (by simp [pmEx, pmPut, hL]) q hp k
theorem pw_istore3 {x : Fin 4} {v : Int32} {y0 y1 y2 z : Value} {t : List Value} (q : Nat) (h : pmCode mi pc = some (.istore_n x, len, 3, b, c)) (hp : pc + len = q) (hL : pmIsL y2 = false) (k : PW mi q (y0 :: y1 :: y2 :: .int v :: t) (st) sh M N Q) : PW mi pc (y0 :: y1 :: y2 :: z :: t) (.int v :: st) sh M N Q := pw_ex h rfl (by simp [pmEx, pmPut, hL]) q hp k
theorem pw_istore4 {x : Nat} {v : Int32} {y0 y1 y2 y3 z : Value} {t : List Value} (q : Nat) (h : pmCode mi pc = some (.istore x, len, 4, b, c)) (hp : pc + len = q) (hL : pmIsL y3 = false) (k : PW mi q (y0 :: y1 :: y2 :: y3 :: .int v :: t) (st) sh M N Q) : PW mi pc (y0 :: y1 :: y2 :: y3 :: z :: t) (.int v :: st) sh M N Q := pw_ex h rfl (by simp [pmEx, pmPut, hL]) q hp k
theorem pw_istore5 {x : Nat} {v : Int32} {y0 y1 y2 y3 y4 z : Value} {t : List Value} (q : Nat) (h : pmCode mi pc = some (.istore x, len, 5, b, c)) (hp : pc + len = q) (hL : pmIsL y4 = false) (k : PW mi q (y0 :: y1 :: y2 :: y3 :: y4 :: .int v :: t) (st) sh M N Q) : PW mi pc (y0 :: y1 :: y2 :: y3 :: y4 :: z :: t) (.int v :: st) sh M N Q := pw_ex h rfl (by simp [pmEx, pmPut, hL]) q hp k
theorem pw_istore6 {x : Nat} {v : Int32} {y0 y1 y2 y3 y4 y5 z : Value} {t : List Value} (q : Nat) (h : pmCode mi pc = some (.istore x, len, 6, b, c)) (hp : pc + len = q) (hL : pmIsL y5 = false) (k : PW mi q (y0 :: y1 :: y2 :: y3 :: y4 :: y5 :: .int v :: t) (st) sh M N Q) : PW mi pc (y0 :: y1 :: y2 :: y3 :: y4 :: y5 :: z :: t) (.int v :: st) sh M N Q := pw_ex h rfl (by simp [pmEx, pmPut, hL]) q hp k
theorem pw_istore7 {x : Nat} {v : Int32} {y0 y1 y2 y3 y4 y5 y6 z : Value} {t : List Value} (q : Nat) (h : pmCode mi pc = some (.istore x, len, 7, b, c)) (hp : pc + len = q) (hL : pmIsL y6 = false) (k : PW mi q (y0 :: y1 :: y2 :: y3 :: y4 :: y5 :: y6 :: .int v :: t) (st) sh M N Q) : PW mi pc (y0 :: y1 :: y2 :: y3 :: y4 :: y5 :: y6 :: z :: t) (.int v :: st) sh M N Q := pw_ex h rfl (by simp [pmEx, pmPut, hL]) q hp k
theorem pw_istore8 {x : Nat} {v : Int32} {y0 y1 y2 y3 y4 y5 y6 y7 z : Value} {t : List Value} (q : Nat) (h : pmCode mi pc = some (.istore x, len, 8, b, c)) (hp : pc + len = q) (hL : pmIsL y7 = false) (k : PW mi q (y0 :: y1 :: y2 :: y3 :: y4 :: y5 :: y6 :: y7 :: .int v :: t) (st) sh M N Q) : PW mi pc (y0 :: y1 :: y2 :: y3 :: y4 :: y5 :: y6 :: y7 :: z :: t) (.int v :: st) sh M N Q := pw_ex h rfl (by simp [pmEx, pmPut, hL]) q hp k
theorem pw_istore9 {x : Nat} {v : Int32} {y0 y1 y2 y3 y4 y5 y6 y7 y8 z : Value} {t : List Value} (q : Nat) (h : pmCode mi pc = some (.istore x, len, 9, b, c)) (hp : pc + len = q) (hL : pmIsL y8 = false) (k : PW mi q (y0 :: y1 :: y2 :: y3 :: y4 :: y5 :: y6 :: y7 :: y8 :: .int v :: t) (st) sh M N Q) : PW mi pc (y0 :: y1 :: y2 :: y3 :: y4 :: y5 :: y6 :: y7 :: y8 :: z :: t) (.int v :: st) sh M N Q := pw_ex h rfl (by simp [pmEx, pmPut, hL]) q hp k
theorem pw_istore10 {x : Nat} {v : Int32} {y0 y1 y2 y3 y4 y5 y6 y7 y8 y9 z : Value} {t : List Value} (q : Nat) (h : pmCode mi pc = some (.istore x, len, 10, b, c)) (hp : pc + len = q) (hL : pmIsL y9 = false) (k : PW mi q (y0 :: y1 :: y2 :: y3 :: y4 :: y5 :: y6 :: y7 :: y8 :: y9 :: .int v :: t) (st) sh M N Q) : PW mi pc (y0 :: y1 :: y2 :: y3 :: y4 :: y5 :: y6 :: y7 :: y8 :: y9 :: z :: t) (.int v :: st) sh M N Q := pw_ex h rfl (by simp [pmEx, pmPut, hL]) q hp k
theorem pw_istore11 {x : Nat} {v : Int32} {y0 y1 y2 y3 y4 y5 y6 y7 y8 y9 y10 z : Value} {t : List Value} (q : Nat) (h : pmCode mi pc = some (.istore x, len, 11, b, c)) (hp : pc + len = q) (hL : pmIsL y10 = false) (k : PW mi q (y0 :: y1 :: y2 :: y3 :: y4 :: y5 :: y6 :: y7 :: y8 :: y9 :: y10 :: .int v :: t) (st) sh M N Q) : PW mi pc (y0 :: y1 :: y2 :: y3 :: y4 :: y5 :: y6 :: y7 :: y8 :: y9 :: y10 :: z :: t) (.int v :: st) sh M N Q := pw_ex h rfl (by simp [pmEx, pmPut, hL]) q hp k
theorem pw_istore12 {x : Nat} {v : Int32} {y0 y1 y2 y3 y4 y5 y6 y7 y8 y9 y10 y11 z : Value} {t : List Value} (q : Nat) (h : pmCode mi pc = some (.istore x, len, 12, b, c)) (hp : pc + len = q) (hL : pmIsL y11 = false) (k : PW mi q (y0 :: y1 :: y2 :: y3 :: y4 :: y5 :: y6 :: y7 :: y8 :: y9 :: y10 :: y11 :: .int v :: t) (st) sh M N Q) : PW mi pc (y0 :: y1 :: y2 :: y3 :: y4 :: y5 :: y6 :: y7 :: y8 :: y9 :: y10 :: y11 :: z :: t) (.int v :: st) sh M N Q := pw_ex h rfl (by simp [pmEx, pmPut, hL]) q hp k
theorem pw_istore13 {x : Nat} {v : Int32} {y0 y1 y2 y3 y4 y5 y6 y7 y8 y9 y10 y11 y12 z : Value} {t : List Value} (q : Nat) (h : pmCode mi pc = some (.istore x, len, 13, b, c)) (hp : pc + len = q) (hL : pmIsL y12 = false) (k : PW mi q (y0 :: y1 :: y2 :: y3 :: y4 :: y5 :: y6 :: y7 :: y8 :: y9 :: y10 :: y11 :: y12 :: .int v :: t) (st) sh M N Q) : PW mi pc (y0 :: y1 :: y2 :: y3 :: y4 :: y5 :: y6 :: y7 :: y8 :: y9 :: y10 :: y11 :: y12 :: z :: t) (.int v :: st) sh M N Q := pw_ex h rfl (by simp [pmEx, pmPut, hL]) q hp k
theorem pw_lload {x : Nat} {v : Int64} (q : Nat) (h : pmCode mi pc = some (.lload x, len, a, b, c)) (hp : pc + len = q) (hl : ls[a]? = some (.long v)) (k : PW mi q ls (.long v :: st) sh M N Q) : PW mi pc (ls) (st) sh M N Q := pw_ex h rfl (by simp only [pmEx, hl]) q hp k
theorem pw_lload_n {x : Fin 4} {v : Int64} (q : Nat) (h : pmCode mi pc = some (.lload_n x, len, a, b, c)) (hp : pc + len = q) (hl : ls[a]? = some (.long v)) (k : PW mi q ls (.long v :: st) sh M N Q) : PW mi pc (ls) (st) sh M N Q := pw_ex h rfl (by simp only [pmEx, hl]) q hp k
theorem pw_lstore0 {x : Fin 4} {v : Int64} {z z2 : Value} {t : List Value} (q : Nat) (h : pmCode mi pc = some (.lstore_n x, len, 0, b, c)) (hp : pc + len = q)  (k : PW mi q (.long v :: .null :: t) (st) sh M N Q) : PW mi pc (z :: z2 :: t) (.long v :: st) sh M N Q := pw_ex h rfl (by simp [pmEx, pmPut2, pmPut]) q hp k
theorem pw_lstore1 {x : Fin 4} {v : Int64} {y0 z z2 : Value} {t : List Value} (q : Nat) (h : pmCode mi pc = some (.lstore_n x, len, 1, b, c)) (hp : pc + len = q) (hL : pmIsL y0 = false) (k : PW mi q (y0 :: .long v :: .null :: t) (st) sh M N Q) : PW mi pc (y0 :: z :: z2 :: t) (.long v :: st) sh M N Q := pw_ex h rfl (by simp [pmEx, pmPut2, pmPut, hL]) q hp k
theorem pw_lstore2 {x : Fin 4} {v : Int64} {y0 y1 z z2 : Value} {t : List Value} (q : Nat) (h : pmCode mi pc = some (.lstore_n x, len, 2, b, c)) (hp : pc + len = q) (hL : pmIsL y1 = false) (k : PW mi q (y0 :: y1 :: .long v :: .null :: t) (st) sh M N Q) : PW mi pc (y0 :: y1 :: z :: z2 :: t) (.long v :: st) sh M N Q := pw_ex h rfl (by simp [pmEx, pmPut2, pmPut, hL]) q hp k
theorem pw_lstore3 {x : Fin 4} {v : Int64} {y0 y1 y2 z z2 : Value} {t : List Value} (q : Nat) (h : pmCode mi pc = some (.lstore_n x, len, 3, b, c)) (hp : pc + len = q) (hL : pmIsL y2 = false) (k : PW mi q (y0 :: y1 :: y2 :: .long v :: .null :: t) (st) sh M N Q) : PW mi pc (y0 :: y1 :: y2 :: z :: z2 :: t) (.long v :: st) sh M N Q := pw_ex h rfl (by simp [pmEx, pmPut2, pmPut, hL]) q hp k
theorem pw_lstore4 {x : Nat} {v : Int64} {y0 y1 y2 y3 z z2 : Value} {t : List Value} (q : Nat) (h : pmCode mi pc = some (.lstore x, len, 4, b, c)) (hp : pc + len = q) (hL : pmIsL y3 = false) (k : PW mi q (y0 :: y1 :: y2 :: y3 :: .long v :: .null :: t) (st) sh M N Q) : PW mi pc (y0 :: y1 :: y2 :: y3 :: z :: z2 :: t) (.long v :: st) sh M N Q := pw_ex h rfl (by simp [pmEx, pmPut2, pmPut, hL]) q hp k
theorem pw_lstore5 {x : Nat} {v : Int64} {y0 y1 y2 y3 y4 z z2 : Value} {t : List Value} (q : Nat) (h : pmCode mi pc = some (.lstore x, len, 5, b, c)) (hp : pc + len = q) (hL : pmIsL y4 = false) (k : PW mi q (y0 :: y1 :: y2 :: y3 :: y4 :: .long v :: .null :: t) (st) sh M N Q) : PW mi pc (y0 :: y1 :: y2 :: y3 :: y4 :: z :: z2 :: t) (.long v :: st) sh M N Q := pw_ex h rfl (by simp [pmEx, pmPut2, pmPut, hL]) q hp k
theorem pw_lstore6 {x : Nat} {v : Int64} {y0 y1 y2 y3 y4 y5 z z2 : Value} {t : List Value} (q : Nat) (h : pmCode mi pc = some (.lstore x, len, 6, b, c)) (hp : pc + len = q) (hL : pmIsL y5 = false) (k : PW mi q (y0 :: y1 :: y2 :: y3 :: y4 :: y5 :: .long v :: .null :: t) (st) sh M N Q) : PW mi pc (y0 :: y1 :: y2 :: y3 :: y4 :: y5 :: z :: z2 :: t) (.long v :: st) sh M N Q := pw_ex h rfl (by simp [pmEx, pmPut2, pmPut, hL]) q hp k
theorem pw_lstore7 {x : Nat} {v : Int64} {y0 y1 y2 y3 y4 y5 y6 z z2 : Value} {t : List Value} (q : Nat) (h : pmCode mi pc = some (.lstore x, len, 7, b, c)) (hp : pc + len = q) (hL : pmIsL y6 = false) (k : PW mi q (y0 :: y1 :: y2 :: y3 :: y4 :: y5 :: y6 :: .long v :: .null :: t) (st) sh M N Q) : PW mi pc (y0 :: y1 :: y2 :: y3 :: y4 :: y5 :: y6 :: z :: z2 :: t) (.long v :: st) sh M N Q := pw_ex h rfl (by simp [pmEx, pmPut2, pmPut, hL]) q hp k
theorem pw_lstore8 {x : Nat} {v : Int64} {y0 y1 y2 y3 y4 y5 y6 y7 z z2 : Value} {t : List Value} (q : Nat) (h : pmCode mi pc = some (.lstore x, len, 8, b, c)) (hp : pc + len = q) (hL : pmIsL y7 = false) (k : PW mi q (y0 :: y1 :: y2 :: y3 :: y4 :: y5 :: y6 :: y7 :: .long v :: .null :: t) (st) sh M N Q) : PW mi pc (y0 :: y1 :: y2 :: y3 :: y4 :: y5 :: y6 :: y7 :: z :: z2 :: t) (.long v :: st) sh M N Q := pw_ex h rfl (by simp [pmEx, pmPut2, pmPut, hL]) q hp k
theorem pw_lstore9 {x : Nat} {v : Int64} {y0 y1 y2 y3 y4 y5 y6 y7 y8 z z2 : Value} {t : List Value} (q : Nat) (h : pmCode mi pc = some (.lstore x, len, 9, b, c)) (hp : pc + len = q) (hL : pmIsL y8 = false) (k : PW mi q (y0 :: y1 :: y2 :: y3 :: y4 :: y5 :: y6 :: y7 :: y8 :: .long v :: .null :: t) (st) sh M N Q) : PW mi pc (y0 :: y1 :: y2 :: y3 :: y4 :: y5 :: y6 :: y7 :: y8 :: z :: z2 :: t) (.long v :: st) sh M N Q := pw_ex h rfl (by simp [pmEx, pmPut2, pmPut, hL]) q hp k
theorem pw_lstore10 {x : Nat} {v : Int64} {y0 y1 y2 y3 y4 y5 y6 y7 y8 y9 z z2 : Value} {t : List Value} (q : Nat) (h : pmCode mi pc = some (.lstore x, len, 10, b, c)) (hp : pc + len = q) (hL : pmIsL y9 = false) (k : PW mi q (y0 :: y1 :: y2 :: y3 :: y4 :: y5 :: y6 :: y7 :: y8 :: y9 :: .long v :: .null :: t) (st) sh M N Q) : PW mi pc (y0 :: y1 :: y2 :: y3 :: y4 :: y5 :: y6 :: y7 :: y8 :: y9 :: z :: z2 :: t) (.long v :: st) sh M N Q := pw_ex h rfl (by simp [pmEx, pmPut2, pmPut, hL]) q hp k
theorem pw_aload {x : Nat} {v : Nat} (q : Nat) (h : pmCode mi pc = some (.aload x, len, a, b, c)) (hp : pc + len = q) (hl : ls[a]? = some (.ref v)) (k : PW mi q ls (.ref v :: st) sh M N Q) : PW mi pc (ls) (st) sh M N Q := pw_ex h rfl (by simp only [pmEx, hl]) q hp k
theorem pw_aload_n {x : Fin 4} {v : Nat} (q : Nat) (h : pmCode mi pc = some (.aload_n x, len, a, b, c)) (hp : pc + len = q) (hl : ls[a]? = some (.ref v)) (k : PW mi q ls (.ref v :: st) sh M N Q) : PW mi pc (ls) (st) sh M N Q := pw_ex h rfl (by simp only [pmEx, hl]) q hp k
theorem pw_astore0 {x : Fin 4} {v : Nat} {z : Value} {t : List Value} (q : Nat) (h : pmCode mi pc = some (.astore_n x, len, 0, b, c)) (hp : pc + len = q)  (k : PW mi q (.ref v :: t) (st) sh M N Q) : PW mi pc (z :: t) (.ref v :: st) sh M N Q := pw_ex h rfl (by simp [pmEx, pmPut]) q hp k
theorem pw_astore1 {x : Fin 4} {v : Nat} {y0 z : Value} {t : List Value} (q : Nat) (h : pmCode mi pc = some (.astore_n x, len, 1, b, c)) (hp : pc + len = q) (hL : pmIsL y0 = false) (k : PW mi q (y0 :: .ref v :: t) (st) sh M N Q) : PW mi pc (y0 :: z :: t) (.ref v :: st) sh M N Q := pw_ex h rfl (by simp [pmEx, pmPut, hL]) q hp k
theorem pw_astore2 {x : Fin 4} {v : Nat} {y0 y1 z : Value} {t : List Value} (q : Nat) (h : pmCode mi pc = some (.astore_n x, len, 2, b, c)) (hp : pc + len = q) (hL : pmIsL y1 = false) (k : PW mi q (y0 :: y1 :: .ref v :: t) (st) sh M N Q) : PW mi pc (y0 :: y1 :: z :: t) (.ref v :: st) sh M N Q := pw_ex h rfl (by simp [pmEx, pmPut, hL]) q hp k
theorem pw_astore3 {x : Fin 4} {v : Nat} {y0 y1 y2 z : Value} {t : List Value} (q : Nat) (h : pmCode mi pc = some (.astore_n x, len, 3, b, c)) (hp : pc + len = q) (hL : pmIsL y2 = false) (k : PW mi q (y0 :: y1 :: y2 :: .ref v :: t) (st) sh M N Q) : PW mi pc (y0 :: y1 :: y2 :: z :: t) (.ref v :: st) sh M N Q := pw_ex h rfl (by simp [pmEx, pmPut, hL]) q hp k
theorem pw_astore4 {x : Nat} {v : Nat} {y0 y1 y2 y3 z : Value} {t : List Value} (q : Nat) (h : pmCode mi pc = some (.astore x, len, 4, b, c)) (hp : pc + len = q) (hL : pmIsL y3 = false) (k : PW mi q (y0 :: y1 :: y2 :: y3 :: .ref v :: t) (st) sh M N Q) : PW mi pc (y0 :: y1 :: y2 :: y3 :: z :: t) (.ref v :: st) sh M N Q := pw_ex h rfl (by simp [pmEx, pmPut, hL]) q hp k
theorem pw_astore5 {x : Nat} {v : Nat} {y0 y1 y2 y3 y4 z : Value} {t : List Value} (q : Nat) (h : pmCode mi pc = some (.astore x, len, 5, b, c)) (hp : pc + len = q) (hL : pmIsL y4 = false) (k : PW mi q (y0 :: y1 :: y2 :: y3 :: y4 :: .ref v :: t) (st) sh M N Q) : PW mi pc (y0 :: y1 :: y2 :: y3 :: y4 :: z :: t) (.ref v :: st) sh M N Q := pw_ex h rfl (by simp [pmEx, pmPut, hL]) q hp k
theorem pw_astore6 {x : Nat} {v : Nat} {y0 y1 y2 y3 y4 y5 z : Value} {t : List Value} (q : Nat) (h : pmCode mi pc = some (.astore x, len, 6, b, c)) (hp : pc + len = q) (hL : pmIsL y5 = false) (k : PW mi q (y0 :: y1 :: y2 :: y3 :: y4 :: y5 :: .ref v :: t) (st) sh M N Q) : PW mi pc (y0 :: y1 :: y2 :: y3 :: y4 :: y5 :: z :: t) (.ref v :: st) sh M N Q := pw_ex h rfl (by simp [pmEx, pmPut, hL]) q hp k
theorem pw_astore7 {x : Nat} {v : Nat} {y0 y1 y2 y3 y4 y5 y6 z : Value} {t : List Value} (q : Nat) (h : pmCode mi pc = some (.astore x, len, 7, b, c)) (hp : pc + len = q) (hL : pmIsL y6 = false) (k : PW mi q (y0 :: y1 :: y2 :: y3 :: y4 :: y5 :: y6 :: .ref v :: t) (st) sh M N Q) : PW mi pc (y0 :: y1 :: y2 :: y3 :: y4 :: y5 :: y6 :: z :: t) (.ref v :: st) sh M N Q := pw_ex h rfl (by simp [pmEx, pmPut, hL]) q hp k
theorem pw_astore8 {x : Nat} {v : Nat} {y0 y1 y2 y3 y4 y5 y6 y7 z : Value} {t : List Value} (q : Nat) (h : pmCode mi pc = some (.astore x, len, 8, b, c)) (hp : pc + len = q) (hL : pmIsL y7 = false) (k : PW mi q (y0 :: y1 :: y2 :: y3 :: y4 :: y5 :: y6 :: y7 :: .ref v :: t) (st) sh M N Q) : PW mi pc (y0 :: y1 :: y2 :: y3 :: y4 :: y5 :: y6 :: y7 :: z :: t) (.ref v :: st) sh M N Q := pw_ex h rfl (by simp [pmEx, pmPut, hL]) q hp k
theorem pw_astore9 {x : Nat} {v : Nat} {y0 y1 y2 y3 y4 y5 y6 y7 y8 z : Value} {t : List Value} (q : Nat) (h : pmCode mi pc = some (.astore x, len, 9, b, c)) (hp : pc + len = q) (hL : pmIsL y8 = false) (k : PW mi q (y0 :: y1 :: y2 :: y3 :: y4 :: y5 :: y6 :: y7 :: y8 :: .ref v :: t) (st) sh M N Q) : PW mi pc (y0 :: y1 :: y2 :: y3 :: y4 :: y5 :: y6 :: y7 :: y8 :: z :: t) (.ref v :: st) sh M N Q := pw_ex h rfl (by simp [pmEx, pmPut, hL]) q hp k
theorem pw_iinc0 {x : Nat} {n : Int} {v : Int32} {t : List Value} (w : Int32) (q : Nat) (h : pmCode mi pc = some (.iinc x n, len, 0, b, c)) (hp : pc + len = q) (hv : v + Int32.ofInt n = w) (k : PW mi q (.int w :: t) (st) sh M N Q) : PW mi pc (.int v :: t) (st) sh M N Q := pw_ex h rfl (by subst hv; simp [pmEx, pmPut]) q hp k
theorem pw_iinc1 {x : Nat} {n : Int} {v : Int32} {y0 : Value} {t : List Value} (w : Int32) (q : Nat) (h : pmCode mi pc = some (.iinc x n, len, 1, b, c)) (hp : pc + len = q) (hL : pmIsL y0 = false) (hv : v + Int32.ofInt n = w) (k : PW mi q (y0 :: .int w :: t) (st) sh M N Q) : PW mi pc (y0 :: .int v :: t) (st) sh M N Q := pw_ex h rfl (by subst hv; simp [pmEx, pmPut, hL]) q hp k
theorem pw_iinc2 {x : Nat} {n : Int} {v : Int32} {y0 y1 : Value} {t : List Value} (w : Int32) (q : Nat) (h : pmCode mi pc = some (.iinc x n, len, 2, b, c)) (hp : pc + len = q) (hL : pmIsL y1 = false) (hv : v + Int32.ofInt n = w) (k : PW mi q (y0 :: y1 :: .int w :: t) (st) sh M N Q) : PW mi pc (y0 :: y1 :: .int v :: t) (st) sh M N Q := pw_ex h rfl (by subst hv; simp [pmEx, pmPut, hL]) q hp k
theorem pw_iinc3 {x : Nat} {n : Int} {v : Int32} {y0 y1 y2 : Value} {t : List Value} (w : Int32) (q : Nat) (h : pmCode mi pc = some (.iinc x n, len, 3, b, c)) (hp : pc + len = q) (hL : pmIsL y2 = false) (hv : v + Int32.ofInt n = w) (k : PW mi q (y0 :: y1 :: y2 :: .int w :: t) (st) sh M N Q) : PW mi pc (y0 :: y1 :: y2 :: .int v :: t) (st) sh M N Q := pw_ex h rfl (by subst hv; simp [pmEx, pmPut, hL]) q hp k
theorem pw_iinc4 {x : Nat} {n : Int} {v : Int32} {y0 y1 y2 y3 : Value} {t : List Value} (w : Int32) (q : Nat) (h : pmCode mi pc = some (.iinc x n, len, 4, b, c)) (hp : pc + len = q) (hL : pmIsL y3 = false) (hv : v + Int32.ofInt n = w) (k : PW mi q (y0 :: y1 :: y2 :: y3 :: .int w :: t) (st) sh M N Q) : PW mi pc (y0 :: y1 :: y2 :: y3 :: .int v :: t) (st) sh M N Q := pw_ex h rfl (by subst hv; simp [pmEx, pmPut, hL]) q hp k
theorem pw_iinc5 {x : Nat} {n : Int} {v : Int32} {y0 y1 y2 y3 y4 : Value} {t : List Value} (w : Int32) (q : Nat) (h : pmCode mi pc = some (.iinc x n, len, 5, b, c)) (hp : pc + len = q) (hL : pmIsL y4 = false) (hv : v + Int32.ofInt n = w) (k : PW mi q (y0 :: y1 :: y2 :: y3 :: y4 :: .int w :: t) (st) sh M N Q) : PW mi pc (y0 :: y1 :: y2 :: y3 :: y4 :: .int v :: t) (st) sh M N Q := pw_ex h rfl (by subst hv; simp [pmEx, pmPut, hL]) q hp k
theorem pw_iinc6 {x : Nat} {n : Int} {v : Int32} {y0 y1 y2 y3 y4 y5 : Value} {t : List Value} (w : Int32) (q : Nat) (h : pmCode mi pc = some (.iinc x n, len, 6, b, c)) (hp : pc + len = q) (hL : pmIsL y5 = false) (hv : v + Int32.ofInt n = w) (k : PW mi q (y0 :: y1 :: y2 :: y3 :: y4 :: y5 :: .int w :: t) (st) sh M N Q) : PW mi pc (y0 :: y1 :: y2 :: y3 :: y4 :: y5 :: .int v :: t) (st) sh M N Q := pw_ex h rfl (by subst hv; simp [pmEx, pmPut, hL]) q hp k
theorem pw_iinc7 {x : Nat} {n : Int} {v : Int32} {y0 y1 y2 y3 y4 y5 y6 : Value} {t : List Value} (w : Int32) (q : Nat) (h : pmCode mi pc = some (.iinc x n, len, 7, b, c)) (hp : pc + len = q) (hL : pmIsL y6 = false) (hv : v + Int32.ofInt n = w) (k : PW mi q (y0 :: y1 :: y2 :: y3 :: y4 :: y5 :: y6 :: .int w :: t) (st) sh M N Q) : PW mi pc (y0 :: y1 :: y2 :: y3 :: y4 :: y5 :: y6 :: .int v :: t) (st) sh M N Q := pw_ex h rfl (by subst hv; simp [pmEx, pmPut, hL]) q hp k
theorem pw_iinc8 {x : Nat} {n : Int} {v : Int32} {y0 y1 y2 y3 y4 y5 y6 y7 : Value} {t : List Value} (w : Int32) (q : Nat) (h : pmCode mi pc = some (.iinc x n, len, 8, b, c)) (hp : pc + len = q) (hL : pmIsL y7 = false) (hv : v + Int32.ofInt n = w) (k : PW mi q (y0 :: y1 :: y2 :: y3 :: y4 :: y5 :: y6 :: y7 :: .int w :: t) (st) sh M N Q) : PW mi pc (y0 :: y1 :: y2 :: y3 :: y4 :: y5 :: y6 :: y7 :: .int v :: t) (st) sh M N Q := pw_ex h rfl (by subst hv; simp [pmEx, pmPut, hL]) q hp k
theorem pw_iinc9 {x : Nat} {n : Int} {v : Int32} {y0 y1 y2 y3 y4 y5 y6 y7 y8 : Value} {t : List Value} (w : Int32) (q : Nat) (h : pmCode mi pc = some (.iinc x n, len, 9, b, c)) (hp : pc + len = q) (hL : pmIsL y8 = false) (hv : v + Int32.ofInt n = w) (k : PW mi q (y0 :: y1 :: y2 :: y3 :: y4 :: y5 :: y6 :: y7 :: y8 :: .int w :: t) (st) sh M N Q) : PW mi pc (y0 :: y1 :: y2 :: y3 :: y4 :: y5 :: y6 :: y7 :: y8 :: .int v :: t) (st) sh M N Q := pw_ex h rfl (by subst hv; simp [pmEx, pmPut, hL]) q hp k
theorem pw_iinc10 {x : Nat} {n : Int} {v : Int32} {y0 y1 y2 y3 y4 y5 y6 y7 y8 y9 : Value} {t : List Value} (w : Int32) (q : Nat) (h : pmCode mi pc = some (.iinc x n, len, 10, b, c)) (hp : pc + len = q) (hL : pmIsL y9 = false) (hv : v + Int32.ofInt n = w) (k : PW mi q (y0 :: y1 :: y2 :: y3 :: y4 :: y5 :: y6 :: y7 :: y8 :: y9 :: .int w :: t) (st) sh M N Q) : PW mi pc (y0 :: y1 :: y2 :: y3 :: y4 :: y5 :: y6 :: y7 :: y8 :: y9 :: .int v :: t) (st) sh M N Q := pw_ex h rfl (by subst hv; simp [pmEx, pmPut, hL]) q hp k
theorem pw_iinc11 {x : Nat} {n : Int} {v : Int32} {y0 y1 y2 y3 y4 y5 y6 y7 y8 y9 y10 : Value} {t : List Value} (w : Int32) (q : Nat) (h : pmCode mi pc = some (.iinc x n, len, 11, b, c)) (hp : pc + len = q) (hL : pmIsL y10 = false) (hv : v + Int32.ofInt n = w) (k : PW mi q (y0 :: y1 :: y2 :: y3 :: y4 :: y5 :: y6 :: y7 :: y8 :: y9 :: y10 :: .int w :: t) (st) sh M N Q) : PW mi pc (y0 :: y1 :: y2 :: y3 :: y4 :: y5 :: y6 :: y7 :: y8 :: y9 :: y10 :: .int v :: t) (st) sh M N Q := pw_ex h rfl (by subst hv; simp [pmEx, pmPut, hL]) q hp k
theorem pw_iinc12 {x : Nat} {n : Int} {v : Int32} {y0 y1 y2 y3 y4 y5 y6 y7 y8 y9 y10 y11 : Value} {t : List Value} (w : Int32) (q : Nat) (h : pmCode mi pc = some (.iinc x n, len, 12, b, c)) (hp : pc + len = q) (hL : pmIsL y11 = false) (hv : v + Int32.ofInt n = w) (k : PW mi q (y0 :: y1 :: y2 :: y3 :: y4 :: y5 :: y6 :: y7 :: y8 :: y9 :: y10 :: y11 :: .int w :: t) (st) sh M N Q) : PW mi pc (y0 :: y1 :: y2 :: y3 :: y4 :: y5 :: y6 :: y7 :: y8 :: y9 :: y10 :: y11 :: .int v :: t) (st) sh M N Q := pw_ex h rfl (by subst hv; simp [pmEx, pmPut, hL]) q hp k
theorem pw_iinc13 {x : Nat} {n : Int} {v : Int32} {y0 y1 y2 y3 y4 y5 y6 y7 y8 y9 y10 y11 y12 : Value} {t : List Value} (w : Int32) (q : Nat) (h : pmCode mi pc = some (.iinc x n, len, 13, b, c)) (hp : pc + len = q) (hL : pmIsL y12 = false) (hv : v + Int32.ofInt n = w) (k : PW mi q (y0 :: y1 :: y2 :: y3 :: y4 :: y5 :: y6 :: y7 :: y8 :: y9 :: y10 :: y11 :: y12 :: .int w :: t) (st) sh M N Q) : PW mi pc (y0 :: y1 :: y2 :: y3 :: y4 :: y5 :: y6 :: y7 :: y8 :: y9 :: y10 :: y11 :: y12 :: .int v :: t) (st) sh M N Q := pw_ex h rfl (by subst hv; simp [pmEx, pmPut, hL]) q hp k
theorem pw_iadd {x y : Int32} {t : List Value} (q : Nat) (h : pmCode mi pc = some (.iadd, len, a, b, c)) (hp : pc + len = q)  (k : PW mi q ls (.int (x + y) :: t) sh M N Q) : PW mi pc (ls) (.int y :: .int x :: t) sh M N Q := pw_ex h rfl (rfl) q hp k
theorem pw_isub {x y : Int32} {t : List Value} (q : Nat) (h : pmCode mi pc = some (.isub, len, a, b, c)) (hp : pc + len = q)  (k : PW mi q ls (.int (x - y) :: t) sh M N Q) : PW mi pc (ls) (.int y :: .int x :: t) sh M N Q := pw_ex h rfl (rfl) q hp k
theorem pw_imul {x y : Int32} {t : List Value} (q : Nat) (h : pmCode mi pc = some (.imul, len, a, b, c)) (hp : pc + len = q)  (k : PW mi q ls (.int (x * y) :: t) sh M N Q) : PW mi pc (ls) (.int y :: .int x :: t) sh M N Q := pw_ex h rfl (rfl) q hp k
theorem pw_iand {x y : Int32} {t : List Value} (q : Nat) (h : pmCode mi pc = some (.iand, len, a, b, c)) (hp : pc + len = q)  (k : PW mi q ls (.int (x &&& y) :: t) sh M N Q) : PW mi pc (ls) (.int y :: .int x :: t) sh M N Q := pw_ex h rfl (rfl) q hp k
theorem pw_ior {x y : Int32} {t : List Value} (q : Nat) (h : pmCode mi pc = some (.ior, len, a, b, c)) (hp : pc + len = q)  (k : PW mi q ls (.int (x ||| y) :: t) sh M N Q) : PW mi pc (ls) (.int y :: .int x :: t) sh M N Q := pw_ex h rfl (rfl) q hp k
theorem pw_ixor {x y : Int32} {t : List Value} (q : Nat) (h : pmCode mi pc = some (.ixor, len, a, b, c)) (hp : pc + len = q)  (k : PW mi q ls (.int (x ^^^ y) :: t) sh M N Q) : PW mi pc (ls) (.int y :: .int x :: t) sh M N Q := pw_ex h rfl (rfl) q hp k
theorem pw_ishl {x y : Int32} {t : List Value} (q : Nat) (h : pmCode mi pc = some (.ishl, len, a, b, c)) (hp : pc + len = q)  (k : PW mi q ls (.int (x <<< (y &&& 31)) :: t) sh M N Q) : PW mi pc (ls) (.int y :: .int x :: t) sh M N Q := pw_ex h rfl (rfl) q hp k
theorem pw_ishr {x y : Int32} {t : List Value} (q : Nat) (h : pmCode mi pc = some (.ishr, len, a, b, c)) (hp : pc + len = q)  (k : PW mi q ls (.int (x >>> (y &&& 31)) :: t) sh M N Q) : PW mi pc (ls) (.int y :: .int x :: t) sh M N Q := pw_ex h rfl (rfl) q hp k
theorem pw_iushr {x y : Int32} {t : List Value} (q : Nat) (h : pmCode mi pc = some (.iushr, len, a, b, c)) (hp : pc + len = q)  (k : PW mi q ls (.int ((x.toUInt32 >>> (y.toUInt32 &&& Int32.toUInt32 31)).toInt32) :: t) sh M N Q) : PW mi pc (ls) (.int y :: .int x :: t) sh M N Q := pw_ex h rfl (rfl) q hp k
theorem pw_ladd {x y : Int64} {t : List Value} (q : Nat) (h : pmCode mi pc = some (.ladd, len, a, b, c)) (hp : pc + len = q)  (k : PW mi q ls (.long (x + y) :: t) sh M N Q) : PW mi pc (ls) (.long y :: .long x :: t) sh M N Q := pw_ex h rfl (rfl) q hp k
theorem pw_lmul {x y : Int64} {t : List Value} (q : Nat) (h : pmCode mi pc = some (.lmul, len, a, b, c)) (hp : pc + len = q)  (k : PW mi q ls (.long (x * y) :: t) sh M N Q) : PW mi pc (ls) (.long y :: .long x :: t) sh M N Q := pw_ex h rfl (rfl) q hp k
theorem pw_land {x y : Int64} {t : List Value} (q : Nat) (h : pmCode mi pc = some (.land, len, a, b, c)) (hp : pc + len = q)  (k : PW mi q ls (.long (x &&& y) :: t) sh M N Q) : PW mi pc (ls) (.long y :: .long x :: t) sh M N Q := pw_ex h rfl (rfl) q hp k
theorem pw_lor {x y : Int64} {t : List Value} (q : Nat) (h : pmCode mi pc = some (.lor, len, a, b, c)) (hp : pc + len = q)  (k : PW mi q ls (.long (x ||| y) :: t) sh M N Q) : PW mi pc (ls) (.long y :: .long x :: t) sh M N Q := pw_ex h rfl (rfl) q hp k
theorem pw_irem {x y : Int32} {t : List Value} (q : Nat) (h : pmCode mi pc = some (.irem, len, a, b, c)) (hp : pc + len = q) (h0 : ¬ y = 0) (k : PW mi q ls (.int (x - x / y * y) :: t) sh M N Q) : PW mi pc (ls) (.int y :: .int x :: t) sh M N Q := pw_ex h rfl (by simp only [pmEx, if_neg h0]) q hp k
theorem pw_ldiv {x y : Int64} {t : List Value} (q : Nat) (h : pmCode mi pc = some (.ldiv, len, a, b, c)) (hp : pc + len = q) (h0 : ¬ y = 0) (k : PW mi q ls (.long (x / y) :: t) sh M N Q) : PW mi pc (ls) (.long y :: .long x :: t) sh M N Q := pw_ex h rfl (by simp only [pmEx, if_neg h0]) q hp k
theorem pw_lrem {x y : Int64} {t : List Value} (q : Nat) (h : pmCode mi pc = some (.lrem, len, a, b, c)) (hp : pc + len = q) (h0 : ¬ y = 0) (k : PW mi q ls (.long (x - x / y * y) :: t) sh M N Q) : PW mi pc (ls) (.long y :: .long x :: t) sh M N Q := pw_ex h rfl (by simp only [pmEx, if_neg h0]) q hp k
theorem pw_lshl {x : Int64} {y : Int32} {t : List Value} (q : Nat) (h : pmCode mi pc = some (.lshl, len, a, b, c)) (hp : pc + len = q)  (k : PW mi q ls (.long (x <<< (y.toInt64 &&& 63)) :: t) sh M N Q) : PW mi pc (ls) (.int y :: .long x :: t) sh M N Q := pw_ex h rfl (rfl) q hp k
theorem pw_lcmp {x y : Int64} {t : List Value} (q : Nat) (h : pmCode mi pc = some (.lcmp, len, a, b, c)) (hp : pc + len = q)  (k : PW mi q ls (.int (lg_cmp x y) :: t) sh M N Q) : PW mi pc (ls) (.long y :: .long x :: t) sh M N Q := pw_ex h rfl (rfl) q hp k
theorem pw_i2l {x : Int32} {t : List Value} (q : Nat) (h : pmCode mi pc = some (.i2l, len, a, b, c)) (hp : pc + len = q)  (k : PW mi q ls (.long x.toInt64 :: t) sh M N Q) : PW mi pc (ls) (.int x :: t) sh M N Q := pw_ex h rfl (rfl) q hp k
theorem pw_l2i {x : Int64} {t : List Value} (q : Nat) (h : pmCode mi pc = some (.l2i, len, a, b, c)) (hp : pc + len = q)  (k : PW mi q ls (.int x.toInt32 :: t) sh M N Q) : PW mi pc (ls) (.long x :: t) sh M N Q := pw_ex h rfl (rfl) q hp k
theorem pw_i2b {x : Int32} {t : List Value} (q : Nat) (h : pmCode mi pc = some (.i2b, len, a, b, c)) (hp : pc + len = q)  (k : PW mi q ls (.int x.toInt8.toInt32 :: t) sh M N Q) : PW mi pc (ls) (.int x :: t) sh M N Q := pw_ex h rfl (rfl) q hp k
theorem pw_i2s {x : Int32} {t : List Value} (q : Nat) (h : pmCode mi pc = some (.i2s, len, a, b, c)) (hp : pc + len = q)  (k : PW mi q ls (.int x.toInt16.toInt32 :: t) sh M N Q) : PW mi pc (ls) (.int x :: t) sh M N Q := pw_ex h rfl (rfl) q hp k
theorem pw_dup {v : Value} {t : List Value} (q : Nat) (h : pmCode mi pc = some (.dup, len, a, b, c)) (hp : pc + len = q) (hc : v.category = 1) (k : PW mi q ls (v :: v :: t) sh M N Q) : PW mi pc (ls) (v :: t) sh M N Q := pw_ex h rfl (by simp only [pmEx, if_pos hc]) q hp k
theorem pw_pop {v : Value} {t : List Value} (q : Nat) (h : pmCode mi pc = some (.pop, len, a, b, c)) (hp : pc + len = q) (hc : v.category = 1) (k : PW mi q ls (t) sh M N Q) : PW mi pc (ls) (v :: t) sh M N Q := pw_ex h rfl (by simp only [pmEx, if_pos hc]) q hp k
theorem pw_dup2 {v w : Value} {t : List Value} (q : Nat) (h : pmCode mi pc = some (.dup2, len, a, b, c)) (hp : pc + len = q) (hc : v.category = 1 ∧ w.category = 1) (k : PW mi q ls (v :: w :: v :: w :: t) sh M N Q) : PW mi pc (ls) (v :: w :: t) sh M N Q := pw_ex h rfl (by simp only [pmEx, if_pos hc]) q hp k
theorem pw_getI {x ci j k : Nat} {sl : List (Option (Option Nat))} {t : List Value} (q : Nat) (h : pmCode mi pc = some (.getfield x, len, ci, j, c)) (hp : pc + len = q) (ho : pmOb sh k ci sl) (hj : sl[j]? = some none) (kk : PW mi q ls (.int (M k j) :: t) sh M N Q) : PW mi pc ls (.ref k :: t) sh M N Q := by
  obtain ⟨h0, h1⟩ := ho
  obtain ⟨k, rfl⟩ : ∃ z, k = z + 1 := ⟨k - 1, by omega⟩
  exact pw_ex h rfl (by simp only [pmEx, h1, if_true, hj]) q hp kk
theorem pw_getR {x ci j k r : Nat} {sl : List (Option (Option Nat))} {t : List Value} (q : Nat) (h : pmCode mi pc = some (.getfield x, len, ci, j, c)) (hp : pc + len = q) (ho : pmOb sh k ci sl) (hj : sl[j]? = some (some (some r))) (kk : PW mi q ls (.ref r :: t) sh M N Q) : PW mi pc ls (.ref k :: t) sh M N Q := by
  obtain ⟨h0, h1⟩ := ho
  obtain ⟨k, rfl⟩ : ∃ z, k = z + 1 := ⟨k - 1, by omega⟩
  exact pw_ex h rfl (by simp only [pmEx, h1, if_true, hj]) q hp kk
theorem pw_putI {x ci j k : Nat} {v : Int32} {sl : List (Option (Option Nat))} {t : List Value} (q : Nat) (h : pmCode mi pc = some (.putfield x, len, ci, j, c)) (hp : pc + len = q) (ho : pmOb sh k ci sl) (hj : sl[j]? = some none) (hc : ci < 100) (kk : PW mi q ls t sh (pmSt M k j v) N Q) : PW mi pc ls (.int v :: .ref k :: t) sh M N Q := by
  obtain ⟨h0, h1⟩ := ho
  obtain ⟨k, rfl⟩ : ∃ z, k = z + 1 := ⟨k - 1, by omega⟩
  exact pw_ey h rfl (by simp only [pmEx, h1]; rw [if_pos ⟨(Nat.mod_eq_of_lt hc).symm, by omega, hj, Or.inl hc⟩]) q hp kk
theorem pw_putZ {x ci j k : Nat} {v : Int32} {sl : List (Option (Option Nat))} {t : List Value} (q : Nat) (h : pmCode mi pc = some (.putfield x, len, ci + 100, j, c)) (hp : pc + len = q) (ho : pmOb sh k ci sl) (hj : sl[j]? = some none) (hc : ci < 100) (hv : v = 0 ∨ v = 1) (kk : PW mi q ls t sh (pmSt M k j v) N Q) : PW mi pc ls (.int v :: .ref k :: t) sh M N Q := by
  obtain ⟨h0, h1⟩ := ho
  obtain ⟨k, rfl⟩ : ∃ z, k = z + 1 := ⟨k - 1, by omega⟩
  exact pw_ey h rfl (by simp only [pmEx, h1]; rw [if_pos ⟨by omega, by omega, hj, Or.inr hv⟩]) q hp kk
theorem pw_putR {x ci j k r : Nat} {sl : List (Option (Option Nat))} {t : List Value} (q : Nat) (h : pmCode mi pc = some (.putfield x, len, ci + 200, j, c)) (hp : pc + len = q) (ho : pmOb sh k ci sl) (hj : (sl[j]?).map Option.isSome = some true) (hc : ci < 100) (kk : PW mi q ls t (sh.set k (.inr (ci, sl.set j (some (some r))))) M N Q) : PW mi pc ls (.ref r :: .ref k :: t) sh M N Q := by
  obtain ⟨h0, h1⟩ := ho
  obtain ⟨k, rfl⟩ : ∃ z, k = z + 1 := ⟨k - 1, by omega⟩
  exact pw_ey h rfl (by simp only [pmEx, h1]; rw [if_pos ⟨by omega, by omega, hj⟩]) q hp kk
theorem pw_new {x : Nat} (q : Nat) (h : pmCode mi pc = some (.new x, len, a, b, c)) (hp : pc + len = q) (hM : M sh.length = fun _ => 0) (kk : PW mi q ls (.ref sh.length :: st) (sh ++ [.inr (a, pmBl a)]) M N Q) : PW mi pc ls st sh M N Q := by
  have e : va_up M sh.length (fun _ => 0) = M := by
    funext y
    by_cases hy : y = sh.length
    · subst hy; rw [va_up_self, hM]
    · rw [va_up_ne _ _ hy]
  exact pw_ey h rfl (by simp only [pmEx, e]) q hp kk
theorem pw_newI {n : Int32} (k : Nat) {t : List Value} (q : Nat) (h : pmCode mi pc = some (.newarray .int, len, a, b, c)) (hp : pc + len = q) (hn : n = nI k) (hk : k ≤ 1000) (hM : M sh.length = fun _ => 0) (kk : PW mi q ls (.ref sh.length :: t) (sh ++ [.inl (0, k, [])]) M N Q) : PW mi pc ls (.int n :: t) sh M N Q := by
  have e : va_up M sh.length (fun _ => 0) = M := by
    funext y
    by_cases hy : y = sh.length
    · subst hy; rw [va_up_self, hM]
    · rw [va_up_ne _ _ hy]
  subst hn
  have h1 : (nI k).toNatClampNeg = k := nI_clamp (by omega)
  exact pw_ey h rfl (by simp only [pmEx, h1]; rw [if_neg (fun z => z.elim (nI_pos (by omega)) (by omega)), e]) q hp kk
theorem pw_newZ {n : Int32} (k : Nat) {t : List Value} (q : Nat) (h : pmCode mi pc = some (.newarray .boolean, len, a, b, c)) (hp : pc + len = q) (hn : n = nI k) (hk : k ≤ 1000) (hM : M sh.length = fun _ => 0) (kk : PW mi q ls (.ref sh.length :: t) (sh ++ [.inl (2, k, [])]) M N Q) : PW mi pc ls (.int n :: t) sh M N Q := by
  have e : va_up M sh.length (fun _ => 0) = M := by
    funext y
    by_cases hy : y = sh.length
    · subst hy; rw [va_up_self, hM]
    · rw [va_up_ne _ _ hy]
  subst hn
  have h1 : (nI k).toNatClampNeg = k := nI_clamp (by omega)
  exact pw_ey h rfl (by simp only [pmEx, h1]; rw [if_neg (fun z => z.elim (nI_pos (by omega)) (by omega)), e]) q hp kk
theorem pw_newL {n : Int32} (k : Nat) {t : List Value} (q : Nat) (h : pmCode mi pc = some (.newarray .long, len, a, b, c)) (hp : pc + len = q) (hn : n = nI k) (hk : k ≤ 1000) (hM : N sh.length = fun _ => 0) (kk : PW mi q ls (.ref sh.length :: t) (sh ++ [.inl (1, k, [])]) M N Q) : PW mi pc ls (.int n :: t) sh M N Q := by
  have e : va_up N sh.length (fun _ => 0) = N := by
    funext y
    by_cases hy : y = sh.length
    · subst hy; rw [va_up_self, hM]
    · rw [va_up_ne _ _ hy]
  subst hn
  have h1 : (nI k).toNatClampNeg = k := nI_clamp (by omega)
  exact pw_ey h rfl (by simp only [pmEx, h1]; rw [if_neg (fun z => z.elim (nI_pos (by omega)) (by omega)), e]) q hp kk
theorem pw_newQ {x : Nat} {n : Int32} (k : Nat) {t : List Value} (q : Nat) (h : pmCode mi pc = some (.anewarray x, len, a, b, c)) (hp : pc + len = q) (hn : n = nI k) (hk : k ≤ 1000) (kk : PW mi q ls (.ref sh.length :: t) (sh ++ [.inl (a, k, List.replicate k none)]) M N Q) : PW mi pc ls (.int n :: t) sh M N Q := by
  subst hn
  have h1 : (nI k).toNatClampNeg = k := nI_clamp (by omega)
  exact pw_ey h rfl (by simp only [pmEx, h1]; rw [if_neg (fun z => z.elim (nI_pos (by omega)) (by omega))]) q hp kk
theorem pw_alen {k n tg : Nat} {rs : List (Option Nat)} {t : List Value} (q : Nat) (h : pmCode mi pc = some (.arraylength, len, a, 0, c)) (hp : pc + len = q) (ha : pmAy sh k tg n rs) (ht : tg ≤ 5) (kk : PW mi q ls (.int (nI n) :: t) sh M N Q) : PW mi pc ls (.ref k :: t) sh M N Q := by
  obtain ⟨h0, h1, -⟩ := ha
  have hk : (k == 0) = false := by simp; omega
  exact pw_ey h rfl (by simp only [pmEx, h1, hk]; rw [if_pos ⟨rfl, ht⟩]) q hp kk
theorem pw_slen {n : Nat} {rs : List (Option Nat)} {t : List Value} (q : Nat) (h : pmCode mi pc = some (.arraylength, len, a, 1, c)) (hp : pc + len = q) (hs : sh[0]? = some (.inl (0, n, rs))) (kk : PW mi q ls (.int (nI n) :: t) sh M N Q) : PW mi pc ls (.ref 0 :: t) sh M N Q :=
  pw_ey h rfl (by simp only [pmEx, hs]; rw [if_pos ⟨rfl, by decide⟩]) q hp kk
theorem pw_sld {n : Nat} {rs : List (Option Nat)} {x : Int32} (j : Nat) {t : List Value} (q : Nat) (h : pmCode mi pc = some (.iaload, len, a, 1, c)) (hp : pc + len = q) (hs : sh[0]? = some (.inl (0, n, rs))) (hx : x = nI j) (hj : j < n) (hn : n < 2 ^ 31) (kk : PW mi q ls (.int (M 0 j) :: t) sh M N Q) : PW mi pc ls (.int x :: .ref 0 :: t) sh M N Q := by
  subst hx
  have h1 : (nI j).toNatClampNeg = j := nI_clamp (by omega)
  exact pw_ey h rfl (by simp only [pmEx, hs, h1]; rw [if_pos ⟨rfl, fun z => z.elim (nI_pos (by omega)) (by omega)⟩]) q hp kk
theorem pw_iald {k n : Nat} {rs : List (Option Nat)} {x : Int32} (j : Nat) {t : List Value} (q : Nat) (h : pmCode mi pc = some (.iaload, len, a, 0, c)) (hp : pc + len = q) (ha : pmAy sh k 0 n rs) (hx : x = nI j) (hj : j < n) (kk : PW mi q ls (.int (M k j) :: t) sh M N Q) : PW mi pc ls (.int x :: .ref k :: t) sh M N Q := by
  obtain ⟨h0, h1, h2⟩ := ha
  have hk : (k == 0) = false := by simp; omega
  obtain ⟨e1, e2⟩ := vp_nj hx hj h2
  exact pw_ey h rfl (by simp only [pmEx, h1, hk]; rw [if_pos ⟨rfl, e1⟩, e2]) q hp kk
theorem pw_zald {k n : Nat} {rs : List (Option Nat)} {x : Int32} (j : Nat) {t : List Value} (q : Nat) (h : pmCode mi pc = some (.baload, len, a, b, c)) (hp : pc + len = q) (ha : pmAy sh k 2 n rs) (hx : x = nI j) (hj : j < n) (kk : PW mi q ls (.int (M k j) :: t) sh M N Q) : PW mi pc ls (.int x :: .ref k :: t) sh M N Q := by
  obtain ⟨h0, h1, h2⟩ := ha
  obtain ⟨k, rfl⟩ : ∃ z, k = z + 1 := ⟨k - 1, by omega⟩
  obtain ⟨e1, e2⟩ := vp_nj hx hj h2
  exact pw_ey h rfl (by simp only [pmEx, h1]; rw [if_pos e1, e2]) q hp kk
theorem pw_lald {k n : Nat} {rs : List (Option Nat)} {x : Int32} (j : Nat) {t : List Value} (q : Nat) (h : pmCode mi pc = some (.laload, len, a, b, c)) (hp : pc + len = q) (ha : pmAy sh k 1 n rs) (hx : x = nI j) (hj : j < n) (kk : PW mi q ls (.long (N k j) :: t) sh M N Q) : PW mi pc ls (.int x :: .ref k :: t) sh M N Q := by
  obtain ⟨h0, h1, h2⟩ := ha
  obtain ⟨k, rfl⟩ : ∃ z, k = z + 1 := ⟨k - 1, by omega⟩
  obtain ⟨e1, e2⟩ := vp_nj hx hj h2
  exact pw_ey h rfl (by simp only [pmEx, h1]; rw [if_pos e1, e2]) q hp kk
theorem pw_aald {k n tg r : Nat} {rs : List (Option Nat)} {x : Int32} (j : Nat) {t : List Value} (q : Nat) (h : pmCode mi pc = some (.aaload, len, a, b, c)) (hp : pc + len = q) (ha : pmAy sh k tg n rs) (ht : 3 ≤ tg ∧ tg ≤ 5) (hx : x = nI j) (hj : j < n) (hr : rs[j]? = some (some r)) (kk : PW mi q ls (.ref r :: t) sh M N Q) : PW mi pc ls (.int x :: .ref k :: t) sh M N Q := by
  obtain ⟨h0, h1, h2⟩ := ha
  obtain ⟨k, rfl⟩ : ∃ z, k = z + 1 := ⟨k - 1, by omega⟩
  obtain ⟨e1, e2⟩ := vp_nj hx hj h2
  exact pw_ey h rfl (by simp only [pmEx, h1]; rw [if_pos ⟨ht.1, ht.2, e1⟩, e2, hr]) q hp kk
theorem pw_iast {k n : Nat} {rs : List (Option Nat)} {x v : Int32} (j : Nat) {t : List Value} (q : Nat) (h : pmCode mi pc = some (.iastore, len, a, b, c)) (hp : pc + len = q) (ha : pmAy sh k 0 n rs) (hx : x = nI j) (hj : j < n) (kk : PW mi q ls t sh (pmSt M k j v) N Q) : PW mi pc ls (.int v :: .int x :: .ref k :: t) sh M N Q := by
  obtain ⟨h0, h1, h2⟩ := ha
  obtain ⟨k, rfl⟩ : ∃ z, k = z + 1 := ⟨k - 1, by omega⟩
  obtain ⟨e1, e2⟩ := vp_nj hx hj h2
  exact pw_ey h rfl (by simp only [pmEx, h1]; rw [if_pos e1, e2]) q hp kk
theorem pw_zast {k n : Nat} {rs : List (Option Nat)} {x v : Int32} (j : Nat) {t : List Value} (q : Nat) (h : pmCode mi pc = some (.bastore, len, a, b, c)) (hp : pc + len = q) (ha : pmAy sh k 2 n rs) (hx : x = nI j) (hj : j < n) (hv : v = 0 ∨ v = 1) (kk : PW mi q ls t sh (pmSt M k j v) N Q) : PW mi pc ls (.int v :: .int x :: .ref k :: t) sh M N Q := by
  obtain ⟨h0, h1, h2⟩ := ha
  obtain ⟨k, rfl⟩ : ∃ z, k = z + 1 := ⟨k - 1, by omega⟩
  obtain ⟨e1, e2⟩ := vp_nj hx hj h2
  exact pw_ey h rfl (by simp only [pmEx, h1]; rw [if_pos ⟨e1, hv⟩, e2]) q hp kk
theorem pw_last {k n : Nat} {rs : List (Option Nat)} {x : Int32} {v : Int64} (j : Nat) {t : List Value} (q : Nat) (h : pmCode mi pc = some (.lastore, len, a, b, c)) (hp : pc + len = q) (ha : pmAy sh k 1 n rs) (hx : x = nI j) (hj : j < n) (kk : PW mi q ls t sh M (pmStL N k j v) Q) : PW mi pc ls (.long v :: .int x :: .ref k :: t) sh M N Q := by
  obtain ⟨h0, h1, h2⟩ := ha
  obtain ⟨k, rfl⟩ : ∃ z, k = z + 1 := ⟨k - 1, by omega⟩
  obtain ⟨e1, e2⟩ := vp_nj hx hj h2
  exact pw_ey h rfl (by simp only [pmEx, h1]; rw [if_pos e1, e2]) q hp kk
theorem pw_aast {k n tg r ci : Nat} {rs : List (Option Nat)} {sl : List (Option (Option Nat))} {x : Int32} (j : Nat) {t : List Value} (q : Nat) (h : pmCode mi pc = some (.aastore, len, a, b, c)) (hp : pc + len = q) (ha : pmAy sh k tg n rs) (hr : pmOb sh r ci sl) (ht : pmEl tg = some ci) (hx : x = nI j) (hj : j < n) (hl : rs.length = n) (kk : PW mi q ls t (sh.set k (.inl (tg, n, rs.set j (some r)))) M N Q) : PW mi pc ls (.ref r :: .int x :: .ref k :: t) sh M N Q := by
  obtain ⟨h0, h1, h2⟩ := ha
  obtain ⟨g0, g1⟩ := hr
  obtain ⟨k, rfl⟩ : ∃ z, k = z + 1 := ⟨k - 1, by omega⟩
  obtain ⟨r, rfl⟩ : ∃ z, r = z + 1 := ⟨r - 1, by omega⟩
  obtain ⟨e1, e2⟩ := vp_nj hx hj h2
  exact pw_ey h rfl (by simp only [pmEx, h1, g1]; rw [if_pos ⟨ht, e1, hl⟩, e2]) q hp kk
theorem pw_objInit {x k : Nat} {t : List Value} (q : Nat) (h : pmCode mi pc = some (.invokespecial x, len, a, 1, c)) (hp : pc + len = q) (hc : pmCat t ≤ 8) (kk : PW mi q ls t sh M N Q) : PW mi pc ls (.ref k :: t) sh M N Q := by
  subst hp
  refine pw_go ?_ kk
  unfold pmNx
  rw [h]
  simp only [if_true, pmEx]
  rw [if_pos ⟨trivial, hc⟩]
theorem pw_copyI {x k k2 n0 n1 : Nat} {rs0 rs1 : List (Option Nat)} {sp dp n : Int32} (i j m : Nat) {t : List Value} (q : Nat) (h : pmCode mi pc = some (.invokestatic x, len, a, 1, c)) (hp : pc + len = q) (ha : pmAy sh k 0 n0 rs0) (hb : pmAy sh k2 0 n1 rs1) (h1 : sp = nI i) (h2 : dp = nI j) (h3 : n = nI m) (h4 : i + m ≤ n0) (h5 : j + m ≤ n1) (hc : pmCat t ≤ 8) (kk : PW mi q ls t sh (va_up M k2 (va_cpy (M k) (M k2) i j m)) N Q) : PW mi pc ls (.int n :: .int dp :: .ref k2 :: .int sp :: .ref k :: t) sh M N Q := by
  obtain ⟨a0, a1, a2⟩ := ha
  obtain ⟨b0, b1, b2⟩ := hb
  obtain ⟨k, rfl⟩ : ∃ z, k = z + 1 := ⟨k - 1, by omega⟩
  obtain ⟨k2, rfl⟩ : ∃ z, k2 = z + 1 := ⟨k2 - 1, by omega⟩
  subst h1; subst h2; subst h3; subst hp
  have e1 : (nI i).toNatClampNeg = i := nI_clamp (by omega)
  have e2 : (nI j).toNatClampNeg = j := nI_clamp (by omega)
  have e3 : (nI m).toNatClampNeg = m := nI_clamp (by omega)
  refine pw_go ?_ kk
  unfold pmNx
  rw [h]
  simp only [if_true, pmEx]
  rw [if_pos ⟨trivial, hc, nI_pos (by omega), nI_pos (by omega), nI_pos (by omega)⟩, a1, b1, e1, e2, e3]
  simp only
  rw [if_pos ⟨h4, h5⟩]
theorem pw_copyL {x k k2 n0 n1 : Nat} {rs0 rs1 : List (Option Nat)} {sp dp n : Int32} (i j m : Nat) {t : List Value} (q : Nat) (h : pmCode mi pc = some (.invokestatic x, len, a, 1, c)) (hp : pc + len = q) (ha : pmAy sh k 1 n0 rs0) (hb : pmAy sh k2 1 n1 rs1) (h1 : sp = nI i) (h2 : dp = nI j) (h3 : n = nI m) (h4 : i + m ≤ n0) (h5 : j + m ≤ n1) (hc : pmCat t ≤ 8) (kk : PW mi q ls t sh M (va_up N k2 (va_cpy (N k) (N k2) i j m)) Q) : PW mi pc ls (.int n :: .int dp :: .ref k2 :: .int sp :: .ref k :: t) sh M N Q := by
  obtain ⟨a0, a1, a2⟩ := ha
  obtain ⟨b0, b1, b2⟩ := hb
  obtain ⟨k, rfl⟩ : ∃ z, k = z + 1 := ⟨k - 1, by omega⟩
  obtain ⟨k2, rfl⟩ : ∃ z, k2 = z + 1 := ⟨k2 - 1, by omega⟩
  subst h1; subst h2; subst h3; subst hp
  have e1 : (nI i).toNatClampNeg = i := nI_clamp (by omega)
  have e2 : (nI j).toNatClampNeg = j := nI_clamp (by omega)
  have e3 : (nI m).toNatClampNeg = m := nI_clamp (by omega)
  refine pw_go ?_ kk
  unfold pmNx
  rw [h]
  simp only [if_true, pmEx]
  rw [if_pos ⟨trivial, hc, nI_pos (by omega), nI_pos (by omega), nI_pos (by omega)⟩, a1, b1, e1, e2, e3]
  simp only
  rw [if_pos ⟨h4, h5⟩]
theorem pw_goto {x : Int} (h : pmCode mi pc = some (.goto x, len, a, b, c)) (q : Nat) (hp : a = q) (k : PW mi q ls st sh M N Q) : PW mi pc ls st sh M N Q := by
  subst hp
  exact pw_go (by unfold pmNx; rw [h]) k
theorem pw_if_eq {y : Int} {x : Int32} {t : List Value} (q q2 : Nat) (h : pmCode mi pc = some (.ifCond .eq y, len, a, b, c)) (hp : a = q) (hp2 : pc + 3 = q2) (kt : x = 0 → PW mi q ls t sh M N Q) (kf : ¬ (x = 0) → PW mi q2 ls t sh M N Q) : PW mi pc ls (.int x :: t) sh M N Q := by
  subst hp; subst hp2
  by_cases hc : x = 0
  · exact pw_go (by unfold pmNx; rw [h]; show some (Sum.inr (Sum.inl ((if pmC0 .eq x = true then a else pc + 3), _, _, _, _, _))) = _; rw [if_pos (show pmC0 .eq x = true from decide_eq_true hc)]) (kt hc)
  · exact pw_go (by unfold pmNx; rw [h]; show some (Sum.inr (Sum.inl ((if pmC0 .eq x = true then a else pc + 3), _, _, _, _, _))) = _; rw [if_neg (show ¬ pmC0 .eq x = true from fun z => hc (of_decide_eq_true z))]) (kf hc)
theorem pw_if_ne {y : Int} {x : Int32} {t : List Value} (q q2 : Nat) (h : pmCode mi pc = some (.ifCond .ne y, len, a, b, c)) (hp : a = q) (hp2 : pc + 3 = q2) (kt : ¬ x = 0 → PW mi q ls t sh M N Q) (kf : ¬ (¬ x = 0) → PW mi q2 ls t sh M N Q) : PW mi pc ls (.int x :: t) sh M N Q := by
  subst hp; subst hp2
  by_cases hc : ¬ x = 0
  · exact pw_go (by unfold pmNx; rw [h]; show some (Sum.inr (Sum.inl ((if pmC0 .ne x = true then a else pc + 3), _, _, _, _, _))) = _; rw [if_pos (show pmC0 .ne x = true from decide_eq_true hc)]) (kt hc)
  · exact pw_go (by unfold pmNx; rw [h]; show some (Sum.inr (Sum.inl ((if pmC0 .ne x = true then a else pc + 3), _, _, _, _, _))) = _; rw [if_neg (show ¬ pmC0 .ne x = true from fun z => hc (of_decide_eq_true z))]) (kf hc)
theorem pw_if_lt {y : Int} {x : Int32} {t : List Value} (q q2 : Nat) (h : pmCode mi pc = some (.ifCond .lt y, len, a, b, c)) (hp : a = q) (hp2 : pc + 3 = q2) (kt : x < 0 → PW mi q ls t sh M N Q) (kf : ¬ (x < 0) → PW mi q2 ls t sh M N Q) : PW mi pc ls (.int x :: t) sh M N Q := by
  subst hp; subst hp2
  by_cases hc : x < 0
  · exact pw_go (by unfold pmNx; rw [h]; show some (Sum.inr (Sum.inl ((if pmC0 .lt x = true then a else pc + 3), _, _, _, _, _))) = _; rw [if_pos (show pmC0 .lt x = true from decide_eq_true hc)]) (kt hc)
  · exact pw_go (by unfold pmNx; rw [h]; show some (Sum.inr (Sum.inl ((if pmC0 .lt x = true then a else pc + 3), _, _, _, _, _))) = _; rw [if_neg (show ¬ pmC0 .lt x = true from fun z => hc (of_decide_eq_true z))]) (kf hc)
theorem pw_if_ge {y : Int} {x : Int32} {t : List Value} (q q2 : Nat) (h : pmCode mi pc = some (.ifCond .ge y, len, a, b, c)) (hp : a = q) (hp2 : pc + 3 = q2) (kt : 0 ≤ x → PW mi q ls t sh M N Q) (kf : ¬ (0 ≤ x) → PW mi q2 ls t sh M N Q) : PW mi pc ls (.int x :: t) sh M N Q := by
  subst hp; subst hp2
  by_cases hc : 0 ≤ x
  · exact pw_go (by unfold pmNx; rw [h]; show some (Sum.inr (Sum.inl ((if pmC0 .ge x = true then a else pc + 3), _, _, _, _, _))) = _; rw [if_pos (show pmC0 .ge x = true from decide_eq_true hc)]) (kt hc)
  · exact pw_go (by unfold pmNx; rw [h]; show some (Sum.inr (Sum.inl ((if pmC0 .ge x = true then a else pc + 3), _, _, _, _, _))) = _; rw [if_neg (show ¬ pmC0 .ge x = true from fun z => hc (of_decide_eq_true z))]) (kf hc)
theorem pw_if_gt {y : Int} {x : Int32} {t : List Value} (q q2 : Nat) (h : pmCode mi pc = some (.ifCond .gt y, len, a, b, c)) (hp : a = q) (hp2 : pc + 3 = q2) (kt : 0 < x → PW mi q ls t sh M N Q) (kf : ¬ (0 < x) → PW mi q2 ls t sh M N Q) : PW mi pc ls (.int x :: t) sh M N Q := by
  subst hp; subst hp2
  by_cases hc : 0 < x
  · exact pw_go (by unfold pmNx; rw [h]; show some (Sum.inr (Sum.inl ((if pmC0 .gt x = true then a else pc + 3), _, _, _, _, _))) = _; rw [if_pos (show pmC0 .gt x = true from decide_eq_true hc)]) (kt hc)
  · exact pw_go (by unfold pmNx; rw [h]; show some (Sum.inr (Sum.inl ((if pmC0 .gt x = true then a else pc + 3), _, _, _, _, _))) = _; rw [if_neg (show ¬ pmC0 .gt x = true from fun z => hc (of_decide_eq_true z))]) (kf hc)
theorem pw_if_le {y : Int} {x : Int32} {t : List Value} (q q2 : Nat) (h : pmCode mi pc = some (.ifCond .le y, len, a, b, c)) (hp : a = q) (hp2 : pc + 3 = q2) (kt : x ≤ 0 → PW mi q ls t sh M N Q) (kf : ¬ (x ≤ 0) → PW mi q2 ls t sh M N Q) : PW mi pc ls (.int x :: t) sh M N Q := by
  subst hp; subst hp2
  by_cases hc : x ≤ 0
  · exact pw_go (by unfold pmNx; rw [h]; show some (Sum.inr (Sum.inl ((if pmC0 .le x = true then a else pc + 3), _, _, _, _, _))) = _; rw [if_pos (show pmC0 .le x = true from decide_eq_true hc)]) (kt hc)
  · exact pw_go (by unfold pmNx; rw [h]; show some (Sum.inr (Sum.inl ((if pmC0 .le x = true then a else pc + 3), _, _, _, _, _))) = _; rw [if_neg (show ¬ pmC0 .le x = true from fun z => hc (of_decide_eq_true z))]) (kf hc)
theorem pw_icmp_eq {z : Int} {x y : Int32} {t : List Value} (q q2 : Nat) (h : pmCode mi pc = some (.if_icmp .eq z, len, a, b, c)) (hp : a = q) (hp2 : pc + 3 = q2) (kt : x = y → PW mi q ls t sh M N Q) (kf : ¬ (x = y) → PW mi q2 ls t sh M N Q) : PW mi pc ls (.int y :: .int x :: t) sh M N Q := by
  subst hp; subst hp2
  by_cases hc : x = y
  · exact pw_go (by unfold pmNx; rw [h]; show some (Sum.inr (Sum.inl ((if pmC2 .eq x y = true then a else pc + 3), _, _, _, _, _))) = _; rw [if_pos (show pmC2 .eq x y = true from decide_eq_true hc)]) (kt hc)
  · exact pw_go (by unfold pmNx; rw [h]; show some (Sum.inr (Sum.inl ((if pmC2 .eq x y = true then a else pc + 3), _, _, _, _, _))) = _; rw [if_neg (show ¬ pmC2 .eq x y = true from fun z => hc (of_decide_eq_true z))]) (kf hc)
theorem pw_icmp_ne {z : Int} {x y : Int32} {t : List Value} (q q2 : Nat) (h : pmCode mi pc = some (.if_icmp .ne z, len, a, b, c)) (hp : a = q) (hp2 : pc + 3 = q2) (kt : ¬ x = y → PW mi q ls t sh M N Q) (kf : ¬ (¬ x = y) → PW mi q2 ls t sh M N Q) : PW mi pc ls (.int y :: .int x :: t) sh M N Q := by
  subst hp; subst hp2
  by_cases hc : ¬ x = y
  · exact pw_go (by unfold pmNx; rw [h]; show some (Sum.inr (Sum.inl ((if pmC2 .ne x y = true then a else pc + 3), _, _, _, _, _))) = _; rw [if_pos (show pmC2 .ne x y = true from decide_eq_true hc)]) (kt hc)
  · exact pw_go (by unfold pmNx; rw [h]; show some (Sum.inr (Sum.inl ((if pmC2 .ne x y = true then a else pc + 3), _, _, _, _, _))) = _; rw [if_neg (show ¬ pmC2 .ne x y = true from fun z => hc (of_decide_eq_true z))]) (kf hc)
theorem pw_icmp_lt {z : Int} {x y : Int32} {t : List Value} (q q2 : Nat) (h : pmCode mi pc = some (.if_icmp .lt z, len, a, b, c)) (hp : a = q) (hp2 : pc + 3 = q2) (kt : x < y → PW mi q ls t sh M N Q) (kf : ¬ (x < y) → PW mi q2 ls t sh M N Q) : PW mi pc ls (.int y :: .int x :: t) sh M N Q := by
  subst hp; subst hp2
  by_cases hc : x < y
  · exact pw_go (by unfold pmNx; rw [h]; show some (Sum.inr (Sum.inl ((if pmC2 .lt x y = true then a else pc + 3), _, _, _, _, _))) = _; rw [if_pos (show pmC2 .lt x y = true from decide_eq_true hc)]) (kt hc)
  · exact pw_go (by unfold pmNx; rw [h]; show some (Sum.inr (Sum.inl ((if pmC2 .lt x y = true then a else pc + 3), _, _, _, _, _))) = _; rw [if_neg (show ¬ pmC2 .lt x y = true from fun z => hc (of_decide_eq_true z))]) (kf hc)
theorem pw_icmp_ge {z : Int} {x y : Int32} {t : List Value} (q q2 : Nat) (h : pmCode mi pc = some (.if_icmp .ge z, len, a, b, c)) (hp : a = q) (hp2 : pc + 3 = q2) (kt : y ≤ x → PW mi q ls t sh M N Q) (kf : ¬ (y ≤ x) → PW mi q2 ls t sh M N Q) : PW mi pc ls (.int y :: .int x :: t) sh M N Q := by
  subst hp; subst hp2
  by_cases hc : y ≤ x
  · exact pw_go (by unfold pmNx; rw [h]; show some (Sum.inr (Sum.inl ((if pmC2 .ge x y = true then a else pc + 3), _, _, _, _, _))) = _; rw [if_pos (show pmC2 .ge x y = true from decide_eq_true hc)]) (kt hc)
  · exact pw_go (by unfold pmNx; rw [h]; show some (Sum.inr (Sum.inl ((if pmC2 .ge x y = true then a else pc + 3), _, _, _, _, _))) = _; rw [if_neg (show ¬ pmC2 .ge x y = true from fun z => hc (of_decide_eq_true z))]) (kf hc)
theorem pw_icmp_gt {z : Int} {x y : Int32} {t : List Value} (q q2 : Nat) (h : pmCode mi pc = some (.if_icmp .gt z, len, a, b, c)) (hp : a = q) (hp2 : pc + 3 = q2) (kt : y < x → PW mi q ls t sh M N Q) (kf : ¬ (y < x) → PW mi q2 ls t sh M N Q) : PW mi pc ls (.int y :: .int x :: t) sh M N Q := by
  subst hp; subst hp2
  by_cases hc : y < x
  · exact pw_go (by unfold pmNx; rw [h]; show some (Sum.inr (Sum.inl ((if pmC2 .gt x y = true then a else pc + 3), _, _, _, _, _))) = _; rw [if_pos (show pmC2 .gt x y = true from decide_eq_true hc)]) (kt hc)
  · exact pw_go (by unfold pmNx; rw [h]; show some (Sum.inr (Sum.inl ((if pmC2 .gt x y = true then a else pc + 3), _, _, _, _, _))) = _; rw [if_neg (show ¬ pmC2 .gt x y = true from fun z => hc (of_decide_eq_true z))]) (kf hc)
theorem pw_icmp_le {z : Int} {x y : Int32} {t : List Value} (q q2 : Nat) (h : pmCode mi pc = some (.if_icmp .le z, len, a, b, c)) (hp : a = q) (hp2 : pc + 3 = q2) (kt : x ≤ y → PW mi q ls t sh M N Q) (kf : ¬ (x ≤ y) → PW mi q2 ls t sh M N Q) : PW mi pc ls (.int y :: .int x :: t) sh M N Q := by
  subst hp; subst hp2
  by_cases hc : x ≤ y
  · exact pw_go (by unfold pmNx; rw [h]; show some (Sum.inr (Sum.inl ((if pmC2 .le x y = true then a else pc + 3), _, _, _, _, _))) = _; rw [if_pos (show pmC2 .le x y = true from decide_eq_true hc)]) (kt hc)
  · exact pw_go (by unfold pmNx; rw [h]; show some (Sum.inr (Sum.inl ((if pmC2 .le x y = true then a else pc + 3), _, _, _, _, _))) = _; rw [if_neg (show ¬ pmC2 .le x y = true from fun z => hc (of_decide_eq_true z))]) (kf hc)
theorem pw_tsw {d lo hi : Int} {offs : Array Int} {x : Int32} {t : List Value} (q : Nat) (h : pmCode mi pc = some (.tableswitch d lo hi offs, len, a, b, c)) (hq : pmTs pc d lo hi offs x = some q) (k : PW mi q ls t sh M N Q) : PW mi pc ls (.int x :: t) sh M N Q := by
  refine pw_go ?_ k
  unfold pmNx
  rw [h]
  simp only [hq]
theorem pw_lsw {d : Int} {ps : Array (Int × Int)} {x : Int32} {t : List Value} (q : Nat) (h : pmCode mi pc = some (.lookupswitch d ps, len, a, b, c)) (hq : pmLk pc d ps x = some q) (k : PW mi q ls t sh M N Q) : PW mi pc ls (.int x :: t) sh M N Q := by
  refine pw_go ?_ k
  unfold pmNx
  rw [h]
  simp only [hq]
theorem pw_iret {v : Int32} (h : pmCode mi pc = some (.ireturn, len, a, b, c)) (hr : pmRt mi = some .int) (k : Q (some (.int v)) sh M N) : PW mi pc ls [.int v] sh M N Q :=
  pw_rt (by unfold pmNx; rw [h]; simp only; rw [if_pos (Or.inl hr)]) k
theorem pw_zret {v : Int32} (h : pmCode mi pc = some (.ireturn, len, a, b, c)) (hr : pmRt mi = some .boolean) (hv : v = 0 ∨ v = 1) (k : Q (some (.int v)) sh M N) : PW mi pc ls [.int v] sh M N Q :=
  pw_rt (by unfold pmNx; rw [h]; simp only; rw [if_pos (Or.inr ⟨hr, hv⟩)]) k
theorem pw_lret {v : Int64} (h : pmCode mi pc = some (.lreturn, len, a, b, c)) (k : Q (some (.long v)) sh M N) : PW mi pc ls [.long v] sh M N Q :=
  pw_rt (by unfold pmNx; rw [h]) k
theorem pw_aret {v : Nat} (h : pmCode mi pc = some (.areturn, len, a, b, c)) (k : Q (some (.ref v)) sh M N) : PW mi pc ls [.ref v] sh M N Q :=
  pw_rt (by unfold pmNx; rw [h]) k
theorem pw_vret (h : pmCode mi pc = some (.return_, len, a, b, c)) (k : Q none sh M N) : PW mi pc ls [] sh M N Q :=
  pw_rt (by unfold pmNx; rw [h]) k
theorem pw_callV {x k sz : Nat} {sl : List (Option (Option Nat))} {as rest : List Value} (q : Nat) (h : pmCode mi pc = some (.invokevirtual x, len, a, b, c)) (hp : pc + 3 = q) (hs : st = as.reverse ++ (.ref k :: rest)) (ho : pmOb sh k (pmCi a) sl) (hn : as.length + 1 = pmNa a) (hc : pmCat rest ≤ 8) (hk : pmKd a = 0) (hv : as.all pmOkV = true) (hf : ((Value.ref k :: as).flatMap fun v => if pmIsL v then [v, .null] else [v]).length = sz) (hz : sz ≤ pmL a) (kk : PW a 0 (pmEn (.ref k :: as) (pmL a)) [] sh M N (fun r sh' M' N' => PW mi q ls (r.toList ++ rest) sh' M' N' Q)) : PW mi pc ls st sh M N Q := by
  subst hp
  obtain ⟨h0, h1⟩ := ho
  obtain ⟨k, rfl⟩ : ∃ z, k = z + 1 := ⟨k - 1, by omega⟩
  refine pw_cl (as := .ref (k + 1) :: as) (rest := rest) ?_ kk
  have e1 : st = (Value.ref (k + 1) :: as).reverse ++ rest := by rw [hs]; simp
  have e3 : (Value.ref (k + 1) :: as).reverse.length = pmNa a := by rw [List.length_reverse, List.length_cons]; exact hn
  have e2 : pmArgs 0 a st sh = some (.ref (k + 1) :: as, rest) := by
    unfold pmArgs
    simp only
    rw [e1, ← e3, List.take_left, List.drop_left, List.reverse_reverse]
    rw [if_pos ⟨by rw [List.length_append]; omega, hc, hk, by simp only [pmRecv, h1]; simp, by simpa [pmOkV] using hv, by rw [hf]; exact hz⟩]
  unfold pmNx
  rw [h]
  simp only [e2]
theorem pw_callS {x sz : Nat} {as rest : List Value} (q : Nat) (h : pmCode mi pc = some (.invokestatic x, len, a, 0, c)) (hp : pc + 3 = q) (hs : st = as.reverse ++ rest) (hn : as.length = pmNa a) (hc : pmCat rest ≤ 8) (hk : pmKd a = 1) (hv : as.all pmOkV = true) (hf : (as.flatMap fun v => if pmIsL v then [v, .null] else [v]).length = sz) (hz : sz ≤ pmL a) (kk : PW a 0 (pmEn as (pmL a)) [] sh M N (fun r sh' M' N' => PW mi q ls (r.toList ++ rest) sh' M' N' Q)) : PW mi pc ls st sh M N Q := by
  subst hp
  refine pw_cl (as := as) (rest := rest) ?_ kk
  have e3 : as.reverse.length = pmNa a := by rw [List.length_reverse]; exact hn
  have e2 : pmArgs 1 a st sh = some (as, rest) := by
    unfold pmArgs
    simp only
    rw [hs, ← e3, List.take_left, List.drop_left, List.reverse_reverse]
    rw [if_pos ⟨by rw [List.length_append]; omega, hc, hk, rfl, hv, by rw [hf]; exact hz⟩]
  unfold pmNx
  rw [h]
  simp only [e2]
  rfl
theorem pw_callI {x k sz : Nat} {as rest : List Value} (q : Nat) (h : pmCode mi pc = some (.invokespecial x, len, a, 0, c)) (hp : pc + 3 = q) (hs : st = as.reverse ++ (.ref k :: rest)) (hn : as.length + 1 = pmNa a) (hc : pmCat rest ≤ 8) (hk : pmKd a = 2) (hv : as.all pmOkV = true) (hf : ((Value.ref k :: as).flatMap fun v => if pmIsL v then [v, .null] else [v]).length = sz) (hz : sz ≤ pmL a) (kk : PW a 0 (pmEn (.ref k :: as) (pmL a)) [] sh M N (fun r sh' M' N' => PW mi q ls (r.toList ++ rest) sh' M' N' Q)) : PW mi pc ls st sh M N Q := by
  subst hp
  refine pw_cl (as := .ref k :: as) (rest := rest) ?_ kk
  have e1 : st = (Value.ref k :: as).reverse ++ rest := by rw [hs]; simp
  have e3 : (Value.ref k :: as).reverse.length = pmNa a := by rw [List.length_reverse, List.length_cons]; exact hn
  have e2 : pmArgs 2 a st sh = some (.ref k :: as, rest) := by
    unfold pmArgs
    simp only
    rw [e1, ← e3, List.take_left, List.drop_left, List.reverse_reverse]
    rw [if_pos ⟨by rw [List.length_append]; omega, hc, hk, rfl, by simpa [pmOkV] using hv, by rw [hf]; exact hz⟩]
  unfold pmNx
  rw [h]
  simp only [e2]
  rfl
end PWR
