/-- what reading a job may change -/
def frJ (k : Nat) (M M' : pmM) : Prop := (∀ x, x ≠ k → x ≠ k + 13 → x ≠ k + 14 → M' x = M x) ∧ ∀ j, j ≠ 18 → j ≠ 21 → M' k j = M k j
section MRH
variable {sh : pmS} {M : pmM} {N : pmN} {Q : pmPost} {k : Nat} {tp : List Int32}
theorem c_readsJob {p : Nat} (hb : isMod sh k) (hl : tp.length ≤ 150) (hneg : ∀ x ∈ tp, ¬ x < 0) (ht : tpIs M k tp) (hp : p ≤ tp.length) (hM : M k 18 = nI p) (h0 : M (k + 13) 0 = nI 0)
    (kf : ∀ M', frJ k M M' → M' k 18 = nI (rdRs tp 10 (rdL tp 60 p).2 []).2 → (rdRs tp 10 (rdL tp 60 p).2 []).1 = none → Q (some (.int (nI 0))) sh M' N)
    (ky : ∀ rs M', frJ k M M' → M' k 18 = nI (rdRs tp 10 (rdL tp 60 p).2 []).2 → (rdRs tp 10 (rdL tp 60 p).2 []).1 = some rs → ruled (M' (k + 13)) rs → M' (k + 14) = putIn (M (k + 14)) 0 (rdL tp 60 p).1 → M' k 21 = nI (rdL tp 60 p).1.length → Q (some (.int (nI 1))) sh M' N) : PW mX11_readsJob 0 [.ref k] [] sh M N Q := by
  have hb0 := hb
  obtain ⟨b0, a1, a2, a3, a4, a5, a6, a7, a8, a9, a10, a11, a12, a13, a14, a15, a16, a17, a18, a19, a20⟩ := hb
  have hrl := rdL_len tp 60 p
  refine pw_aload_n 1 rfl rfl rfl ?_
  refine pw_aload_n 2 rfl rfl rfl ?_
  refine pw_aload_n 3 rfl rfl rfl ?_
  refine pw_getR 6 rfl rfl (by first | assumption | exact ⟨by decide, rfl⟩) rfl ?_
  refine pw_iconst (v := nI 0) 7 rfl rfl (by decide) ?_
  refine pw_bipush (v := nI 60) 9 rfl rfl (by decide) ?_
  refine pw_cV3 12 rfl rfl (by first | assumption | exact ⟨by decide, rfl⟩) rfl (Nat.le_of_ble_eq_true rfl) rfl rfl (Nat.le_of_ble_eq_true rfl) (c_takesLetters hb0 hl ht hp hM a14 (by omega) (by omega) (by decide) (fun M1 f1 e1 p1 => ?_))
  refine pw_pI ?_
  refine pw_putI 15 rfl rfl (by first | assumption | exact ⟨by decide, rfl⟩) rfl (by decide) ?_
  have g1 : ∀ x, x ≠ k → pmSt M1 k 21 (nI (rdL tp 60 p).1.length) x = M1 x := fun x hx => st_ne _ _ _ _ hx
  have g2 : ∀ j, j ≠ 21 → pmSt M1 k 21 (nI (rdL tp 60 p).1.length) k j = M1 k j := fun j hj => st_row _ _ _ _ hj
  have ht2 : tpIs (pmSt M1 k 21 (nI (rdL tp 60 p).1.length)) k tp := by
    have := ht.mvR f1 (by omega)
    exact ⟨by rw [g2 1 (by decide)]; exact this.1, fun i hi => by rw [g1 (k + 1) (by omega)]; exact this.2 i hi⟩
  have jf : ∀ M', frR k (k + 13) (pmSt M1 k 21 (nI (rdL tp 60 p).1.length)) M' → frJ k M M' := by
    intro M' f
    refine ⟨fun x h1 h2 h3 => ?_, fun j h1 h2 => ?_⟩
    · rw [f.1 x h1 h2, g1 x h1, f1.1 x h1 h3]
    · rw [f.2 j h1, g2 j h2, f1.2 j h1]
  refine rjob_loop hb0 hl hneg (rdRs tp 10 (rdL tp 60 p).2 []) (fun M' f p' e => kf M' (jf M' f) p' e) (fun rs M' f p' e r => ky rs M' (jf M' f) p' e r ?_ ?_) 10 (rdL tp 60 p).2 [] _ rfl (hrl.2 hp) frR.rf ht2 ?_ (fun r hr => absurd hr (Nat.not_lt_zero r)) ?_ rfl
  · rw [f.1 _ (by omega) (by omega), g1 _ (by omega)]; exact e1
  · rw [f.2 21 (by decide), st_same]
  · refine ⟨?_, fun r hr => absurd hr (Nat.not_lt_zero r)⟩
    rw [g1 _ (by omega), f1.1 _ (by omega) (by omega)]; exact h0
  · rw [g2 18 (by decide)]; exact p1
end MRH
/-- what the reference holds does not lie in its rows for work -/
theorem modIs.mv {M M' : pmM} {N : pmN} {k : Nat} {a : aW} (h : modIs M N k a) (h1 : ∀ j, j ≠ 18 → j ≠ 21 → j ≠ 24 → M' k j = M k j) (h2 : ∀ x, k + 1 ≤ x → x ≤ k + 10 → M' x = M x) : modIs M' N k a := by
  unfold modIs at *
  rw [h1 1 (by decide) (by decide) (by decide), h1 5 (by decide) (by decide) (by decide), h1 6 (by decide) (by decide) (by decide), h1 7 (by decide) (by decide) (by decide), h1 11 (by decide) (by decide) (by decide), h1 12 (by decide) (by decide) (by decide), h2 (k + 1) (by omega) (by omega), h2 (k + 2) (by omega) (by omega), h2 (k + 3) (by omega) (by omega), h2 (k + 4) (by omega) (by omega), h2 (k + 5) (by omega) (by omega), h2 (k + 6) (by omega) (by omega), h2 (k + 7) (by omega) (by omega), h2 (k + 8) (by omega) (by omega), h2 (k + 9) (by omega) (by omega), h2 (k + 10) (by omega) (by omega)]
  exact h
