theorem upd_at {f : Nat → Int32} {i : Nat} {v : Int32} : upd f i v i = v := if_pos rfl
theorem upd_no {f : Nat → Int32} {i j : Nat} {v : Int32} (h : j ≠ i) : upd f i v j = f j := if_neg h
theorem putIn_out {f : Nat → Int32} {o j : Nat} {xs : List Int32} (h : j < o ∨ o + xs.length ≤ j) : putIn f o xs j = f j := if_neg (by omega)
theorem putIn_in {f : Nat → Int32} {o i : Nat} {xs : List Int32} (h : i < xs.length) : putIn f o xs (o + i) = xs.getD i 0 := by
  unfold putIn
  rw [if_pos (by omega), show o + i - o = i by omega]
theorem gR_app {rs : List aR} {x : aR} {i : Nat} (hi : i < rs.length) : gR (rs ++ [x]) i = gR rs i := by
  unfold gR; rw [List.getD_eq_getElem?_getD, List.getD_eq_getElem?_getD, List.getElem?_append_left hi]
theorem gR_last {rs : List aR} {x : aR} : gR (rs ++ [x]) rs.length = x := by
  unfold gR; rw [List.getD_eq_getElem?_getD, List.getElem?_append_right (Nat.le_refl _), Nat.sub_self]; rfl
/-- a rule put behind the others -/
def behind (f : Nat → Int32) (r kd : Nat) (ph gf : List Int32) : Nat → Int32 := upd (upd (putIn (upd (putIn (upd f (1 + r) (nI kd)) (31 + 6 * r) ph) (11 + r) (nI ph.length)) (91 + 6 * r) gf) (21 + r) (nI gf.length)) 0 (nI (r + 1))
theorem behind_low {f : Nat → Int32} {r kd j : Nat} {ph gf : List Int32} (h0 : j ≠ 0) (h1 : j ≠ 1 + r) (h2 : j ≠ 11 + r) (h3 : j ≠ 21 + r) (h4 : j < 31 + 6 * r ∨ 31 + 6 * r + ph.length ≤ j) (h5 : j < 91 + 6 * r ∨ 91 + 6 * r + gf.length ≤ j) : behind f r kd ph gf j = f j := by
  unfold behind
  rw [upd_no h0, upd_no h3, putIn_out h5, upd_no h2, putIn_out h4, upd_no h1]
theorem ruled_app {f : Nat → Int32} {rs : List aR} {kd : Nat} {ph gf : List Int32} (h : ruled f rs) (h9 : rs.length ≤ 9) (hw : ∀ r, r < rs.length → (pPh rs r).length ≤ 6 ∧ (pGf rs r).length ≤ 6) (h1 : ph.length ≤ 6) (h2 : gf.length ≤ 6) : ruled (behind f rs.length kd ph gf) (rs ++ [(kd, ph, gf)]) := by
  refine ⟨by rw [List.length_append]; exact upd_at, fun r hr => ?_⟩
  rw [List.length_append, List.length_singleton] at hr
  by_cases q : r < rs.length
  · obtain ⟨a1, a2, a3, a4, a5⟩ := h.2 r q
    obtain ⟨l1, l2⟩ := hw r q
    have e : gR (rs ++ [(kd, ph, gf)]) r = gR rs r := gR_app q
    unfold pPh pGf at *
    rw [e]
    refine ⟨?_, ?_, ?_, fun i hi => ?_, fun i hi => ?_⟩
    · rw [behind_low (by omega) (by omega) (by omega) (by omega) (by omega) (by omega)]; exact a1
    · rw [behind_low (by omega) (by omega) (by omega) (by omega) (by omega) (by omega)]; exact a2
    · rw [behind_low (by omega) (by omega) (by omega) (by omega) (by omega) (by omega)]; exact a3
    · rw [behind_low (by omega) (by omega) (by omega) (by omega) (by omega) (by omega)]; exact a4 i hi
    · rw [behind_low (by omega) (by omega) (by omega) (by omega) (by omega) (by omega)]; exact a5 i hi
  · have : r = rs.length := by omega
    subst this
    have e : gR (rs ++ [(kd, ph, gf)]) rs.length = (kd, ph, gf) := gR_last
    unfold pPh pGf
    rw [e]
    unfold behind
    refine ⟨?_, ?_, ?_, fun i hi => ?_, fun i hi => ?_⟩
    · rw [upd_no (by omega), upd_no (by omega), putIn_out (by omega), upd_no (by omega), putIn_out (by omega), upd_at]
    · rw [upd_no (by omega), upd_no (by omega), putIn_out (by omega), upd_at]
    · rw [upd_no (by omega), upd_at]
    · have hi : i < ph.length := hi
      rw [upd_no (by omega), upd_no (by omega), putIn_out (by omega), upd_no (by omega), putIn_in hi]
    · have hi : i < gf.length := hi
      rw [upd_no (by omega), upd_no (by omega), putIn_in hi]
section MRF
variable {sh : pmS} {M : pmM} {N : pmN} {Q : pmPost} {k : Nat} {tp : List Int32}
theorem pmSt_row (M : pmM) (k j : Nat) (v : Int32) : pmSt M k j v k = upd (M k) j v := by unfold pmSt; rw [va_up_self]
theorem c_readsRule {p r : Nat} (hb : isMod sh k) (hl : tp.length ≤ 150) (ht : tpIs M k tp) (hp : p ≤ tp.length) (hM : M k 18 = nI p) (hr : r ≤ 9) (h0 : M (k + 13) 0 = nI r)
    (kf : ∀ M', frR k (k + 13) M M' → M' k 18 = nI (rdR tp p).2 → (rdR tp p).1 = none → Q (some (.int (nI 0))) sh M' N)
    (ky : ∀ kd ph gf M', frR k (k + 13) M M' → M' k 18 = nI (rdR tp p).2 → (rdR tp p).1 = some (kd, ph, gf) → M' (k + 13) = behind (M (k + 13)) r kd ph gf → Q (some (.int (nI 1))) sh M' N) : PW mX11_readsRule 0 [.ref k, .null, .null] [] sh M N Q := by
  have hb0 := hb
  obtain ⟨b0, a1, a2, a3, a4, a5, a6, a7, a8, a9, a10, a11, a12, a13, a14, a15, a16, a17, a18, a19, a20⟩ := hb
  have hk : k + 13 ≠ k := by omega
  have hk1 : k + 13 ≠ k + 1 := by omega
  unfold rdR at kf ky
  refine pw_aload_n 1 rfl rfl rfl ?_
  refine pw_getR 4 rfl rfl (by first | assumption | exact ⟨by decide, rfl⟩) rfl ?_
  refine pw_iconst (v := nI 0) 5 rfl rfl (by decide) ?_
  refine pw_iald _ 6 rfl rfl (by first | assumption | exact ⟨by decide, rfl, by decide⟩) (by with_reducible rfl) (by first | assumption | omega) ?_
  rw [h0]
  refine pw_istore1 7 rfl rfl rfl ?_
  refine pw_aload_n 8 rfl rfl rfl ?_
  refine pw_cV0 11 rfl rfl (by first | assumption | exact ⟨by decide, rfl⟩) rfl (Nat.le_of_ble_eq_true rfl) rfl rfl (Nat.le_of_ble_eq_true rfl) (c_here hb0 hl ht hp hM (fun M1 f1 p1 => ?_))
  refine pw_pI ?_
  have ht1 := ht.mv f1
  skip
  refine pw_cS1 14 rfl rfl rfl (Nat.le_of_ble_eq_true rfl) rfl rfl (Nat.le_of_ble_eq_true rfl) (c_kindOfM (fun d hd h5 => ?_) (fun hn => ?_))
  · refine pw_pI ?_
    rw [hX_kind] at hd
    rw [hd] at kf ky
    simp only at kf ky
    have hlt : sk tp p < tp.length := by
      cases hc : cur tp p with
      | none => rw [hc] at hd; cases hd
      | some c => exact (cur_lt hc).1
    refine pw_istore2 15 rfl rfl rfl ?_
    refine pw_iload_n 16 rfl rfl rfl ?_
    refine pw_bipush (v := (-4)) 18 rfl rfl (by decide) ?_
    refine pw_icmp_ne_t 23 rfl rfl (nI_m4 (by omega)) ?_
    refine pw_aload_n 24 rfl rfl rfl ?_
    refine pw_dup 25 rfl rfl rfl ?_
    refine pw_getI 28 rfl rfl (by first | assumption | exact ⟨by decide, rfl⟩) rfl ?_
    refine pw_iconst (v := nI 1) 29 rfl rfl (by decide) ?_
    rw [p1]
    first | refine pw_iaddN 30 rfl rfl (by with_reducible rfl) (by with_reducible rfl) ?_ | refine pw_iadd 30 rfl rfl ?_
    refine pw_putI 33 rfl rfl (by first | assumption | exact ⟨by decide, rfl⟩) rfl (by decide) ?_
    refine pw_aload_n 34 rfl rfl rfl ?_
    refine pw_bipush (v := nI 58) 36 rfl rfl (by decide) ?_
    have f2 := frP_st k M1 (nI (sk tp p + 1))
    refine pw_cV1 39 rfl rfl (by first | assumption | exact ⟨by decide, rfl⟩) rfl (Nat.le_of_ble_eq_true rfl) rfl rfl (Nat.le_of_ble_eq_true rfl) (c_takesM hb0 hl (ht1.mv f2) hlt (st_same _ _ _ _) (by decide) (fun M3 f3 e3 p3 => ?_) (fun M3 f3 e3 p3 => ?_))
    · refine pw_pI ?_
      rw [if_pos e3] at kf ky
      have ht3 := (ht1.mv f2).mv f3
      have f13 := (f1.tr f2).tr f3
      have hs3 : sk tp (sk tp p + 1) < tp.length := (cur_lt e3).1
      skip
      refine pw_if_ne_t 44 rfl rfl (by decide) ?_
      refine pw_aload_n 45 rfl rfl rfl ?_
      refine pw_getR 48 rfl rfl (by first | assumption | exact ⟨by decide, rfl⟩) rfl ?_
      refine pw_iconst (v := nI 1) 49 rfl rfl (by decide) ?_
      refine pw_iload_n 50 rfl rfl rfl ?_
      first | refine pw_iaddN 51 rfl rfl (by with_reducible rfl) (by with_reducible rfl) ?_ | refine pw_iadd 51 rfl rfl ?_
      refine pw_iload_n 52 rfl rfl rfl ?_
      refine pw_iast _ 53 rfl rfl (by first | assumption | exact ⟨by decide, rfl, by decide⟩) (by with_reducible rfl) (by first | assumption | omega) ?_
      refine pw_aload_n 54 rfl rfl rfl ?_
      refine pw_getR 57 rfl rfl (by first | assumption | exact ⟨by decide, rfl⟩) rfl ?_
      refine pw_bipush (v := nI 11) 59 rfl rfl (by decide) ?_
      refine pw_iload_n 60 rfl rfl rfl ?_
      first | refine pw_iaddN 61 rfl rfl (by with_reducible rfl) (by with_reducible rfl) ?_ | refine pw_iadd 61 rfl rfl ?_
      refine pw_aload_n 62 rfl rfl rfl ?_
      refine pw_aload_n 63 rfl rfl rfl ?_
      refine pw_getR 66 rfl rfl (by first | assumption | exact ⟨by decide, rfl⟩) rfl ?_
      refine pw_bipush (v := nI 31) 68 rfl rfl (by decide) ?_
      refine pw_bipush (v := nI 6) 70 rfl rfl (by decide) ?_
      refine pw_iload_n 71 rfl rfl rfl ?_
      first | refine pw_imulN 72 rfl rfl (by with_reducible rfl) (by with_reducible rfl) ?_ | refine pw_imul 72 rfl rfl ?_
      first | refine pw_iaddN 73 rfl rfl (by with_reducible rfl) (by with_reducible rfl) ?_ | refine pw_iadd 73 rfl rfl ?_
      refine pw_bipush (v := nI 6) 75 rfl rfl (by decide) ?_
      have f4 : frR k (k + 13) M3 (pmSt M3 (k + 13) (1 + r) (nI d)) := frR_st M3 _ _ hk
      have ht4 := ht3.mvR f4 hk1
      refine pw_cV3 78 rfl rfl (by first | assumption | exact ⟨by decide, rfl⟩) rfl (Nat.le_of_ble_eq_true rfl) rfl rfl (Nat.le_of_ble_eq_true rfl) (c_takesLetters hb0 hl ht4 (p := sk tp (sk tp p + 1) + 1) (by omega) (by rw [st_ne _ _ _ _ (Ne.symm hk)]; exact p3) a13 hk hk1 (by omega) (fun M5 f5 e5 p5 => ?_))
      refine pw_pI ?_
      have hph := rdL_len tp 6 (sk tp (sk tp p + 1) + 1)
      refine pw_iast _ 79 rfl rfl (by first | assumption | exact ⟨by decide, rfl, by decide⟩) (by with_reducible rfl) (by first | assumption | omega) ?_
      refine pw_aload_n 80 rfl rfl rfl ?_
      refine pw_getR 83 rfl rfl (by first | assumption | exact ⟨by decide, rfl⟩) rfl ?_
      refine pw_bipush (v := nI 11) 85 rfl rfl (by decide) ?_
      refine pw_iload_n 86 rfl rfl rfl ?_
      first | refine pw_iaddN 87 rfl rfl (by with_reducible rfl) (by with_reducible rfl) ?_ | refine pw_iadd 87 rfl rfl ?_
      refine pw_iald _ 88 rfl rfl (by first | assumption | exact ⟨by decide, rfl, by decide⟩) (by with_reducible rfl) (by first | assumption | omega) ?_
      rw [pmSt_row, upd_at]
      have f6 : frR k (k + 13) M5 (pmSt M5 (k + 13) (11 + r) (nI (rdL tp 6 (sk tp (sk tp p + 1) + 1)).1.length)) := frR_st M5 _ _ hk
      have f16 := (((f13.r (kr := k + 13)).tr f4).tr f5).tr f6
      have ht6 := (ht4.mvR f5 hk1).mvR f6 hk1
      by_cases q : (rdL tp 6 (sk tp (sk tp p + 1) + 1)).1 = []
      · rw [if_pos q] at kf
        rw [q]
        skip
        refine pw_if_eq_t 100 rfl rfl (rfl) ?_
        refine pw_iconst (v := nI 0) 101 rfl rfl (by decide) ?_
        rw [q] at f16
        exact pw_zret rfl rfl (by first | exact Or.inl rfl | exact Or.inr rfl | assumption) (kf _ f16 (by rw [st_ne _ _ _ _ (Ne.symm hk)]; exact p5) rfl)
      · rw [if_neg q] at kf ky
        have hpos : 0 < (rdL tp 6 (sk tp (sk tp p + 1) + 1)).1.length := List.length_pos_iff.mpr q
        skip
        refine pw_if_eq_f 91 rfl rfl (fun e => by have := (nI_eq (b := 0) (by omega) (by decide)).mp e; omega) ?_
        refine pw_aload_n 92 rfl rfl rfl ?_
        refine pw_bipush (v := nI 61) 94 rfl rfl (by decide) ?_
        refine pw_cV1 97 rfl rfl (by first | assumption | exact ⟨by decide, rfl⟩) rfl (Nat.le_of_ble_eq_true rfl) rfl rfl (Nat.le_of_ble_eq_true rfl) (c_takesM hb0 hl ht6 (hph.2 (by omega)) (by rw [st_ne _ _ _ _ (Ne.symm hk)]; exact p5) (by decide) (fun M7 f7 e7 p7 => ?_) (fun M7 f7 e7 p7 => ?_))
        · refine pw_pI ?_
          rw [if_pos e7] at ky
          have ht7 := ht6.mv f7
          have hs7 : sk tp (rdL tp 6 (sk tp (sk tp p + 1) + 1)).2 < tp.length := (cur_lt e7).1
          skip
          refine pw_if_ne_t 102 rfl rfl (by decide) ?_
          refine pw_aload_n 103 rfl rfl rfl ?_
          refine pw_getR 106 rfl rfl (by first | assumption | exact ⟨by decide, rfl⟩) rfl ?_
          refine pw_bipush (v := nI 21) 108 rfl rfl (by decide) ?_
          refine pw_iload_n 109 rfl rfl rfl ?_
          first | refine pw_iaddN 110 rfl rfl (by with_reducible rfl) (by with_reducible rfl) ?_ | refine pw_iadd 110 rfl rfl ?_
          refine pw_aload_n 111 rfl rfl rfl ?_
          refine pw_aload_n 112 rfl rfl rfl ?_
          refine pw_getR 115 rfl rfl (by first | assumption | exact ⟨by decide, rfl⟩) rfl ?_
          refine pw_bipush (v := nI 91) 117 rfl rfl (by decide) ?_
          refine pw_bipush (v := nI 6) 119 rfl rfl (by decide) ?_
          refine pw_iload_n 120 rfl rfl rfl ?_
          first | refine pw_imulN 121 rfl rfl (by with_reducible rfl) (by with_reducible rfl) ?_ | refine pw_imul 121 rfl rfl ?_
          first | refine pw_iaddN 122 rfl rfl (by with_reducible rfl) (by with_reducible rfl) ?_ | refine pw_iadd 122 rfl rfl ?_
          refine pw_bipush (v := nI 6) 124 rfl rfl (by decide) ?_
          refine pw_cV3 127 rfl rfl (by first | assumption | exact ⟨by decide, rfl⟩) rfl (Nat.le_of_ble_eq_true rfl) rfl rfl (Nat.le_of_ble_eq_true rfl) (c_takesLetters hb0 hl ht7 (p := sk tp (rdL tp 6 (sk tp (sk tp p + 1) + 1)).2 + 1) (by omega) p7 a13 hk hk1 (by omega) (fun M8 f8 e8 p8 => ?_))
          refine pw_pI ?_
          have f9 : frR k (k + 13) M8 (pmSt M8 (k + 13) (21 + r) (nI (rdL tp 6 (sk tp (rdL tp 6 (sk tp (sk tp p + 1) + 1)).2 + 1)).1.length)) := frR_st M8 _ _ hk
          have eM : M8 (k + 13) = putIn (upd (putIn (upd (M (k + 13)) (1 + r) (nI d)) (31 + 6 * r) (rdL tp 6 (sk tp (sk tp p + 1) + 1)).1) (11 + r) (nI (rdL tp 6 (sk tp (sk tp p + 1) + 1)).1.length)) (91 + 6 * r) (rdL tp 6 (sk tp (rdL tp 6 (sk tp (sk tp p + 1) + 1)).2 + 1)).1 := by
            rw [e8, f7.1 _ hk, pmSt_row, e5, pmSt_row, f13.1 _ hk]
          have hgf := rdL_len tp 6 (sk tp (rdL tp 6 (sk tp (sk tp p + 1) + 1)).2 + 1)
          have e0 : pmSt M8 (k + 13) (21 + r) (nI (rdL tp 6 (sk tp (rdL tp 6 (sk tp (sk tp p + 1) + 1)).2 + 1)).1.length) (k + 13) 0 = nI r := by
            rw [pmSt_row, upd_no (by omega), eM, putIn_out (by omega), upd_no (by omega), putIn_out (by omega), upd_no (by omega), h0]
          refine pw_iast _ 128 rfl rfl (by first | assumption | exact ⟨by decide, rfl, by decide⟩) (by with_reducible rfl) (by first | assumption | omega) ?_
          refine pw_aload_n 129 rfl rfl rfl ?_
          refine pw_getR 132 rfl rfl (by first | assumption | exact ⟨by decide, rfl⟩) rfl ?_
          refine pw_iconst (v := nI 0) 133 rfl rfl (by decide) ?_
          refine pw_dup2 134 rfl rfl ⟨rfl, rfl⟩ ?_
          refine pw_iald _ 135 rfl rfl (by first | assumption | exact ⟨by decide, rfl, by decide⟩) (by with_reducible rfl) (by first | assumption | omega) ?_
          rw [e0]
          refine pw_iconst (v := nI 1) 136 rfl rfl (by decide) ?_
          first | refine pw_iaddN 137 rfl rfl (by with_reducible rfl) (by with_reducible rfl) ?_ | refine pw_iadd 137 rfl rfl ?_
          refine pw_iast _ 138 rfl rfl (by first | assumption | exact ⟨by decide, rfl, by decide⟩) (by with_reducible rfl) (by first | assumption | omega) ?_
          refine pw_iconst (v := nI 1) 139 rfl rfl (by decide) ?_
          refine pw_zret rfl rfl (Or.inr rfl) (ky _ _ _ _ ((((f16.tr f7.r).tr f8).tr f9).tr (frR_st _ 0 _ hk)) ?_ rfl ?_)
          · rw [st_ne _ _ _ _ (Ne.symm hk), st_ne _ _ _ _ (Ne.symm hk)]; exact p8
          · rw [pmSt_row, pmSt_row, eM]; rfl
        · refine pw_pI ?_
          rw [if_neg e7] at kf
          skip
          refine pw_if_ne_f 100 rfl rfl (by decide) ?_
          refine pw_iconst (v := nI 0) 101 rfl rfl (by decide) ?_
          exact pw_zret rfl rfl (by first | exact Or.inl rfl | exact Or.inr rfl | assumption) (kf _ (f16.tr f7.r) p7 rfl)
    · refine pw_pI ?_
      rw [if_neg e3] at kf
      skip
      refine pw_if_ne_f 42 rfl rfl (by decide) ?_
      refine pw_iconst (v := nI 0) 43 rfl rfl (by decide) ?_
      exact pw_zret rfl rfl (by first | exact Or.inl rfl | exact Or.inr rfl | assumption) (kf M3 ((f1.tr f2).tr f3).r p3 rfl)
  · refine pw_pI ?_
    rw [hX_kind] at hn
    rw [hn] at kf
    refine pw_istore2 15 rfl rfl rfl ?_
    refine pw_iload_n 16 rfl rfl rfl ?_
    refine pw_bipush (v := (-4)) 18 rfl rfl (by decide) ?_
    refine pw_icmp_ne_f 21 rfl rfl (fun e => e rfl) ?_
    refine pw_iconst (v := nI 0) 22 rfl rfl (by decide) ?_
    exact pw_zret rfl rfl (by first | exact Or.inl rfl | exact Or.inr rfl | assumption) (kf M1 f1.r p1 rfl)
end MRF
