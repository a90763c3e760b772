/-! COUNTING THE SETS BY WHICH THE LINE STAYS SHORT -/
def nxS (C s : Nat) : Nat := if s = 0 then C else (s - 1) &&& C
def its (C : Nat) : Nat → Nat → List Nat
  | 0, _ => []
  | n + 1, s => s :: its C n (nxS C s)
def tlN (f : Nat → Bool) : List Nat → List Nat → List Nat
  | [], T => T
  | s :: l, T => tlN f l (if f s then T.set (pop s) (T.getD (pop s) 0 + 1) else T)
theorem tlN_len (f : Nat → Bool) : ∀ l T, (tlN f l T).length = T.length
  | [], T => rfl
  | s :: l, T => by
    rw [tlN, tlN_len]
    split
    · rw [List.length_set]
    · rfl
theorem pop_le (s : Nat) : pop s ≤ 10 := by
  unfold pop
  have := List.length_filter_le (fun i => s.testBit i) (List.range 10)
  rwa [List.length_range] at this
theorem m1_and : ∀ C, C < 1024 → (nI 0 - nI 1) &&& nI C = nI C := by decide +kernel
theorem shl_v : ∀ p, p < 11 → nI 1 <<< (nI p &&& 31) = nI (2 ^ p) := by decide +kernel
theorem nI_add1 (x : Nat) : nI x + nI 1 = nI (x + 1) := by
  apply Int32.toBitVec_inj.mp
  simp [nI, BitVec.ofNat_add]
theorem nxS_lt {C s : Nat} (hC : C < 1024) : nxS C s < 1024 := by
  unfold nxS
  split
  · exact hC
  · exact Nat.lt_of_le_of_lt Nat.and_le_right hC
section TLY
variable {sh : pmS} {M : pmM} {N : pmN} {Q : pmPost} {k : Nat} {a : aW}
theorem tally_loop {m C : Nat} (hm : m < 1000) (hC : C < 1024) (hb : isApp sh k) (hw : wfW a) (hx : appIs M N k a) (hk : wkIs M (k + 291) a.rs (kds a.rs) a.ls) (L : List Nat)
    (kk : ∀ M', fr (k + 312) (k + 314) M M' → rowIs M' (k + 312) (L.map nI) → Q none sh M' N) :
    ∀ (d i s : Nat) (T : List Nat) (M1 : pmM), i + d = 2 ^ pop C → s < 1024 → T.length = 11 → fr (k + 312) (k + 314) M M1 → rowIs M1 (k + 312) (T.map nI) → tlN (fun s => decide ((a.mL s).length ≤ m)) (its C d s) T = L → PW mX10_tallyShortOnes 23 [.ref k, .int (nI m), .int (nI C), .int (nI (2 ^ pop C)), .int (nI s), .int (nI i)] [] sh M1 N Q := by
  obtain ⟨b0, b1, b2, b3, b4, b5, b6, b7, b8, b9, b10⟩ := hb
  have s0 := b2.1
  have s1 := b2.2.1.1
  have s2 := b2.2.1.2
  have s3 := b2.2.2.1
  have wk0 := b6.1
  have b8' := b8.1
  have hpC : 2 ^ pop C ≤ 2 ^ 10 := Nat.pow_le_pow_right (by decide) (pop_le C)
  intro d
  induction d with
  | zero =>
    intro i s T M1 hi hs hT hf hr e
    rw [its, tlN] at e
    subst e
    refine pw_iload 25 rfl rfl rfl ?_
    refine pw_iload_n 26 rfl rfl rfl ?_
    refine pw_icmp_ge_t 79 rfl rfl (nI_le (by omega) (by omega)) ?_
    skip
    exact pw_vret rfl (kk M1 hf hr)
  | succ d ih =>
    intro i s T M1 hi hs hT hf hr e
    rw [its, tlN] at e
    have hx1 := hx.scr hf (by omega) (by omega)
    have hm1 := hx1.2.1.1
    have hbk1 : bookIs M1 (k + 11) a.rs := hx1.2.1.2.1
    have hml := mL_le hx s
    have tail : ∀ (T2 : List Nat) (M2 : pmM), T2.length = 11 → fr (k + 312) (k + 314) M M2 → rowIs M2 (k + 312) (T2.map nI) → tlN (fun s => decide ((a.mL s).length ≤ m)) (its C d (nxS C s)) T2 = L → PW mX10_tallyShortOnes 65 [.ref k, .int (nI m), .int (nI C), .int (nI (2 ^ pop C)), .int (nI s), .int (nI i)] [] sh M2 N Q := by
      intro T2 M2 hT2 hf2 hr2 e2
      have fin := ih (i + 1) (nxS C s) T2 M2 (by omega) (nxS_lt hC) hT2 hf2 hr2 e2
      unfold nxS at fin
      by_cases q : s = 0
      · subst q
        rw [if_pos rfl] at fin
        refine pw_iload 67 rfl rfl rfl ?_
        refine pw_iconst (v := nI 1) 68 rfl rfl (by decide) ?_
        refine pw_isub 69 rfl rfl ?_
        refine pw_iload_n 70 rfl rfl rfl ?_
        refine pw_iand 71 rfl rfl ?_
        rw [m1_and C hC]
        refine pw_istore4 73 rfl rfl rfl ?_
        first | refine pw_iincN5 76 rfl rfl rfl (by with_reducible rfl) ?_ | refine pw_iinc5 (w := _) 76 rfl rfl rfl rfl ?_
        refine pw_goto rfl 23 rfl ?_
        exact fin
      · rw [if_neg q] at fin
        refine pw_iload 67 rfl rfl rfl ?_
        refine pw_iconst (v := nI 1) 68 rfl rfl (by decide) ?_
        first | refine pw_isubN 69 rfl rfl (by with_reducible rfl) (by with_reducible rfl) (by omega) ?_ | refine pw_isub 69 rfl rfl ?_
        refine pw_iload_n 70 rfl rfl rfl ?_
        refine pw_iand 71 rfl rfl ?_
        rw [and_v]
        refine pw_istore4 73 rfl rfl rfl ?_
        first | refine pw_iincN5 76 rfl rfl rfl (by with_reducible rfl) ?_ | refine pw_iinc5 (w := _) 76 rfl rfl rfl rfl ?_
        refine pw_goto rfl 23 rfl ?_
        exact fin
    refine pw_iload 25 rfl rfl rfl ?_
    refine pw_iload_n 26 rfl rfl rfl ?_
    refine pw_icmp_ge_f 29 rfl rfl (nI_ge (by omega) (by omega)) ?_
    refine pw_aload_n 30 rfl rfl rfl ?_
    refine pw_getR 33 rfl rfl (by first | assumption | exact ⟨by decide, rfl⟩) rfl ?_
    refine pw_aload_n 34 rfl rfl rfl ?_
    refine pw_getR 37 rfl rfl (by first | assumption | exact ⟨by decide, rfl⟩) rfl ?_
    refine pw_getR 40 rfl rfl (by first | assumption | exact ⟨by decide, rfl⟩) rfl ?_
    refine pw_getR 43 rfl rfl (by first | assumption | exact ⟨by decide, rfl⟩) rfl ?_
    refine pw_iload 45 rfl rfl rfl ?_
    refine pw_cV2 48 rfl rfl (by first | assumption | exact ⟨by decide, rfl⟩) rfl (Nat.le_of_ble_eq_true rfl) rfl rfl (Nat.le_of_ble_eq_true rfl) (c_lengthBy b6 s3 hbk1 (kds_ok hbk1) (hk.mv hf (by omega)) s2 hm1.1 hm1.2.2.1 hs ?_)
    refine pw_pI ?_
    refine pw_iload_n 49 rfl rfl rfl ?_
    by_cases q : (a.mL s).length ≤ m
    · rw [if_pos (decide_eq_true q)] at e
      have hp := pop_le s
      skip
      refine pw_icmp_gt_f 52 rfl rfl (nI_nlt (a := m) (b := (a.mL s).length) q (by omega)) ?_
      refine pw_aload_n 53 rfl rfl rfl ?_
      refine pw_getR 56 rfl rfl (by first | assumption | exact ⟨by decide, rfl⟩) rfl ?_
      refine pw_iload 58 rfl rfl rfl ?_
      refine pw_cS1 61 rfl rfl rfl (Nat.le_of_ble_eq_true rfl) rfl rfl (Nat.le_of_ble_eq_true rfl) (c_bitCount hs ?_)
      refine pw_pI ?_
      refine pw_iconst (v := nI 1) 62 rfl rfl (by decide) ?_
      refine pw_cV2 65 rfl rfl (by first | assumption | exact ⟨by decide, rfl⟩) rfl (Nat.le_of_ble_eq_true rfl) rfl rfl (Nat.le_of_ble_eq_true rfl) (c_Row_addTo b8 hr (by rw [List.length_map]; omega) (j := pop s) (by rw [List.length_map]; omega) _ (fun M2 f2 r2 => ?_))
      refine pw_pV ?_
      rw [getD_mapN, nI_add1, ← List.map_set] at r2
      exact tail _ M2 (by rw [List.length_set]; exact hT) (hf.tr (f2.wk (by omega) (by omega))) r2 e
    · rw [if_neg (by simpa using q)] at e
      skip
      refine pw_icmp_gt_t 65 rfl rfl (nI_lt (a := m) (b := (a.mL s).length) (Nat.lt_of_not_le q) (by omega)) ?_
      exact tail T M1 hT hf hr e
theorem c_tally {m C : Nat} (hm : m < 1000) (hC : C < 1024) (hb : isApp sh k) (hw : wfW a) (hx : appIs M N k a) (hk : wkIs M (k + 291) a.rs (kds a.rs) a.ls)
    (kk : ∀ M', fr (k + 312) (k + 314) M M' → rowIs M' (k + 312) ((tlN (fun s => decide ((a.mL s).length ≤ m)) (its C (2 ^ pop C) C) (List.replicate 11 0)).map nI) → Q none sh M' N) : PW mX10_tallyShortOnes 0 [.ref k, .int (nI m), .int (nI C), .null, .null, .null] [] sh M N Q := by
  have b0 := hb.1
  have b8 := hb.2.2.2.2.2.2.2.2.1
  have b8' := b8.1
  have hp := pop_le C
  refine pw_iconst (v := nI 1) 1 rfl rfl (by decide) ?_
  refine pw_iload_n 2 rfl rfl rfl ?_
  refine pw_cS1 5 rfl rfl rfl (Nat.le_of_ble_eq_true rfl) rfl rfl (Nat.le_of_ble_eq_true rfl) (c_bitCount hC ?_)
  refine pw_pI ?_
  refine pw_ishl 6 rfl rfl ?_
  rw [shl_v _ (by omega)]
  refine pw_istore3 7 rfl rfl rfl ?_
  refine pw_aload_n 8 rfl rfl rfl ?_
  refine pw_getR 11 rfl rfl (by first | assumption | exact ⟨by decide, rfl⟩) rfl ?_
  refine pw_bipush (v := nI 11) 13 rfl rfl (by decide) ?_
  refine pw_iconst (v := nI 0) 14 rfl rfl (by decide) ?_
  refine pw_cV2 17 rfl rfl (by first | assumption | exact ⟨by decide, rfl⟩) rfl (Nat.le_of_ble_eq_true rfl) rfl rfl (Nat.le_of_ble_eq_true rfl) (c_Row_fill b8 (m := 11) (by decide) (fun M1 f1 r1 => ?_))
  refine pw_pV ?_
  refine pw_iload_n 18 rfl rfl rfl ?_
  refine pw_istore4 20 rfl rfl rfl ?_
  refine pw_iconst (v := nI 0) 21 rfl rfl (by decide) ?_
  refine pw_istore5 23 rfl rfl rfl ?_
  exact tally_loop hm hC hb hw (hx.scr f1 (by omega) (by omega)) (hk.mv f1 (by omega)) _ (fun M' f' r' => kk M' ((f1.wk (by omega) (by omega)).tr f') r') _ 0 C (List.replicate 11 0) M1 (Nat.zero_add _) hC rfl fr.rf (by rw [List.map_replicate]; exact r1) rfl
end TLY
