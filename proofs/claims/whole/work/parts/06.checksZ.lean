theorem ckQ_app (mi : Nat) : ∀ (a b : List pmE) (pc : Nat), ckQ mi pc a = true → ckQ mi (pc + a.length) b = true → ckQ mi pc (a ++ b) = true
  | [], b, pc, _, h => h
  | x :: t, b, pc, h1, h2 => by
    simp only [ckQ, Bool.and_eq_true, List.cons_append] at h1 ⊢
    refine ⟨h1.1, ckQ_app mi t b (pc + 1) h1.2 ?_⟩
    rw [List.length_cons] at h2
    rw [Nat.add_assoc, Nat.add_comm 1]
    exact h2
theorem ck_L_law_0 : ckQ 189 0 qL_law_0 = true := by decide +kernel
theorem ck_L_law_1 : ckQ 189 100 qL_law_1 = true := by decide +kernel
theorem ck_L_law_2 : ckQ 189 200 qL_law_2 = true := by decide +kernel
theorem ck_L_law_3 : ckQ 189 300 qL_law_3 = true := by decide +kernel
theorem ck_L_law_4 : ckQ 189 400 qL_law_4 = true := by decide +kernel
theorem ck_L_law_5 : ckQ 189 500 qL_law_5 = true := by decide +kernel
theorem ck_L_law_6 : ckQ 189 600 qL_law_6 = true := by decide +kernel
theorem ck_L_law_7 : ckQ 189 700 qL_law_7 = true := by decide +kernel
theorem ck_L_law_8 : ckQ 189 800 qL_law_8 = true := by decide +kernel
theorem ck_L_law_9 : ckQ 189 900 qL_law_9 = true := by decide +kernel
theorem ck_L_law_10 : ckQ 189 1000 qL_law_10 = true := by decide +kernel
theorem len_L_law_0 : qL_law_0.length = 100 := by decide +kernel
theorem len_L_law_1 : qL_law_1.length = 100 := by decide +kernel
theorem len_L_law_2 : qL_law_2.length = 100 := by decide +kernel
theorem len_L_law_3 : qL_law_3.length = 100 := by decide +kernel
theorem len_L_law_4 : qL_law_4.length = 100 := by decide +kernel
theorem len_L_law_5 : qL_law_5.length = 100 := by decide +kernel
theorem len_L_law_6 : qL_law_6.length = 100 := by decide +kernel
theorem len_L_law_7 : qL_law_7.length = 100 := by decide +kernel
theorem len_L_law_8 : qL_law_8.length = 100 := by decide +kernel
theorem len_L_law_9 : qL_law_9.length = 100 := by decide +kernel
theorem len_L_law_10 : qL_law_10.length = 40 := by decide +kernel
theorem cc_L_law_0 : ckQ 189 0 qL_law_0 = true := ck_L_law_0
theorem cc_L_law_1 : ckQ 189 0 (qL_law_0 ++ qL_law_1) = true := ckQ_app 189 _ _ 0 cc_L_law_0 (by simp only [List.length_append, len_L_law_0]; exact ck_L_law_1)
theorem cc_L_law_2 : ckQ 189 0 (qL_law_0 ++ qL_law_1 ++ qL_law_2) = true := ckQ_app 189 _ _ 0 cc_L_law_1 (by simp only [List.length_append, len_L_law_0, len_L_law_1]; exact ck_L_law_2)
theorem cc_L_law_3 : ckQ 189 0 (qL_law_0 ++ qL_law_1 ++ qL_law_2 ++ qL_law_3) = true := ckQ_app 189 _ _ 0 cc_L_law_2 (by simp only [List.length_append, len_L_law_0, len_L_law_1, len_L_law_2]; exact ck_L_law_3)
theorem cc_L_law_4 : ckQ 189 0 (qL_law_0 ++ qL_law_1 ++ qL_law_2 ++ qL_law_3 ++ qL_law_4) = true := ckQ_app 189 _ _ 0 cc_L_law_3 (by simp only [List.length_append, len_L_law_0, len_L_law_1, len_L_law_2, len_L_law_3]; exact ck_L_law_4)
theorem cc_L_law_5 : ckQ 189 0 (qL_law_0 ++ qL_law_1 ++ qL_law_2 ++ qL_law_3 ++ qL_law_4 ++ qL_law_5) = true := ckQ_app 189 _ _ 0 cc_L_law_4 (by simp only [List.length_append, len_L_law_0, len_L_law_1, len_L_law_2, len_L_law_3, len_L_law_4]; exact ck_L_law_5)
theorem cc_L_law_6 : ckQ 189 0 (qL_law_0 ++ qL_law_1 ++ qL_law_2 ++ qL_law_3 ++ qL_law_4 ++ qL_law_5 ++ qL_law_6) = true := ckQ_app 189 _ _ 0 cc_L_law_5 (by simp only [List.length_append, len_L_law_0, len_L_law_1, len_L_law_2, len_L_law_3, len_L_law_4, len_L_law_5]; exact ck_L_law_6)
theorem cc_L_law_7 : ckQ 189 0 (qL_law_0 ++ qL_law_1 ++ qL_law_2 ++ qL_law_3 ++ qL_law_4 ++ qL_law_5 ++ qL_law_6 ++ qL_law_7) = true := ckQ_app 189 _ _ 0 cc_L_law_6 (by simp only [List.length_append, len_L_law_0, len_L_law_1, len_L_law_2, len_L_law_3, len_L_law_4, len_L_law_5, len_L_law_6]; exact ck_L_law_7)
theorem cc_L_law_8 : ckQ 189 0 (qL_law_0 ++ qL_law_1 ++ qL_law_2 ++ qL_law_3 ++ qL_law_4 ++ qL_law_5 ++ qL_law_6 ++ qL_law_7 ++ qL_law_8) = true := ckQ_app 189 _ _ 0 cc_L_law_7 (by simp only [List.length_append, len_L_law_0, len_L_law_1, len_L_law_2, len_L_law_3, len_L_law_4, len_L_law_5, len_L_law_6, len_L_law_7]; exact ck_L_law_8)
theorem cc_L_law_9 : ckQ 189 0 (qL_law_0 ++ qL_law_1 ++ qL_law_2 ++ qL_law_3 ++ qL_law_4 ++ qL_law_5 ++ qL_law_6 ++ qL_law_7 ++ qL_law_8 ++ qL_law_9) = true := ckQ_app 189 _ _ 0 cc_L_law_8 (by simp only [List.length_append, len_L_law_0, len_L_law_1, len_L_law_2, len_L_law_3, len_L_law_4, len_L_law_5, len_L_law_6, len_L_law_7, len_L_law_8]; exact ck_L_law_9)
theorem cc_L_law_10 : ckQ 189 0 (qL_law_0 ++ qL_law_1 ++ qL_law_2 ++ qL_law_3 ++ qL_law_4 ++ qL_law_5 ++ qL_law_6 ++ qL_law_7 ++ qL_law_8 ++ qL_law_9 ++ qL_law_10) = true := ckQ_app 189 _ _ 0 cc_L_law_9 (by simp only [List.length_append, len_L_law_0, len_L_law_1, len_L_law_2, len_L_law_3, len_L_law_4, len_L_law_5, len_L_law_6, len_L_law_7, len_L_law_8, len_L_law_9]; exact ck_L_law_10)
theorem ck_L_law : ckM 189 = true := cc_L_law_10
theorem ckM_all : ∀ mi : Nat, ckM mi = true := by
  intro mi
  match mi with
  | 0 => exact ck_X0_init
  | 1 => exact ck_X0_size
  | 2 => exact ck_X0_has
  | 3 => exact ck_X0_all
  | 4 => exact ck_X0_get
  | 5 => exact ck_X0_clear
  | 6 => exact ck_X0_grow
  | 7 => exact ck_X0_takeFrom
  | 8 => exact ck_X1_init
  | 9 => exact ck_X1_size
  | 10 => exact ck_X1_clear
  | 11 => exact ck_X1_moment
  | 12 => exact ck_X1_add
  | 13 => exact ck_X1_giveBack
  | 14 => exact ck_X1_takeFrom
  | 15 => exact ck_X2_init
  | 16 => exact ck_X2_size
  | 17 => exact ck_X2_clear
  | 18 => exact ck_X2_add
  | 19 => exact ck_X2_takeFrom
  | 20 => exact ck_X3_init
  | 21 => exact ck_X3_takeFrom
  | 22 => exact ck_X4_init
  | 23 => exact ck_X4_size
  | 24 => exact ck_X4_most
  | 25 => exact ck_X4_get
  | 26 => exact ck_X4_set
  | 27 => exact ck_X4_addTo
  | 28 => exact ck_X4_add
  | 29 => exact ck_X4_clear
  | 30 => exact ck_X4_fill
  | 31 => exact ck_X4_takeFrom
  | 32 => exact ck_X4_isSame
  | 33 => exact ck_X4_sum
  | 34 => exact ck_X5_init
  | 35 => exact ck_X5_takeFrom
  | 36 => exact ck_X5_given
  | 37 => exact ck_X5_stands
  | 38 => exact ck_X5_wantsEnd
  | 39 => exact ck_X6_init
  | 40 => exact ck_X6_begin
  | 41 => exact ck_X6_refusal
  | 42 => exact ck_X6_holds
  | 43 => exact ck_X6_tells
  | 44 => exact ck_X6_write
  | 45 => exact ck_X6_lowestBits
  | 46 => exact ck_X7_init
  | 47 => exact ck_X7_begin
  | 48 => exact ck_X7_addRule
  | 49 => exact ck_X7_remember
  | 50 => exact ck_X7_goBack
  | 51 => exact ck_X7_takeFrom
  | 52 => exact ck_X8_init
  | 53 => exact ck_X8_rewind
  | 54 => exact ck_X8_next
  | 55 => exact ck_X8_takes
  | 56 => exact ck_X8_fault
  | 57 => exact ck_X8_readLetters
  | 58 => exact ck_X8_readRule
  | 59 => exact ck_X8_readRules
  | 60 => exact ck_X8_kindOf
  | 61 => exact ck_X9_init
  | 62 => exact ck_X9_prepare
  | 63 => exact ck_X9_prepareAs
  | 64 => exact ck_X9_putInOrder
  | 65 => exact ck_X9_takeKinds
  | 66 => exact ck_X9_findStanding
  | 67 => exact ck_X9_standing
  | 68 => exact ck_X9_go
  | 69 => exact ck_X9_lengthBy
  | 70 => exact ck_X9_sureOf
  | 71 => exact ck_X9_ruleUsed
  | 72 => exact ck_X9_firstPossible
  | 73 => exact ck_X9_standsInOpen
  | 74 => exact ck_X9_give
  | 75 => exact ck_X9_leftOf
  | 76 => exact ck_X9_lengthGone
  | 77 => exact ck_X10_init
  | 78 => exact ck_X10_type
  | 79 => exact ck_X10_job
  | 80 => exact ck_X10_rule
  | 81 => exact ck_X10_of
  | 82 => exact ck_X10_spelt
  | 83 => exact ck_X10_at
  | 84 => exact ck_X10_count
  | 85 => exact ck_X10_change
  | 86 => exact ck_X10_turn
  | 87 => exact ck_X10_pass
  | 88 => exact ck_X10_pile
  | 89 => exact ck_X10_put
  | 90 => exact ck_X10_passPile
  | 91 => exact ck_X10_undo
  | 92 => exact ck_X10_comes
  | 93 => exact ck_X10_used
  | 94 => exact ck_X10_went
  | 95 => exact ck_X10_rest
  | 96 => exact ck_X10_sure
  | 97 => exact ck_X10_lean
  | 98 => exact ck_X10_longOdds
  | 99 => exact ck_X10_image
  | 100 => exact ck_X10_restore
  | 101 => exact ck_X10_came
  | 102 => exact ck_X10_film
  | 103 => exact ck_X10_sheet
  | 104 => exact ck_X10_drop
  | 105 => exact ck_X10_item
  | 106 => exact ck_X10_copy
  | 107 => exact ck_X10_whatComes
  | 108 => exact ck_X10_usesOf
  | 109 => exact ck_X10_idleRules
  | 110 => exact ck_X10_goThrough
  | 111 => exact ck_X10_tallyShortOnes
  | 112 => exact ck_X10_power
  | 113 => exact ck_X10_commonDivisor
  | 114 => exact ck_X10_isWithin
  | 115 => exact ck_X10_isLaneOfSheet
  | 116 => exact ck_X10_isWordLetter
  | 117 => exact ck_X10_isLetter
  | 118 => exact ck_X10_isOfSort
  | 119 => exact ck_X11_init
  | 120 => exact ck_X11_in
  | 121 => exact ck_X11_has
  | 122 => exact ck_X11_bits
  | 123 => exact ck_X11_copies
  | 124 => exact ck_X11_isSmall
  | 125 => exact ck_X11_isLetter
  | 126 => exact ck_X11_type
  | 127 => exact ck_X11_here
  | 128 => exact ck_X11_kindOf
  | 129 => exact ck_X11_takes
  | 130 => exact ck_X11_takesLetters
  | 131 => exact ck_X11_readsRule
  | 132 => exact ck_X11_readsJob
  | 133 => exact ck_X11_fault
  | 134 => exact ck_X11_job
  | 135 => exact ck_X11_rule
  | 136 => exact ck_X11_kindsAsTold
  | 137 => exact ck_X11_hasPhrase
  | 138 => exact ck_X11_isSmallAt
  | 139 => exact ck_X11_stands
  | 140 => exact ck_X11_givenBy
  | 141 => exact ck_X11_comesIn
  | 142 => exact ck_X11_ruleAt
  | 143 => exact ck_X11_goesOver
  | 144 => exact ck_X11_comesNow
  | 145 => exact ck_X11_becomes
  | 146 => exact ck_X11_isRule
  | 147 => exact ck_X11_of
  | 148 => exact ck_X11_spelt
  | 149 => exact ck_X11_isPlace
  | 150 => exact ck_X11_at
  | 151 => exact ck_X11_idle
  | 152 => exact ck_X11_count
  | 153 => exact ck_X11_notes
  | 154 => exact ck_X11_change
  | 155 => exact ck_X11_turn
  | 156 => exact ck_X11_passes
  | 157 => exact ck_X11_pass
  | 158 => exact ck_X11_isOfSort
  | 159 => exact ck_X11_pile
  | 160 => exact ck_X11_put
  | 161 => exact ck_X11_passPile
  | 162 => exact ck_X11_undo
  | 163 => exact ck_X11_comes
  | 164 => exact ck_X11_used
  | 165 => exact ck_X11_went
  | 166 => exact ck_X11_isSameLine
  | 167 => exact ck_X11_rest
  | 168 => exact ck_X11_sureOf
  | 169 => exact ck_X11_sure
  | 170 => exact ck_X11_lean
  | 171 => exact ck_X11_longOdds
  | 172 => exact ck_X11_image
  | 173 => exact ck_X11_restore
  | 174 => exact ck_X11_isSheet
  | 175 => exact ck_X11_isLane
  | 176 => exact ck_X11_finds
  | 177 => exact ck_X11_cut
  | 178 => exact ck_X11_came
  | 179 => exact ck_X11_film
  | 180 => exact ck_X11_sheet
  | 181 => exact ck_X11_drop
  | 182 => exact ck_X11_item
  | 183 => exact ck_X11_copy
  | 184 => exact ck_J6_bitCount_0f7a4
  | 185 => exact ck_J9_floorMod_7cf53
  | 186 => exact ck_J9_max_7cf53
  | 187 => exact ck_J9_min_7cf53
  | 188 => exact ck_J7_fill_d0a16
  | 189 => exact ck_L_law
  | k + 190 => rfl
theorem ckQ_get (mi : Nat) : ∀ (q : List pmE) (pc k : Nat) (e : pmE), ckQ mi pc q = true → q[k]? = some e → ckE mi (pc + k) e = true
  | [], _, _, _, _, h => by simp at h
  | x :: t, pc, 0, e, hc, h => by
    simp only [ckQ, Bool.and_eq_true] at hc
    rw [List.getElem?_cons_zero] at h
    cases h
    exact hc.1
  | x :: t, pc, k + 1, e, hc, h => by
    simp only [ckQ, Bool.and_eq_true] at hc
    rw [List.getElem?_cons_succ] at h
    have := ckQ_get mi t (pc + 1) k e hc.2 h
    rw [Nat.add_assoc, Nat.add_comm 1 k] at this
    exact this
theorem ckE_of {mi pc : Nat} {e : pmE} (h : pmCode mi pc = some e) : ckE mi pc e = true := by
  have hm := ckM_all mi
  unfold pmCode at h
  unfold ckM at hm
  cases hq : pmQ[mi]? with
  | none => rw [hq] at h; cases h
  | some q =>
    rw [hq] at h hm
    have := ckQ_get mi q 0 pc e hm h
    rwa [Nat.zero_add] at this
