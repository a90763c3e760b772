/-! the tables are checked, a method a row -/
theorem ck_X0_init : ckM 0 = true := by decide +kernel
theorem ck_X0_size : ckM 1 = true := by decide +kernel
theorem ck_X0_has : ckM 2 = true := by decide +kernel
theorem ck_X0_all : ckM 3 = true := by decide +kernel
theorem ck_X0_get : ckM 4 = true := by decide +kernel
theorem ck_X0_clear : ckM 5 = true := by decide +kernel
theorem ck_X0_grow : ckM 6 = true := by decide +kernel
theorem ck_X0_takeFrom : ckM 7 = true := by decide +kernel
theorem ck_X1_init : ckM 8 = true := by decide +kernel
theorem ck_X1_size : ckM 9 = true := by decide +kernel
theorem ck_X1_clear : ckM 10 = true := by decide +kernel
theorem ck_X1_moment : ckM 11 = true := by decide +kernel
theorem ck_X1_add : ckM 12 = true := by decide +kernel
theorem ck_X1_giveBack : ckM 13 = true := by decide +kernel
theorem ck_X1_takeFrom : ckM 14 = true := by decide +kernel
theorem ck_X2_init : ckM 15 = true := by decide +kernel
theorem ck_X2_size : ckM 16 = true := by decide +kernel
theorem ck_X2_clear : ckM 17 = true := by decide +kernel
theorem ck_X2_add : ckM 18 = true := by decide +kernel
theorem ck_X2_takeFrom : ckM 19 = true := by decide +kernel
theorem ck_X3_init : ckM 20 = true := by decide +kernel
theorem ck_X3_takeFrom : ckM 21 = true := by decide +kernel
theorem ck_X4_init : ckM 22 = true := by decide +kernel
theorem ck_X4_size : ckM 23 = true := by decide +kernel
theorem ck_X4_most : ckM 24 = true := by decide +kernel
theorem ck_X4_get : ckM 25 = true := by decide +kernel
theorem ck_X4_set : ckM 26 = true := by decide +kernel
theorem ck_X4_addTo : ckM 27 = true := by decide +kernel
theorem ck_X4_add : ckM 28 = true := by decide +kernel
theorem ck_X4_clear : ckM 29 = true := by decide +kernel
theorem ck_X4_fill : ckM 30 = true := by decide +kernel
theorem ck_X4_takeFrom : ckM 31 = true := by decide +kernel
theorem ck_X4_isSame : ckM 32 = true := by decide +kernel
theorem ck_X4_sum : ckM 33 = true := by decide +kernel
theorem ck_X5_init : ckM 34 = true := by decide +kernel
theorem ck_X5_takeFrom : ckM 35 = true := by decide +kernel
theorem ck_X5_given : ckM 36 = true := by decide +kernel
theorem ck_X5_stands : ckM 37 = true := by decide +kernel
theorem ck_X5_wantsEnd : ckM 38 = true := by decide +kernel
theorem ck_X6_init : ckM 39 = true := by decide +kernel
theorem ck_X6_begin : ckM 40 = true := by decide +kernel
theorem ck_X6_refusal : ckM 41 = true := by decide +kernel
theorem ck_X6_holds : ckM 42 = true := by decide +kernel
theorem ck_X6_tells : ckM 43 = true := by decide +kernel
theorem ck_X6_write : ckM 44 = true := by decide +kernel
theorem ck_X6_lowestBits : ckM 45 = true := by decide +kernel
theorem ck_X7_init : ckM 46 = true := by decide +kernel
theorem ck_X7_begin : ckM 47 = true := by decide +kernel
theorem ck_X7_addRule : ckM 48 = true := by decide +kernel
theorem ck_X7_remember : ckM 49 = true := by decide +kernel
theorem ck_X7_goBack : ckM 50 = true := by decide +kernel
theorem ck_X7_takeFrom : ckM 51 = true := by decide +kernel
theorem ck_X8_init : ckM 52 = true := by decide +kernel
theorem ck_X8_rewind : ckM 53 = true := by decide +kernel
theorem ck_X8_next : ckM 54 = true := by decide +kernel
theorem ck_X8_takes : ckM 55 = true := by decide +kernel
theorem ck_X8_fault : ckM 56 = true := by decide +kernel
theorem ck_X8_readLetters : ckM 57 = true := by decide +kernel
theorem ck_X8_readRule : ckM 58 = true := by decide +kernel
theorem ck_X8_readRules : ckM 59 = true := by decide +kernel
theorem ck_X8_kindOf : ckM 60 = true := by decide +kernel
theorem ck_X9_init : ckM 61 = true := by decide +kernel
theorem ck_X9_prepare : ckM 62 = true := by decide +kernel
theorem ck_X9_prepareAs : ckM 63 = true := by decide +kernel
theorem ck_X9_putInOrder : ckM 64 = true := by decide +kernel
theorem ck_X9_takeKinds : ckM 65 = true := by decide +kernel
theorem ck_X9_findStanding : ckM 66 = true := by decide +kernel
theorem ck_X9_standing : ckM 67 = true := by decide +kernel
theorem ck_X9_go : ckM 68 = true := by decide +kernel
theorem ck_X9_lengthBy : ckM 69 = true := by decide +kernel
theorem ck_X9_sureOf : ckM 70 = true := by decide +kernel
theorem ck_X9_ruleUsed : ckM 71 = true := by decide +kernel
theorem ck_X9_firstPossible : ckM 72 = true := by decide +kernel
theorem ck_X9_standsInOpen : ckM 73 = true := by decide +kernel
theorem ck_X9_give : ckM 74 = true := by decide +kernel
theorem ck_X9_leftOf : ckM 75 = true := by decide +kernel
theorem ck_X9_lengthGone : ckM 76 = true := by decide +kernel
theorem ck_X10_init : ckM 77 = true := by decide +kernel
theorem ck_X10_type : ckM 78 = true := by decide +kernel
theorem ck_X10_job : ckM 79 = true := by decide +kernel
theorem ck_X10_rule : ckM 80 = true := by decide +kernel
theorem ck_X10_of : ckM 81 = true := by decide +kernel
theorem ck_X10_spelt : ckM 82 = true := by decide +kernel
theorem ck_X10_at : ckM 83 = true := by decide +kernel
theorem ck_X10_count : ckM 84 = true := by decide +kernel
theorem ck_X10_change : ckM 85 = true := by decide +kernel
theorem ck_X10_turn : ckM 86 = true := by decide +kernel
theorem ck_X10_pass : ckM 87 = true := by decide +kernel
theorem ck_X10_pile : ckM 88 = true := by decide +kernel
theorem ck_X10_put : ckM 89 = true := by decide +kernel
theorem ck_X10_passPile : ckM 90 = true := by decide +kernel
theorem ck_X10_undo : ckM 91 = true := by decide +kernel
theorem ck_X10_comes : ckM 92 = true := by decide +kernel
theorem ck_X10_used : ckM 93 = true := by decide +kernel
theorem ck_X10_went : ckM 94 = true := by decide +kernel
theorem ck_X10_rest : ckM 95 = true := by decide +kernel
theorem ck_X10_sure : ckM 96 = true := by decide +kernel
theorem ck_X10_lean : ckM 97 = true := by decide +kernel
theorem ck_X10_longOdds : ckM 98 = true := by decide +kernel
theorem ck_X10_image : ckM 99 = true := by decide +kernel
theorem ck_X10_restore : ckM 100 = true := by decide +kernel
theorem ck_X10_came : ckM 101 = true := by decide +kernel
theorem ck_X10_film : ckM 102 = true := by decide +kernel
theorem ck_X10_sheet : ckM 103 = true := by decide +kernel
theorem ck_X10_drop : ckM 104 = true := by decide +kernel
theorem ck_X10_item : ckM 105 = true := by decide +kernel
theorem ck_X10_copy : ckM 106 = true := by decide +kernel
theorem ck_X10_whatComes : ckM 107 = true := by decide +kernel
theorem ck_X10_usesOf : ckM 108 = true := by decide +kernel
theorem ck_X10_idleRules : ckM 109 = true := by decide +kernel
theorem ck_X10_goThrough : ckM 110 = true := by decide +kernel
theorem ck_X10_tallyShortOnes : ckM 111 = true := by decide +kernel
theorem ck_X10_power : ckM 112 = true := by decide +kernel
theorem ck_X10_commonDivisor : ckM 113 = true := by decide +kernel
theorem ck_X10_isWithin : ckM 114 = true := by decide +kernel
theorem ck_X10_isLaneOfSheet : ckM 115 = true := by decide +kernel
theorem ck_X10_isWordLetter : ckM 116 = true := by decide +kernel
theorem ck_X10_isLetter : ckM 117 = true := by decide +kernel
theorem ck_X10_isOfSort : ckM 118 = true := by decide +kernel
theorem ck_X11_init : ckM 119 = true := by decide +kernel
theorem ck_X11_in : ckM 120 = true := by decide +kernel
theorem ck_X11_has : ckM 121 = true := by decide +kernel
theorem ck_X11_bits : ckM 122 = true := by decide +kernel
theorem ck_X11_copies : ckM 123 = true := by decide +kernel
theorem ck_X11_isSmall : ckM 124 = true := by decide +kernel
theorem ck_X11_isLetter : ckM 125 = true := by decide +kernel
theorem ck_X11_type : ckM 126 = true := by decide +kernel
theorem ck_X11_here : ckM 127 = true := by decide +kernel
theorem ck_X11_kindOf : ckM 128 = true := by decide +kernel
theorem ck_X11_takes : ckM 129 = true := by decide +kernel
theorem ck_X11_takesLetters : ckM 130 = true := by decide +kernel
theorem ck_X11_readsRule : ckM 131 = true := by decide +kernel
theorem ck_X11_readsJob : ckM 132 = true := by decide +kernel
theorem ck_X11_fault : ckM 133 = true := by decide +kernel
theorem ck_X11_job : ckM 134 = true := by decide +kernel
theorem ck_X11_rule : ckM 135 = true := by decide +kernel
theorem ck_X11_kindsAsTold : ckM 136 = true := by decide +kernel
theorem ck_X11_hasPhrase : ckM 137 = true := by decide +kernel
theorem ck_X11_isSmallAt : ckM 138 = true := by decide +kernel
theorem ck_X11_stands : ckM 139 = true := by decide +kernel
theorem ck_X11_givenBy : ckM 140 = true := by decide +kernel
theorem ck_X11_comesIn : ckM 141 = true := by decide +kernel
theorem ck_X11_ruleAt : ckM 142 = true := by decide +kernel
theorem ck_X11_goesOver : ckM 143 = true := by decide +kernel
theorem ck_X11_comesNow : ckM 144 = true := by decide +kernel
theorem ck_X11_becomes : ckM 145 = true := by decide +kernel
theorem ck_X11_isRule : ckM 146 = true := by decide +kernel
theorem ck_X11_of : ckM 147 = true := by decide +kernel
theorem ck_X11_spelt : ckM 148 = true := by decide +kernel
theorem ck_X11_isPlace : ckM 149 = true := by decide +kernel
theorem ck_X11_at : ckM 150 = true := by decide +kernel
theorem ck_X11_idle : ckM 151 = true := by decide +kernel
theorem ck_X11_count : ckM 152 = true := by decide +kernel
theorem ck_X11_notes : ckM 153 = true := by decide +kernel
theorem ck_X11_change : ckM 154 = true := by decide +kernel
theorem ck_X11_turn : ckM 155 = true := by decide +kernel
theorem ck_X11_passes : ckM 156 = true := by decide +kernel
theorem ck_X11_pass : ckM 157 = true := by decide +kernel
theorem ck_X11_isOfSort : ckM 158 = true := by decide +kernel
theorem ck_X11_pile : ckM 159 = true := by decide +kernel
theorem ck_X11_put : ckM 160 = true := by decide +kernel
theorem ck_X11_passPile : ckM 161 = true := by decide +kernel
theorem ck_X11_undo : ckM 162 = true := by decide +kernel
theorem ck_X11_comes : ckM 163 = true := by decide +kernel
theorem ck_X11_used : ckM 164 = true := by decide +kernel
theorem ck_X11_went : ckM 165 = true := by decide +kernel
theorem ck_X11_isSameLine : ckM 166 = true := by decide +kernel
theorem ck_X11_rest : ckM 167 = true := by decide +kernel
theorem ck_X11_sureOf : ckM 168 = true := by decide +kernel
theorem ck_X11_sure : ckM 169 = true := by decide +kernel
theorem ck_X11_lean : ckM 170 = true := by decide +kernel
theorem ck_X11_longOdds : ckM 171 = true := by decide +kernel
theorem ck_X11_image : ckM 172 = true := by decide +kernel
theorem ck_X11_restore : ckM 173 = true := by decide +kernel
theorem ck_X11_isSheet : ckM 174 = true := by decide +kernel
theorem ck_X11_isLane : ckM 175 = true := by decide +kernel
theorem ck_X11_finds : ckM 176 = true := by decide +kernel
theorem ck_X11_cut : ckM 177 = true := by decide +kernel
theorem ck_X11_came : ckM 178 = true := by decide +kernel
theorem ck_X11_film : ckM 179 = true := by decide +kernel
theorem ck_X11_sheet : ckM 180 = true := by decide +kernel
theorem ck_X11_drop : ckM 181 = true := by decide +kernel
theorem ck_X11_item : ckM 182 = true := by decide +kernel
theorem ck_X11_copy : ckM 183 = true := by decide +kernel
theorem ck_J6_bitCount_0f7a4 : ckM 184 = true := by decide +kernel
theorem ck_J9_floorMod_7cf53 : ckM 185 = true := by decide +kernel
theorem ck_J9_max_7cf53 : ckM 186 = true := by decide +kernel
theorem ck_J9_min_7cf53 : ckM 187 = true := by decide +kernel
theorem ck_J7_fill_d0a16 : ckM 188 = true := by decide +kernel
theorem ck_L_law : ckM 189 = true := by decide +kernel
theorem ckM_all : ∀ mi : Nat, ckM mi = true := by
  intro mi
  match mi with
  | 0 => exact ck_X0_init
  | 1 => exact ck_X0_size
  | 2 => exact ck_X0_has
  | 3 => exact ck_X0_all
  | 4 => exact ck_X0_get
  | 5 => exact ck_X0_clear
  | 6 => exact ck_X0_grow
  | 7 => exact ck_X0_takeFrom
  | 8 => exact ck_X1_init
  | 9 => exact ck_X1_size
  | 10 => exact ck_X1_clear
  | 11 => exact ck_X1_moment
  | 12 => exact ck_X1_add
  | 13 => exact ck_X1_giveBack
  | 14 => exact ck_X1_takeFrom
  | 15 => exact ck_X2_init
  | 16 => exact ck_X2_size
  | 17 => exact ck_X2_clear
  | 18 => exact ck_X2_add
  | 19 => exact ck_X2_takeFrom
  | 20 => exact ck_X3_init
  | 21 => exact ck_X3_takeFrom
  | 22 => exact ck_X4_init
  | 23 => exact ck_X4_size
  | 24 => exact ck_X4_most
  | 25 => exact ck_X4_get
  | 26 => exact ck_X4_set
  | 27 => exact ck_X4_addTo
  | 28 => exact ck_X4_add
  | 29 => exact ck_X4_clear
  | 30 => exact ck_X4_fill
  | 31 => exact ck_X4_takeFrom
  | 32 => exact ck_X4_isSame
  | 33 => exact ck_X4_sum
  | 34 => exact ck_X5_init
  | 35 => exact ck_X5_takeFrom
  | 36 => exact ck_X5_given
  | 37 => exact ck_X5_stands
  | 38 => exact ck_X5_wantsEnd
  | 39 => exact ck_X6_init
  | 40 => exact ck_X6_begin
  | 41 => exact ck_X6_refusal
  | 42 => exact ck_X6_holds
  | 43 => exact ck_X6_tells
  | 44 => exact ck_X6_write
  | 45 => exact ck_X6_lowestBits
  | 46 => exact ck_X7_init
  | 47 => exact ck_X7_begin
  | 48 => exact ck_X7_addRule
  | 49 => exact ck_X7_remember
  | 50 => exact ck_X7_goBack
  | 51 => exact ck_X7_takeFrom
  | 52 => exact ck_X8_init
  | 53 => exact ck_X8_rewind
  | 54 => exact ck_X8_next
  | 55 => exact ck_X8_takes
  | 56 => exact ck_X8_fault
  | 57 => exact ck_X8_readLetters
  | 58 => exact ck_X8_readRule
  | 59 => exact ck_X8_readRules
  | 60 => exact ck_X8_kindOf
  | 61 => exact ck_X9_init
  | 62 => exact ck_X9_prepare
  | 63 => exact ck_X9_prepareAs
  | 64 => exact ck_X9_putInOrder
  | 65 => exact ck_X9_takeKinds
  | 66 => exact ck_X9_findStanding
  | 67 => exact ck_X9_standing
  | 68 => exact ck_X9_go
  | 69 => exact ck_X9_lengthBy
  | 70 => exact ck_X9_sureOf
  | 71 => exact ck_X9_ruleUsed
  | 72 => exact ck_X9_firstPossible
  | 73 => exact ck_X9_standsInOpen
  | 74 => exact ck_X9_give
  | 75 => exact ck_X9_leftOf
  | 76 => exact ck_X9_lengthGone
  | 77 => exact ck_X10_init
  | 78 => exact ck_X10_type
  | 79 => exact ck_X10_job
  | 80 => exact ck_X10_rule
  | 81 => exact ck_X10_of
  | 82 => exact ck_X10_spelt
  | 83 => exact ck_X10_at
  | 84 => exact ck_X10_count
  | 85 => exact ck_X10_change
  | 86 => exact ck_X10_turn
  | 87 => exact ck_X10_pass
  | 88 => exact ck_X10_pile
  | 89 => exact ck_X10_put
  | 90 => exact ck_X10_passPile
  | 91 => exact ck_X10_undo
  | 92 => exact ck_X10_comes
  | 93 => exact ck_X10_used
  | 94 => exact ck_X10_went
  | 95 => exact ck_X10_rest
  | 96 => exact ck_X10_sure
  | 97 => exact ck_X10_lean
  | 98 => exact ck_X10_longOdds
  | 99 => exact ck_X10_image
  | 100 => exact ck_X10_restore
  | 101 => exact ck_X10_came
  | 102 => exact ck_X10_film
  | 103 => exact ck_X10_sheet
  | 104 => exact ck_X10_drop
  | 105 => exact ck_X10_item
  | 106 => exact ck_X10_copy
  | 107 => exact ck_X10_whatComes
  | 108 => exact ck_X10_usesOf
  | 109 => exact ck_X10_idleRules
  | 110 => exact ck_X10_goThrough
  | 111 => exact ck_X10_tallyShortOnes
  | 112 => exact ck_X10_power
  | 113 => exact ck_X10_commonDivisor
  | 114 => exact ck_X10_isWithin
  | 115 => exact ck_X10_isLaneOfSheet
  | 116 => exact ck_X10_isWordLetter
  | 117 => exact ck_X10_isLetter
  | 118 => exact ck_X10_isOfSort
  | 119 => exact ck_X11_init
  | 120 => exact ck_X11_in
  | 121 => exact ck_X11_has
  | 122 => exact ck_X11_bits
  | 123 => exact ck_X11_copies
  | 124 => exact ck_X11_isSmall
  | 125 => exact ck_X11_isLetter
  | 126 => exact ck_X11_type
  | 127 => exact ck_X11_here
  | 128 => exact ck_X11_kindOf
  | 129 => exact ck_X11_takes
  | 130 => exact ck_X11_takesLetters
  | 131 => exact ck_X11_readsRule
  | 132 => exact ck_X11_readsJob
  | 133 => exact ck_X11_fault
  | 134 => exact ck_X11_job
  | 135 => exact ck_X11_rule
  | 136 => exact ck_X11_kindsAsTold
  | 137 => exact ck_X11_hasPhrase
  | 138 => exact ck_X11_isSmallAt
  | 139 => exact ck_X11_stands
  | 140 => exact ck_X11_givenBy
  | 141 => exact ck_X11_comesIn
  | 142 => exact ck_X11_ruleAt
  | 143 => exact ck_X11_goesOver
  | 144 => exact ck_X11_comesNow
  | 145 => exact ck_X11_becomes
  | 146 => exact ck_X11_isRule
  | 147 => exact ck_X11_of
  | 148 => exact ck_X11_spelt
  | 149 => exact ck_X11_isPlace
  | 150 => exact ck_X11_at
  | 151 => exact ck_X11_idle
  | 152 => exact ck_X11_count
  | 153 => exact ck_X11_notes
  | 154 => exact ck_X11_change
  | 155 => exact ck_X11_turn
  | 156 => exact ck_X11_passes
  | 157 => exact ck_X11_pass
  | 158 => exact ck_X11_isOfSort
  | 159 => exact ck_X11_pile
  | 160 => exact ck_X11_put
  | 161 => exact ck_X11_passPile
  | 162 => exact ck_X11_undo
  | 163 => exact ck_X11_comes
  | 164 => exact ck_X11_used
  | 165 => exact ck_X11_went
  | 166 => exact ck_X11_isSameLine
  | 167 => exact ck_X11_rest
  | 168 => exact ck_X11_sureOf
  | 169 => exact ck_X11_sure
  | 170 => exact ck_X11_lean
  | 171 => exact ck_X11_longOdds
  | 172 => exact ck_X11_image
  | 173 => exact ck_X11_restore
  | 174 => exact ck_X11_isSheet
  | 175 => exact ck_X11_isLane
  | 176 => exact ck_X11_finds
  | 177 => exact ck_X11_cut
  | 178 => exact ck_X11_came
  | 179 => exact ck_X11_film
  | 180 => exact ck_X11_sheet
  | 181 => exact ck_X11_drop
  | 182 => exact ck_X11_item
  | 183 => exact ck_X11_copy
  | 184 => exact ck_J6_bitCount_0f7a4
  | 185 => exact ck_J9_floorMod_7cf53
  | 186 => exact ck_J9_max_7cf53
  | 187 => exact ck_J9_min_7cf53
  | 188 => exact ck_J7_fill_d0a16
  | 189 => exact ck_L_law
  | k + 190 => rfl
theorem ckQ_get (mi : Nat) : ∀ (q : List pmE) (pc k : Nat) (e : pmE), ckQ mi pc q = true → q[k]? = some e → ckE mi (pc + k) e = true
  | [], _, _, _, _, h => by simp at h
  | x :: t, pc, 0, e, hc, h => by
    simp only [ckQ, Bool.and_eq_true] at hc
    rw [List.getElem?_cons_zero] at h
    cases h
    exact hc.1
  | x :: t, pc, k + 1, e, hc, h => by
    simp only [ckQ, Bool.and_eq_true] at hc
    rw [List.getElem?_cons_succ] at h
    have := ckQ_get mi t (pc + 1) k e hc.2 h
    rw [Nat.add_assoc, Nat.add_comm 1 k] at this
    exact this
theorem ckE_of {mi pc : Nat} {e : pmE} (h : pmCode mi pc = some e) : ckE mi pc e = true := by
  have hm := ckM_all mi
  unfold pmCode at h
  unfold ckM at hm
  cases hq : pmQ[mi]? with
  | none => rw [hq] at h; cases h
  | some q =>
    rw [hq] at h hm
    have := ckQ_get mi q 0 pc e hm h
    rwa [Nat.zero_add] at this
