section
-- ===== PART A: goes FIRST, ahead of the names: the tables' words, and 'selects' of the private methods out of them =====
/-- a private method of a class that the tables say can be made, by its rows of tables_1 -/
def lw_okq (q : MethodName × Nat) : Prop := (q.1.cls ≠ "java/lang/invoke/MethodHandle" ∧ q.1.cls ≠ "java/lang/invoke/VarHandle") ∧ Cond.instantiable q.1.cls q.2 ∈ tables_1 ∧ Cond.privateMethod q.1 ∈ tables_1 ∧ Cond.instanceMethod q.1 ∈ tables_1
theorem lw_p0 : lw_okq (⟨"PhraseSwaps$Tape", "takes", "(I)Z"⟩, 2) := ⟨⟨by decide +kernel, by decide +kernel⟩, List.mem_of_getElem? (i := 26) (by decide +kernel), List.mem_of_getElem? (i := 335) (by decide +kernel), List.mem_of_getElem? (i := 336) (by decide +kernel)⟩
theorem lw_p1 : lw_okq (⟨"PhraseSwaps", "usesOf", "(I)I"⟩, 12) := ⟨⟨by decide +kernel, by decide +kernel⟩, List.mem_of_getElem? (i := 18) (by decide +kernel), List.mem_of_getElem? (i := 433) (by decide +kernel), List.mem_of_getElem? (i := 434) (by decide +kernel)⟩
theorem lw_p2 : lw_okq (⟨"PhraseSwaps", "whatComes", "()LPhraseSwaps$Line;"⟩, 12) := ⟨⟨by decide +kernel, by decide +kernel⟩, List.mem_of_getElem? (i := 18) (by decide +kernel), List.mem_of_getElem? (i := 437) (by decide +kernel), List.mem_of_getElem? (i := 438) (by decide +kernel)⟩
theorem lw_p3 : lw_okq (⟨"PhraseSwaps$Walk", "putInOrder", "()V"⟩, 7) := ⟨⟨by decide +kernel, by decide +kernel⟩, List.mem_of_getElem? (i := 180) (by decide +kernel), List.mem_of_getElem? (i := 445) (by decide +kernel), List.mem_of_getElem? (i := 446) (by decide +kernel)⟩
theorem lw_p4 : lw_okq (⟨"PhraseSwaps$Walk", "takeKinds", "()V"⟩, 7) := ⟨⟨by decide +kernel, by decide +kernel⟩, List.mem_of_getElem? (i := 180) (by decide +kernel), List.mem_of_getElem? (i := 454) (by decide +kernel), List.mem_of_getElem? (i := 455) (by decide +kernel)⟩
theorem lw_p5 : lw_okq (⟨"PhraseSwaps$Walk", "findStanding", "(LPhraseSwaps$Line;)V"⟩, 7) := ⟨⟨by decide +kernel, by decide +kernel⟩, List.mem_of_getElem? (i := 180) (by decide +kernel), List.mem_of_getElem? (i := 458) (by decide +kernel), List.mem_of_getElem? (i := 459) (by decide +kernel)⟩
theorem lw_p6 : lw_okq (⟨"PhraseSwaps$Walk", "ruleUsed", "(II)I"⟩, 7) := ⟨⟨by decide +kernel, by decide +kernel⟩, List.mem_of_getElem? (i := 180) (by decide +kernel), List.mem_of_getElem? (i := 490) (by decide +kernel), List.mem_of_getElem? (i := 491) (by decide +kernel)⟩
theorem lw_p7 : lw_okq (⟨"PhraseSwaps$Walk", "give", "(II)V"⟩, 7) := ⟨⟨by decide +kernel, by decide +kernel⟩, List.mem_of_getElem? (i := 180) (by decide +kernel), List.mem_of_getElem? (i := 495) (by decide +kernel), List.mem_of_getElem? (i := 496) (by decide +kernel)⟩
theorem lw_p8 : lw_okq (⟨"PhraseSwaps$Walk", "leftOf", "(II)I"⟩, 7) := ⟨⟨by decide +kernel, by decide +kernel⟩, List.mem_of_getElem? (i := 180) (by decide +kernel), List.mem_of_getElem? (i := 513) (by decide +kernel), List.mem_of_getElem? (i := 514) (by decide +kernel)⟩
theorem lw_p9 : lw_okq (⟨"PhraseSwaps$Walk", "lengthGone", "(I)I"⟩, 7) := ⟨⟨by decide +kernel, by decide +kernel⟩, List.mem_of_getElem? (i := 180) (by decide +kernel), List.mem_of_getElem? (i := 517) (by decide +kernel), List.mem_of_getElem? (i := 518) (by decide +kernel)⟩
theorem lw_p10 : lw_okq (⟨"PhraseSwaps", "idleRules", "()I"⟩, 12) := ⟨⟨by decide +kernel, by decide +kernel⟩, List.mem_of_getElem? (i := 18) (by decide +kernel), List.mem_of_getElem? (i := 537) (by decide +kernel), List.mem_of_getElem? (i := 538) (by decide +kernel)⟩
theorem lw_p11 : lw_okq (⟨"PhraseSwaps$History", "moment", "(I)LPhraseSwaps$Moment;"⟩, 3) := ⟨⟨by decide +kernel, by decide +kernel⟩, List.mem_of_getElem? (i := 144) (by decide +kernel), List.mem_of_getElem? (i := 558) (by decide +kernel), List.mem_of_getElem? (i := 559) (by decide +kernel)⟩
theorem lw_p12 : lw_okq (⟨"PhraseSwaps", "goThrough", "(I)I"⟩, 12) := ⟨⟨by decide +kernel, by decide +kernel⟩, List.mem_of_getElem? (i := 18) (by decide +kernel), List.mem_of_getElem? (i := 585) (by decide +kernel), List.mem_of_getElem? (i := 586) (by decide +kernel)⟩
theorem lw_p13 : lw_okq (⟨"PhraseSwaps$Walk", "firstPossible", "(LPhraseSwaps$Line;III)I"⟩, 7) := ⟨⟨by decide +kernel, by decide +kernel⟩, List.mem_of_getElem? (i := 180) (by decide +kernel), List.mem_of_getElem? (i := 656) (by decide +kernel), List.mem_of_getElem? (i := 657) (by decide +kernel)⟩
theorem lw_p14 : lw_okq (⟨"PhraseSwaps$Walk", "standsInOpen", "(LPhraseSwaps$Line;III)I"⟩, 7) := ⟨⟨by decide +kernel, by decide +kernel⟩, List.mem_of_getElem? (i := 180) (by decide +kernel), List.mem_of_getElem? (i := 660) (by decide +kernel), List.mem_of_getElem? (i := 661) (by decide +kernel)⟩
theorem lw_p15 : lw_okq (⟨"PhraseSwaps", "tallyShortOnes", "(II)V"⟩, 12) := ⟨⟨by decide +kernel, by decide +kernel⟩, List.mem_of_getElem? (i := 18) (by decide +kernel), List.mem_of_getElem? (i := 681) (by decide +kernel), List.mem_of_getElem? (i := 682) (by decide +kernel)⟩
def lw_privs_1 : List (MethodName × Nat) := [(⟨"PhraseSwaps$Tape", "takes", "(I)Z"⟩, 2), (⟨"PhraseSwaps", "usesOf", "(I)I"⟩, 12), (⟨"PhraseSwaps", "whatComes", "()LPhraseSwaps$Line;"⟩, 12), (⟨"PhraseSwaps$Walk", "putInOrder", "()V"⟩, 7), (⟨"PhraseSwaps$Walk", "takeKinds", "()V"⟩, 7), (⟨"PhraseSwaps$Walk", "findStanding", "(LPhraseSwaps$Line;)V"⟩, 7), (⟨"PhraseSwaps$Walk", "ruleUsed", "(II)I"⟩, 7), (⟨"PhraseSwaps$Walk", "give", "(II)V"⟩, 7), (⟨"PhraseSwaps$Walk", "leftOf", "(II)I"⟩, 7), (⟨"PhraseSwaps$Walk", "lengthGone", "(I)I"⟩, 7), (⟨"PhraseSwaps", "idleRules", "()I"⟩, 12), (⟨"PhraseSwaps$History", "moment", "(I)LPhraseSwaps$Moment;"⟩, 3), (⟨"PhraseSwaps", "goThrough", "(I)I"⟩, 12), (⟨"PhraseSwaps$Walk", "firstPossible", "(LPhraseSwaps$Line;III)I"⟩, 7), (⟨"PhraseSwaps$Walk", "standsInOpen", "(LPhraseSwaps$Line;III)I"⟩, 7), (⟨"PhraseSwaps", "tallyShortOnes", "(II)V"⟩, 12)]
theorem lw_r1 : ∀ q ∈ lw_privs_1, lw_okq q := List.forall_mem_cons.mpr ⟨lw_p0, List.forall_mem_cons.mpr ⟨lw_p1, List.forall_mem_cons.mpr ⟨lw_p2, List.forall_mem_cons.mpr ⟨lw_p3, List.forall_mem_cons.mpr ⟨lw_p4, List.forall_mem_cons.mpr ⟨lw_p5, List.forall_mem_cons.mpr ⟨lw_p6, List.forall_mem_cons.mpr ⟨lw_p7, List.forall_mem_cons.mpr ⟨lw_p8, List.forall_mem_cons.mpr ⟨lw_p9, List.forall_mem_cons.mpr ⟨lw_p10, List.forall_mem_cons.mpr ⟨lw_p11, List.forall_mem_cons.mpr ⟨lw_p12, List.forall_mem_cons.mpr ⟨lw_p13, List.forall_mem_cons.mpr ⟨lw_p14, List.forall_mem_cons.mpr ⟨lw_p15, fun _ h => absurd h List.not_mem_nil⟩⟩⟩⟩⟩⟩⟩⟩⟩⟩⟩⟩⟩⟩⟩⟩
theorem lw_p16 : lw_okq (⟨"PhraseSwaps$Sheet", "lowestBits", "(J)J"⟩, 4) := ⟨⟨by decide +kernel, by decide +kernel⟩, List.mem_of_getElem? (i := 218) (by decide +kernel), List.mem_of_getElem? (i := 744) (by decide +kernel), List.mem_of_getElem? (i := 745) (by decide +kernel)⟩
theorem lw_p17 : lw_okq (⟨"PhraseSwapsModel", "readsJob", "()Z"⟩, 29) := ⟨⟨by decide +kernel, by decide +kernel⟩, List.mem_of_getElem? (i := 773) (by decide +kernel), List.mem_of_getElem? (i := 881) (by decide +kernel), List.mem_of_getElem? (i := 882) (by decide +kernel)⟩
theorem lw_p18 : lw_okq (⟨"PhraseSwapsModel", "takesLetters", "([III)I"⟩, 29) := ⟨⟨by decide +kernel, by decide +kernel⟩, List.mem_of_getElem? (i := 773) (by decide +kernel), List.mem_of_getElem? (i := 885) (by decide +kernel), List.mem_of_getElem? (i := 886) (by decide +kernel)⟩
theorem lw_p19 : lw_okq (⟨"PhraseSwapsModel", "here", "()I"⟩, 29) := ⟨⟨by decide +kernel, by decide +kernel⟩, List.mem_of_getElem? (i := 773) (by decide +kernel), List.mem_of_getElem? (i := 889) (by decide +kernel), List.mem_of_getElem? (i := 890) (by decide +kernel)⟩
theorem lw_p20 : lw_okq (⟨"PhraseSwapsModel", "takes", "(I)Z"⟩, 29) := ⟨⟨by decide +kernel, by decide +kernel⟩, List.mem_of_getElem? (i := 773) (by decide +kernel), List.mem_of_getElem? (i := 901) (by decide +kernel), List.mem_of_getElem? (i := 902) (by decide +kernel)⟩
theorem lw_p21 : lw_okq (⟨"PhraseSwapsModel", "readsRule", "()Z"⟩, 29) := ⟨⟨by decide +kernel, by decide +kernel⟩, List.mem_of_getElem? (i := 773) (by decide +kernel), List.mem_of_getElem? (i := 905) (by decide +kernel), List.mem_of_getElem? (i := 906) (by decide +kernel)⟩
theorem lw_p22 : lw_okq (⟨"PhraseSwapsModel", "fault", "()I"⟩, 29) := ⟨⟨by decide +kernel, by decide +kernel⟩, List.mem_of_getElem? (i := 773) (by decide +kernel), List.mem_of_getElem? (i := 912) (by decide +kernel), List.mem_of_getElem? (i := 913) (by decide +kernel)⟩
theorem lw_p23 : lw_okq (⟨"PhraseSwapsModel", "isRule", "(I)Z"⟩, 29) := ⟨⟨by decide +kernel, by decide +kernel⟩, List.mem_of_getElem? (i := 773) (by decide +kernel), List.mem_of_getElem? (i := 927) (by decide +kernel), List.mem_of_getElem? (i := 928) (by decide +kernel)⟩
theorem lw_p24 : lw_okq (⟨"PhraseSwapsModel", "comesNow", "()I"⟩, 29) := ⟨⟨by decide +kernel, by decide +kernel⟩, List.mem_of_getElem? (i := 773) (by decide +kernel), List.mem_of_getElem? (i := 931) (by decide +kernel), List.mem_of_getElem? (i := 932) (by decide +kernel)⟩
theorem lw_p25 : lw_okq (⟨"PhraseSwapsModel", "kindsAsTold", "()V"⟩, 29) := ⟨⟨by decide +kernel, by decide +kernel⟩, List.mem_of_getElem? (i := 773) (by decide +kernel), List.mem_of_getElem? (i := 935) (by decide +kernel), List.mem_of_getElem? (i := 936) (by decide +kernel)⟩
theorem lw_p26 : lw_okq (⟨"PhraseSwapsModel", "goesOver", "([II)I"⟩, 29) := ⟨⟨by decide +kernel, by decide +kernel⟩, List.mem_of_getElem? (i := 773) (by decide +kernel), List.mem_of_getElem? (i := 939) (by decide +kernel), List.mem_of_getElem? (i := 940) (by decide +kernel)⟩
theorem lw_p27 : lw_okq (⟨"PhraseSwapsModel", "ruleAt", "([III)I"⟩, 29) := ⟨⟨by decide +kernel, by decide +kernel⟩, List.mem_of_getElem? (i := 773) (by decide +kernel), List.mem_of_getElem? (i := 943) (by decide +kernel), List.mem_of_getElem? (i := 944) (by decide +kernel)⟩
theorem lw_p28 : lw_okq (⟨"PhraseSwapsModel", "stands", "([III)Z"⟩, 29) := ⟨⟨by decide +kernel, by decide +kernel⟩, List.mem_of_getElem? (i := 773) (by decide +kernel), List.mem_of_getElem? (i := 950) (by decide +kernel), List.mem_of_getElem? (i := 951) (by decide +kernel)⟩
theorem lw_p29 : lw_okq (⟨"PhraseSwapsModel", "hasPhrase", "([III)Z"⟩, 29) := ⟨⟨by decide +kernel, by decide +kernel⟩, List.mem_of_getElem? (i := 773) (by decide +kernel), List.mem_of_getElem? (i := 954) (by decide +kernel), List.mem_of_getElem? (i := 955) (by decide +kernel)⟩
theorem lw_p30 : lw_okq (⟨"PhraseSwapsModel", "comesIn", "(II)V"⟩, 29) := ⟨⟨by decide +kernel, by decide +kernel⟩, List.mem_of_getElem? (i := 773) (by decide +kernel), List.mem_of_getElem? (i := 961) (by decide +kernel), List.mem_of_getElem? (i := 962) (by decide +kernel)⟩
theorem lw_p31 : lw_okq (⟨"PhraseSwapsModel", "givenBy", "(II)I"⟩, 29) := ⟨⟨by decide +kernel, by decide +kernel⟩, List.mem_of_getElem? (i := 773) (by decide +kernel), List.mem_of_getElem? (i := 965) (by decide +kernel), List.mem_of_getElem? (i := 966) (by decide +kernel)⟩
def lw_privs_2 : List (MethodName × Nat) := [(⟨"PhraseSwaps$Sheet", "lowestBits", "(J)J"⟩, 4), (⟨"PhraseSwapsModel", "readsJob", "()Z"⟩, 29), (⟨"PhraseSwapsModel", "takesLetters", "([III)I"⟩, 29), (⟨"PhraseSwapsModel", "here", "()I"⟩, 29), (⟨"PhraseSwapsModel", "takes", "(I)Z"⟩, 29), (⟨"PhraseSwapsModel", "readsRule", "()Z"⟩, 29), (⟨"PhraseSwapsModel", "fault", "()I"⟩, 29), (⟨"PhraseSwapsModel", "isRule", "(I)Z"⟩, 29), (⟨"PhraseSwapsModel", "comesNow", "()I"⟩, 29), (⟨"PhraseSwapsModel", "kindsAsTold", "()V"⟩, 29), (⟨"PhraseSwapsModel", "goesOver", "([II)I"⟩, 29), (⟨"PhraseSwapsModel", "ruleAt", "([III)I"⟩, 29), (⟨"PhraseSwapsModel", "stands", "([III)Z"⟩, 29), (⟨"PhraseSwapsModel", "hasPhrase", "([III)Z"⟩, 29), (⟨"PhraseSwapsModel", "comesIn", "(II)V"⟩, 29), (⟨"PhraseSwapsModel", "givenBy", "(II)I"⟩, 29)]
theorem lw_r2 : ∀ q ∈ lw_privs_2, lw_okq q := List.forall_mem_cons.mpr ⟨lw_p16, List.forall_mem_cons.mpr ⟨lw_p17, List.forall_mem_cons.mpr ⟨lw_p18, List.forall_mem_cons.mpr ⟨lw_p19, List.forall_mem_cons.mpr ⟨lw_p20, List.forall_mem_cons.mpr ⟨lw_p21, List.forall_mem_cons.mpr ⟨lw_p22, List.forall_mem_cons.mpr ⟨lw_p23, List.forall_mem_cons.mpr ⟨lw_p24, List.forall_mem_cons.mpr ⟨lw_p25, List.forall_mem_cons.mpr ⟨lw_p26, List.forall_mem_cons.mpr ⟨lw_p27, List.forall_mem_cons.mpr ⟨lw_p28, List.forall_mem_cons.mpr ⟨lw_p29, List.forall_mem_cons.mpr ⟨lw_p30, List.forall_mem_cons.mpr ⟨lw_p31, fun _ h => absurd h List.not_mem_nil⟩⟩⟩⟩⟩⟩⟩⟩⟩⟩⟩⟩⟩⟩⟩⟩
theorem lw_p32 : lw_okq (⟨"PhraseSwapsModel", "isPlace", "(I)Z"⟩, 29) := ⟨⟨by decide +kernel, by decide +kernel⟩, List.mem_of_getElem? (i := 773) (by decide +kernel), List.mem_of_getElem? (i := 978) (by decide +kernel), List.mem_of_getElem? (i := 979) (by decide +kernel)⟩
theorem lw_p33 : lw_okq (⟨"PhraseSwapsModel", "idle", "()I"⟩, 29) := ⟨⟨by decide +kernel, by decide +kernel⟩, List.mem_of_getElem? (i := 773) (by decide +kernel), List.mem_of_getElem? (i := 986) (by decide +kernel), List.mem_of_getElem? (i := 987) (by decide +kernel)⟩
theorem lw_p34 : lw_okq (⟨"PhraseSwapsModel", "notes", "()V"⟩, 29) := ⟨⟨by decide +kernel, by decide +kernel⟩, List.mem_of_getElem? (i := 773) (by decide +kernel), List.mem_of_getElem? (i := 994) (by decide +kernel), List.mem_of_getElem? (i := 995) (by decide +kernel)⟩
theorem lw_p35 : lw_okq (⟨"PhraseSwapsModel", "passes", "(I)I"⟩, 29) := ⟨⟨by decide +kernel, by decide +kernel⟩, List.mem_of_getElem? (i := 773) (by decide +kernel), List.mem_of_getElem? (i := 1006) (by decide +kernel), List.mem_of_getElem? (i := 1007) (by decide +kernel)⟩
theorem lw_p36 : lw_okq (⟨"PhraseSwapsModel", "becomes", "([I)V"⟩, 29) := ⟨⟨by decide +kernel, by decide +kernel⟩, List.mem_of_getElem? (i := 773) (by decide +kernel), List.mem_of_getElem? (i := 1010) (by decide +kernel), List.mem_of_getElem? (i := 1011) (by decide +kernel)⟩
theorem lw_p37 : lw_okq (⟨"PhraseSwapsModel", "isSameLine", "([I)Z"⟩, 29) := ⟨⟨by decide +kernel, by decide +kernel⟩, List.mem_of_getElem? (i := 773) (by decide +kernel), List.mem_of_getElem? (i := 1055) (by decide +kernel), List.mem_of_getElem? (i := 1056) (by decide +kernel)⟩
theorem lw_p38 : lw_okq (⟨"PhraseSwapsModel", "sureOf", "(III)I"⟩, 29) := ⟨⟨by decide +kernel, by decide +kernel⟩, List.mem_of_getElem? (i := 773) (by decide +kernel), List.mem_of_getElem? (i := 1063) (by decide +kernel), List.mem_of_getElem? (i := 1064) (by decide +kernel)⟩
theorem lw_p39 : lw_okq (⟨"PhraseSwapsModel", "finds", "(IIII)I"⟩, 29) := ⟨⟨by decide +kernel, by decide +kernel⟩, List.mem_of_getElem? (i := 773) (by decide +kernel), List.mem_of_getElem? (i := 1097) (by decide +kernel), List.mem_of_getElem? (i := 1098) (by decide +kernel)⟩
def lw_privs_3 : List (MethodName × Nat) := [(⟨"PhraseSwapsModel", "isPlace", "(I)Z"⟩, 29), (⟨"PhraseSwapsModel", "idle", "()I"⟩, 29), (⟨"PhraseSwapsModel", "notes", "()V"⟩, 29), (⟨"PhraseSwapsModel", "passes", "(I)I"⟩, 29), (⟨"PhraseSwapsModel", "becomes", "([I)V"⟩, 29), (⟨"PhraseSwapsModel", "isSameLine", "([I)Z"⟩, 29), (⟨"PhraseSwapsModel", "sureOf", "(III)I"⟩, 29), (⟨"PhraseSwapsModel", "finds", "(IIII)I"⟩, 29)]
theorem lw_r3 : ∀ q ∈ lw_privs_3, lw_okq q := List.forall_mem_cons.mpr ⟨lw_p32, List.forall_mem_cons.mpr ⟨lw_p33, List.forall_mem_cons.mpr ⟨lw_p34, List.forall_mem_cons.mpr ⟨lw_p35, List.forall_mem_cons.mpr ⟨lw_p36, List.forall_mem_cons.mpr ⟨lw_p37, List.forall_mem_cons.mpr ⟨lw_p38, List.forall_mem_cons.mpr ⟨lw_p39, fun _ h => absurd h List.not_mem_nil⟩⟩⟩⟩⟩⟩⟩⟩
def lw_privs : List (MethodName × Nat) := lw_privs_1 ++ (lw_privs_2 ++ (lw_privs_3))
def lw_tbl : List Cond := k2_sels lw_privs ++ tables_1
theorem lw_privs_ok : ∀ q ∈ lw_privs, lw_okq q := by
  show ∀ q ∈ lw_privs_1 ++ (lw_privs_2 ++ (lw_privs_3)), lw_okq q
  exact List.forall_mem_append.mpr ⟨lw_r1, List.forall_mem_append.mpr ⟨lw_r2, lw_r3⟩⟩
end
section
theorem goodIn_sub {big ws : List Cond} (hm : ∀ w ∈ ws, w ∈ big) (h : ws.all goodWord = true) : GoodIn big ws := fun w hw => ⟨hm w hw, good_of_word (List.all_eq_true.mp h w hw)⟩
def RX0 : String := "PhraseSwaps$Book"
def TX0 : u_T := fun k => match k with
  | 0 => ("PhraseSwaps$Book", "rules", "[LPhraseSwaps$Rule;", true)
  | 1 => ("PhraseSwaps$Book", "blank", "LPhraseSwaps$Rule;", true)
  | _ => ("PhraseSwaps$Book", "size", "I", false)
def tyX0 : Nat → FieldType := fun k => match k with
  | 0 => .array (.object "PhraseSwaps$Rule")
  | 1 => .object "PhraseSwaps$Rule"
  | _ => .int
abbrev wsX00 : List Cond := u_ws RX0 TX0 3
theorem nmX0 : ∀ a, a < 3 → ∀ b, b < 3 → a ≠ b → (TX0 a).2.1 ≠ (TX0 b).2.1 := by decide +kernel
theorem tyX0_ok : ∀ k, k < 3 → parseFieldDescriptor (TX0 k).2.2.1 = some (tyX0 k) := by decide +kernel
abbrev cX0_init : ByteArray := prog_2_method_1_code
def yX0_init : MethodName := ⟨RX0, "<init>", "()V"⟩
abbrev cX0_size : ByteArray := prog_2_method_2_code
def yX0_size : MethodName := ⟨RX0, "size", "()I"⟩
abbrev cX0_has : ByteArray := prog_2_method_3_code
def yX0_has : MethodName := ⟨RX0, "has", "(I)Z"⟩
abbrev cX0_all : ByteArray := prog_2_method_4_code
def yX0_all : MethodName := ⟨RX0, "all", "()I"⟩
abbrev cX0_get : ByteArray := prog_2_method_5_code
def yX0_get : MethodName := ⟨RX0, "get", "(I)LPhraseSwaps$Rule;"⟩
abbrev cX0_clear : ByteArray := prog_2_method_6_code
def yX0_clear : MethodName := ⟨RX0, "clear", "()V"⟩
abbrev cX0_grow : ByteArray := prog_2_method_7_code
def yX0_grow : MethodName := ⟨RX0, "grow", "()Z"⟩
abbrev cX0_takeFrom : ByteArray := prog_2_method_8_code
def yX0_takeFrom : MethodName := ⟨RX0, "takeFrom", "(LPhraseSwaps$Book;)V"⟩
def RX1 : String := "PhraseSwaps$History"
def TX1 : u_T := fun k => match k with
  | 0 => ("PhraseSwaps$History", "moments", "[LPhraseSwaps$Moment;", true)
  | 1 => ("PhraseSwaps$History", "size", "I", false)
  | _ => ("PhraseSwaps$History", "next", "I", false)
def tyX1 : Nat → FieldType := fun k => match k with
  | 0 => .array (.object "PhraseSwaps$Moment")
  | 1 => .int
  | _ => .int
abbrev wsX10 : List Cond := u_ws RX1 TX1 3
theorem nmX1 : ∀ a, a < 3 → ∀ b, b < 3 → a ≠ b → (TX1 a).2.1 ≠ (TX1 b).2.1 := by decide +kernel
theorem tyX1_ok : ∀ k, k < 3 → parseFieldDescriptor (TX1 k).2.2.1 = some (tyX1 k) := by decide +kernel
abbrev cX1_init : ByteArray := prog_3_method_1_code
def yX1_init : MethodName := ⟨RX1, "<init>", "()V"⟩
abbrev cX1_size : ByteArray := prog_3_method_2_code
def yX1_size : MethodName := ⟨RX1, "size", "()I"⟩
abbrev cX1_clear : ByteArray := prog_3_method_3_code
def yX1_clear : MethodName := ⟨RX1, "clear", "()V"⟩
abbrev cX1_moment : ByteArray := prog_3_method_4_code
def yX1_moment : MethodName := ⟨RX1, "moment", "(I)LPhraseSwaps$Moment;"⟩
abbrev cX1_add : ByteArray := prog_3_method_5_code
def yX1_add : MethodName := ⟨RX1, "add", "(LPhraseSwaps$Moment;)V"⟩
abbrev cX1_giveBack : ByteArray := prog_3_method_6_code
def yX1_giveBack : MethodName := ⟨RX1, "giveBack", "(LPhraseSwaps$Moment;)Z"⟩
abbrev cX1_takeFrom : ByteArray := prog_3_method_7_code
def yX1_takeFrom : MethodName := ⟨RX1, "takeFrom", "(LPhraseSwaps$History;)V"⟩
def RX2 : String := "PhraseSwaps$Line"
def TX2 : u_T := fun k => match k with
  | 0 => ("PhraseSwaps$Line", "letters", "LPhraseSwaps$Row;", true)
  | _ => ("PhraseSwaps$Line", "sources", "LPhraseSwaps$Row;", true)
def tyX2 : Nat → FieldType := fun k => match k with
  | 0 => .object "PhraseSwaps$Row"
  | _ => .object "PhraseSwaps$Row"
abbrev wsX20 : List Cond := u_ws RX2 TX2 2
theorem nmX2 : ∀ a, a < 2 → ∀ b, b < 2 → a ≠ b → (TX2 a).2.1 ≠ (TX2 b).2.1 := by decide +kernel
theorem tyX2_ok : ∀ k, k < 2 → parseFieldDescriptor (TX2 k).2.2.1 = some (tyX2 k) := by decide +kernel
abbrev cX2_init : ByteArray := prog_4_method_1_code
def yX2_init : MethodName := ⟨RX2, "<init>", "(I)V"⟩
abbrev cX2_size : ByteArray := prog_4_method_2_code
def yX2_size : MethodName := ⟨RX2, "size", "()I"⟩
abbrev cX2_clear : ByteArray := prog_4_method_3_code
def yX2_clear : MethodName := ⟨RX2, "clear", "()V"⟩
abbrev cX2_add : ByteArray := prog_4_method_4_code
def yX2_add : MethodName := ⟨RX2, "add", "(II)V"⟩
abbrev cX2_takeFrom : ByteArray := prog_4_method_5_code
def yX2_takeFrom : MethodName := ⟨RX2, "takeFrom", "(LPhraseSwaps$Line;)V"⟩
def RX3 : String := "PhraseSwaps$Moment"
def TX3 : u_T := fun k => match k with
  | 0 => ("PhraseSwaps$Moment", "line", "LPhraseSwaps$Line;", true)
  | _ => ("PhraseSwaps$Moment", "on", "I", false)
def tyX3 : Nat → FieldType := fun k => match k with
  | 0 => .object "PhraseSwaps$Line"
  | _ => .int
abbrev wsX30 : List Cond := u_ws RX3 TX3 2
theorem nmX3 : ∀ a, a < 2 → ∀ b, b < 2 → a ≠ b → (TX3 a).2.1 ≠ (TX3 b).2.1 := by decide +kernel
theorem tyX3_ok : ∀ k, k < 2 → parseFieldDescriptor (TX3 k).2.2.1 = some (tyX3 k) := by decide +kernel
abbrev cX3_init : ByteArray := prog_5_method_1_code
def yX3_init : MethodName := ⟨RX3, "<init>", "()V"⟩
abbrev cX3_takeFrom : ByteArray := prog_5_method_2_code
def yX3_takeFrom : MethodName := ⟨RX3, "takeFrom", "(LPhraseSwaps$Moment;)V"⟩
def RX4 : String := "PhraseSwaps$Row"
def TX4 : u_T := fun k => match k with
  | 0 => ("PhraseSwaps$Row", "items", "[I", true)
  | _ => ("PhraseSwaps$Row", "length", "I", false)
def tyX4 : Nat → FieldType := fun k => match k with
  | 0 => .array .int
  | _ => .int
abbrev wsX40 : List Cond := u_ws RX4 TX4 2
theorem nmX4 : ∀ a, a < 2 → ∀ b, b < 2 → a ≠ b → (TX4 a).2.1 ≠ (TX4 b).2.1 := by decide +kernel
theorem tyX4_ok : ∀ k, k < 2 → parseFieldDescriptor (TX4 k).2.2.1 = some (tyX4 k) := by decide +kernel
abbrev cX4_init : ByteArray := prog_6_method_1_code
def yX4_init : MethodName := ⟨RX4, "<init>", "(I)V"⟩
abbrev cX4_size : ByteArray := prog_6_method_2_code
def yX4_size : MethodName := ⟨RX4, "size", "()I"⟩
abbrev cX4_most : ByteArray := prog_6_method_3_code
def yX4_most : MethodName := ⟨RX4, "most", "()I"⟩
abbrev cX4_get : ByteArray := prog_6_method_4_code
def yX4_get : MethodName := ⟨RX4, "get", "(I)I"⟩
abbrev cX4_set : ByteArray := prog_6_method_5_code
def yX4_set : MethodName := ⟨RX4, "set", "(II)V"⟩
abbrev cX4_addTo : ByteArray := prog_6_method_6_code
def yX4_addTo : MethodName := ⟨RX4, "addTo", "(II)V"⟩
abbrev cX4_add : ByteArray := prog_6_method_7_code
def yX4_add : MethodName := ⟨RX4, "add", "(I)Z"⟩
abbrev cX4_clear : ByteArray := prog_6_method_8_code
def yX4_clear : MethodName := ⟨RX4, "clear", "()V"⟩
abbrev cX4_fill : ByteArray := prog_6_method_9_code
def yX4_fill : MethodName := ⟨RX4, "fill", "(II)V"⟩
abbrev cX4_takeFrom : ByteArray := prog_6_method_10_code
def yX4_takeFrom : MethodName := ⟨RX4, "takeFrom", "(LPhraseSwaps$Row;)V"⟩
abbrev cX4_isSame : ByteArray := prog_6_method_11_code
def yX4_isSame : MethodName := ⟨RX4, "isSame", "(LPhraseSwaps$Row;)Z"⟩
abbrev cX4_sum : ByteArray := prog_6_method_12_code
def yX4_sum : MethodName := ⟨RX4, "sum", "()I"⟩
def RX5 : String := "PhraseSwaps$Rule"
def TX5 : u_T := fun k => match k with
  | 0 => ("PhraseSwaps$Rule", "kind", "I", false)
  | 1 => ("PhraseSwaps$Rule", "phrase", "LPhraseSwaps$Row;", true)
  | _ => ("PhraseSwaps$Rule", "gift", "LPhraseSwaps$Row;", true)
def tyX5 : Nat → FieldType := fun k => match k with
  | 0 => .int
  | 1 => .object "PhraseSwaps$Row"
  | _ => .object "PhraseSwaps$Row"
abbrev wsX50 : List Cond := u_ws RX5 TX5 3
theorem nmX5 : ∀ a, a < 3 → ∀ b, b < 3 → a ≠ b → (TX5 a).2.1 ≠ (TX5 b).2.1 := by decide +kernel
theorem tyX5_ok : ∀ k, k < 3 → parseFieldDescriptor (TX5 k).2.2.1 = some (tyX5 k) := by decide +kernel
abbrev cX5_init : ByteArray := prog_7_method_1_code
def yX5_init : MethodName := ⟨RX5, "<init>", "()V"⟩
abbrev cX5_takeFrom : ByteArray := prog_7_method_2_code
def yX5_takeFrom : MethodName := ⟨RX5, "takeFrom", "(LPhraseSwaps$Rule;)V"⟩
abbrev cX5_given : ByteArray := prog_7_method_3_code
def yX5_given : MethodName := ⟨RX5, "given", "(II)I"⟩
abbrev cX5_stands : ByteArray := prog_7_method_4_code
def yX5_stands : MethodName := ⟨RX5, "stands", "(LPhraseSwaps$Line;IIIZ)I"⟩
abbrev cX5_wantsEnd : ByteArray := prog_7_method_5_code
def yX5_wantsEnd : MethodName := ⟨RX5, "wantsEnd", "(I)Z"⟩
def RX6 : String := "PhraseSwaps$Sheet"
def TX6 : u_T := fun k => match k with
  | 0 => ("PhraseSwaps$Sheet", "items", "[J", true)
  | 1 => ("PhraseSwaps$Sheet", "there", "Z", false)
  | 2 => ("PhraseSwaps$Sheet", "lane", "I", false)
  | _ => ("PhraseSwaps$Sheet", "size", "I", false)
def tyX6 : Nat → FieldType := fun k => match k with
  | 0 => .array .long
  | 1 => .boolean
  | 2 => .int
  | _ => .int
abbrev wsX60 : List Cond := u_ws RX6 TX6 4
theorem nmX6 : ∀ a, a < 4 → ∀ b, b < 4 → a ≠ b → (TX6 a).2.1 ≠ (TX6 b).2.1 := by decide +kernel
theorem tyX6_ok : ∀ k, k < 4 → parseFieldDescriptor (TX6 k).2.2.1 = some (tyX6 k) := by decide +kernel
abbrev cX6_init : ByteArray := prog_8_method_1_code
def yX6_init : MethodName := ⟨RX6, "<init>", "()V"⟩
abbrev cX6_begin : ByteArray := prog_8_method_2_code
def yX6_begin : MethodName := ⟨RX6, "begin", "(II)V"⟩
abbrev cX6_refusal : ByteArray := prog_8_method_3_code
def yX6_refusal : MethodName := ⟨RX6, "refusal", "(III)I"⟩
abbrev cX6_holds : ByteArray := prog_8_method_4_code
def yX6_holds : MethodName := ⟨RX6, "holds", "(II)Z"⟩
abbrev cX6_tells : ByteArray := prog_8_method_5_code
def yX6_tells : MethodName := ⟨RX6, "tells", "(LPhraseSwaps$Row;II)Z"⟩
abbrev cX6_write : ByteArray := prog_8_method_6_code
def yX6_write : MethodName := ⟨RX6, "write", "(IJ)V"⟩
abbrev cX6_lowestBits : ByteArray := prog_8_method_7_code
def yX6_lowestBits : MethodName := ⟨RX6, "lowestBits", "(J)J"⟩
def RX7 : String := "PhraseSwaps$State"
def TX7 : u_T := fun k => match k with
  | 0 => ("PhraseSwaps$State", "moment", "LPhraseSwaps$Moment;", true)
  | 1 => ("PhraseSwaps$State", "book", "LPhraseSwaps$Book;", true)
  | _ => ("PhraseSwaps$State", "history", "LPhraseSwaps$History;", true)
def tyX7 : Nat → FieldType := fun k => match k with
  | 0 => .object "PhraseSwaps$Moment"
  | 1 => .object "PhraseSwaps$Book"
  | _ => .object "PhraseSwaps$History"
abbrev wsX70 : List Cond := u_ws RX7 TX7 3
theorem nmX7 : ∀ a, a < 3 → ∀ b, b < 3 → a ≠ b → (TX7 a).2.1 ≠ (TX7 b).2.1 := by decide +kernel
theorem tyX7_ok : ∀ k, k < 3 → parseFieldDescriptor (TX7 k).2.2.1 = some (tyX7 k) := by decide +kernel
abbrev cX7_init : ByteArray := prog_9_method_1_code
def yX7_init : MethodName := ⟨RX7, "<init>", "()V"⟩
abbrev cX7_begin : ByteArray := prog_9_method_2_code
def yX7_begin : MethodName := ⟨RX7, "begin", "(LPhraseSwaps$Row;LPhraseSwaps$Book;)V"⟩
abbrev cX7_addRule : ByteArray := prog_9_method_3_code
def yX7_addRule : MethodName := ⟨RX7, "addRule", "(LPhraseSwaps$Rule;)Z"⟩
abbrev cX7_remember : ByteArray := prog_9_method_4_code
def yX7_remember : MethodName := ⟨RX7, "remember", "()V"⟩
abbrev cX7_goBack : ByteArray := prog_9_method_5_code
def yX7_goBack : MethodName := ⟨RX7, "goBack", "()Z"⟩
abbrev cX7_takeFrom : ByteArray := prog_9_method_6_code
def yX7_takeFrom : MethodName := ⟨RX7, "takeFrom", "(LPhraseSwaps$State;)V"⟩
def RX8 : String := "PhraseSwaps$Tape"
def TX8 : u_T := fun k => match k with
  | 0 => ("PhraseSwaps$Tape", "signs", "LPhraseSwaps$Row;", true)
  | _ => ("PhraseSwaps$Tape", "place", "I", false)
def tyX8 : Nat → FieldType := fun k => match k with
  | 0 => .object "PhraseSwaps$Row"
  | _ => .int
abbrev wsX80 : List Cond := u_ws RX8 TX8 2
theorem nmX8 : ∀ a, a < 2 → ∀ b, b < 2 → a ≠ b → (TX8 a).2.1 ≠ (TX8 b).2.1 := by decide +kernel
theorem tyX8_ok : ∀ k, k < 2 → parseFieldDescriptor (TX8 k).2.2.1 = some (tyX8 k) := by decide +kernel
abbrev cX8_init : ByteArray := prog_10_method_1_code
def yX8_init : MethodName := ⟨RX8, "<init>", "()V"⟩
abbrev cX8_rewind : ByteArray := prog_10_method_2_code
def yX8_rewind : MethodName := ⟨RX8, "rewind", "()V"⟩
abbrev cX8_next : ByteArray := prog_10_method_3_code
def yX8_next : MethodName := ⟨RX8, "next", "()I"⟩
abbrev cX8_takes : ByteArray := prog_10_method_4_code
def yX8_takes : MethodName := ⟨RX8, "takes", "(I)Z"⟩
abbrev cX8_fault : ByteArray := prog_10_method_5_code
def yX8_fault : MethodName := ⟨RX8, "fault", "()I"⟩
abbrev cX8_readLetters : ByteArray := prog_10_method_6_code
def yX8_readLetters : MethodName := ⟨RX8, "readLetters", "(LPhraseSwaps$Row;)V"⟩
abbrev cX8_readRule : ByteArray := prog_10_method_7_code
def yX8_readRule : MethodName := ⟨RX8, "readRule", "(LPhraseSwaps$Rule;)Z"⟩
abbrev cX8_readRules : ByteArray := prog_10_method_8_code
def yX8_readRules : MethodName := ⟨RX8, "readRules", "(LPhraseSwaps$Book;)Z"⟩
abbrev cX8_kindOf : ByteArray := prog_10_method_9_code
def yX8_kindOf : MethodName := ⟨RX8, "kindOf", "(I)I"⟩
def RX9 : String := "PhraseSwaps$Walk"
def TX9 : u_T := fun k => match k with
  | 0 => ("PhraseSwaps$Walk", "book", "LPhraseSwaps$Book;", true)
  | 1 => ("PhraseSwaps$Walk", "order", "LPhraseSwaps$Row;", true)
  | 2 => ("PhraseSwaps$Walk", "kinds", "LPhraseSwaps$Row;", true)
  | 3 => ("PhraseSwaps$Walk", "standingAt", "LPhraseSwaps$Row;", true)
  | 4 => ("PhraseSwaps$Walk", "usedAt", "LPhraseSwaps$Row;", true)
  | 5 => ("PhraseSwaps$Walk", "uses", "LPhraseSwaps$Row;", true)
  | _ => ("PhraseSwaps$Walk", "made", "LPhraseSwaps$Line;", true)
def tyX9 : Nat → FieldType := fun k => match k with
  | 0 => .object "PhraseSwaps$Book"
  | 1 => .object "PhraseSwaps$Row"
  | 2 => .object "PhraseSwaps$Row"
  | 3 => .object "PhraseSwaps$Row"
  | 4 => .object "PhraseSwaps$Row"
  | 5 => .object "PhraseSwaps$Row"
  | _ => .object "PhraseSwaps$Line"
abbrev wsX90 : List Cond := u_ws RX9 TX9 7
theorem nmX9 : ∀ a, a < 7 → ∀ b, b < 7 → a ≠ b → (TX9 a).2.1 ≠ (TX9 b).2.1 := by decide +kernel
theorem tyX9_ok : ∀ k, k < 7 → parseFieldDescriptor (TX9 k).2.2.1 = some (tyX9 k) := by decide +kernel
abbrev cX9_init : ByteArray := prog_11_method_1_code
def yX9_init : MethodName := ⟨RX9, "<init>", "(LPhraseSwaps$Book;)V"⟩
abbrev cX9_prepare : ByteArray := prog_11_method_2_code
def yX9_prepare : MethodName := ⟨RX9, "prepare", "(LPhraseSwaps$Line;)V"⟩
abbrev cX9_prepareAs : ByteArray := prog_11_method_3_code
def yX9_prepareAs : MethodName := ⟨RX9, "prepareAs", "(LPhraseSwaps$Line;II)V"⟩
abbrev cX9_putInOrder : ByteArray := prog_11_method_4_code
def yX9_putInOrder : MethodName := ⟨RX9, "putInOrder", "()V"⟩
abbrev cX9_takeKinds : ByteArray := prog_11_method_5_code
def yX9_takeKinds : MethodName := ⟨RX9, "takeKinds", "()V"⟩
abbrev cX9_findStanding : ByteArray := prog_11_method_6_code
def yX9_findStanding : MethodName := ⟨RX9, "findStanding", "(LPhraseSwaps$Line;)V"⟩
abbrev cX9_standing : ByteArray := prog_11_method_7_code
def yX9_standing : MethodName := ⟨RX9, "standing", "()I"⟩
abbrev cX9_go : ByteArray := prog_11_method_8_code
def yX9_go : MethodName := ⟨RX9, "go", "(LPhraseSwaps$Line;I)V"⟩
abbrev cX9_lengthBy : ByteArray := prog_11_method_9_code
def yX9_lengthBy : MethodName := ⟨RX9, "lengthBy", "(LPhraseSwaps$Line;I)I"⟩
abbrev cX9_sureOf : ByteArray := prog_11_method_10_code
def yX9_sureOf : MethodName := ⟨RX9, "sureOf", "(LPhraseSwaps$Line;II)I"⟩
abbrev cX9_ruleUsed : ByteArray := prog_11_method_11_code
def yX9_ruleUsed : MethodName := ⟨RX9, "ruleUsed", "(II)I"⟩
abbrev cX9_firstPossible : ByteArray := prog_11_method_12_code
def yX9_firstPossible : MethodName := ⟨RX9, "firstPossible", "(LPhraseSwaps$Line;III)I"⟩
abbrev cX9_standsInOpen : ByteArray := prog_11_method_13_code
def yX9_standsInOpen : MethodName := ⟨RX9, "standsInOpen", "(LPhraseSwaps$Line;III)I"⟩
abbrev cX9_give : ByteArray := prog_11_method_14_code
def yX9_give : MethodName := ⟨RX9, "give", "(II)V"⟩
abbrev cX9_leftOf : ByteArray := prog_11_method_15_code
def yX9_leftOf : MethodName := ⟨RX9, "leftOf", "(II)I"⟩
abbrev cX9_lengthGone : ByteArray := prog_11_method_16_code
def yX9_lengthGone : MethodName := ⟨RX9, "lengthGone", "(I)I"⟩
def RX10 : String := "PhraseSwaps"
def TX10 : u_T := fun k => match k with
  | 0 => ("PhraseSwaps", "tape", "LPhraseSwaps$Tape;", true)
  | 1 => ("PhraseSwaps", "now", "LPhraseSwaps$State;", true)
  | 2 => ("PhraseSwaps", "kept", "LPhraseSwaps$State;", true)
  | 3 => ("PhraseSwaps", "hasImage", "Z", false)
  | 4 => ("PhraseSwaps", "draftLetters", "LPhraseSwaps$Row;", true)
  | 5 => ("PhraseSwaps", "draftBook", "LPhraseSwaps$Book;", true)
  | 6 => ("PhraseSwaps", "walk", "LPhraseSwaps$Walk;", true)
  | 7 => ("PhraseSwaps", "later", "LPhraseSwaps$Line;", true)
  | 8 => ("PhraseSwaps", "tally", "LPhraseSwaps$Row;", true)
  | 9 => ("PhraseSwaps", "sheets", "[LPhraseSwaps$Sheet;", true)
  | 10 => ("PhraseSwaps", "pileSort", "I", false)
  | _ => ("PhraseSwaps", "pileSet", "I", false)
def tyX10 : Nat → FieldType := fun k => match k with
  | 0 => .object "PhraseSwaps$Tape"
  | 1 => .object "PhraseSwaps$State"
  | 2 => .object "PhraseSwaps$State"
  | 3 => .boolean
  | 4 => .object "PhraseSwaps$Row"
  | 5 => .object "PhraseSwaps$Book"
  | 6 => .object "PhraseSwaps$Walk"
  | 7 => .object "PhraseSwaps$Line"
  | 8 => .object "PhraseSwaps$Row"
  | 9 => .array (.object "PhraseSwaps$Sheet")
  | 10 => .int
  | _ => .int
abbrev wsX100 : List Cond := u_ws RX10 TX10 12
theorem nmX10 : ∀ a, a < 12 → ∀ b, b < 12 → a ≠ b → (TX10 a).2.1 ≠ (TX10 b).2.1 := by decide +kernel
theorem tyX10_ok : ∀ k, k < 12 → parseFieldDescriptor (TX10 k).2.2.1 = some (tyX10 k) := by decide +kernel
abbrev cX10_init : ByteArray := prog_1_method_1_code
def yX10_init : MethodName := ⟨RX10, "<init>", "()V"⟩
abbrev cX10_type : ByteArray := prog_1_method_2_code
def yX10_type : MethodName := ⟨RX10, "type", "(I)I"⟩
abbrev cX10_job : ByteArray := prog_1_method_3_code
def yX10_job : MethodName := ⟨RX10, "job", "()I"⟩
abbrev cX10_rule : ByteArray := prog_1_method_4_code
def yX10_rule : MethodName := ⟨RX10, "rule", "()I"⟩
abbrev cX10_of : ByteArray := prog_1_method_5_code
def yX10_of : MethodName := ⟨RX10, "of", "(II)I"⟩
abbrev cX10_spelt : ByteArray := prog_1_method_6_code
def yX10_spelt : MethodName := ⟨RX10, "spelt", "(III)I"⟩
abbrev cX10_at : ByteArray := prog_1_method_7_code
def yX10_at : MethodName := ⟨RX10, "at", "(II)I"⟩
abbrev cX10_count : ByteArray := prog_1_method_8_code
def yX10_count : MethodName := ⟨RX10, "count", "(I)I"⟩
abbrev cX10_change : ByteArray := prog_1_method_9_code
def yX10_change : MethodName := ⟨RX10, "change", "(II)I"⟩
abbrev cX10_turn : ByteArray := prog_1_method_10_code
def yX10_turn : MethodName := ⟨RX10, "turn", "(I)I"⟩
abbrev cX10_pass : ByteArray := prog_1_method_11_code
def yX10_pass : MethodName := ⟨RX10, "pass", "(I)I"⟩
abbrev cX10_pile : ByteArray := prog_1_method_12_code
def yX10_pile : MethodName := ⟨RX10, "pile", "(I)I"⟩
abbrev cX10_put : ByteArray := prog_1_method_13_code
def yX10_put : MethodName := ⟨RX10, "put", "(I)I"⟩
abbrev cX10_passPile : ByteArray := prog_1_method_14_code
def yX10_passPile : MethodName := ⟨RX10, "passPile", "()I"⟩
abbrev cX10_undo : ByteArray := prog_1_method_15_code
def yX10_undo : MethodName := ⟨RX10, "undo", "()I"⟩
abbrev cX10_comes : ByteArray := prog_1_method_16_code
def yX10_comes : MethodName := ⟨RX10, "comes", "(II)I"⟩
abbrev cX10_used : ByteArray := prog_1_method_17_code
def yX10_used : MethodName := ⟨RX10, "used", "(I)I"⟩
abbrev cX10_went : ByteArray := prog_1_method_18_code
def yX10_went : MethodName := ⟨RX10, "went", "(I)I"⟩
abbrev cX10_rest : ByteArray := prog_1_method_19_code
def yX10_rest : MethodName := ⟨RX10, "rest", "()I"⟩
abbrev cX10_sure : ByteArray := prog_1_method_20_code
def yX10_sure : MethodName := ⟨RX10, "sure", "(I)I"⟩
abbrev cX10_lean : ByteArray := prog_1_method_21_code
def yX10_lean : MethodName := ⟨RX10, "lean", "(I)I"⟩
abbrev cX10_longOdds : ByteArray := prog_1_method_22_code
def yX10_longOdds : MethodName := ⟨RX10, "longOdds", "(III)J"⟩
abbrev cX10_image : ByteArray := prog_1_method_23_code
def yX10_image : MethodName := ⟨RX10, "image", "()I"⟩
abbrev cX10_restore : ByteArray := prog_1_method_24_code
def yX10_restore : MethodName := ⟨RX10, "restore", "()I"⟩
abbrev cX10_came : ByteArray := prog_1_method_25_code
def yX10_came : MethodName := ⟨RX10, "came", "(IIIII)I"⟩
abbrev cX10_film : ByteArray := prog_1_method_26_code
def yX10_film : MethodName := ⟨RX10, "film", "(IIII)I"⟩
abbrev cX10_sheet : ByteArray := prog_1_method_27_code
def yX10_sheet : MethodName := ⟨RX10, "sheet", "(III)I"⟩
abbrev cX10_drop : ByteArray := prog_1_method_28_code
def yX10_drop : MethodName := ⟨RX10, "drop", "(I)I"⟩
abbrev cX10_item : ByteArray := prog_1_method_29_code
def yX10_item : MethodName := ⟨RX10, "item", "(IIIJ)I"⟩
abbrev cX10_copy : ByteArray := prog_1_method_30_code
def yX10_copy : MethodName := ⟨RX10, "copy", "(IIIII)I"⟩
abbrev cX10_whatComes : ByteArray := prog_1_method_31_code
def yX10_whatComes : MethodName := ⟨RX10, "whatComes", "()LPhraseSwaps$Line;"⟩
abbrev cX10_usesOf : ByteArray := prog_1_method_32_code
def yX10_usesOf : MethodName := ⟨RX10, "usesOf", "(I)I"⟩
abbrev cX10_idleRules : ByteArray := prog_1_method_33_code
def yX10_idleRules : MethodName := ⟨RX10, "idleRules", "()I"⟩
abbrev cX10_goThrough : ByteArray := prog_1_method_34_code
def yX10_goThrough : MethodName := ⟨RX10, "goThrough", "(I)I"⟩
abbrev cX10_tallyShortOnes : ByteArray := prog_1_method_35_code
def yX10_tallyShortOnes : MethodName := ⟨RX10, "tallyShortOnes", "(II)V"⟩
abbrev cX10_power : ByteArray := prog_1_method_36_code
def yX10_power : MethodName := ⟨RX10, "power", "(JI)J"⟩
abbrev cX10_commonDivisor : ByteArray := prog_1_method_37_code
def yX10_commonDivisor : MethodName := ⟨RX10, "commonDivisor", "(JJ)J"⟩
abbrev cX10_isWithin : ByteArray := prog_1_method_38_code
def yX10_isWithin : MethodName := ⟨RX10, "isWithin", "(II)Z"⟩
abbrev cX10_isLaneOfSheet : ByteArray := prog_1_method_39_code
def yX10_isLaneOfSheet : MethodName := ⟨RX10, "isLaneOfSheet", "(II)Z"⟩
abbrev cX10_isWordLetter : ByteArray := prog_1_method_40_code
def yX10_isWordLetter : MethodName := ⟨RX10, "isWordLetter", "(I)Z"⟩
abbrev cX10_isLetter : ByteArray := prog_1_method_41_code
def yX10_isLetter : MethodName := ⟨RX10, "isLetter", "(I)Z"⟩
abbrev cX10_isOfSort : ByteArray := prog_1_method_42_code
def yX10_isOfSort : MethodName := ⟨RX10, "isOfSort", "(II)Z"⟩
def RX11 : String := "PhraseSwapsModel"
def TX11 : u_T := fun k => match k with
  | 0 => ("PhraseSwapsModel", "tape", "[I", true)
  | 1 => ("PhraseSwapsModel", "taped", "I", false)
  | 2 => ("PhraseSwapsModel", "rules", "[I", true)
  | 3 => ("PhraseSwapsModel", "now", "[I", true)
  | 4 => ("PhraseSwapsModel", "past", "[I", true)
  | 5 => ("PhraseSwapsModel", "undos", "I", false)
  | 6 => ("PhraseSwapsModel", "piled", "I", false)
  | 7 => ("PhraseSwapsModel", "piledSort", "I", false)
  | 8 => ("PhraseSwapsModel", "imageRules", "[I", true)
  | 9 => ("PhraseSwapsModel", "imageLine", "[I", true)
  | 10 => ("PhraseSwapsModel", "imagePast", "[I", true)
  | 11 => ("PhraseSwapsModel", "imageUndos", "I", false)
  | 12 => ("PhraseSwapsModel", "isKept", "Z", false)
  | 13 => ("PhraseSwapsModel", "isThere", "[Z", true)
  | 14 => ("PhraseSwapsModel", "lanes", "[I", true)
  | 15 => ("PhraseSwapsModel", "sizes", "[I", true)
  | 16 => ("PhraseSwapsModel", "items", "[J", true)
  | 17 => ("PhraseSwapsModel", "moved", "[J", true)
  | 18 => ("PhraseSwapsModel", "place", "I", false)
  | 19 => ("PhraseSwapsModel", "read", "[I", true)
  | 20 => ("PhraseSwapsModel", "readLine", "[I", true)
  | 21 => ("PhraseSwapsModel", "readMany", "I", false)
  | 22 => ("PhraseSwapsModel", "letters", "[I", true)
  | 23 => ("PhraseSwapsModel", "cameFrom", "[I", true)
  | 24 => ("PhraseSwapsModel", "cameMany", "I", false)
  | 25 => ("PhraseSwapsModel", "uses", "[I", true)
  | 26 => ("PhraseSwapsModel", "usedAt", "[I", true)
  | 27 => ("PhraseSwapsModel", "kindNow", "[I", true)
  | _ => ("PhraseSwapsModel", "aside", "[I", true)
def tyX11 : Nat → FieldType := fun k => match k with
  | 0 => .array .int
  | 1 => .int
  | 2 => .array .int
  | 3 => .array .int
  | 4 => .array .int
  | 5 => .int
  | 6 => .int
  | 7 => .int
  | 8 => .array .int
  | 9 => .array .int
  | 10 => .array .int
  | 11 => .int
  | 12 => .boolean
  | 13 => .array .boolean
  | 14 => .array .int
  | 15 => .array .int
  | 16 => .array .long
  | 17 => .array .long
  | 18 => .int
  | 19 => .array .int
  | 20 => .array .int
  | 21 => .int
  | 22 => .array .int
  | 23 => .array .int
  | 24 => .int
  | 25 => .array .int
  | 26 => .array .int
  | 27 => .array .int
  | _ => .array .int
abbrev wsX110 : List Cond := u_ws RX11 TX11 29
theorem nmX11 : ∀ a, a < 29 → ∀ b, b < 29 → a ≠ b → (TX11 a).2.1 ≠ (TX11 b).2.1 := by decide +kernel
theorem tyX11_ok : ∀ k, k < 29 → parseFieldDescriptor (TX11 k).2.2.1 = some (tyX11 k) := by decide +kernel
abbrev cX11_init : ByteArray := prog_13_method_1_code
def yX11_init : MethodName := ⟨RX11, "<init>", "()V"⟩
abbrev cX11_in : ByteArray := prog_13_method_3_code
def yX11_in : MethodName := ⟨RX11, "in", "(JJJ)Z"⟩
abbrev cX11_has : ByteArray := prog_13_method_4_code
def yX11_has : MethodName := ⟨RX11, "has", "(II)Z"⟩
abbrev cX11_bits : ByteArray := prog_13_method_5_code
def yX11_bits : MethodName := ⟨RX11, "bits", "(I)I"⟩
abbrev cX11_copies : ByteArray := prog_13_method_6_code
def yX11_copies : MethodName := ⟨RX11, "copies", "([I[II)V"⟩
abbrev cX11_isSmall : ByteArray := prog_13_method_7_code
def yX11_isSmall : MethodName := ⟨RX11, "isSmall", "(I)Z"⟩
abbrev cX11_isLetter : ByteArray := prog_13_method_8_code
def yX11_isLetter : MethodName := ⟨RX11, "isLetter", "(I)Z"⟩
abbrev cX11_type : ByteArray := prog_13_method_9_code
def yX11_type : MethodName := ⟨RX11, "type", "(I)I"⟩
abbrev cX11_here : ByteArray := prog_13_method_10_code
def yX11_here : MethodName := ⟨RX11, "here", "()I"⟩
abbrev cX11_kindOf : ByteArray := prog_13_method_11_code
def yX11_kindOf : MethodName := ⟨RX11, "kindOf", "(I)I"⟩
abbrev cX11_takes : ByteArray := prog_13_method_12_code
def yX11_takes : MethodName := ⟨RX11, "takes", "(I)Z"⟩
abbrev cX11_takesLetters : ByteArray := prog_13_method_13_code
def yX11_takesLetters : MethodName := ⟨RX11, "takesLetters", "([III)I"⟩
abbrev cX11_readsRule : ByteArray := prog_13_method_14_code
def yX11_readsRule : MethodName := ⟨RX11, "readsRule", "()Z"⟩
abbrev cX11_readsJob : ByteArray := prog_13_method_15_code
def yX11_readsJob : MethodName := ⟨RX11, "readsJob", "()Z"⟩
abbrev cX11_fault : ByteArray := prog_13_method_16_code
def yX11_fault : MethodName := ⟨RX11, "fault", "()I"⟩
abbrev cX11_job : ByteArray := prog_13_method_17_code
def yX11_job : MethodName := ⟨RX11, "job", "()I"⟩
abbrev cX11_rule : ByteArray := prog_13_method_18_code
def yX11_rule : MethodName := ⟨RX11, "rule", "()I"⟩
abbrev cX11_kindsAsTold : ByteArray := prog_13_method_19_code
def yX11_kindsAsTold : MethodName := ⟨RX11, "kindsAsTold", "()V"⟩
abbrev cX11_hasPhrase : ByteArray := prog_13_method_20_code
def yX11_hasPhrase : MethodName := ⟨RX11, "hasPhrase", "([III)Z"⟩
abbrev cX11_isSmallAt : ByteArray := prog_13_method_21_code
def yX11_isSmallAt : MethodName := ⟨RX11, "isSmallAt", "([II)Z"⟩
abbrev cX11_stands : ByteArray := prog_13_method_22_code
def yX11_stands : MethodName := ⟨RX11, "stands", "([III)Z"⟩
abbrev cX11_givenBy : ByteArray := prog_13_method_23_code
def yX11_givenBy : MethodName := ⟨RX11, "givenBy", "(II)I"⟩
abbrev cX11_comesIn : ByteArray := prog_13_method_24_code
def yX11_comesIn : MethodName := ⟨RX11, "comesIn", "(II)V"⟩
abbrev cX11_ruleAt : ByteArray := prog_13_method_25_code
def yX11_ruleAt : MethodName := ⟨RX11, "ruleAt", "([III)I"⟩
abbrev cX11_goesOver : ByteArray := prog_13_method_26_code
def yX11_goesOver : MethodName := ⟨RX11, "goesOver", "([II)I"⟩
abbrev cX11_comesNow : ByteArray := prog_13_method_27_code
def yX11_comesNow : MethodName := ⟨RX11, "comesNow", "()I"⟩
abbrev cX11_becomes : ByteArray := prog_13_method_28_code
def yX11_becomes : MethodName := ⟨RX11, "becomes", "([I)V"⟩
abbrev cX11_isRule : ByteArray := prog_13_method_29_code
def yX11_isRule : MethodName := ⟨RX11, "isRule", "(I)Z"⟩
abbrev cX11_of : ByteArray := prog_13_method_30_code
def yX11_of : MethodName := ⟨RX11, "of", "(II)I"⟩
abbrev cX11_spelt : ByteArray := prog_13_method_31_code
def yX11_spelt : MethodName := ⟨RX11, "spelt", "(III)I"⟩
abbrev cX11_isPlace : ByteArray := prog_13_method_32_code
def yX11_isPlace : MethodName := ⟨RX11, "isPlace", "(I)Z"⟩
abbrev cX11_at : ByteArray := prog_13_method_33_code
def yX11_at : MethodName := ⟨RX11, "at", "(II)I"⟩
abbrev cX11_idle : ByteArray := prog_13_method_34_code
def yX11_idle : MethodName := ⟨RX11, "idle", "()I"⟩
abbrev cX11_count : ByteArray := prog_13_method_35_code
def yX11_count : MethodName := ⟨RX11, "count", "(I)I"⟩
abbrev cX11_notes : ByteArray := prog_13_method_36_code
def yX11_notes : MethodName := ⟨RX11, "notes", "()V"⟩
abbrev cX11_change : ByteArray := prog_13_method_37_code
def yX11_change : MethodName := ⟨RX11, "change", "(II)I"⟩
abbrev cX11_turn : ByteArray := prog_13_method_38_code
def yX11_turn : MethodName := ⟨RX11, "turn", "(I)I"⟩
abbrev cX11_passes : ByteArray := prog_13_method_39_code
def yX11_passes : MethodName := ⟨RX11, "passes", "(I)I"⟩
abbrev cX11_pass : ByteArray := prog_13_method_40_code
def yX11_pass : MethodName := ⟨RX11, "pass", "(I)I"⟩
abbrev cX11_isOfSort : ByteArray := prog_13_method_41_code
def yX11_isOfSort : MethodName := ⟨RX11, "isOfSort", "(II)Z"⟩
abbrev cX11_pile : ByteArray := prog_13_method_42_code
def yX11_pile : MethodName := ⟨RX11, "pile", "(I)I"⟩
abbrev cX11_put : ByteArray := prog_13_method_43_code
def yX11_put : MethodName := ⟨RX11, "put", "(I)I"⟩
abbrev cX11_passPile : ByteArray := prog_13_method_44_code
def yX11_passPile : MethodName := ⟨RX11, "passPile", "()I"⟩
abbrev cX11_undo : ByteArray := prog_13_method_45_code
def yX11_undo : MethodName := ⟨RX11, "undo", "()I"⟩
abbrev cX11_comes : ByteArray := prog_13_method_46_code
def yX11_comes : MethodName := ⟨RX11, "comes", "(II)I"⟩
abbrev cX11_used : ByteArray := prog_13_method_47_code
def yX11_used : MethodName := ⟨RX11, "used", "(I)I"⟩
abbrev cX11_went : ByteArray := prog_13_method_48_code
def yX11_went : MethodName := ⟨RX11, "went", "(I)I"⟩
abbrev cX11_isSameLine : ByteArray := prog_13_method_49_code
def yX11_isSameLine : MethodName := ⟨RX11, "isSameLine", "([I)Z"⟩
abbrev cX11_rest : ByteArray := prog_13_method_50_code
def yX11_rest : MethodName := ⟨RX11, "rest", "()I"⟩
abbrev cX11_sureOf : ByteArray := prog_13_method_51_code
def yX11_sureOf : MethodName := ⟨RX11, "sureOf", "(III)I"⟩
abbrev cX11_sure : ByteArray := prog_13_method_52_code
def yX11_sure : MethodName := ⟨RX11, "sure", "(I)I"⟩
abbrev cX11_lean : ByteArray := prog_13_method_53_code
def yX11_lean : MethodName := ⟨RX11, "lean", "(I)I"⟩
abbrev cX11_longOdds : ByteArray := prog_13_method_54_code
def yX11_longOdds : MethodName := ⟨RX11, "longOdds", "(III)J"⟩
abbrev cX11_image : ByteArray := prog_13_method_55_code
def yX11_image : MethodName := ⟨RX11, "image", "()I"⟩
abbrev cX11_restore : ByteArray := prog_13_method_56_code
def yX11_restore : MethodName := ⟨RX11, "restore", "()I"⟩
abbrev cX11_isSheet : ByteArray := prog_13_method_57_code
def yX11_isSheet : MethodName := ⟨RX11, "isSheet", "(I)Z"⟩
abbrev cX11_isLane : ByteArray := prog_13_method_58_code
def yX11_isLane : MethodName := ⟨RX11, "isLane", "(I)Z"⟩
abbrev cX11_finds : ByteArray := prog_13_method_59_code
def yX11_finds : MethodName := ⟨RX11, "finds", "(IIII)I"⟩
abbrev cX11_cut : ByteArray := prog_13_method_60_code
def yX11_cut : MethodName := ⟨RX11, "cut", "(IJ)J"⟩
abbrev cX11_came : ByteArray := prog_13_method_61_code
def yX11_came : MethodName := ⟨RX11, "came", "(IIIII)I"⟩
abbrev cX11_film : ByteArray := prog_13_method_62_code
def yX11_film : MethodName := ⟨RX11, "film", "(IIII)I"⟩
abbrev cX11_sheet : ByteArray := prog_13_method_63_code
def yX11_sheet : MethodName := ⟨RX11, "sheet", "(III)I"⟩
abbrev cX11_drop : ByteArray := prog_13_method_64_code
def yX11_drop : MethodName := ⟨RX11, "drop", "(I)I"⟩
abbrev cX11_item : ByteArray := prog_13_method_65_code
def yX11_item : MethodName := ⟨RX11, "item", "(IIIJ)I"⟩
abbrev cX11_copy : ByteArray := prog_13_method_66_code
def yX11_copy : MethodName := ⟨RX11, "copy", "(IIIII)I"⟩
def RJ6 : String := "java/lang/Integer"
abbrev cJ6_bitCount_0f7a4 : ByteArray := prog_14_method_49_code
def yJ6_bitCount_0f7a4 : MethodName := ⟨RJ6, "bitCount", "(I)I"⟩
def RJ9 : String := "java/lang/Math"
abbrev cJ9_floorMod_7cf53 : ByteArray := prog_15_method_50_code
def yJ9_floorMod_7cf53 : MethodName := ⟨RJ9, "floorMod", "(II)I"⟩
abbrev cJ9_max_7cf53 : ByteArray := prog_15_method_65_code
def yJ9_max_7cf53 : MethodName := ⟨RJ9, "max", "(II)I"⟩
abbrev cJ9_min_7cf53 : ByteArray := prog_15_method_69_code
def yJ9_min_7cf53 : MethodName := ⟨RJ9, "min", "(II)I"⟩
def RJ10 : String := "java/lang/System"
def RJ7 : String := "java/util/Arrays"
abbrev cJ7_fill_d0a16 : ByteArray := prog_17_method_101_code
def yJ7_fill_d0a16 : MethodName := ⟨RJ7, "fill", "([JJ)V"⟩
def RL : String := "PhraseSwapsLaw"
abbrev cL_law : ByteArray := code
def yL_law : MethodName := ⟨RL, "law", "([I)Z"⟩
abbrev vwCl : List vw_C := [(RX0, TX0, 3), (RX1, TX1, 3), (RX2, TX2, 2), (RX3, TX3, 2), (RX4, TX4, 2), (RX5, TX5, 3), (RX6, TX6, 4), (RX7, TX7, 3), (RX8, TX8, 2), (RX9, TX9, 7), (RX10, TX10, 12), (RX11, TX11, 29)]
end
section
/-! THE PURE MACHINE: cells by small numbers (0 the script), ints in M, longs in N, shapes in sh; code as tables -/
abbrev pmS : Type := List ((Nat × Nat × List (Option Nat)) ⊕ (Nat × List (Option (Option Nat))))
abbrev pmM : Type := Nat → Nat → Int32
abbrev pmN : Type := Nat → Nat → Int64
abbrev pmE : Type := Instr × Nat × Nat × Nat × Nat
abbrev pmX : Type := List Value × List Value × pmS × pmM × pmN
abbrev pmR : Type := Option Value × pmS × pmM × pmN
def pmIsL : Value → Bool
  | .long _ => true
  | .double _ => true
  | _ => false
/-- a value of one slot into the locals (null: nothing is known) -/
def pmPut (ls : List Value) (i : Nat) (v : Value) : List Value := match i with
  | 0 => ls.set 0 v
  | i + 1 => (if pmIsL (ls.getD i .null) then ls.set i .null else ls).set (i + 1) v
def pmPut2 (ls : List Value) (i : Nat) (v : Value) : List Value := (pmPut ls i v).set (i + 1) .null
def pmSt (M : pmM) (k j : Nat) (v : Int32) : pmM := va_up M k (upd (M k) j v)
def pmStL (N : pmN) (k j : Nat) (v : Int64) : pmN := va_up N k (vp_updL (N k) j v)
def pmCat (st : List Value) : Nat := (st.map fun v => v.category).sum
/-- the fields of a fresh object: a number, or a reference that is null -/
def pmBlank (ty : Nat → FieldType) (n : Nat) : List (Option (Option Nat)) := (List.range n).map fun k => match ty k with
  | .object _ => some none
  | .array _ => some none
  | _ => none
def pmTys : List (Nat → FieldType) := [tyX0, tyX1, tyX2, tyX3, tyX4, tyX5, tyX6, tyX7, tyX8, tyX9, tyX10, tyX11]
def pmNf : List Nat := [3, 3, 2, 2, 2, 3, 4, 3, 2, 7, 12, 29]
def pmBl (ci : Nat) : List (Option (Option Nat)) := pmBlank (pmTys.getD ci (fun _ => .int)) (pmNf.getD ci 0)
/-- the element class of an array of references, by its tag -/
def pmEl : Nat → Option Nat
  | 3 => some 5
  | 4 => some 3
  | 5 => some 6
  | _ => none
def pmEx (i : Instr) (a b : Nat) (ls st : List Value) (sh : pmS) (M : pmM) (N : pmN) : Option pmX :=
  match i with
  | .iconst n => some (ls, .int (Int32.ofInt n) :: st, sh, M, N)
  | .bipush n => some (ls, .int (Int8.ofInt n).toInt32 :: st, sh, M, N)
  | .sipush n => some (ls, .int (Int16.ofInt n).toInt32 :: st, sh, M, N)
  | .ldc_w _ => some (ls, .int (nI a) :: st, sh, M, N)
  | .lconst n => some (ls, .long (Int64.ofNat (n : Nat)) :: st, sh, M, N)
  | .ldc2_w _ => some (ls, .long (if b = 0 then lN a else - lN a) :: st, sh, M, N)
  | .iload _ | .iload_n _ => match ls[a]? with
    | some (.int x) => some (ls, .int x :: st, sh, M, N)
    | _ => none
  | .lload _ | .lload_n _ => match ls[a]? with
    | some (.long x) => some (ls, .long x :: st, sh, M, N)
    | _ => none
  | .aload _ | .aload_n _ => match ls[a]? with
    | some (.ref x) => some (ls, .ref x :: st, sh, M, N)
    | _ => none
  | .istore _ | .istore_n _ => match st with
    | .int x :: t => if a < ls.length then some (pmPut ls a (.int x), t, sh, M, N) else none
    | _ => none
  | .astore _ | .astore_n _ => match st with
    | .ref x :: t => if a < ls.length then some (pmPut ls a (.ref x), t, sh, M, N) else none
    | _ => none
  | .lstore _ | .lstore_n _ => match st with
    | .long x :: t => if a + 1 < ls.length then some (pmPut2 ls a (.long x), t, sh, M, N) else none
    | _ => none
  | .iinc _ n => match ls[a]? with
    | some (.int x) => some (pmPut ls a (.int (x + Int32.ofInt n)), st, sh, M, N)
    | _ => none
  | .iadd => match st with
    | .int y :: .int x :: t => some (ls, .int (x + y) :: t, sh, M, N)
    | _ => none
  | .isub => match st with
    | .int y :: .int x :: t => some (ls, .int (x - y) :: t, sh, M, N)
    | _ => none
  | .imul => match st with
    | .int y :: .int x :: t => some (ls, .int (x * y) :: t, sh, M, N)
    | _ => none
  | .iand => match st with
    | .int y :: .int x :: t => some (ls, .int (x &&& y) :: t, sh, M, N)
    | _ => none
  | .ior => match st with
    | .int y :: .int x :: t => some (ls, .int (x ||| y) :: t, sh, M, N)
    | _ => none
  | .ixor => match st with
    | .int y :: .int x :: t => some (ls, .int (x ^^^ y) :: t, sh, M, N)
    | _ => none
  | .ishl => match st with
    | .int y :: .int x :: t => some (ls, .int (x <<< (y &&& 31)) :: t, sh, M, N)
    | _ => none
  | .ishr => match st with
    | .int y :: .int x :: t => some (ls, .int (x >>> (y &&& 31)) :: t, sh, M, N)
    | _ => none
  | .iushr => match st with
    | .int y :: .int x :: t => some (ls, .int ((x.toUInt32 >>> (y.toUInt32 &&& Int32.toUInt32 31)).toInt32) :: t, sh, M, N)
    | _ => none
  | .irem => match st with
    | .int y :: .int x :: t => if y = 0 then none else some (ls, .int (x - x / y * y) :: t, sh, M, N)
    | _ => none
  | .ladd => match st with
    | .long y :: .long x :: t => some (ls, .long (x + y) :: t, sh, M, N)
    | _ => none
  | .lmul => match st with
    | .long y :: .long x :: t => some (ls, .long (x * y) :: t, sh, M, N)
    | _ => none
  | .land => match st with
    | .long y :: .long x :: t => some (ls, .long (x &&& y) :: t, sh, M, N)
    | _ => none
  | .lor => match st with
    | .long y :: .long x :: t => some (ls, .long (x ||| y) :: t, sh, M, N)
    | _ => none
  | .ldiv => match st with
    | .long y :: .long x :: t => if y = 0 then none else some (ls, .long (x / y) :: t, sh, M, N)
    | _ => none
  | .lrem => match st with
    | .long y :: .long x :: t => if y = 0 then none else some (ls, .long (x - x / y * y) :: t, sh, M, N)
    | _ => none
  | .lshl => match st with
    | .int y :: .long x :: t => some (ls, .long (x <<< (y.toInt64 &&& 63)) :: t, sh, M, N)
    | _ => none
  | .lcmp => match st with
    | .long y :: .long x :: t => some (ls, .int (lg_cmp x y) :: t, sh, M, N)
    | _ => none
  | .i2l => match st with
    | .int x :: t => some (ls, .long x.toInt64 :: t, sh, M, N)
    | _ => none
  | .l2i => match st with
    | .long x :: t => some (ls, .int x.toInt32 :: t, sh, M, N)
    | _ => none
  | .i2b => match st with
    | .int x :: t => some (ls, .int x.toInt8.toInt32 :: t, sh, M, N)
    | _ => none
  | .i2s => match st with
    | .int x :: t => some (ls, .int x.toInt16.toInt32 :: t, sh, M, N)
    | _ => none
  | .dup => match st with
    | v :: t => if v.category = 1 then some (ls, v :: v :: t, sh, M, N) else none
    | _ => none
  | .dup2 => match st with
    | v :: w :: t => if v.category = 1 ∧ w.category = 1 then some (ls, v :: w :: v :: w :: t, sh, M, N) else none
    | _ => none
  | .pop => match st with
    | v :: t => if v.category = 1 then some (ls, t, sh, M, N) else none
    | _ => none
  | .getfield _ => match st with
    | .ref (k + 1) :: t => match sh[k + 1]? with
      | some (.inr (ci, sl)) => if ci = a then (match sl[b]? with
        | some none => some (ls, .int (M (k + 1) b) :: t, sh, M, N)
        | some (some (some r)) => some (ls, .ref r :: t, sh, M, N)
        | _ => none) else none
      | _ => none
    | _ => none
  | .putfield _ => match st with
    | .int x :: .ref (k + 1) :: t => match sh[k + 1]? with
      | some (.inr (ci, sl)) => if ci = a % 100 ∧ a < 200 ∧ sl[b]? = some none ∧ (a < 100 ∨ x = 0 ∨ x = 1) then some (ls, t, sh, pmSt M (k + 1) b x, N) else none
      | _ => none
    | .ref r :: .ref (k + 1) :: t => match sh[k + 1]? with
      | some (.inr (ci, sl)) => if ci = a % 100 ∧ 200 ≤ a ∧ (sl[b]?).map Option.isSome = some true then some (ls, t, sh.set (k + 1) (.inr (ci, sl.set b (some (some r)))), M, N) else none
      | _ => none
    | _ => none
  | .new _ => some (ls, .ref sh.length :: st, sh ++ [.inr (a, pmBl a)], va_up M sh.length (fun _ => 0), N)
  | .newarray ty => match st with
    | .int n :: t => if n < 0 ∨ 1000 < n.toNatClampNeg then none else (match ty with
      | .int => some (ls, .ref sh.length :: t, sh ++ [.inl (0, n.toNatClampNeg, [])], va_up M sh.length (fun _ => 0), N)
      | .long => some (ls, .ref sh.length :: t, sh ++ [.inl (1, n.toNatClampNeg, [])], M, va_up N sh.length (fun _ => 0))
      | .boolean => some (ls, .ref sh.length :: t, sh ++ [.inl (2, n.toNatClampNeg, [])], va_up M sh.length (fun _ => 0), N)
      | _ => none)
    | _ => none
  | .anewarray _ => match st with
    | .int n :: t => if n < 0 ∨ 1000 < n.toNatClampNeg then none else some (ls, .ref sh.length :: t, sh ++ [.inl (a, n.toNatClampNeg, List.replicate n.toNatClampNeg none)], M, N)
    | _ => none
  | .arraylength => match st with
    | .ref k :: t => match sh[k]? with
      | some (.inl (tg, n, _)) => if (k == 0) = (b == 1) ∧ tg ≤ 5 then some (ls, .int (nI n) :: t, sh, M, N) else none
      | _ => none
    | _ => none
  | .iaload => match st with
    | .int j :: .ref k :: t => match sh[k]? with
      | some (.inl (0, n, _)) => if (k == 0) = (b == 1) ∧ ¬ (j < 0 ∨ n ≤ j.toNatClampNeg) then some (ls, .int (M k j.toNatClampNeg) :: t, sh, M, N) else none
      | _ => none
    | _ => none
  | .baload => match st with
    | .int j :: .ref (k + 1) :: t => match sh[k + 1]? with
      | some (.inl (2, n, _)) => if ¬ (j < 0 ∨ n ≤ j.toNatClampNeg) then some (ls, .int (M (k + 1) j.toNatClampNeg) :: t, sh, M, N) else none
      | _ => none
    | _ => none
  | .laload => match st with
    | .int j :: .ref (k + 1) :: t => match sh[k + 1]? with
      | some (.inl (1, n, _)) => if ¬ (j < 0 ∨ n ≤ j.toNatClampNeg) then some (ls, .long (N (k + 1) j.toNatClampNeg) :: t, sh, M, N) else none
      | _ => none
    | _ => none
  | .aaload => match st with
    | .int j :: .ref (k + 1) :: t => match sh[k + 1]? with
      | some (.inl (tg, n, rs)) => if 3 ≤ tg ∧ tg ≤ 5 ∧ ¬ (j < 0 ∨ n ≤ j.toNatClampNeg) then (match rs[j.toNatClampNeg]? with
        | some (some r) => some (ls, .ref r :: t, sh, M, N)
        | _ => none) else none
      | _ => none
    | _ => none
  | .iastore => match st with
    | .int x :: .int j :: .ref (k + 1) :: t => match sh[k + 1]? with
      | some (.inl (0, n, _)) => if ¬ (j < 0 ∨ n ≤ j.toNatClampNeg) then some (ls, t, sh, pmSt M (k + 1) j.toNatClampNeg x, N) else none
      | _ => none
    | _ => none
  | .bastore => match st with
    | .int x :: .int j :: .ref (k + 1) :: t => match sh[k + 1]? with
      | some (.inl (2, n, _)) => if ¬ (j < 0 ∨ n ≤ j.toNatClampNeg) ∧ (x = 0 ∨ x = 1) then some (ls, t, sh, pmSt M (k + 1) j.toNatClampNeg x, N) else none
      | _ => none
    | _ => none
  | .lastore => match st with
    | .long x :: .int j :: .ref (k + 1) :: t => match sh[k + 1]? with
      | some (.inl (1, n, _)) => if ¬ (j < 0 ∨ n ≤ j.toNatClampNeg) then some (ls, t, sh, M, pmStL N (k + 1) j.toNatClampNeg x) else none
      | _ => none
    | _ => none
  | .aastore => match st with
    | .ref (r + 1) :: .int j :: .ref (k + 1) :: t => match sh[k + 1]?, sh[r + 1]? with
      | some (.inl (tg, n, rs)), some (.inr (ci, _)) => if pmEl tg = some ci ∧ ¬ (j < 0 ∨ n ≤ j.toNatClampNeg) ∧ rs.length = n then some (ls, t, sh.set (k + 1) (.inl (tg, n, rs.set j.toNatClampNeg (some (r + 1)))), M, N) else none
      | _, _ => none
    | _ => none
  | .invokespecial _ => match st with
    | .ref _ :: t => if b = 1 ∧ pmCat t ≤ 8 then some (ls, t, sh, M, N) else none
    | _ => none
  | .invokestatic _ => match st with
    | .int n :: .int dp :: .ref (q + 1) :: .int sp :: .ref (k + 1) :: t => if b = 1 ∧ pmCat t ≤ 8 ∧ ¬ n < 0 ∧ ¬ dp < 0 ∧ ¬ sp < 0 then (match sh[k + 1]?, sh[q + 1]? with
      | some (.inl (0, n0, _)), some (.inl (0, n1, _)) => if sp.toNatClampNeg + n.toNatClampNeg ≤ n0 ∧ dp.toNatClampNeg + n.toNatClampNeg ≤ n1 then some (ls, t, sh, va_up M (q + 1) (va_cpy (M (k + 1)) (M (q + 1)) sp.toNatClampNeg dp.toNatClampNeg n.toNatClampNeg), N) else none
      | some (.inl (1, n0, _)), some (.inl (1, n1, _)) => if sp.toNatClampNeg + n.toNatClampNeg ≤ n0 ∧ dp.toNatClampNeg + n.toNatClampNeg ≤ n1 then some (ls, t, sh, M, va_up N (q + 1) (va_cpy (N (k + 1)) (N (q + 1)) sp.toNatClampNeg dp.toNatClampNeg n.toNatClampNeg)) else none
      | _, _ => none) else none
    | _ => none
  | _ => none
end
section
/-! the program's tables: by wip/whole/tables.py -/
def qX0_init : List pmE := [(.aload_n 0, 1, 0, 0, 0), (.invokespecial 3, 3, 0, 1, 144), (.nop, 0, 0, 0, 0), (.nop, 0, 0, 0, 0), (.aload_n 0, 1, 0, 0, 0), (.bipush 10, 2, 0, 0, 0), (.nop, 0, 0, 0, 0), (.anewarray 9, 3, 3, 0, 145), (.nop, 0, 0, 0, 0), (.nop, 0, 0, 0, 0), (.putfield 11, 3, 200, 0, 173), (.nop, 0, 0, 0, 0), (.nop, 0, 0, 0, 0), (.aload_n 0, 1, 0, 0, 0), (.new 9, 3, 5, 0, 145), (.nop, 0, 0, 0, 0), (.nop, 0, 0, 0, 0), (.dup, 1, 0, 0, 0), (.invokespecial 17, 3, 34, 0, 148), (.nop, 0, 0, 0, 0), (.nop, 0, 0, 0, 0), (.putfield 18, 3, 200, 1, 174), (.nop, 0, 0, 0, 0), (.nop, 0, 0, 0, 0), (.aload_n 0, 1, 0, 0, 0), (.iconst 0, 1, 0, 0, 0), (.putfield 22, 3, 0, 2, 175), (.nop, 0, 0, 0, 0), (.nop, 0, 0, 0, 0), (.iconst 0, 1, 0, 0, 0), (.istore_n 1, 1, 1, 0, 0), (.iload_n 1, 1, 1, 0, 0), (.bipush 10, 2, 0, 0, 0), (.nop, 0, 0, 0, 0), (.if_icmp .ge 22, 3, 56, 0, 0), (.nop, 0, 0, 0, 0), (.nop, 0, 0, 0, 0), (.aload_n 0, 1, 0, 0, 0), (.getfield 11, 3, 0, 0, 173), (.nop, 0, 0, 0, 0), (.nop, 0, 0, 0, 0), (.iload_n 1, 1, 1, 0, 0), (.new 9, 3, 5, 0, 145), (.nop, 0, 0, 0, 0), (.nop, 0, 0, 0, 0), (.dup, 1, 0, 0, 0), (.invokespecial 17, 3, 34, 0, 148), (.nop, 0, 0, 0, 0), (.nop, 0, 0, 0, 0), (.aastore, 1, 0, 0, 0), (.iinc 1 1, 3, 1, 0, 0), (.nop, 0, 0, 0, 0), (.nop, 0, 0, 0, 0), (.goto (-22), 3, 31, 0, 0), (.nop, 0, 0, 0, 0), (.nop, 0, 0, 0, 0), (.return_, 1, 0, 0, 0)]
abbrev mX0_init : Nat := 0
def qX0_size : List pmE := [(.aload_n 0, 1, 0, 0, 0), (.getfield 22, 3, 0, 2, 175), (.nop, 0, 0, 0, 0), (.nop, 0, 0, 0, 0), (.ireturn, 1, 0, 0, 0)]
abbrev mX0_size : Nat := 1
def qX0_has : List pmE := [(.iload_n 1, 1, 1, 0, 0), (.aload_n 0, 1, 0, 0, 0), (.getfield 22, 3, 0, 2, 175), (.nop, 0, 0, 0, 0), (.nop, 0, 0, 0, 0), (.invokestatic 26, 3, 114, 0, 382), (.nop, 0, 0, 0, 0), (.nop, 0, 0, 0, 0), (.ireturn, 1, 0, 0, 0)]
abbrev mX0_has : Nat := 2
def qX0_all : List pmE := [(.iconst 1, 1, 0, 0, 0), (.aload_n 0, 1, 0, 0, 0), (.getfield 22, 3, 0, 2, 175), (.nop, 0, 0, 0, 0), (.nop, 0, 0, 0, 0), (.ishl, 1, 0, 0, 0), (.iconst 1, 1, 0, 0, 0), (.isub, 1, 0, 0, 0), (.ireturn, 1, 0, 0, 0)]
abbrev mX0_all : Nat := 3
def qX0_get : List pmE := [(.iload_n 1, 1, 1, 0, 0), (.aload_n 0, 1, 0, 0, 0), (.getfield 11, 3, 0, 0, 173), (.nop, 0, 0, 0, 0), (.nop, 0, 0, 0, 0), (.arraylength, 1, 0, 0, 0), (.invokestatic 26, 3, 114, 0, 382), (.nop, 0, 0, 0, 0), (.nop, 0, 0, 0, 0), (.ifCond .eq 12, 3, 21, 0, 0), (.nop, 0, 0, 0, 0), (.nop, 0, 0, 0, 0), (.aload_n 0, 1, 0, 0, 0), (.getfield 11, 3, 0, 0, 173), (.nop, 0, 0, 0, 0), (.nop, 0, 0, 0, 0), (.iload_n 1, 1, 1, 0, 0), (.aaload, 1, 0, 0, 0), (.goto 7, 3, 25, 0, 0), (.nop, 0, 0, 0, 0), (.nop, 0, 0, 0, 0), (.aload_n 0, 1, 0, 0, 0), (.getfield 18, 3, 0, 1, 174), (.nop, 0, 0, 0, 0), (.nop, 0, 0, 0, 0), (.areturn, 1, 0, 0, 0)]
abbrev mX0_get : Nat := 4
def qX0_clear : List pmE := [(.aload_n 0, 1, 0, 0, 0), (.iconst 0, 1, 0, 0, 0), (.putfield 22, 3, 0, 2, 175), (.nop, 0, 0, 0, 0), (.nop, 0, 0, 0, 0), (.return_, 1, 0, 0, 0)]
abbrev mX0_clear : Nat := 5
def qX0_grow : List pmE := [(.aload_n 0, 1, 0, 0, 0), (.getfield 22, 3, 0, 2, 175), (.nop, 0, 0, 0, 0), (.nop, 0, 0, 0, 0), (.bipush 10, 2, 0, 0, 0), (.nop, 0, 0, 0, 0), (.if_icmp .lt 5, 3, 11, 0, 0), (.nop, 0, 0, 0, 0), (.nop, 0, 0, 0, 0), (.iconst 0, 1, 0, 0, 0), (.ireturn, 1, 0, 0, 0), (.aload_n 0, 1, 0, 0, 0), (.dup, 1, 0, 0, 0), (.getfield 22, 3, 0, 2, 175), (.nop, 0, 0, 0, 0), (.nop, 0, 0, 0, 0), (.iconst 1, 1, 0, 0, 0), (.iadd, 1, 0, 0, 0), (.putfield 22, 3, 0, 2, 175), (.nop, 0, 0, 0, 0), (.nop, 0, 0, 0, 0), (.iconst 1, 1, 0, 0, 0), (.ireturn, 1, 0, 0, 0)]
abbrev mX0_grow : Nat := 6
def qX0_takeFrom : List pmE := [(.aload_n 0, 1, 0, 0, 0), (.aload_n 1, 1, 1, 0, 0), (.getfield 22, 3, 0, 2, 175), (.nop, 0, 0, 0, 0), (.nop, 0, 0, 0, 0), (.putfield 22, 3, 0, 2, 175), (.nop, 0, 0, 0, 0), (.nop, 0, 0, 0, 0), (.iconst 0, 1, 0, 0, 0), (.istore_n 2, 1, 2, 0, 0), (.iload_n 2, 1, 2, 0, 0), (.aload_n 0, 1, 0, 0, 0), (.getfield 22, 3, 0, 2, 175), (.nop, 0, 0, 0, 0), (.nop, 0, 0, 0, 0), (.if_icmp .ge 22, 3, 37, 0, 0), (.nop, 0, 0, 0, 0), (.nop, 0, 0, 0, 0), (.aload_n 0, 1, 0, 0, 0), (.iload_n 2, 1, 2, 0, 0), (.invokevirtual 30, 3, 4, 0, 422), (.nop, 0, 0, 0, 0), (.nop, 0, 0, 0, 0), (.aload_n 1, 1, 1, 0, 0), (.iload_n 2, 1, 2, 0, 0), (.invokevirtual 30, 3, 4, 0, 422), (.nop, 0, 0, 0, 0), (.nop, 0, 0, 0, 0), (.invokevirtual 34, 3, 35, 0, 423), (.nop, 0, 0, 0, 0), (.nop, 0, 0, 0, 0), (.iinc 2 1, 3, 2, 0, 0), (.nop, 0, 0, 0, 0), (.nop, 0, 0, 0, 0), (.goto (-24), 3, 10, 0, 0), (.nop, 0, 0, 0, 0), (.nop, 0, 0, 0, 0), (.return_, 1, 0, 0, 0)]
abbrev mX0_takeFrom : Nat := 7
def qX1_init : List pmE := [(.aload_n 0, 1, 0, 0, 0), (.invokespecial 3, 3, 0, 1, 188), (.nop, 0, 0, 0, 0), (.nop, 0, 0, 0, 0), (.aload_n 0, 1, 0, 0, 0), (.bipush 8, 2, 0, 0, 0), (.nop, 0, 0, 0, 0), (.anewarray 9, 3, 4, 0, 189), (.nop, 0, 0, 0, 0), (.nop, 0, 0, 0, 0), (.putfield 11, 3, 201, 0, 192), (.nop, 0, 0, 0, 0), (.nop, 0, 0, 0, 0), (.aload_n 0, 1, 0, 0, 0), (.iconst 0, 1, 0, 0, 0), (.putfield 17, 3, 1, 1, 193), (.nop, 0, 0, 0, 0), (.nop, 0, 0, 0, 0), (.aload_n 0, 1, 0, 0, 0), (.iconst 0, 1, 0, 0, 0), (.putfield 21, 3, 1, 2, 194), (.nop, 0, 0, 0, 0), (.nop, 0, 0, 0, 0), (.iconst 0, 1, 0, 0, 0), (.istore_n 1, 1, 1, 0, 0), (.iload_n 1, 1, 1, 0, 0), (.bipush 8, 2, 0, 0, 0), (.nop, 0, 0, 0, 0), (.if_icmp .ge 22, 3, 50, 0, 0), (.nop, 0, 0, 0, 0), (.nop, 0, 0, 0, 0), (.aload_n 0, 1, 0, 0, 0), (.getfield 11, 3, 1, 0, 192), (.nop, 0, 0, 0, 0), (.nop, 0, 0, 0, 0), (.iload_n 1, 1, 1, 0, 0), (.new 9, 3, 3, 0, 189), (.nop, 0, 0, 0, 0), (.nop, 0, 0, 0, 0), (.dup, 1, 0, 0, 0), (.invokespecial 24, 3, 20, 0, 191), (.nop, 0, 0, 0, 0), (.nop, 0, 0, 0, 0), (.aastore, 1, 0, 0, 0), (.iinc 1 1, 3, 1, 0, 0), (.nop, 0, 0, 0, 0), (.nop, 0, 0, 0, 0), (.goto (-22), 3, 25, 0, 0), (.nop, 0, 0, 0, 0), (.nop, 0, 0, 0, 0), (.return_, 1, 0, 0, 0)]
abbrev mX1_init : Nat := 8
def qX1_size : List pmE := [(.aload_n 0, 1, 0, 0, 0), (.getfield 17, 3, 1, 1, 193), (.nop, 0, 0, 0, 0), (.nop, 0, 0, 0, 0), (.ireturn, 1, 0, 0, 0)]
abbrev mX1_size : Nat := 9
def qX1_clear : List pmE := [(.aload_n 0, 1, 0, 0, 0), (.iconst 0, 1, 0, 0, 0), (.putfield 17, 3, 1, 1, 193), (.nop, 0, 0, 0, 0), (.nop, 0, 0, 0, 0), (.return_, 1, 0, 0, 0)]
abbrev mX1_clear : Nat := 10
def qX1_moment : List pmE := [(.aload_n 0, 1, 0, 0, 0), (.getfield 11, 3, 1, 0, 192), (.nop, 0, 0, 0, 0), (.nop, 0, 0, 0, 0), (.iload_n 1, 1, 1, 0, 0), (.bipush 8, 2, 0, 0, 0), (.nop, 0, 0, 0, 0), (.invokestatic 25, 3, 185, 0, 601), (.nop, 0, 0, 0, 0), (.nop, 0, 0, 0, 0), (.aaload, 1, 0, 0, 0), (.areturn, 1, 0, 0, 0)]
abbrev mX1_moment : Nat := 11
def qX1_add : List pmE := [(.aload_n 0, 1, 0, 0, 0), (.aload_n 0, 1, 0, 0, 0), (.getfield 21, 3, 1, 2, 194), (.nop, 0, 0, 0, 0), (.nop, 0, 0, 0, 0), (.invokevirtual 31, 3, 11, 0, 597), (.nop, 0, 0, 0, 0), (.nop, 0, 0, 0, 0), (.aload_n 1, 1, 1, 0, 0), (.invokevirtual 35, 3, 21, 0, 604), (.nop, 0, 0, 0, 0), (.nop, 0, 0, 0, 0), (.aload_n 0, 1, 0, 0, 0), (.aload_n 0, 1, 0, 0, 0), (.getfield 21, 3, 1, 2, 194), (.nop, 0, 0, 0, 0), (.nop, 0, 0, 0, 0), (.iconst 1, 1, 0, 0, 0), (.iadd, 1, 0, 0, 0), (.bipush 8, 2, 0, 0, 0), (.nop, 0, 0, 0, 0), (.invokestatic 25, 3, 185, 0, 601), (.nop, 0, 0, 0, 0), (.nop, 0, 0, 0, 0), (.putfield 21, 3, 1, 2, 194), (.nop, 0, 0, 0, 0), (.nop, 0, 0, 0, 0), (.aload_n 0, 1, 0, 0, 0), (.aload_n 0, 1, 0, 0, 0), (.getfield 17, 3, 1, 1, 193), (.nop, 0, 0, 0, 0), (.nop, 0, 0, 0, 0), (.iconst 1, 1, 0, 0, 0), (.iadd, 1, 0, 0, 0), (.bipush 8, 2, 0, 0, 0), (.nop, 0, 0, 0, 0), (.invokestatic 39, 3, 187, 0, 613), (.nop, 0, 0, 0, 0), (.nop, 0, 0, 0, 0), (.putfield 17, 3, 1, 1, 193), (.nop, 0, 0, 0, 0), (.nop, 0, 0, 0, 0), (.return_, 1, 0, 0, 0)]
abbrev mX1_add : Nat := 12
def qX1_giveBack : List pmE := [(.aload_n 0, 1, 0, 0, 0), (.getfield 17, 3, 1, 1, 193), (.nop, 0, 0, 0, 0), (.nop, 0, 0, 0, 0), (.ifCond .gt 5, 3, 9, 0, 0), (.nop, 0, 0, 0, 0), (.nop, 0, 0, 0, 0), (.iconst 0, 1, 0, 0, 0), (.ireturn, 1, 0, 0, 0), (.aload_n 0, 1, 0, 0, 0), (.dup, 1, 0, 0, 0), (.getfield 17, 3, 1, 1, 193), (.nop, 0, 0, 0, 0), (.nop, 0, 0, 0, 0), (.iconst 1, 1, 0, 0, 0), (.isub, 1, 0, 0, 0), (.putfield 17, 3, 1, 1, 193), (.nop, 0, 0, 0, 0), (.nop, 0, 0, 0, 0), (.aload_n 0, 1, 0, 0, 0), (.aload_n 0, 1, 0, 0, 0), (.getfield 21, 3, 1, 2, 194), (.nop, 0, 0, 0, 0), (.nop, 0, 0, 0, 0), (.iconst 1, 1, 0, 0, 0), (.isub, 1, 0, 0, 0), (.bipush 8, 2, 0, 0, 0), (.nop, 0, 0, 0, 0), (.invokestatic 25, 3, 185, 0, 601), (.nop, 0, 0, 0, 0), (.nop, 0, 0, 0, 0), (.putfield 21, 3, 1, 2, 194), (.nop, 0, 0, 0, 0), (.nop, 0, 0, 0, 0), (.aload_n 1, 1, 1, 0, 0), (.aload_n 0, 1, 0, 0, 0), (.aload_n 0, 1, 0, 0, 0), (.getfield 21, 3, 1, 2, 194), (.nop, 0, 0, 0, 0), (.nop, 0, 0, 0, 0), (.invokevirtual 31, 3, 11, 0, 597), (.nop, 0, 0, 0, 0), (.nop, 0, 0, 0, 0), (.invokevirtual 35, 3, 21, 0, 604), (.nop, 0, 0, 0, 0), (.nop, 0, 0, 0, 0), (.iconst 1, 1, 0, 0, 0), (.ireturn, 1, 0, 0, 0)]
abbrev mX1_giveBack : Nat := 13
def qX1_takeFrom : List pmE := [(.aload_n 0, 1, 0, 0, 0), (.aload_n 1, 1, 1, 0, 0), (.getfield 17, 3, 1, 1, 193), (.nop, 0, 0, 0, 0), (.nop, 0, 0, 0, 0), (.putfield 17, 3, 1, 1, 193), (.nop, 0, 0, 0, 0), (.nop, 0, 0, 0, 0), (.aload_n 0, 1, 0, 0, 0), (.aload_n 1, 1, 1, 0, 0), (.getfield 21, 3, 1, 2, 194), (.nop, 0, 0, 0, 0), (.nop, 0, 0, 0, 0), (.putfield 21, 3, 1, 2, 194), (.nop, 0, 0, 0, 0), (.nop, 0, 0, 0, 0), (.iconst 1, 1, 0, 0, 0), (.istore_n 2, 1, 2, 0, 0), (.iload_n 2, 1, 2, 0, 0), (.aload_n 0, 1, 0, 0, 0), (.getfield 17, 3, 1, 1, 193), (.nop, 0, 0, 0, 0), (.nop, 0, 0, 0, 0), (.if_icmp .gt 32, 3, 55, 0, 0), (.nop, 0, 0, 0, 0), (.nop, 0, 0, 0, 0), (.aload_n 0, 1, 0, 0, 0), (.aload_n 0, 1, 0, 0, 0), (.getfield 21, 3, 1, 2, 194), (.nop, 0, 0, 0, 0), (.nop, 0, 0, 0, 0), (.iload_n 2, 1, 2, 0, 0), (.isub, 1, 0, 0, 0), (.invokevirtual 31, 3, 11, 0, 597), (.nop, 0, 0, 0, 0), (.nop, 0, 0, 0, 0), (.aload_n 1, 1, 1, 0, 0), (.aload_n 0, 1, 0, 0, 0), (.getfield 21, 3, 1, 2, 194), (.nop, 0, 0, 0, 0), (.nop, 0, 0, 0, 0), (.iload_n 2, 1, 2, 0, 0), (.isub, 1, 0, 0, 0), (.invokevirtual 31, 3, 11, 0, 597), (.nop, 0, 0, 0, 0), (.nop, 0, 0, 0, 0), (.invokevirtual 35, 3, 21, 0, 604), (.nop, 0, 0, 0, 0), (.nop, 0, 0, 0, 0), (.iinc 2 1, 3, 2, 0, 0), (.nop, 0, 0, 0, 0), (.nop, 0, 0, 0, 0), (.goto (-34), 3, 18, 0, 0), (.nop, 0, 0, 0, 0), (.nop, 0, 0, 0, 0), (.return_, 1, 0, 0, 0)]
abbrev mX1_takeFrom : Nat := 14
def qX2_init : List pmE := [(.aload_n 0, 1, 0, 0, 0), (.invokespecial 1, 3, 0, 1, 113), (.nop, 0, 0, 0, 0), (.nop, 0, 0, 0, 0), (.aload_n 0, 1, 0, 0, 0), (.new 7, 3, 4, 0, 114), (.nop, 0, 0, 0, 0), (.nop, 0, 0, 0, 0), (.dup, 1, 0, 0, 0), (.iload_n 1, 1, 1, 0, 0), (.invokespecial 9, 3, 22, 0, 115), (.nop, 0, 0, 0, 0), (.nop, 0, 0, 0, 0), (.putfield 12, 3, 202, 0, 116), (.nop, 0, 0, 0, 0), (.nop, 0, 0, 0, 0), (.aload_n 0, 1, 0, 0, 0), (.new 7, 3, 4, 0, 114), (.nop, 0, 0, 0, 0), (.nop, 0, 0, 0, 0), (.dup, 1, 0, 0, 0), (.iload_n 1, 1, 1, 0, 0), (.invokespecial 9, 3, 22, 0, 115), (.nop, 0, 0, 0, 0), (.nop, 0, 0, 0, 0), (.putfield 18, 3, 202, 1, 120), (.nop, 0, 0, 0, 0), (.nop, 0, 0, 0, 0), (.return_, 1, 0, 0, 0)]
abbrev mX2_init : Nat := 15
def qX2_size : List pmE := [(.aload_n 0, 1, 0, 0, 0), (.getfield 12, 3, 2, 0, 116), (.nop, 0, 0, 0, 0), (.nop, 0, 0, 0, 0), (.invokevirtual 21, 3, 23, 0, 505), (.nop, 0, 0, 0, 0), (.nop, 0, 0, 0, 0), (.ireturn, 1, 0, 0, 0)]
abbrev mX2_size : Nat := 16
def qX2_clear : List pmE := [(.aload_n 0, 1, 0, 0, 0), (.getfield 12, 3, 2, 0, 116), (.nop, 0, 0, 0, 0), (.nop, 0, 0, 0, 0), (.invokevirtual 25, 3, 29, 0, 410), (.nop, 0, 0, 0, 0), (.nop, 0, 0, 0, 0), (.aload_n 0, 1, 0, 0, 0), (.getfield 18, 3, 2, 1, 120), (.nop, 0, 0, 0, 0), (.nop, 0, 0, 0, 0), (.invokevirtual 25, 3, 29, 0, 410), (.nop, 0, 0, 0, 0), (.nop, 0, 0, 0, 0), (.return_, 1, 0, 0, 0)]
abbrev mX2_clear : Nat := 17
def qX2_add : List pmE := [(.aload_n 0, 1, 0, 0, 0), (.getfield 12, 3, 2, 0, 116), (.nop, 0, 0, 0, 0), (.nop, 0, 0, 0, 0), (.iload_n 1, 1, 1, 0, 0), (.invokevirtual 28, 3, 28, 0, 417), (.nop, 0, 0, 0, 0), (.nop, 0, 0, 0, 0), (.pop, 1, 0, 0, 0), (.aload_n 0, 1, 0, 0, 0), (.getfield 18, 3, 2, 1, 120), (.nop, 0, 0, 0, 0), (.nop, 0, 0, 0, 0), (.iload_n 2, 1, 2, 0, 0), (.invokevirtual 28, 3, 28, 0, 417), (.nop, 0, 0, 0, 0), (.nop, 0, 0, 0, 0), (.pop, 1, 0, 0, 0), (.return_, 1, 0, 0, 0)]
abbrev mX2_add : Nat := 18
def qX2_takeFrom : List pmE := [(.aload_n 0, 1, 0, 0, 0), (.getfield 12, 3, 2, 0, 116), (.nop, 0, 0, 0, 0), (.nop, 0, 0, 0, 0), (.aload_n 1, 1, 1, 0, 0), (.getfield 12, 3, 2, 0, 116), (.nop, 0, 0, 0, 0), (.nop, 0, 0, 0, 0), (.invokevirtual 32, 3, 31, 0, 612), (.nop, 0, 0, 0, 0), (.nop, 0, 0, 0, 0), (.aload_n 0, 1, 0, 0, 0), (.getfield 18, 3, 2, 1, 120), (.nop, 0, 0, 0, 0), (.nop, 0, 0, 0, 0), (.aload_n 1, 1, 1, 0, 0), (.getfield 18, 3, 2, 1, 120), (.nop, 0, 0, 0, 0), (.nop, 0, 0, 0, 0), (.invokevirtual 32, 3, 31, 0, 612), (.nop, 0, 0, 0, 0), (.nop, 0, 0, 0, 0), (.return_, 1, 0, 0, 0)]
abbrev mX2_takeFrom : Nat := 19
def qX3_init : List pmE := [(.aload_n 0, 1, 0, 0, 0), (.invokespecial 3, 3, 0, 1, 107), (.nop, 0, 0, 0, 0), (.nop, 0, 0, 0, 0), (.aload_n 0, 1, 0, 0, 0), (.new 9, 3, 2, 0, 108), (.nop, 0, 0, 0, 0), (.nop, 0, 0, 0, 0), (.dup, 1, 0, 0, 0), (.bipush 60, 2, 0, 0, 0), (.nop, 0, 0, 0, 0), (.invokespecial 11, 3, 15, 0, 110), (.nop, 0, 0, 0, 0), (.nop, 0, 0, 0, 0), (.putfield 14, 3, 203, 0, 128), (.nop, 0, 0, 0, 0), (.nop, 0, 0, 0, 0), (.aload_n 0, 1, 0, 0, 0), (.iconst 0, 1, 0, 0, 0), (.putfield 20, 3, 3, 1, 131), (.nop, 0, 0, 0, 0), (.nop, 0, 0, 0, 0), (.return_, 1, 0, 0, 0)]
abbrev mX3_init : Nat := 20
def qX3_takeFrom : List pmE := [(.aload_n 0, 1, 0, 0, 0), (.getfield 14, 3, 3, 0, 128), (.nop, 0, 0, 0, 0), (.nop, 0, 0, 0, 0), (.aload_n 1, 1, 1, 0, 0), (.getfield 14, 3, 3, 0, 128), (.nop, 0, 0, 0, 0), (.nop, 0, 0, 0, 0), (.invokevirtual 24, 3, 19, 0, 608), (.nop, 0, 0, 0, 0), (.nop, 0, 0, 0, 0), (.aload_n 0, 1, 0, 0, 0), (.aload_n 1, 1, 1, 0, 0), (.getfield 20, 3, 3, 1, 131), (.nop, 0, 0, 0, 0), (.nop, 0, 0, 0, 0), (.putfield 20, 3, 3, 1, 131), (.nop, 0, 0, 0, 0), (.nop, 0, 0, 0, 0), (.return_, 1, 0, 0, 0)]
abbrev mX3_takeFrom : Nat := 21
def qX4_init : List pmE := [(.aload_n 0, 1, 0, 0, 0), (.invokespecial 1, 3, 0, 1, 76), (.nop, 0, 0, 0, 0), (.nop, 0, 0, 0, 0), (.aload_n 0, 1, 0, 0, 0), (.iconst 0, 1, 0, 0, 0), (.putfield 7, 3, 4, 1, 81), (.nop, 0, 0, 0, 0), (.nop, 0, 0, 0, 0), (.aload_n 0, 1, 0, 0, 0), (.iconst 0, 1, 0, 0, 0), (.iload_n 1, 1, 1, 0, 0), (.invokestatic 13, 3, 186, 0, 77), (.nop, 0, 0, 0, 0), (.nop, 0, 0, 0, 0), (.newarray .int, 2, 0, 0, 0), (.nop, 0, 0, 0, 0), (.putfield 19, 3, 204, 0, 80), (.nop, 0, 0, 0, 0), (.nop, 0, 0, 0, 0), (.return_, 1, 0, 0, 0)]
abbrev mX4_init : Nat := 22
def qX4_size : List pmE := [(.aload_n 0, 1, 0, 0, 0), (.getfield 7, 3, 4, 1, 81), (.nop, 0, 0, 0, 0), (.nop, 0, 0, 0, 0), (.ireturn, 1, 0, 0, 0)]
abbrev mX4_size : Nat := 23
def qX4_most : List pmE := [(.aload_n 0, 1, 0, 0, 0), (.getfield 19, 3, 4, 0, 80), (.nop, 0, 0, 0, 0), (.nop, 0, 0, 0, 0), (.arraylength, 1, 0, 0, 0), (.ireturn, 1, 0, 0, 0)]
abbrev mX4_most : Nat := 24
def qX4_get : List pmE := [(.iload_n 1, 1, 1, 0, 0), (.ifCond .lt 29, 3, 30, 0, 0), (.nop, 0, 0, 0, 0), (.nop, 0, 0, 0, 0), (.iload_n 1, 1, 1, 0, 0), (.aload_n 0, 1, 0, 0, 0), (.getfield 19, 3, 4, 0, 80), (.nop, 0, 0, 0, 0), (.nop, 0, 0, 0, 0), (.arraylength, 1, 0, 0, 0), (.if_icmp .ge 20, 3, 30, 0, 0), (.nop, 0, 0, 0, 0), (.nop, 0, 0, 0, 0), (.iload_n 1, 1, 1, 0, 0), (.aload_n 0, 1, 0, 0, 0), (.getfield 7, 3, 4, 1, 81), (.nop, 0, 0, 0, 0), (.nop, 0, 0, 0, 0), (.if_icmp .ge 12, 3, 30, 0, 0), (.nop, 0, 0, 0, 0), (.nop, 0, 0, 0, 0), (.aload_n 0, 1, 0, 0, 0), (.getfield 19, 3, 4, 0, 80), (.nop, 0, 0, 0, 0), (.nop, 0, 0, 0, 0), (.iload_n 1, 1, 1, 0, 0), (.iaload, 1, 0, 0, 0), (.goto 4, 3, 31, 0, 0), (.nop, 0, 0, 0, 0), (.nop, 0, 0, 0, 0), (.iconst 0, 1, 0, 0, 0), (.ireturn, 1, 0, 0, 0)]
abbrev mX4_get : Nat := 25
def qX4_set : List pmE := [(.iload_n 1, 1, 1, 0, 0), (.ifCond .lt 27, 3, 28, 0, 0), (.nop, 0, 0, 0, 0), (.nop, 0, 0, 0, 0), (.iload_n 1, 1, 1, 0, 0), (.aload_n 0, 1, 0, 0, 0), (.getfield 19, 3, 4, 0, 80), (.nop, 0, 0, 0, 0), (.nop, 0, 0, 0, 0), (.arraylength, 1, 0, 0, 0), (.if_icmp .ge 18, 3, 28, 0, 0), (.nop, 0, 0, 0, 0), (.nop, 0, 0, 0, 0), (.iload_n 1, 1, 1, 0, 0), (.aload_n 0, 1, 0, 0, 0), (.getfield 7, 3, 4, 1, 81), (.nop, 0, 0, 0, 0), (.nop, 0, 0, 0, 0), (.if_icmp .ge 10, 3, 28, 0, 0), (.nop, 0, 0, 0, 0), (.nop, 0, 0, 0, 0), (.aload_n 0, 1, 0, 0, 0), (.getfield 19, 3, 4, 0, 80), (.nop, 0, 0, 0, 0), (.nop, 0, 0, 0, 0), (.iload_n 1, 1, 1, 0, 0), (.iload_n 2, 1, 2, 0, 0), (.iastore, 1, 0, 0, 0), (.return_, 1, 0, 0, 0)]
abbrev mX4_set : Nat := 26
def qX4_addTo : List pmE := [(.aload_n 0, 1, 0, 0, 0), (.iload_n 1, 1, 1, 0, 0), (.aload_n 0, 1, 0, 0, 0), (.iload_n 1, 1, 1, 0, 0), (.invokevirtual 23, 3, 25, 0, 550), (.nop, 0, 0, 0, 0), (.nop, 0, 0, 0, 0), (.iload_n 2, 1, 2, 0, 0), (.iadd, 1, 0, 0, 0), (.invokevirtual 27, 3, 26, 0, 551), (.nop, 0, 0, 0, 0), (.nop, 0, 0, 0, 0), (.return_, 1, 0, 0, 0)]
abbrev mX4_addTo : Nat := 27
def qX4_add : List pmE := [(.aload_n 0, 1, 0, 0, 0), (.getfield 7, 3, 4, 1, 81), (.nop, 0, 0, 0, 0), (.nop, 0, 0, 0, 0), (.ifCond .lt 15, 3, 19, 0, 0), (.nop, 0, 0, 0, 0), (.nop, 0, 0, 0, 0), (.aload_n 0, 1, 0, 0, 0), (.getfield 7, 3, 4, 1, 81), (.nop, 0, 0, 0, 0), (.nop, 0, 0, 0, 0), (.aload_n 0, 1, 0, 0, 0), (.getfield 19, 3, 4, 0, 80), (.nop, 0, 0, 0, 0), (.nop, 0, 0, 0, 0), (.arraylength, 1, 0, 0, 0), (.if_icmp .lt 5, 3, 21, 0, 0), (.nop, 0, 0, 0, 0), (.nop, 0, 0, 0, 0), (.iconst 0, 1, 0, 0, 0), (.ireturn, 1, 0, 0, 0), (.aload_n 0, 1, 0, 0, 0), (.getfield 19, 3, 4, 0, 80), (.nop, 0, 0, 0, 0), (.nop, 0, 0, 0, 0), (.aload_n 0, 1, 0, 0, 0), (.getfield 7, 3, 4, 1, 81), (.nop, 0, 0, 0, 0), (.nop, 0, 0, 0, 0), (.iload_n 1, 1, 1, 0, 0), (.iastore, 1, 0, 0, 0), (.aload_n 0, 1, 0, 0, 0), (.dup, 1, 0, 0, 0), (.getfield 7, 3, 4, 1, 81), (.nop, 0, 0, 0, 0), (.nop, 0, 0, 0, 0), (.iconst 1, 1, 0, 0, 0), (.iadd, 1, 0, 0, 0), (.putfield 7, 3, 4, 1, 81), (.nop, 0, 0, 0, 0), (.nop, 0, 0, 0, 0), (.iconst 1, 1, 0, 0, 0), (.ireturn, 1, 0, 0, 0)]
abbrev mX4_add : Nat := 28
def qX4_clear : List pmE := [(.aload_n 0, 1, 0, 0, 0), (.iconst 0, 1, 0, 0, 0), (.putfield 7, 3, 4, 1, 81), (.nop, 0, 0, 0, 0), (.nop, 0, 0, 0, 0), (.return_, 1, 0, 0, 0)]
abbrev mX4_clear : Nat := 29
def qX4_fill : List pmE := [(.aload_n 0, 1, 0, 0, 0), (.invokevirtual 31, 3, 29, 0, 527), (.nop, 0, 0, 0, 0), (.nop, 0, 0, 0, 0), (.iconst 0, 1, 0, 0, 0), (.istore_n 3, 1, 3, 0, 0), (.iload_n 3, 1, 3, 0, 0), (.iload_n 1, 1, 1, 0, 0), (.if_icmp .ge 15, 3, 23, 0, 0), (.nop, 0, 0, 0, 0), (.nop, 0, 0, 0, 0), (.aload_n 0, 1, 0, 0, 0), (.iload_n 2, 1, 2, 0, 0), (.invokevirtual 34, 3, 28, 0, 528), (.nop, 0, 0, 0, 0), (.nop, 0, 0, 0, 0), (.pop, 1, 0, 0, 0), (.iinc 3 1, 3, 3, 0, 0), (.nop, 0, 0, 0, 0), (.nop, 0, 0, 0, 0), (.goto (-14), 3, 6, 0, 0), (.nop, 0, 0, 0, 0), (.nop, 0, 0, 0, 0), (.return_, 1, 0, 0, 0)]
abbrev mX4_fill : Nat := 30
def qX4_takeFrom : List pmE := [(.aload_n 1, 1, 1, 0, 0), (.getfield 7, 3, 4, 1, 81), (.nop, 0, 0, 0, 0), (.nop, 0, 0, 0, 0), (.aload_n 1, 1, 1, 0, 0), (.getfield 19, 3, 4, 0, 80), (.nop, 0, 0, 0, 0), (.nop, 0, 0, 0, 0), (.arraylength, 1, 0, 0, 0), (.aload_n 0, 1, 0, 0, 0), (.getfield 19, 3, 4, 0, 80), (.nop, 0, 0, 0, 0), (.nop, 0, 0, 0, 0), (.arraylength, 1, 0, 0, 0), (.invokestatic 38, 3, 187, 0, 431), (.nop, 0, 0, 0, 0), (.nop, 0, 0, 0, 0), (.invokestatic 38, 3, 187, 0, 431), (.nop, 0, 0, 0, 0), (.nop, 0, 0, 0, 0), (.istore_n 2, 1, 2, 0, 0), (.iload_n 2, 1, 2, 0, 0), (.ifCond .lt 22, 3, 44, 0, 0), (.nop, 0, 0, 0, 0), (.nop, 0, 0, 0, 0), (.aload_n 1, 1, 1, 0, 0), (.getfield 19, 3, 4, 0, 80), (.nop, 0, 0, 0, 0), (.nop, 0, 0, 0, 0), (.iconst 0, 1, 0, 0, 0), (.aload_n 0, 1, 0, 0, 0), (.getfield 19, 3, 4, 0, 80), (.nop, 0, 0, 0, 0), (.nop, 0, 0, 0, 0), (.iconst 0, 1, 0, 0, 0), (.iload_n 2, 1, 2, 0, 0), (.invokestatic 41, 3, 0, 1, 434), (.nop, 0, 0, 0, 0), (.nop, 0, 0, 0, 0), (.aload_n 0, 1, 0, 0, 0), (.iload_n 2, 1, 2, 0, 0), (.putfield 7, 3, 4, 1, 81), (.nop, 0, 0, 0, 0), (.nop, 0, 0, 0, 0), (.return_, 1, 0, 0, 0)]
abbrev mX4_takeFrom : Nat := 31
def qX4_isSame : List pmE := [(.aload_n 0, 1, 0, 0, 0), (.getfield 7, 3, 4, 1, 81), (.nop, 0, 0, 0, 0), (.nop, 0, 0, 0, 0), (.aload_n 1, 1, 1, 0, 0), (.invokevirtual 47, 3, 23, 0, 686), (.nop, 0, 0, 0, 0), (.nop, 0, 0, 0, 0), (.if_icmp .eq 5, 3, 13, 0, 0), (.nop, 0, 0, 0, 0), (.nop, 0, 0, 0, 0), (.iconst 0, 1, 0, 0, 0), (.ireturn, 1, 0, 0, 0), (.iconst 0, 1, 0, 0, 0), (.istore_n 2, 1, 2, 0, 0), (.iload_n 2, 1, 2, 0, 0), (.aload_n 0, 1, 0, 0, 0), (.getfield 7, 3, 4, 1, 81), (.nop, 0, 0, 0, 0), (.nop, 0, 0, 0, 0), (.if_icmp .ge 24, 3, 44, 0, 0), (.nop, 0, 0, 0, 0), (.nop, 0, 0, 0, 0), (.aload_n 0, 1, 0, 0, 0), (.iload_n 2, 1, 2, 0, 0), (.invokevirtual 23, 3, 25, 0, 550), (.nop, 0, 0, 0, 0), (.nop, 0, 0, 0, 0), (.aload_n 1, 1, 1, 0, 0), (.iload_n 2, 1, 2, 0, 0), (.invokevirtual 23, 3, 25, 0, 550), (.nop, 0, 0, 0, 0), (.nop, 0, 0, 0, 0), (.if_icmp .eq 5, 3, 38, 0, 0), (.nop, 0, 0, 0, 0), (.nop, 0, 0, 0, 0), (.iconst 0, 1, 0, 0, 0), (.ireturn, 1, 0, 0, 0), (.iinc 2 1, 3, 2, 0, 0), (.nop, 0, 0, 0, 0), (.nop, 0, 0, 0, 0), (.goto (-26), 3, 15, 0, 0), (.nop, 0, 0, 0, 0), (.nop, 0, 0, 0, 0), (.iconst 1, 1, 0, 0, 0), (.ireturn, 1, 0, 0, 0)]
abbrev mX4_isSame : Nat := 32
def qX4_sum : List pmE := [(.iconst 0, 1, 0, 0, 0), (.istore_n 1, 1, 1, 0, 0), (.iconst 0, 1, 0, 0, 0), (.istore_n 2, 1, 2, 0, 0), (.iload_n 2, 1, 2, 0, 0), (.aload_n 0, 1, 0, 0, 0), (.getfield 7, 3, 4, 1, 81), (.nop, 0, 0, 0, 0), (.nop, 0, 0, 0, 0), (.if_icmp .ge 17, 3, 26, 0, 0), (.nop, 0, 0, 0, 0), (.nop, 0, 0, 0, 0), (.iload_n 1, 1, 1, 0, 0), (.aload_n 0, 1, 0, 0, 0), (.iload_n 2, 1, 2, 0, 0), (.invokevirtual 23, 3, 25, 0, 550), (.nop, 0, 0, 0, 0), (.nop, 0, 0, 0, 0), (.iadd, 1, 0, 0, 0), (.istore_n 1, 1, 1, 0, 0), (.iinc 2 1, 3, 2, 0, 0), (.nop, 0, 0, 0, 0), (.nop, 0, 0, 0, 0), (.goto (-19), 3, 4, 0, 0), (.nop, 0, 0, 0, 0), (.nop, 0, 0, 0, 0), (.iload_n 1, 1, 1, 0, 0), (.ireturn, 1, 0, 0, 0)]
abbrev mX4_sum : Nat := 33
def qX5_init : List pmE := [(.aload_n 0, 1, 0, 0, 0), (.invokespecial 3, 3, 0, 1, 151), (.nop, 0, 0, 0, 0), (.nop, 0, 0, 0, 0), (.aload_n 0, 1, 0, 0, 0), (.iconst 0, 1, 0, 0, 0), (.putfield 9, 3, 5, 0, 154), (.nop, 0, 0, 0, 0), (.nop, 0, 0, 0, 0), (.aload_n 0, 1, 0, 0, 0), (.new 15, 3, 4, 0, 152), (.nop, 0, 0, 0, 0), (.nop, 0, 0, 0, 0), (.dup, 1, 0, 0, 0), (.bipush 6, 2, 0, 0, 0), (.nop, 0, 0, 0, 0), (.invokespecial 17, 3, 22, 0, 153), (.nop, 0, 0, 0, 0), (.nop, 0, 0, 0, 0), (.putfield 20, 3, 205, 1, 158), (.nop, 0, 0, 0, 0), (.nop, 0, 0, 0, 0), (.aload_n 0, 1, 0, 0, 0), (.new 15, 3, 4, 0, 152), (.nop, 0, 0, 0, 0), (.nop, 0, 0, 0, 0), (.dup, 1, 0, 0, 0), (.bipush 6, 2, 0, 0, 0), (.nop, 0, 0, 0, 0), (.invokespecial 17, 3, 22, 0, 153), (.nop, 0, 0, 0, 0), (.nop, 0, 0, 0, 0), (.putfield 24, 3, 205, 2, 162), (.nop, 0, 0, 0, 0), (.nop, 0, 0, 0, 0), (.return_, 1, 0, 0, 0)]
abbrev mX5_init : Nat := 34
def qX5_takeFrom : List pmE := [(.aload_n 0, 1, 0, 0, 0), (.aload_n 1, 1, 1, 0, 0), (.getfield 9, 3, 5, 0, 154), (.nop, 0, 0, 0, 0), (.nop, 0, 0, 0, 0), (.putfield 9, 3, 5, 0, 154), (.nop, 0, 0, 0, 0), (.nop, 0, 0, 0, 0), (.aload_n 0, 1, 0, 0, 0), (.getfield 20, 3, 5, 1, 158), (.nop, 0, 0, 0, 0), (.nop, 0, 0, 0, 0), (.aload_n 1, 1, 1, 0, 0), (.getfield 20, 3, 5, 1, 158), (.nop, 0, 0, 0, 0), (.nop, 0, 0, 0, 0), (.invokevirtual 27, 3, 31, 0, 427), (.nop, 0, 0, 0, 0), (.nop, 0, 0, 0, 0), (.aload_n 0, 1, 0, 0, 0), (.getfield 24, 3, 5, 2, 162), (.nop, 0, 0, 0, 0), (.nop, 0, 0, 0, 0), (.aload_n 1, 1, 1, 0, 0), (.getfield 24, 3, 5, 2, 162), (.nop, 0, 0, 0, 0), (.nop, 0, 0, 0, 0), (.invokevirtual 27, 3, 31, 0, 427), (.nop, 0, 0, 0, 0), (.nop, 0, 0, 0, 0), (.return_, 1, 0, 0, 0)]
abbrev mX5_takeFrom : Nat := 35
def qX5_given : List pmE := [(.aload_n 0, 1, 0, 0, 0), (.getfield 24, 3, 5, 2, 162), (.nop, 0, 0, 0, 0), (.nop, 0, 0, 0, 0), (.iload_n 2, 1, 2, 0, 0), (.iconst 3, 1, 0, 0, 0), (.if_icmp .ne 17, 3, 23, 0, 0), (.nop, 0, 0, 0, 0), (.nop, 0, 0, 0, 0), (.aload_n 0, 1, 0, 0, 0), (.getfield 24, 3, 5, 2, 162), (.nop, 0, 0, 0, 0), (.nop, 0, 0, 0, 0), (.invokevirtual 31, 3, 23, 0, 513), (.nop, 0, 0, 0, 0), (.nop, 0, 0, 0, 0), (.iconst 1, 1, 0, 0, 0), (.isub, 1, 0, 0, 0), (.iload_n 1, 1, 1, 0, 0), (.isub, 1, 0, 0, 0), (.goto 4, 3, 24, 0, 0), (.nop, 0, 0, 0, 0), (.nop, 0, 0, 0, 0), (.iload_n 1, 1, 1, 0, 0), (.invokevirtual 35, 3, 25, 0, 511), (.nop, 0, 0, 0, 0), (.nop, 0, 0, 0, 0), (.ireturn, 1, 0, 0, 0)]
abbrev mX5_given : Nat := 36
def qX5_stands_0 : List pmE := [(.iload_n 3, 1, 3, 0, 0), (.ifCond .eq 21, 3, 22, 0, 0), (.nop, 0, 0, 0, 0), (.nop, 0, 0, 0, 0), (.aload_n 1, 1, 1, 0, 0), (.getfield 39, 3, 2, 0, 117), (.nop, 0, 0, 0, 0), (.nop, 0, 0, 0, 0), (.iload_n 2, 1, 2, 0, 0), (.iconst 1, 1, 0, 0, 0), (.isub, 1, 0, 0, 0), (.invokevirtual 35, 3, 25, 0, 511), (.nop, 0, 0, 0, 0), (.nop, 0, 0, 0, 0), (.invokestatic 44, 3, 116, 0, 512), (.nop, 0, 0, 0, 0), (.nop, 0, 0, 0, 0), (.ifCond .eq 5, 3, 22, 0, 0), (.nop, 0, 0, 0, 0), (.nop, 0, 0, 0, 0), (.iconst 0, 1, 0, 0, 0), (.ireturn, 1, 0, 0, 0), (.iload_n 2, 1, 2, 0, 0), (.aload_n 0, 1, 0, 0, 0), (.getfield 20, 3, 5, 1, 158), (.nop, 0, 0, 0, 0), (.nop, 0, 0, 0, 0), (.invokevirtual 31, 3, 23, 0, 513), (.nop, 0, 0, 0, 0), (.nop, 0, 0, 0, 0), (.iadd, 1, 0, 0, 0), (.istore 6, 2, 6, 0, 0), (.nop, 0, 0, 0, 0), (.iload 6, 2, 6, 0, 0), (.nop, 0, 0, 0, 0), (.iload 4, 2, 4, 0, 0), (.nop, 0, 0, 0, 0), (.invokestatic 48, 3, 187, 0, 514), (.nop, 0, 0, 0, 0), (.nop, 0, 0, 0, 0), (.iload_n 2, 1, 2, 0, 0), (.isub, 1, 0, 0, 0), (.istore 7, 2, 7, 0, 0), (.nop, 0, 0, 0, 0), (.iconst 0, 1, 0, 0, 0), (.istore 8, 2, 8, 0, 0), (.nop, 0, 0, 0, 0), (.iload 8, 2, 8, 0, 0), (.nop, 0, 0, 0, 0), (.iload 7, 2, 7, 0, 0), (.nop, 0, 0, 0, 0), (.if_icmp .ge 34, 3, 85, 0, 0), (.nop, 0, 0, 0, 0), (.nop, 0, 0, 0, 0), (.aload_n 0, 1, 0, 0, 0), (.getfield 20, 3, 5, 1, 158), (.nop, 0, 0, 0, 0), (.nop, 0, 0, 0, 0), (.iload 8, 2, 8, 0, 0), (.nop, 0, 0, 0, 0), (.invokevirtual 35, 3, 25, 0, 511), (.nop, 0, 0, 0, 0), (.nop, 0, 0, 0, 0), (.aload_n 1, 1, 1, 0, 0), (.getfield 39, 3, 2, 0, 117), (.nop, 0, 0, 0, 0), (.nop, 0, 0, 0, 0), (.iload_n 2, 1, 2, 0, 0), (.iload 8, 2, 8, 0, 0), (.nop, 0, 0, 0, 0), (.iadd, 1, 0, 0, 0), (.invokevirtual 35, 3, 25, 0, 511), (.nop, 0, 0, 0, 0), (.nop, 0, 0, 0, 0), (.if_icmp .eq 5, 3, 79, 0, 0), (.nop, 0, 0, 0, 0), (.nop, 0, 0, 0, 0), (.iconst 0, 1, 0, 0, 0), (.ireturn, 1, 0, 0, 0), (.iinc 8 1, 3, 8, 0, 0), (.nop, 0, 0, 0, 0), (.nop, 0, 0, 0, 0), (.goto (-35), 3, 47, 0, 0), (.nop, 0, 0, 0, 0), (.nop, 0, 0, 0, 0), (.iload 6, 2, 6, 0, 0), (.nop, 0, 0, 0, 0), (.iload 4, 2, 4, 0, 0), (.nop, 0, 0, 0, 0), (.if_icmp .le 14, 3, 103, 0, 0), (.nop, 0, 0, 0, 0), (.nop, 0, 0, 0, 0), (.iload 5, 2, 5, 0, 0), (.nop, 0, 0, 0, 0), (.ifCond .eq 7, 3, 101, 0, 0), (.nop, 0, 0, 0, 0), (.nop, 0, 0, 0, 0), (.iconst 2, 1, 0, 0, 0), (.goto 4, 3, 102, 0, 0), (.nop, 0, 0, 0, 0)]
def qX5_stands_1 : List pmE := [(.nop, 0, 0, 0, 0), (.iconst 0, 1, 0, 0, 0), (.ireturn, 1, 0, 0, 0), (.iload_n 3, 1, 3, 0, 0), (.invokestatic 54, 3, 38, 0, 515), (.nop, 0, 0, 0, 0), (.nop, 0, 0, 0, 0), (.ifCond .ne 5, 3, 112, 0, 0), (.nop, 0, 0, 0, 0), (.nop, 0, 0, 0, 0), (.iconst 1, 1, 0, 0, 0), (.ireturn, 1, 0, 0, 0), (.iload 6, 2, 6, 0, 0), (.nop, 0, 0, 0, 0), (.iload 4, 2, 4, 0, 0), (.nop, 0, 0, 0, 0), (.if_icmp .ne 14, 3, 130, 0, 0), (.nop, 0, 0, 0, 0), (.nop, 0, 0, 0, 0), (.iload 5, 2, 5, 0, 0), (.nop, 0, 0, 0, 0), (.ifCond .eq 7, 3, 128, 0, 0), (.nop, 0, 0, 0, 0), (.nop, 0, 0, 0, 0), (.iconst 2, 1, 0, 0, 0), (.goto 4, 3, 129, 0, 0), (.nop, 0, 0, 0, 0), (.nop, 0, 0, 0, 0), (.iconst 1, 1, 0, 0, 0), (.ireturn, 1, 0, 0, 0), (.aload_n 1, 1, 1, 0, 0), (.getfield 39, 3, 2, 0, 117), (.nop, 0, 0, 0, 0), (.nop, 0, 0, 0, 0), (.iload 6, 2, 6, 0, 0), (.nop, 0, 0, 0, 0), (.invokevirtual 35, 3, 25, 0, 511), (.nop, 0, 0, 0, 0), (.nop, 0, 0, 0, 0), (.invokestatic 44, 3, 116, 0, 512), (.nop, 0, 0, 0, 0), (.nop, 0, 0, 0, 0), (.ifCond .eq 7, 3, 149, 0, 0), (.nop, 0, 0, 0, 0), (.nop, 0, 0, 0, 0), (.iconst 0, 1, 0, 0, 0), (.goto 4, 3, 150, 0, 0), (.nop, 0, 0, 0, 0), (.nop, 0, 0, 0, 0), (.iconst 1, 1, 0, 0, 0), (.ireturn, 1, 0, 0, 0)]
def qX5_stands : List pmE := qX5_stands_0 ++ qX5_stands_1
abbrev mX5_stands : Nat := 37
def qX5_wantsEnd : List pmE := [(.iload_n 0, 1, 0, 0, 0), (.iconst 1, 1, 0, 0, 0), (.if_icmp .eq 8, 3, 10, 0, 0), (.nop, 0, 0, 0, 0), (.nop, 0, 0, 0, 0), (.iload_n 0, 1, 0, 0, 0), (.iconst 3, 1, 0, 0, 0), (.if_icmp .ne 7, 3, 14, 0, 0), (.nop, 0, 0, 0, 0), (.nop, 0, 0, 0, 0), (.iconst 1, 1, 0, 0, 0), (.goto 4, 3, 15, 0, 0), (.nop, 0, 0, 0, 0), (.nop, 0, 0, 0, 0), (.iconst 0, 1, 0, 0, 0), (.ireturn, 1, 0, 0, 0)]
abbrev mX5_wantsEnd : Nat := 38
def qX6_init : List pmE := [(.aload_n 0, 1, 0, 0, 0), (.invokespecial 3, 3, 0, 1, 262), (.nop, 0, 0, 0, 0), (.nop, 0, 0, 0, 0), (.aload_n 0, 1, 0, 0, 0), (.bipush 60, 2, 0, 0, 0), (.nop, 0, 0, 0, 0), (.newarray .long, 2, 0, 0, 0), (.nop, 0, 0, 0, 0), (.putfield 9, 3, 206, 0, 263), (.nop, 0, 0, 0, 0), (.nop, 0, 0, 0, 0), (.aload_n 0, 1, 0, 0, 0), (.iconst 0, 1, 0, 0, 0), (.putfield 15, 3, 106, 1, 265), (.nop, 0, 0, 0, 0), (.nop, 0, 0, 0, 0), (.aload_n 0, 1, 0, 0, 0), (.iconst 0, 1, 0, 0, 0), (.putfield 19, 3, 6, 2, 267), (.nop, 0, 0, 0, 0), (.nop, 0, 0, 0, 0), (.aload_n 0, 1, 0, 0, 0), (.iconst 0, 1, 0, 0, 0), (.putfield 23, 3, 6, 3, 269), (.nop, 0, 0, 0, 0), (.nop, 0, 0, 0, 0), (.return_, 1, 0, 0, 0)]
abbrev mX6_init : Nat := 39
def qX6_begin : List pmE := [(.aload_n 0, 1, 0, 0, 0), (.getfield 9, 3, 6, 0, 263), (.nop, 0, 0, 0, 0), (.nop, 0, 0, 0, 0), (.lconst 0, 1, 0, 0, 0), (.invokestatic 26, 3, 188, 0, 795), (.nop, 0, 0, 0, 0), (.nop, 0, 0, 0, 0), (.aload_n 0, 1, 0, 0, 0), (.iconst 1, 1, 0, 0, 0), (.putfield 15, 3, 106, 1, 265), (.nop, 0, 0, 0, 0), (.nop, 0, 0, 0, 0), (.aload_n 0, 1, 0, 0, 0), (.iload_n 1, 1, 1, 0, 0), (.putfield 19, 3, 6, 2, 267), (.nop, 0, 0, 0, 0), (.nop, 0, 0, 0, 0), (.aload_n 0, 1, 0, 0, 0), (.iload_n 2, 1, 2, 0, 0), (.putfield 23, 3, 6, 3, 269), (.nop, 0, 0, 0, 0), (.nop, 0, 0, 0, 0), (.return_, 1, 0, 0, 0)]
abbrev mX6_begin : Nat := 40
def qX6_refusal : List pmE := [(.aload_n 0, 1, 0, 0, 0), (.getfield 15, 3, 6, 1, 265), (.nop, 0, 0, 0, 0), (.nop, 0, 0, 0, 0), (.ifCond .ne 6, 3, 10, 0, 0), (.nop, 0, 0, 0, 0), (.nop, 0, 0, 0, 0), (.bipush (-11), 2, 0, 0, 0), (.nop, 0, 0, 0, 0), (.ireturn, 1, 0, 0, 0), (.aload_n 0, 1, 0, 0, 0), (.getfield 19, 3, 6, 2, 267), (.nop, 0, 0, 0, 0), (.nop, 0, 0, 0, 0), (.iload_n 1, 1, 1, 0, 0), (.if_icmp .eq 6, 3, 21, 0, 0), (.nop, 0, 0, 0, 0), (.nop, 0, 0, 0, 0), (.bipush (-12), 2, 0, 0, 0), (.nop, 0, 0, 0, 0), (.ireturn, 1, 0, 0, 0), (.aload_n 0, 1, 0, 0, 0), (.iload_n 2, 1, 2, 0, 0), (.iload_n 3, 1, 3, 0, 0), (.invokevirtual 32, 3, 42, 0, 761), (.nop, 0, 0, 0, 0), (.nop, 0, 0, 0, 0), (.ifCond .eq 7, 3, 34, 0, 0), (.nop, 0, 0, 0, 0), (.nop, 0, 0, 0, 0), (.iconst 0, 1, 0, 0, 0), (.goto 5, 3, 36, 0, 0), (.nop, 0, 0, 0, 0), (.nop, 0, 0, 0, 0), (.bipush (-13), 2, 0, 0, 0), (.nop, 0, 0, 0, 0), (.ireturn, 1, 0, 0, 0)]
abbrev mX6_refusal : Nat := 41
def qX6_holds : List pmE := [(.iload_n 1, 1, 1, 0, 0), (.ifCond .lt 29, 3, 30, 0, 0), (.nop, 0, 0, 0, 0), (.nop, 0, 0, 0, 0), (.iload_n 2, 1, 2, 0, 0), (.ifCond .lt 25, 3, 30, 0, 0), (.nop, 0, 0, 0, 0), (.nop, 0, 0, 0, 0), (.iload_n 2, 1, 2, 0, 0), (.aload_n 0, 1, 0, 0, 0), (.getfield 23, 3, 6, 3, 269), (.nop, 0, 0, 0, 0), (.nop, 0, 0, 0, 0), (.if_icmp .gt 17, 3, 30, 0, 0), (.nop, 0, 0, 0, 0), (.nop, 0, 0, 0, 0), (.iload_n 1, 1, 1, 0, 0), (.aload_n 0, 1, 0, 0, 0), (.getfield 23, 3, 6, 3, 269), (.nop, 0, 0, 0, 0), (.nop, 0, 0, 0, 0), (.iload_n 2, 1, 2, 0, 0), (.isub, 1, 0, 0, 0), (.if_icmp .gt 7, 3, 30, 0, 0), (.nop, 0, 0, 0, 0), (.nop, 0, 0, 0, 0), (.iconst 1, 1, 0, 0, 0), (.goto 4, 3, 31, 0, 0), (.nop, 0, 0, 0, 0), (.nop, 0, 0, 0, 0), (.iconst 0, 1, 0, 0, 0), (.ireturn, 1, 0, 0, 0)]
abbrev mX6_holds : Nat := 42
def qX6_tells : List pmE := [(.aload_n 1, 1, 1, 0, 0), (.invokevirtual 36, 3, 23, 0, 773), (.nop, 0, 0, 0, 0), (.nop, 0, 0, 0, 0), (.iload_n 3, 1, 3, 0, 0), (.if_icmp .ne 12, 3, 17, 0, 0), (.nop, 0, 0, 0, 0), (.nop, 0, 0, 0, 0), (.aload_n 0, 1, 0, 0, 0), (.iload_n 2, 1, 2, 0, 0), (.iload_n 3, 1, 3, 0, 0), (.invokevirtual 32, 3, 42, 0, 761), (.nop, 0, 0, 0, 0), (.nop, 0, 0, 0, 0), (.ifCond .ne 5, 3, 19, 0, 0), (.nop, 0, 0, 0, 0), (.nop, 0, 0, 0, 0), (.iconst 0, 1, 0, 0, 0), (.ireturn, 1, 0, 0, 0), (.iconst 0, 1, 0, 0, 0), (.istore 4, 2, 4, 0, 0), (.nop, 0, 0, 0, 0), (.iload 4, 2, 4, 0, 0), (.nop, 0, 0, 0, 0), (.iload_n 3, 1, 3, 0, 0), (.if_icmp .ge 31, 3, 56, 0, 0), (.nop, 0, 0, 0, 0), (.nop, 0, 0, 0, 0), (.aload_n 0, 1, 0, 0, 0), (.getfield 9, 3, 6, 0, 263), (.nop, 0, 0, 0, 0), (.nop, 0, 0, 0, 0), (.iload_n 2, 1, 2, 0, 0), (.iload 4, 2, 4, 0, 0), (.nop, 0, 0, 0, 0), (.iadd, 1, 0, 0, 0), (.laload, 1, 0, 0, 0), (.aload_n 1, 1, 1, 0, 0), (.iload 4, 2, 4, 0, 0), (.nop, 0, 0, 0, 0), (.invokevirtual 41, 3, 25, 0, 774), (.nop, 0, 0, 0, 0), (.nop, 0, 0, 0, 0), (.i2l, 1, 0, 0, 0), (.lcmp, 1, 0, 0, 0), (.ifCond .eq 5, 3, 50, 0, 0), (.nop, 0, 0, 0, 0), (.nop, 0, 0, 0, 0), (.iconst 0, 1, 0, 0, 0), (.ireturn, 1, 0, 0, 0), (.iinc 4 1, 3, 4, 0, 0), (.nop, 0, 0, 0, 0), (.nop, 0, 0, 0, 0), (.goto (-31), 3, 22, 0, 0), (.nop, 0, 0, 0, 0), (.nop, 0, 0, 0, 0), (.iconst 1, 1, 0, 0, 0), (.ireturn, 1, 0, 0, 0)]
abbrev mX6_tells : Nat := 43
def qX6_write : List pmE := [(.aload_n 0, 1, 0, 0, 0), (.iload_n 1, 1, 1, 0, 0), (.iconst 1, 1, 0, 0, 0), (.invokevirtual 32, 3, 42, 0, 761), (.nop, 0, 0, 0, 0), (.nop, 0, 0, 0, 0), (.ifCond .eq 14, 3, 20, 0, 0), (.nop, 0, 0, 0, 0), (.nop, 0, 0, 0, 0), (.aload_n 0, 1, 0, 0, 0), (.getfield 9, 3, 6, 0, 263), (.nop, 0, 0, 0, 0), (.nop, 0, 0, 0, 0), (.iload_n 1, 1, 1, 0, 0), (.aload_n 0, 1, 0, 0, 0), (.lload_n 2, 1, 2, 0, 0), (.invokevirtual 45, 3, 45, 0, 783), (.nop, 0, 0, 0, 0), (.nop, 0, 0, 0, 0), (.lastore, 1, 0, 0, 0), (.return_, 1, 0, 0, 0)]
abbrev mX6_write : Nat := 44
def qX6_lowestBits : List pmE := [(.aload_n 0, 1, 0, 0, 0), (.getfield 19, 3, 6, 2, 267), (.nop, 0, 0, 0, 0), (.nop, 0, 0, 0, 0), (.tableswitch 42 0 2 #[28, 33, 38], 28, 0, 0, 0), (.nop, 0, 0, 0, 0), (.nop, 0, 0, 0, 0), (.nop, 0, 0, 0, 0), (.nop, 0, 0, 0, 0), (.nop, 0, 0, 0, 0), (.nop, 0, 0, 0, 0), (.nop, 0, 0, 0, 0), (.nop, 0, 0, 0, 0), (.nop, 0, 0, 0, 0), (.nop, 0, 0, 0, 0), (.nop, 0, 0, 0, 0), (.nop, 0, 0, 0, 0), (.nop, 0, 0, 0, 0), (.nop, 0, 0, 0, 0), (.nop, 0, 0, 0, 0), (.nop, 0, 0, 0, 0), (.nop, 0, 0, 0, 0), (.nop, 0, 0, 0, 0), (.nop, 0, 0, 0, 0), (.nop, 0, 0, 0, 0), (.nop, 0, 0, 0, 0), (.nop, 0, 0, 0, 0), (.nop, 0, 0, 0, 0), (.nop, 0, 0, 0, 0), (.nop, 0, 0, 0, 0), (.nop, 0, 0, 0, 0), (.nop, 0, 0, 0, 0), (.lload_n 1, 1, 1, 0, 0), (.l2i, 1, 0, 0, 0), (.i2b, 1, 0, 0, 0), (.i2l, 1, 0, 0, 0), (.lreturn, 1, 0, 0, 0), (.lload_n 1, 1, 1, 0, 0), (.l2i, 1, 0, 0, 0), (.i2s, 1, 0, 0, 0), (.i2l, 1, 0, 0, 0), (.lreturn, 1, 0, 0, 0), (.lload_n 1, 1, 1, 0, 0), (.l2i, 1, 0, 0, 0), (.i2l, 1, 0, 0, 0), (.lreturn, 1, 0, 0, 0), (.lload_n 1, 1, 1, 0, 0), (.lreturn, 1, 0, 0, 0)]
abbrev mX6_lowestBits : Nat := 45
def qX7_init : List pmE := [(.aload_n 0, 1, 0, 0, 0), (.invokespecial 1, 3, 0, 1, 101), (.nop, 0, 0, 0, 0), (.nop, 0, 0, 0, 0), (.aload_n 0, 1, 0, 0, 0), (.new 7, 3, 3, 0, 102), (.nop, 0, 0, 0, 0), (.nop, 0, 0, 0, 0), (.dup, 1, 0, 0, 0), (.invokespecial 9, 3, 20, 0, 104), (.nop, 0, 0, 0, 0), (.nop, 0, 0, 0, 0), (.putfield 10, 3, 207, 0, 202), (.nop, 0, 0, 0, 0), (.nop, 0, 0, 0, 0), (.aload_n 0, 1, 0, 0, 0), (.new 16, 3, 0, 0, 139), (.nop, 0, 0, 0, 0), (.nop, 0, 0, 0, 0), (.dup, 1, 0, 0, 0), (.invokespecial 18, 3, 0, 0, 141), (.nop, 0, 0, 0, 0), (.nop, 0, 0, 0, 0), (.putfield 19, 3, 207, 1, 204), (.nop, 0, 0, 0, 0), (.nop, 0, 0, 0, 0), (.aload_n 0, 1, 0, 0, 0), (.new 23, 3, 1, 0, 183), (.nop, 0, 0, 0, 0), (.nop, 0, 0, 0, 0), (.dup, 1, 0, 0, 0), (.invokespecial 25, 3, 8, 0, 185), (.nop, 0, 0, 0, 0), (.nop, 0, 0, 0, 0), (.putfield 26, 3, 207, 2, 206), (.nop, 0, 0, 0, 0), (.nop, 0, 0, 0, 0), (.return_, 1, 0, 0, 0)]
abbrev mX7_init : Nat := 46
def qX7_begin : List pmE := [(.aload_n 0, 1, 0, 0, 0), (.getfield 10, 3, 7, 0, 202), (.nop, 0, 0, 0, 0), (.nop, 0, 0, 0, 0), (.getfield 30, 3, 3, 0, 129), (.nop, 0, 0, 0, 0), (.nop, 0, 0, 0, 0), (.invokevirtual 34, 3, 17, 0, 406), (.nop, 0, 0, 0, 0), (.nop, 0, 0, 0, 0), (.iconst 0, 1, 0, 0, 0), (.istore_n 3, 1, 3, 0, 0), (.iload_n 3, 1, 3, 0, 0), (.aload_n 1, 1, 1, 0, 0), (.invokevirtual 39, 3, 23, 0, 411), (.nop, 0, 0, 0, 0), (.nop, 0, 0, 0, 0), (.if_icmp .ge 25, 3, 42, 0, 0), (.nop, 0, 0, 0, 0), (.nop, 0, 0, 0, 0), (.aload_n 0, 1, 0, 0, 0), (.getfield 10, 3, 7, 0, 202), (.nop, 0, 0, 0, 0), (.nop, 0, 0, 0, 0), (.getfield 30, 3, 3, 0, 129), (.nop, 0, 0, 0, 0), (.nop, 0, 0, 0, 0), (.aload_n 1, 1, 1, 0, 0), (.iload_n 3, 1, 3, 0, 0), (.invokevirtual 45, 3, 25, 0, 412), (.nop, 0, 0, 0, 0), (.nop, 0, 0, 0, 0), (.iload_n 3, 1, 3, 0, 0), (.invokevirtual 49, 3, 18, 0, 413), (.nop, 0, 0, 0, 0), (.nop, 0, 0, 0, 0), (.iinc 3 1, 3, 3, 0, 0), (.nop, 0, 0, 0, 0), (.nop, 0, 0, 0, 0), (.goto (-27), 3, 12, 0, 0), (.nop, 0, 0, 0, 0), (.nop, 0, 0, 0, 0), (.aload_n 0, 1, 0, 0, 0), (.getfield 19, 3, 7, 1, 204), (.nop, 0, 0, 0, 0), (.nop, 0, 0, 0, 0), (.aload_n 2, 1, 2, 0, 0), (.invokevirtual 53, 3, 7, 0, 418), (.nop, 0, 0, 0, 0), (.nop, 0, 0, 0, 0), (.aload_n 0, 1, 0, 0, 0), (.getfield 10, 3, 7, 0, 202), (.nop, 0, 0, 0, 0), (.nop, 0, 0, 0, 0), (.aload_n 0, 1, 0, 0, 0), (.getfield 19, 3, 7, 1, 204), (.nop, 0, 0, 0, 0), (.nop, 0, 0, 0, 0), (.invokevirtual 57, 3, 3, 0, 437), (.nop, 0, 0, 0, 0), (.nop, 0, 0, 0, 0), (.putfield 60, 3, 3, 1, 132), (.nop, 0, 0, 0, 0), (.nop, 0, 0, 0, 0), (.aload_n 0, 1, 0, 0, 0), (.getfield 26, 3, 7, 2, 206), (.nop, 0, 0, 0, 0), (.nop, 0, 0, 0, 0), (.invokevirtual 64, 3, 10, 0, 441), (.nop, 0, 0, 0, 0), (.nop, 0, 0, 0, 0), (.return_, 1, 0, 0, 0)]
abbrev mX7_begin : Nat := 47
def qX7_addRule : List pmE := [(.aload_n 0, 1, 0, 0, 0), (.getfield 19, 3, 7, 1, 204), (.nop, 0, 0, 0, 0), (.nop, 0, 0, 0, 0), (.invokevirtual 65, 3, 6, 0, 460), (.nop, 0, 0, 0, 0), (.nop, 0, 0, 0, 0), (.ifCond .ne 5, 3, 12, 0, 0), (.nop, 0, 0, 0, 0), (.nop, 0, 0, 0, 0), (.iconst 0, 1, 0, 0, 0), (.ireturn, 1, 0, 0, 0), (.aload_n 0, 1, 0, 0, 0), (.getfield 19, 3, 7, 1, 204), (.nop, 0, 0, 0, 0), (.nop, 0, 0, 0, 0), (.invokevirtual 69, 3, 1, 0, 461), (.nop, 0, 0, 0, 0), (.nop, 0, 0, 0, 0), (.iconst 1, 1, 0, 0, 0), (.isub, 1, 0, 0, 0), (.istore_n 2, 1, 2, 0, 0), (.aload_n 0, 1, 0, 0, 0), (.getfield 19, 3, 7, 1, 204), (.nop, 0, 0, 0, 0), (.nop, 0, 0, 0, 0), (.iload_n 2, 1, 2, 0, 0), (.invokevirtual 70, 3, 4, 0, 462), (.nop, 0, 0, 0, 0), (.nop, 0, 0, 0, 0), (.aload_n 1, 1, 1, 0, 0), (.invokevirtual 73, 3, 35, 0, 463), (.nop, 0, 0, 0, 0), (.nop, 0, 0, 0, 0), (.aload_n 0, 1, 0, 0, 0), (.getfield 10, 3, 7, 0, 202), (.nop, 0, 0, 0, 0), (.nop, 0, 0, 0, 0), (.dup, 1, 0, 0, 0), (.getfield 60, 3, 3, 1, 132), (.nop, 0, 0, 0, 0), (.nop, 0, 0, 0, 0), (.iconst 1, 1, 0, 0, 0), (.iload_n 2, 1, 2, 0, 0), (.ishl, 1, 0, 0, 0), (.ior, 1, 0, 0, 0), (.putfield 60, 3, 3, 1, 132), (.nop, 0, 0, 0, 0), (.nop, 0, 0, 0, 0), (.aload_n 0, 1, 0, 0, 0), (.getfield 26, 3, 7, 2, 206), (.nop, 0, 0, 0, 0), (.nop, 0, 0, 0, 0), (.invokevirtual 64, 3, 10, 0, 441), (.nop, 0, 0, 0, 0), (.nop, 0, 0, 0, 0), (.iconst 1, 1, 0, 0, 0), (.ireturn, 1, 0, 0, 0)]
abbrev mX7_addRule : Nat := 48
def qX7_remember : List pmE := [(.aload_n 0, 1, 0, 0, 0), (.getfield 26, 3, 7, 2, 206), (.nop, 0, 0, 0, 0), (.nop, 0, 0, 0, 0), (.aload_n 0, 1, 0, 0, 0), (.getfield 10, 3, 7, 0, 202), (.nop, 0, 0, 0, 0), (.nop, 0, 0, 0, 0), (.invokevirtual 78, 3, 12, 0, 593), (.nop, 0, 0, 0, 0), (.nop, 0, 0, 0, 0), (.return_, 1, 0, 0, 0)]
abbrev mX7_remember : Nat := 49
def qX7_goBack : List pmE := [(.aload_n 0, 1, 0, 0, 0), (.getfield 26, 3, 7, 2, 206), (.nop, 0, 0, 0, 0), (.nop, 0, 0, 0, 0), (.aload_n 0, 1, 0, 0, 0), (.getfield 10, 3, 7, 0, 202), (.nop, 0, 0, 0, 0), (.nop, 0, 0, 0, 0), (.invokevirtual 81, 3, 13, 0, 662), (.nop, 0, 0, 0, 0), (.nop, 0, 0, 0, 0), (.ireturn, 1, 0, 0, 0)]
abbrev mX7_goBack : Nat := 50
def qX7_takeFrom : List pmE := [(.aload_n 0, 1, 0, 0, 0), (.getfield 10, 3, 7, 0, 202), (.nop, 0, 0, 0, 0), (.nop, 0, 0, 0, 0), (.aload_n 1, 1, 1, 0, 0), (.getfield 10, 3, 7, 0, 202), (.nop, 0, 0, 0, 0), (.nop, 0, 0, 0, 0), (.invokevirtual 85, 3, 21, 0, 741), (.nop, 0, 0, 0, 0), (.nop, 0, 0, 0, 0), (.aload_n 0, 1, 0, 0, 0), (.getfield 19, 3, 7, 1, 204), (.nop, 0, 0, 0, 0), (.nop, 0, 0, 0, 0), (.aload_n 1, 1, 1, 0, 0), (.getfield 19, 3, 7, 1, 204), (.nop, 0, 0, 0, 0), (.nop, 0, 0, 0, 0), (.invokevirtual 53, 3, 7, 0, 418), (.nop, 0, 0, 0, 0), (.nop, 0, 0, 0, 0), (.aload_n 0, 1, 0, 0, 0), (.getfield 26, 3, 7, 2, 206), (.nop, 0, 0, 0, 0), (.nop, 0, 0, 0, 0), (.aload_n 1, 1, 1, 0, 0), (.getfield 26, 3, 7, 2, 206), (.nop, 0, 0, 0, 0), (.nop, 0, 0, 0, 0), (.invokevirtual 87, 3, 14, 0, 742), (.nop, 0, 0, 0, 0), (.nop, 0, 0, 0, 0), (.return_, 1, 0, 0, 0)]
abbrev mX7_takeFrom : Nat := 51
def qX8_init : List pmE := [(.aload_n 0, 1, 0, 0, 0), (.invokespecial 3, 3, 0, 1, 70), (.nop, 0, 0, 0, 0), (.nop, 0, 0, 0, 0), (.aload_n 0, 1, 0, 0, 0), (.new 9, 3, 4, 0, 71), (.nop, 0, 0, 0, 0), (.nop, 0, 0, 0, 0), (.dup, 1, 0, 0, 0), (.sipush 150, 3, 0, 0, 0), (.nop, 0, 0, 0, 0), (.nop, 0, 0, 0, 0), (.invokespecial 11, 3, 22, 0, 73), (.nop, 0, 0, 0, 0), (.nop, 0, 0, 0, 0), (.putfield 14, 3, 208, 0, 88), (.nop, 0, 0, 0, 0), (.nop, 0, 0, 0, 0), (.aload_n 0, 1, 0, 0, 0), (.iconst 0, 1, 0, 0, 0), (.putfield 20, 3, 8, 1, 90), (.nop, 0, 0, 0, 0), (.nop, 0, 0, 0, 0), (.return_, 1, 0, 0, 0)]
abbrev mX8_init : Nat := 52
def qX8_rewind : List pmE := [(.aload_n 0, 1, 0, 0, 0), (.iconst 0, 1, 0, 0, 0), (.putfield 20, 3, 8, 1, 90), (.nop, 0, 0, 0, 0), (.nop, 0, 0, 0, 0), (.return_, 1, 0, 0, 0)]
abbrev mX8_rewind : Nat := 53
def qX8_next : List pmE := [(.aload_n 0, 1, 0, 0, 0), (.getfield 20, 3, 8, 1, 90), (.nop, 0, 0, 0, 0), (.nop, 0, 0, 0, 0), (.aload_n 0, 1, 0, 0, 0), (.getfield 14, 3, 8, 0, 88), (.nop, 0, 0, 0, 0), (.nop, 0, 0, 0, 0), (.invokevirtual 24, 3, 23, 0, 354), (.nop, 0, 0, 0, 0), (.nop, 0, 0, 0, 0), (.if_icmp .ge 32, 3, 43, 0, 0), (.nop, 0, 0, 0, 0), (.nop, 0, 0, 0, 0), (.aload_n 0, 1, 0, 0, 0), (.getfield 14, 3, 8, 0, 88), (.nop, 0, 0, 0, 0), (.nop, 0, 0, 0, 0), (.aload_n 0, 1, 0, 0, 0), (.getfield 20, 3, 8, 1, 90), (.nop, 0, 0, 0, 0), (.nop, 0, 0, 0, 0), (.invokevirtual 28, 3, 25, 0, 355), (.nop, 0, 0, 0, 0), (.nop, 0, 0, 0, 0), (.bipush 32, 2, 0, 0, 0), (.nop, 0, 0, 0, 0), (.if_icmp .ne 16, 3, 43, 0, 0), (.nop, 0, 0, 0, 0), (.nop, 0, 0, 0, 0), (.aload_n 0, 1, 0, 0, 0), (.dup, 1, 0, 0, 0), (.getfield 20, 3, 8, 1, 90), (.nop, 0, 0, 0, 0), (.nop, 0, 0, 0, 0), (.iconst 1, 1, 0, 0, 0), (.iadd, 1, 0, 0, 0), (.putfield 20, 3, 8, 1, 90), (.nop, 0, 0, 0, 0), (.nop, 0, 0, 0, 0), (.goto (-40), 3, 0, 0, 0), (.nop, 0, 0, 0, 0), (.nop, 0, 0, 0, 0), (.aload_n 0, 1, 0, 0, 0), (.getfield 20, 3, 8, 1, 90), (.nop, 0, 0, 0, 0), (.nop, 0, 0, 0, 0), (.aload_n 0, 1, 0, 0, 0), (.getfield 14, 3, 8, 0, 88), (.nop, 0, 0, 0, 0), (.nop, 0, 0, 0, 0), (.invokevirtual 24, 3, 23, 0, 354), (.nop, 0, 0, 0, 0), (.nop, 0, 0, 0, 0), (.if_icmp .ge 17, 3, 71, 0, 0), (.nop, 0, 0, 0, 0), (.nop, 0, 0, 0, 0), (.aload_n 0, 1, 0, 0, 0), (.getfield 14, 3, 8, 0, 88), (.nop, 0, 0, 0, 0), (.nop, 0, 0, 0, 0), (.aload_n 0, 1, 0, 0, 0), (.getfield 20, 3, 8, 1, 90), (.nop, 0, 0, 0, 0), (.nop, 0, 0, 0, 0), (.invokevirtual 28, 3, 25, 0, 355), (.nop, 0, 0, 0, 0), (.nop, 0, 0, 0, 0), (.goto 4, 3, 72, 0, 0), (.nop, 0, 0, 0, 0), (.nop, 0, 0, 0, 0), (.iconst (-1), 1, 0, 0, 0), (.ireturn, 1, 0, 0, 0)]
abbrev mX8_next : Nat := 54
def qX8_takes : List pmE := [(.aload_n 0, 1, 0, 0, 0), (.invokevirtual 32, 3, 54, 0, 350), (.nop, 0, 0, 0, 0), (.nop, 0, 0, 0, 0), (.iload_n 1, 1, 1, 0, 0), (.if_icmp .eq 5, 3, 10, 0, 0), (.nop, 0, 0, 0, 0), (.nop, 0, 0, 0, 0), (.iconst 0, 1, 0, 0, 0), (.ireturn, 1, 0, 0, 0), (.aload_n 0, 1, 0, 0, 0), (.dup, 1, 0, 0, 0), (.getfield 20, 3, 8, 1, 90), (.nop, 0, 0, 0, 0), (.nop, 0, 0, 0, 0), (.iconst 1, 1, 0, 0, 0), (.iadd, 1, 0, 0, 0), (.putfield 20, 3, 8, 1, 90), (.nop, 0, 0, 0, 0), (.nop, 0, 0, 0, 0), (.iconst 1, 1, 0, 0, 0), (.ireturn, 1, 0, 0, 0)]
abbrev mX8_takes : Nat := 55
def qX8_fault : List pmE := [(.aload_n 0, 1, 0, 0, 0), (.invokevirtual 32, 3, 54, 0, 350), (.nop, 0, 0, 0, 0), (.nop, 0, 0, 0, 0), (.pop, 1, 0, 0, 0), (.bipush (-20), 2, 0, 0, 0), (.nop, 0, 0, 0, 0), (.aload_n 0, 1, 0, 0, 0), (.getfield 20, 3, 8, 1, 90), (.nop, 0, 0, 0, 0), (.nop, 0, 0, 0, 0), (.isub, 1, 0, 0, 0), (.ireturn, 1, 0, 0, 0)]
abbrev mX8_fault : Nat := 56
def qX8_readLetters : List pmE := [(.aload_n 1, 1, 1, 0, 0), (.invokevirtual 35, 3, 29, 0, 342), (.nop, 0, 0, 0, 0), (.nop, 0, 0, 0, 0), (.iconst 0, 1, 0, 0, 0), (.istore_n 2, 1, 2, 0, 0), (.iload_n 2, 1, 2, 0, 0), (.aload_n 1, 1, 1, 0, 0), (.invokevirtual 38, 3, 24, 0, 346), (.nop, 0, 0, 0, 0), (.nop, 0, 0, 0, 0), (.if_icmp .ge 38, 3, 49, 0, 0), (.nop, 0, 0, 0, 0), (.nop, 0, 0, 0, 0), (.aload_n 0, 1, 0, 0, 0), (.invokevirtual 32, 3, 54, 0, 350), (.nop, 0, 0, 0, 0), (.nop, 0, 0, 0, 0), (.invokestatic 41, 3, 117, 0, 359), (.nop, 0, 0, 0, 0), (.nop, 0, 0, 0, 0), (.ifCond .eq 28, 3, 49, 0, 0), (.nop, 0, 0, 0, 0), (.nop, 0, 0, 0, 0), (.aload_n 1, 1, 1, 0, 0), (.aload_n 0, 1, 0, 0, 0), (.invokevirtual 32, 3, 54, 0, 350), (.nop, 0, 0, 0, 0), (.nop, 0, 0, 0, 0), (.invokevirtual 45, 3, 28, 0, 365), (.nop, 0, 0, 0, 0), (.nop, 0, 0, 0, 0), (.pop, 1, 0, 0, 0), (.aload_n 0, 1, 0, 0, 0), (.dup, 1, 0, 0, 0), (.getfield 20, 3, 8, 1, 90), (.nop, 0, 0, 0, 0), (.nop, 0, 0, 0, 0), (.iconst 1, 1, 0, 0, 0), (.iadd, 1, 0, 0, 0), (.putfield 20, 3, 8, 1, 90), (.nop, 0, 0, 0, 0), (.nop, 0, 0, 0, 0), (.iinc 2 1, 3, 2, 0, 0), (.nop, 0, 0, 0, 0), (.nop, 0, 0, 0, 0), (.goto (-40), 3, 6, 0, 0), (.nop, 0, 0, 0, 0), (.nop, 0, 0, 0, 0), (.return_, 1, 0, 0, 0)]
abbrev mX8_readLetters : Nat := 57
def qX8_readRule : List pmE := [(.aload_n 0, 1, 0, 0, 0), (.invokevirtual 32, 3, 54, 0, 350), (.nop, 0, 0, 0, 0), (.nop, 0, 0, 0, 0), (.invokestatic 48, 3, 60, 0, 389), (.nop, 0, 0, 0, 0), (.nop, 0, 0, 0, 0), (.istore_n 2, 1, 2, 0, 0), (.iload_n 2, 1, 2, 0, 0), (.bipush (-4), 2, 0, 0, 0), (.nop, 0, 0, 0, 0), (.if_icmp .ne 5, 3, 16, 0, 0), (.nop, 0, 0, 0, 0), (.nop, 0, 0, 0, 0), (.iconst 0, 1, 0, 0, 0), (.ireturn, 1, 0, 0, 0), (.aload_n 0, 1, 0, 0, 0), (.dup, 1, 0, 0, 0), (.getfield 20, 3, 8, 1, 90), (.nop, 0, 0, 0, 0), (.nop, 0, 0, 0, 0), (.iconst 1, 1, 0, 0, 0), (.iadd, 1, 0, 0, 0), (.putfield 20, 3, 8, 1, 90), (.nop, 0, 0, 0, 0), (.nop, 0, 0, 0, 0), (.aload_n 1, 1, 1, 0, 0), (.iload_n 2, 1, 2, 0, 0), (.putfield 51, 3, 5, 0, 157), (.nop, 0, 0, 0, 0), (.nop, 0, 0, 0, 0), (.aload_n 0, 1, 0, 0, 0), (.bipush 58, 2, 0, 0, 0), (.nop, 0, 0, 0, 0), (.invokevirtual 56, 3, 55, 0, 374), (.nop, 0, 0, 0, 0), (.nop, 0, 0, 0, 0), (.ifCond .ne 5, 3, 42, 0, 0), (.nop, 0, 0, 0, 0), (.nop, 0, 0, 0, 0), (.iconst 0, 1, 0, 0, 0), (.ireturn, 1, 0, 0, 0), (.aload_n 0, 1, 0, 0, 0), (.aload_n 1, 1, 1, 0, 0), (.getfield 59, 3, 5, 1, 161), (.nop, 0, 0, 0, 0), (.nop, 0, 0, 0, 0), (.invokevirtual 62, 3, 57, 0, 392), (.nop, 0, 0, 0, 0), (.nop, 0, 0, 0, 0), (.aload_n 1, 1, 1, 0, 0), (.getfield 59, 3, 5, 1, 161), (.nop, 0, 0, 0, 0), (.nop, 0, 0, 0, 0), (.invokevirtual 24, 3, 23, 0, 354), (.nop, 0, 0, 0, 0), (.nop, 0, 0, 0, 0), (.ifCond .eq 12, 3, 69, 0, 0), (.nop, 0, 0, 0, 0), (.nop, 0, 0, 0, 0), (.aload_n 0, 1, 0, 0, 0), (.bipush 61, 2, 0, 0, 0), (.nop, 0, 0, 0, 0), (.invokevirtual 56, 3, 55, 0, 374), (.nop, 0, 0, 0, 0), (.nop, 0, 0, 0, 0), (.ifCond .ne 5, 3, 71, 0, 0), (.nop, 0, 0, 0, 0), (.nop, 0, 0, 0, 0), (.iconst 0, 1, 0, 0, 0), (.ireturn, 1, 0, 0, 0), (.aload_n 0, 1, 0, 0, 0), (.aload_n 1, 1, 1, 0, 0), (.getfield 66, 3, 5, 2, 164), (.nop, 0, 0, 0, 0), (.nop, 0, 0, 0, 0), (.invokevirtual 62, 3, 57, 0, 392), (.nop, 0, 0, 0, 0), (.nop, 0, 0, 0, 0), (.iconst 1, 1, 0, 0, 0), (.ireturn, 1, 0, 0, 0)]
abbrev mX8_readRule : Nat := 58
def qX8_readRules : List pmE := [(.aload_n 1, 1, 1, 0, 0), (.invokevirtual 69, 3, 5, 0, 370), (.nop, 0, 0, 0, 0), (.nop, 0, 0, 0, 0), (.iconst 0, 1, 0, 0, 0), (.istore_n 2, 1, 2, 0, 0), (.iload_n 2, 1, 2, 0, 0), (.bipush 10, 2, 0, 0, 0), (.nop, 0, 0, 0, 0), (.if_icmp .ge 39, 3, 48, 0, 0), (.nop, 0, 0, 0, 0), (.nop, 0, 0, 0, 0), (.aload_n 0, 1, 0, 0, 0), (.bipush 59, 2, 0, 0, 0), (.nop, 0, 0, 0, 0), (.invokevirtual 56, 3, 55, 0, 374), (.nop, 0, 0, 0, 0), (.nop, 0, 0, 0, 0), (.ifCond .eq 30, 3, 48, 0, 0), (.nop, 0, 0, 0, 0), (.nop, 0, 0, 0, 0), (.aload_n 0, 1, 0, 0, 0), (.aload_n 1, 1, 1, 0, 0), (.iload_n 2, 1, 2, 0, 0), (.invokevirtual 72, 3, 4, 0, 378), (.nop, 0, 0, 0, 0), (.nop, 0, 0, 0, 0), (.invokevirtual 75, 3, 58, 0, 385), (.nop, 0, 0, 0, 0), (.nop, 0, 0, 0, 0), (.ifCond .eq 10, 3, 40, 0, 0), (.nop, 0, 0, 0, 0), (.nop, 0, 0, 0, 0), (.aload_n 1, 1, 1, 0, 0), (.invokevirtual 79, 3, 6, 0, 393), (.nop, 0, 0, 0, 0), (.nop, 0, 0, 0, 0), (.ifCond .ne 5, 3, 42, 0, 0), (.nop, 0, 0, 0, 0), (.nop, 0, 0, 0, 0), (.iconst 0, 1, 0, 0, 0), (.ireturn, 1, 0, 0, 0), (.iinc 2 1, 3, 2, 0, 0), (.nop, 0, 0, 0, 0), (.nop, 0, 0, 0, 0), (.goto (-39), 3, 6, 0, 0), (.nop, 0, 0, 0, 0), (.nop, 0, 0, 0, 0), (.aload_n 0, 1, 0, 0, 0), (.invokevirtual 32, 3, 54, 0, 350), (.nop, 0, 0, 0, 0), (.nop, 0, 0, 0, 0), (.iconst (-1), 1, 0, 0, 0), (.if_icmp .ne 7, 3, 60, 0, 0), (.nop, 0, 0, 0, 0), (.nop, 0, 0, 0, 0), (.iconst 1, 1, 0, 0, 0), (.goto 4, 3, 61, 0, 0), (.nop, 0, 0, 0, 0), (.nop, 0, 0, 0, 0), (.iconst 0, 1, 0, 0, 0), (.ireturn, 1, 0, 0, 0)]
abbrev mX8_readRules : Nat := 59
def qX8_kindOf : List pmE := [(.iload_n 0, 1, 0, 0, 0), (.lookupswitch 61 #[(102, 55), (111, 59), (112, 51), (116, 57), (119, 53)], 51, 0, 0, 0), (.nop, 0, 0, 0, 0), (.nop, 0, 0, 0, 0), (.nop, 0, 0, 0, 0), (.nop, 0, 0, 0, 0), (.nop, 0, 0, 0, 0), (.nop, 0, 0, 0, 0), (.nop, 0, 0, 0, 0), (.nop, 0, 0, 0, 0), (.nop, 0, 0, 0, 0), (.nop, 0, 0, 0, 0), (.nop, 0, 0, 0, 0), (.nop, 0, 0, 0, 0), (.nop, 0, 0, 0, 0), (.nop, 0, 0, 0, 0), (.nop, 0, 0, 0, 0), (.nop, 0, 0, 0, 0), (.nop, 0, 0, 0, 0), (.nop, 0, 0, 0, 0), (.nop, 0, 0, 0, 0), (.nop, 0, 0, 0, 0), (.nop, 0, 0, 0, 0), (.nop, 0, 0, 0, 0), (.nop, 0, 0, 0, 0), (.nop, 0, 0, 0, 0), (.nop, 0, 0, 0, 0), (.nop, 0, 0, 0, 0), (.nop, 0, 0, 0, 0), (.nop, 0, 0, 0, 0), (.nop, 0, 0, 0, 0), (.nop, 0, 0, 0, 0), (.nop, 0, 0, 0, 0), (.nop, 0, 0, 0, 0), (.nop, 0, 0, 0, 0), (.nop, 0, 0, 0, 0), (.nop, 0, 0, 0, 0), (.nop, 0, 0, 0, 0), (.nop, 0, 0, 0, 0), (.nop, 0, 0, 0, 0), (.nop, 0, 0, 0, 0), (.nop, 0, 0, 0, 0), (.nop, 0, 0, 0, 0), (.nop, 0, 0, 0, 0), (.nop, 0, 0, 0, 0), (.nop, 0, 0, 0, 0), (.nop, 0, 0, 0, 0), (.nop, 0, 0, 0, 0), (.nop, 0, 0, 0, 0), (.nop, 0, 0, 0, 0), (.nop, 0, 0, 0, 0), (.nop, 0, 0, 0, 0), (.iconst 0, 1, 0, 0, 0), (.ireturn, 1, 0, 0, 0), (.iconst 1, 1, 0, 0, 0), (.ireturn, 1, 0, 0, 0), (.iconst 2, 1, 0, 0, 0), (.ireturn, 1, 0, 0, 0), (.iconst 3, 1, 0, 0, 0), (.ireturn, 1, 0, 0, 0), (.iconst 4, 1, 0, 0, 0), (.ireturn, 1, 0, 0, 0), (.bipush (-4), 2, 0, 0, 0), (.nop, 0, 0, 0, 0), (.ireturn, 1, 0, 0, 0)]
abbrev mX8_kindOf : Nat := 60
def qX9_init : List pmE := [(.aload_n 0, 1, 0, 0, 0), (.invokespecial 3, 3, 0, 1, 224), (.nop, 0, 0, 0, 0), (.nop, 0, 0, 0, 0), (.aload_n 0, 1, 0, 0, 0), (.new 9, 3, 4, 0, 225), (.nop, 0, 0, 0, 0), (.nop, 0, 0, 0, 0), (.dup, 1, 0, 0, 0), (.bipush 10, 2, 0, 0, 0), (.nop, 0, 0, 0, 0), (.invokespecial 11, 3, 22, 0, 226), (.nop, 0, 0, 0, 0), (.nop, 0, 0, 0, 0), (.putfield 14, 3, 209, 1, 230), (.nop, 0, 0, 0, 0), (.nop, 0, 0, 0, 0), (.aload_n 0, 1, 0, 0, 0), (.new 9, 3, 4, 0, 225), (.nop, 0, 0, 0, 0), (.nop, 0, 0, 0, 0), (.dup, 1, 0, 0, 0), (.bipush 10, 2, 0, 0, 0), (.nop, 0, 0, 0, 0), (.invokespecial 11, 3, 22, 0, 226), (.nop, 0, 0, 0, 0), (.nop, 0, 0, 0, 0), (.putfield 20, 3, 209, 2, 231), (.nop, 0, 0, 0, 0), (.nop, 0, 0, 0, 0), (.aload_n 0, 1, 0, 0, 0), (.new 9, 3, 4, 0, 225), (.nop, 0, 0, 0, 0), (.nop, 0, 0, 0, 0), (.dup, 1, 0, 0, 0), (.bipush 60, 2, 0, 0, 0), (.nop, 0, 0, 0, 0), (.invokespecial 11, 3, 22, 0, 226), (.nop, 0, 0, 0, 0), (.nop, 0, 0, 0, 0), (.putfield 23, 3, 209, 3, 232), (.nop, 0, 0, 0, 0), (.nop, 0, 0, 0, 0), (.aload_n 0, 1, 0, 0, 0), (.new 9, 3, 4, 0, 225), (.nop, 0, 0, 0, 0), (.nop, 0, 0, 0, 0), (.dup, 1, 0, 0, 0), (.bipush 60, 2, 0, 0, 0), (.nop, 0, 0, 0, 0), (.invokespecial 11, 3, 22, 0, 226), (.nop, 0, 0, 0, 0), (.nop, 0, 0, 0, 0), (.putfield 26, 3, 209, 4, 233), (.nop, 0, 0, 0, 0), (.nop, 0, 0, 0, 0), (.aload_n 0, 1, 0, 0, 0), (.new 9, 3, 4, 0, 225), (.nop, 0, 0, 0, 0), (.nop, 0, 0, 0, 0), (.dup, 1, 0, 0, 0), (.bipush 10, 2, 0, 0, 0), (.nop, 0, 0, 0, 0), (.invokespecial 11, 3, 22, 0, 226), (.nop, 0, 0, 0, 0), (.nop, 0, 0, 0, 0), (.putfield 29, 3, 209, 5, 235), (.nop, 0, 0, 0, 0), (.nop, 0, 0, 0, 0), (.aload_n 0, 1, 0, 0, 0), (.new 32, 3, 2, 0, 227), (.nop, 0, 0, 0, 0), (.nop, 0, 0, 0, 0), (.dup, 1, 0, 0, 0), (.sipush 360, 3, 0, 0, 0), (.nop, 0, 0, 0, 0), (.nop, 0, 0, 0, 0), (.invokespecial 34, 3, 15, 0, 228), (.nop, 0, 0, 0, 0), (.nop, 0, 0, 0, 0), (.putfield 35, 3, 209, 6, 237), (.nop, 0, 0, 0, 0), (.nop, 0, 0, 0, 0), (.aload_n 0, 1, 0, 0, 0), (.aload_n 1, 1, 1, 0, 0), (.putfield 39, 3, 209, 0, 229), (.nop, 0, 0, 0, 0), (.nop, 0, 0, 0, 0), (.return_, 1, 0, 0, 0)]
abbrev mX9_init : Nat := 61
def qX9_prepare : List pmE := [(.aload_n 0, 1, 0, 0, 0), (.invokevirtual 43, 3, 64, 0, 484), (.nop, 0, 0, 0, 0), (.nop, 0, 0, 0, 0), (.aload_n 0, 1, 0, 0, 0), (.invokevirtual 46, 3, 65, 0, 493), (.nop, 0, 0, 0, 0), (.nop, 0, 0, 0, 0), (.aload_n 0, 1, 0, 0, 0), (.aload_n 1, 1, 1, 0, 0), (.invokevirtual 49, 3, 66, 0, 497), (.nop, 0, 0, 0, 0), (.nop, 0, 0, 0, 0), (.return_, 1, 0, 0, 0)]
abbrev mX9_prepare : Nat := 62
def qX9_prepareAs : List pmE := [(.aload_n 0, 1, 0, 0, 0), (.invokevirtual 43, 3, 64, 0, 484), (.nop, 0, 0, 0, 0), (.nop, 0, 0, 0, 0), (.aload_n 0, 1, 0, 0, 0), (.invokevirtual 46, 3, 65, 0, 493), (.nop, 0, 0, 0, 0), (.nop, 0, 0, 0, 0), (.aload_n 0, 1, 0, 0, 0), (.getfield 20, 3, 9, 2, 231), (.nop, 0, 0, 0, 0), (.nop, 0, 0, 0, 0), (.iload_n 2, 1, 2, 0, 0), (.iload_n 3, 1, 3, 0, 0), (.invokevirtual 53, 3, 26, 0, 542), (.nop, 0, 0, 0, 0), (.nop, 0, 0, 0, 0), (.aload_n 0, 1, 0, 0, 0), (.aload_n 1, 1, 1, 0, 0), (.invokevirtual 49, 3, 66, 0, 497), (.nop, 0, 0, 0, 0), (.nop, 0, 0, 0, 0), (.return_, 1, 0, 0, 0)]
abbrev mX9_prepareAs : Nat := 63
def qX9_putInOrder : List pmE := [(.aload_n 0, 1, 0, 0, 0), (.getfield 14, 3, 9, 1, 230), (.nop, 0, 0, 0, 0), (.nop, 0, 0, 0, 0), (.invokevirtual 57, 3, 29, 0, 488), (.nop, 0, 0, 0, 0), (.nop, 0, 0, 0, 0), (.bipush 6, 2, 0, 0, 0), (.nop, 0, 0, 0, 0), (.istore_n 1, 1, 1, 0, 0), (.iload_n 1, 1, 1, 0, 0), (.ifCond .le 55, 3, 66, 0, 0), (.nop, 0, 0, 0, 0), (.nop, 0, 0, 0, 0), (.iconst 0, 1, 0, 0, 0), (.istore_n 2, 1, 2, 0, 0), (.iload_n 2, 1, 2, 0, 0), (.aload_n 0, 1, 0, 0, 0), (.getfield 39, 3, 9, 0, 229), (.nop, 0, 0, 0, 0), (.nop, 0, 0, 0, 0), (.invokevirtual 60, 3, 1, 0, 489), (.nop, 0, 0, 0, 0), (.nop, 0, 0, 0, 0), (.if_icmp .ge 36, 3, 60, 0, 0), (.nop, 0, 0, 0, 0), (.nop, 0, 0, 0, 0), (.aload_n 0, 1, 0, 0, 0), (.getfield 39, 3, 9, 0, 229), (.nop, 0, 0, 0, 0), (.nop, 0, 0, 0, 0), (.iload_n 2, 1, 2, 0, 0), (.invokevirtual 66, 3, 4, 0, 490), (.nop, 0, 0, 0, 0), (.nop, 0, 0, 0, 0), (.getfield 70, 3, 5, 1, 159), (.nop, 0, 0, 0, 0), (.nop, 0, 0, 0, 0), (.invokevirtual 75, 3, 23, 0, 491), (.nop, 0, 0, 0, 0), (.nop, 0, 0, 0, 0), (.iload_n 1, 1, 1, 0, 0), (.if_icmp .ne 12, 3, 54, 0, 0), (.nop, 0, 0, 0, 0), (.nop, 0, 0, 0, 0), (.aload_n 0, 1, 0, 0, 0), (.getfield 14, 3, 9, 1, 230), (.nop, 0, 0, 0, 0), (.nop, 0, 0, 0, 0), (.iload_n 2, 1, 2, 0, 0), (.invokevirtual 76, 3, 28, 0, 492), (.nop, 0, 0, 0, 0), (.nop, 0, 0, 0, 0), (.pop, 1, 0, 0, 0), (.iinc 2 1, 3, 2, 0, 0), (.nop, 0, 0, 0, 0), (.nop, 0, 0, 0, 0), (.goto (-41), 3, 16, 0, 0), (.nop, 0, 0, 0, 0), (.nop, 0, 0, 0, 0), (.iinc 1 (-1), 3, 1, 0, 0), (.nop, 0, 0, 0, 0), (.nop, 0, 0, 0, 0), (.goto (-53), 3, 10, 0, 0), (.nop, 0, 0, 0, 0), (.nop, 0, 0, 0, 0), (.return_, 1, 0, 0, 0)]
abbrev mX9_putInOrder : Nat := 64
def qX9_takeKinds : List pmE := [(.aload_n 0, 1, 0, 0, 0), (.getfield 20, 3, 9, 2, 231), (.nop, 0, 0, 0, 0), (.nop, 0, 0, 0, 0), (.invokevirtual 57, 3, 29, 0, 488), (.nop, 0, 0, 0, 0), (.nop, 0, 0, 0, 0), (.iconst 0, 1, 0, 0, 0), (.istore_n 1, 1, 1, 0, 0), (.iload_n 1, 1, 1, 0, 0), (.aload_n 0, 1, 0, 0, 0), (.getfield 39, 3, 9, 0, 229), (.nop, 0, 0, 0, 0), (.nop, 0, 0, 0, 0), (.invokevirtual 60, 3, 1, 0, 489), (.nop, 0, 0, 0, 0), (.nop, 0, 0, 0, 0), (.if_icmp .ge 28, 3, 45, 0, 0), (.nop, 0, 0, 0, 0), (.nop, 0, 0, 0, 0), (.aload_n 0, 1, 0, 0, 0), (.getfield 20, 3, 9, 2, 231), (.nop, 0, 0, 0, 0), (.nop, 0, 0, 0, 0), (.aload_n 0, 1, 0, 0, 0), (.getfield 39, 3, 9, 0, 229), (.nop, 0, 0, 0, 0), (.nop, 0, 0, 0, 0), (.iload_n 1, 1, 1, 0, 0), (.invokevirtual 66, 3, 4, 0, 490), (.nop, 0, 0, 0, 0), (.nop, 0, 0, 0, 0), (.getfield 80, 3, 5, 0, 155), (.nop, 0, 0, 0, 0), (.nop, 0, 0, 0, 0), (.invokevirtual 76, 3, 28, 0, 492), (.nop, 0, 0, 0, 0), (.nop, 0, 0, 0, 0), (.pop, 1, 0, 0, 0), (.iinc 1 1, 3, 1, 0, 0), (.nop, 0, 0, 0, 0), (.nop, 0, 0, 0, 0), (.goto (-33), 3, 9, 0, 0), (.nop, 0, 0, 0, 0), (.nop, 0, 0, 0, 0), (.return_, 1, 0, 0, 0)]
abbrev mX9_takeKinds : Nat := 65
def qX9_findStanding : List pmE := [(.aload_n 0, 1, 0, 0, 0), (.getfield 23, 3, 9, 3, 232), (.nop, 0, 0, 0, 0), (.nop, 0, 0, 0, 0), (.invokevirtual 57, 3, 29, 0, 488), (.nop, 0, 0, 0, 0), (.nop, 0, 0, 0, 0), (.iconst 0, 1, 0, 0, 0), (.istore_n 2, 1, 2, 0, 0), (.iload_n 2, 1, 2, 0, 0), (.aload_n 1, 1, 1, 0, 0), (.invokevirtual 84, 3, 16, 0, 501), (.nop, 0, 0, 0, 0), (.nop, 0, 0, 0, 0), (.if_icmp .ge 80, 3, 94, 0, 0), (.nop, 0, 0, 0, 0), (.nop, 0, 0, 0, 0), (.iconst 0, 1, 0, 0, 0), (.istore_n 3, 1, 3, 0, 0), (.iconst 0, 1, 0, 0, 0), (.istore 4, 2, 4, 0, 0), (.nop, 0, 0, 0, 0), (.iload 4, 2, 4, 0, 0), (.nop, 0, 0, 0, 0), (.aload_n 0, 1, 0, 0, 0), (.getfield 39, 3, 9, 0, 229), (.nop, 0, 0, 0, 0), (.nop, 0, 0, 0, 0), (.invokevirtual 60, 3, 1, 0, 489), (.nop, 0, 0, 0, 0), (.nop, 0, 0, 0, 0), (.if_icmp .ge 48, 3, 79, 0, 0), (.nop, 0, 0, 0, 0), (.nop, 0, 0, 0, 0), (.aload_n 0, 1, 0, 0, 0), (.getfield 39, 3, 9, 0, 229), (.nop, 0, 0, 0, 0), (.nop, 0, 0, 0, 0), (.iload 4, 2, 4, 0, 0), (.nop, 0, 0, 0, 0), (.invokevirtual 66, 3, 4, 0, 490), (.nop, 0, 0, 0, 0), (.nop, 0, 0, 0, 0), (.aload_n 1, 1, 1, 0, 0), (.iload_n 2, 1, 2, 0, 0), (.aload_n 0, 1, 0, 0, 0), (.getfield 20, 3, 9, 2, 231), (.nop, 0, 0, 0, 0), (.nop, 0, 0, 0, 0), (.iload 4, 2, 4, 0, 0), (.nop, 0, 0, 0, 0), (.invokevirtual 85, 3, 25, 0, 506), (.nop, 0, 0, 0, 0), (.nop, 0, 0, 0, 0), (.aload_n 1, 1, 1, 0, 0), (.invokevirtual 84, 3, 16, 0, 501), (.nop, 0, 0, 0, 0), (.nop, 0, 0, 0, 0), (.iconst 0, 1, 0, 0, 0), (.invokevirtual 88, 3, 37, 0, 507), (.nop, 0, 0, 0, 0), (.nop, 0, 0, 0, 0), (.iconst 1, 1, 0, 0, 0), (.if_icmp .ne 10, 3, 73, 0, 0), (.nop, 0, 0, 0, 0), (.nop, 0, 0, 0, 0), (.iload_n 3, 1, 3, 0, 0), (.iconst 1, 1, 0, 0, 0), (.iload 4, 2, 4, 0, 0), (.nop, 0, 0, 0, 0), (.ishl, 1, 0, 0, 0), (.ior, 1, 0, 0, 0), (.istore_n 3, 1, 3, 0, 0), (.iinc 4 1, 3, 4, 0, 0), (.nop, 0, 0, 0, 0), (.nop, 0, 0, 0, 0), (.goto (-54), 3, 22, 0, 0), (.nop, 0, 0, 0, 0), (.nop, 0, 0, 0, 0), (.aload_n 0, 1, 0, 0, 0), (.getfield 23, 3, 9, 3, 232), (.nop, 0, 0, 0, 0), (.nop, 0, 0, 0, 0), (.iload_n 3, 1, 3, 0, 0), (.invokevirtual 76, 3, 28, 0, 492), (.nop, 0, 0, 0, 0), (.nop, 0, 0, 0, 0), (.pop, 1, 0, 0, 0), (.iinc 2 1, 3, 2, 0, 0), (.nop, 0, 0, 0, 0), (.nop, 0, 0, 0, 0), (.goto (-82), 3, 9, 0, 0), (.nop, 0, 0, 0, 0), (.nop, 0, 0, 0, 0), (.return_, 1, 0, 0, 0)]
abbrev mX9_findStanding : Nat := 66
def qX9_standing : List pmE := [(.iconst 0, 1, 0, 0, 0), (.istore_n 1, 1, 1, 0, 0), (.iconst 0, 1, 0, 0, 0), (.istore_n 2, 1, 2, 0, 0), (.iload_n 2, 1, 2, 0, 0), (.aload_n 0, 1, 0, 0, 0), (.getfield 23, 3, 9, 3, 232), (.nop, 0, 0, 0, 0), (.nop, 0, 0, 0, 0), (.invokevirtual 75, 3, 23, 0, 491), (.nop, 0, 0, 0, 0), (.nop, 0, 0, 0, 0), (.if_icmp .ge 20, 3, 32, 0, 0), (.nop, 0, 0, 0, 0), (.nop, 0, 0, 0, 0), (.iload_n 1, 1, 1, 0, 0), (.aload_n 0, 1, 0, 0, 0), (.getfield 23, 3, 9, 3, 232), (.nop, 0, 0, 0, 0), (.nop, 0, 0, 0, 0), (.iload_n 2, 1, 2, 0, 0), (.invokevirtual 85, 3, 25, 0, 506), (.nop, 0, 0, 0, 0), (.nop, 0, 0, 0, 0), (.ior, 1, 0, 0, 0), (.istore_n 1, 1, 1, 0, 0), (.iinc 2 1, 3, 2, 0, 0), (.nop, 0, 0, 0, 0), (.nop, 0, 0, 0, 0), (.goto (-25), 3, 4, 0, 0), (.nop, 0, 0, 0, 0), (.nop, 0, 0, 0, 0), (.iload_n 1, 1, 1, 0, 0), (.ireturn, 1, 0, 0, 0)]
abbrev mX9_standing : Nat := 67
def qX9_go_0 : List pmE := [(.aload_n 0, 1, 0, 0, 0), (.getfield 35, 3, 9, 6, 237), (.nop, 0, 0, 0, 0), (.nop, 0, 0, 0, 0), (.invokevirtual 92, 3, 17, 0, 522), (.nop, 0, 0, 0, 0), (.nop, 0, 0, 0, 0), (.aload_n 0, 1, 0, 0, 0), (.getfield 26, 3, 9, 4, 233), (.nop, 0, 0, 0, 0), (.nop, 0, 0, 0, 0), (.aload_n 1, 1, 1, 0, 0), (.invokevirtual 84, 3, 16, 0, 501), (.nop, 0, 0, 0, 0), (.nop, 0, 0, 0, 0), (.bipush (-4), 2, 0, 0, 0), (.nop, 0, 0, 0, 0), (.invokevirtual 93, 3, 30, 0, 523), (.nop, 0, 0, 0, 0), (.nop, 0, 0, 0, 0), (.aload_n 0, 1, 0, 0, 0), (.getfield 29, 3, 9, 5, 235), (.nop, 0, 0, 0, 0), (.nop, 0, 0, 0, 0), (.aload_n 0, 1, 0, 0, 0), (.getfield 39, 3, 9, 0, 229), (.nop, 0, 0, 0, 0), (.nop, 0, 0, 0, 0), (.invokevirtual 60, 3, 1, 0, 489), (.nop, 0, 0, 0, 0), (.nop, 0, 0, 0, 0), (.iconst 0, 1, 0, 0, 0), (.invokevirtual 93, 3, 30, 0, 523), (.nop, 0, 0, 0, 0), (.nop, 0, 0, 0, 0), (.iload_n 2, 1, 2, 0, 0), (.istore_n 3, 1, 3, 0, 0), (.iconst 0, 1, 0, 0, 0), (.istore 4, 2, 4, 0, 0), (.nop, 0, 0, 0, 0), (.iconst 0, 1, 0, 0, 0), (.istore 5, 2, 5, 0, 0), (.nop, 0, 0, 0, 0), (.iload 5, 2, 5, 0, 0), (.nop, 0, 0, 0, 0), (.aload_n 1, 1, 1, 0, 0), (.invokevirtual 84, 3, 16, 0, 501), (.nop, 0, 0, 0, 0), (.nop, 0, 0, 0, 0), (.if_icmp .ge 117, 3, 166, 0, 0), (.nop, 0, 0, 0, 0), (.nop, 0, 0, 0, 0), (.iload 4, 2, 4, 0, 0), (.nop, 0, 0, 0, 0), (.aload_n 1, 1, 1, 0, 0), (.invokevirtual 84, 3, 16, 0, 501), (.nop, 0, 0, 0, 0), (.nop, 0, 0, 0, 0), (.if_icmp .ge 108, 3, 166, 0, 0), (.nop, 0, 0, 0, 0), (.nop, 0, 0, 0, 0), (.aload_n 0, 1, 0, 0, 0), (.iload 4, 2, 4, 0, 0), (.nop, 0, 0, 0, 0), (.iload_n 3, 1, 3, 0, 0), (.invokevirtual 96, 3, 71, 0, 529), (.nop, 0, 0, 0, 0), (.nop, 0, 0, 0, 0), (.istore 6, 2, 6, 0, 0), (.nop, 0, 0, 0, 0), (.iload 6, 2, 6, 0, 0), (.nop, 0, 0, 0, 0), (.bipush (-4), 2, 0, 0, 0), (.nop, 0, 0, 0, 0), (.if_icmp .ne 31, 3, 105, 0, 0), (.nop, 0, 0, 0, 0), (.nop, 0, 0, 0, 0), (.aload_n 0, 1, 0, 0, 0), (.getfield 35, 3, 9, 6, 237), (.nop, 0, 0, 0, 0), (.nop, 0, 0, 0, 0), (.aload_n 1, 1, 1, 0, 0), (.getfield 100, 3, 2, 0, 119), (.nop, 0, 0, 0, 0), (.nop, 0, 0, 0, 0), (.iload 4, 2, 4, 0, 0), (.nop, 0, 0, 0, 0), (.invokevirtual 85, 3, 25, 0, 506), (.nop, 0, 0, 0, 0), (.nop, 0, 0, 0, 0), (.aload_n 1, 1, 1, 0, 0), (.getfield 103, 3, 2, 1, 122), (.nop, 0, 0, 0, 0), (.nop, 0, 0, 0, 0), (.iload 4, 2, 4, 0, 0), (.nop, 0, 0, 0, 0), (.invokevirtual 85, 3, 25, 0, 506), (.nop, 0, 0, 0, 0), (.nop, 0, 0, 0, 0), (.invokevirtual 106, 3, 18, 0, 533)]
def qX9_go_1 : List pmE := [(.nop, 0, 0, 0, 0), (.nop, 0, 0, 0, 0), (.goto 39, 3, 141, 0, 0), (.nop, 0, 0, 0, 0), (.nop, 0, 0, 0, 0), (.aload_n 0, 1, 0, 0, 0), (.iload 6, 2, 6, 0, 0), (.nop, 0, 0, 0, 0), (.aload_n 1, 1, 1, 0, 0), (.getfield 103, 3, 2, 1, 122), (.nop, 0, 0, 0, 0), (.nop, 0, 0, 0, 0), (.iload 4, 2, 4, 0, 0), (.nop, 0, 0, 0, 0), (.invokevirtual 85, 3, 25, 0, 506), (.nop, 0, 0, 0, 0), (.nop, 0, 0, 0, 0), (.invokevirtual 108, 3, 74, 0, 534), (.nop, 0, 0, 0, 0), (.nop, 0, 0, 0, 0), (.aload_n 0, 1, 0, 0, 0), (.getfield 26, 3, 9, 4, 233), (.nop, 0, 0, 0, 0), (.nop, 0, 0, 0, 0), (.iload 4, 2, 4, 0, 0), (.nop, 0, 0, 0, 0), (.iload 6, 2, 6, 0, 0), (.nop, 0, 0, 0, 0), (.invokevirtual 53, 3, 26, 0, 542), (.nop, 0, 0, 0, 0), (.nop, 0, 0, 0, 0), (.aload_n 0, 1, 0, 0, 0), (.getfield 29, 3, 9, 5, 235), (.nop, 0, 0, 0, 0), (.nop, 0, 0, 0, 0), (.iload 6, 2, 6, 0, 0), (.nop, 0, 0, 0, 0), (.iconst 1, 1, 0, 0, 0), (.invokevirtual 111, 3, 27, 0, 546), (.nop, 0, 0, 0, 0), (.nop, 0, 0, 0, 0), (.aload_n 0, 1, 0, 0, 0), (.iload_n 3, 1, 3, 0, 0), (.iload 6, 2, 6, 0, 0), (.nop, 0, 0, 0, 0), (.invokevirtual 114, 3, 75, 0, 552), (.nop, 0, 0, 0, 0), (.nop, 0, 0, 0, 0), (.istore_n 3, 1, 3, 0, 0), (.iload 4, 2, 4, 0, 0), (.nop, 0, 0, 0, 0), (.aload_n 0, 1, 0, 0, 0), (.iload 6, 2, 6, 0, 0), (.nop, 0, 0, 0, 0), (.invokevirtual 117, 3, 76, 0, 556), (.nop, 0, 0, 0, 0), (.nop, 0, 0, 0, 0), (.iadd, 1, 0, 0, 0), (.istore 4, 2, 4, 0, 0), (.nop, 0, 0, 0, 0), (.iinc 5 1, 3, 5, 0, 0), (.nop, 0, 0, 0, 0), (.nop, 0, 0, 0, 0), (.goto (-120), 3, 43, 0, 0), (.nop, 0, 0, 0, 0), (.nop, 0, 0, 0, 0), (.return_, 1, 0, 0, 0)]
def qX9_go : List pmE := qX9_go_0 ++ qX9_go_1
abbrev mX9_go : Nat := 68
def qX9_lengthBy : List pmE := [(.iconst 0, 1, 0, 0, 0), (.istore_n 3, 1, 3, 0, 0), (.iload_n 2, 1, 2, 0, 0), (.istore 4, 2, 4, 0, 0), (.nop, 0, 0, 0, 0), (.iconst 0, 1, 0, 0, 0), (.istore 5, 2, 5, 0, 0), (.nop, 0, 0, 0, 0), (.iconst 0, 1, 0, 0, 0), (.istore 6, 2, 6, 0, 0), (.nop, 0, 0, 0, 0), (.iload 6, 2, 6, 0, 0), (.nop, 0, 0, 0, 0), (.aload_n 1, 1, 1, 0, 0), (.invokevirtual 84, 3, 16, 0, 501), (.nop, 0, 0, 0, 0), (.nop, 0, 0, 0, 0), (.if_icmp .ge 78, 3, 95, 0, 0), (.nop, 0, 0, 0, 0), (.nop, 0, 0, 0, 0), (.iload 5, 2, 5, 0, 0), (.nop, 0, 0, 0, 0), (.aload_n 1, 1, 1, 0, 0), (.invokevirtual 84, 3, 16, 0, 501), (.nop, 0, 0, 0, 0), (.nop, 0, 0, 0, 0), (.if_icmp .ge 69, 3, 95, 0, 0), (.nop, 0, 0, 0, 0), (.nop, 0, 0, 0, 0), (.aload_n 0, 1, 0, 0, 0), (.iload 5, 2, 5, 0, 0), (.nop, 0, 0, 0, 0), (.iload 4, 2, 4, 0, 0), (.nop, 0, 0, 0, 0), (.invokevirtual 96, 3, 71, 0, 529), (.nop, 0, 0, 0, 0), (.nop, 0, 0, 0, 0), (.istore 7, 2, 7, 0, 0), (.nop, 0, 0, 0, 0), (.iload_n 3, 1, 3, 0, 0), (.iload 7, 2, 7, 0, 0), (.nop, 0, 0, 0, 0), (.bipush (-4), 2, 0, 0, 0), (.nop, 0, 0, 0, 0), (.if_icmp .ne 7, 3, 51, 0, 0), (.nop, 0, 0, 0, 0), (.nop, 0, 0, 0, 0), (.iconst 1, 1, 0, 0, 0), (.goto 18, 3, 66, 0, 0), (.nop, 0, 0, 0, 0), (.nop, 0, 0, 0, 0), (.aload_n 0, 1, 0, 0, 0), (.getfield 39, 3, 9, 0, 229), (.nop, 0, 0, 0, 0), (.nop, 0, 0, 0, 0), (.iload 7, 2, 7, 0, 0), (.nop, 0, 0, 0, 0), (.invokevirtual 66, 3, 4, 0, 490), (.nop, 0, 0, 0, 0), (.nop, 0, 0, 0, 0), (.getfield 120, 3, 5, 2, 165), (.nop, 0, 0, 0, 0), (.nop, 0, 0, 0, 0), (.invokevirtual 75, 3, 23, 0, 491), (.nop, 0, 0, 0, 0), (.nop, 0, 0, 0, 0), (.iadd, 1, 0, 0, 0), (.istore_n 3, 1, 3, 0, 0), (.aload_n 0, 1, 0, 0, 0), (.iload 4, 2, 4, 0, 0), (.nop, 0, 0, 0, 0), (.iload 7, 2, 7, 0, 0), (.nop, 0, 0, 0, 0), (.invokevirtual 114, 3, 75, 0, 552), (.nop, 0, 0, 0, 0), (.nop, 0, 0, 0, 0), (.istore 4, 2, 4, 0, 0), (.nop, 0, 0, 0, 0), (.iload 5, 2, 5, 0, 0), (.nop, 0, 0, 0, 0), (.aload_n 0, 1, 0, 0, 0), (.iload 7, 2, 7, 0, 0), (.nop, 0, 0, 0, 0), (.invokevirtual 117, 3, 76, 0, 556), (.nop, 0, 0, 0, 0), (.nop, 0, 0, 0, 0), (.iadd, 1, 0, 0, 0), (.istore 5, 2, 5, 0, 0), (.nop, 0, 0, 0, 0), (.iinc 6 1, 3, 6, 0, 0), (.nop, 0, 0, 0, 0), (.nop, 0, 0, 0, 0), (.goto (-81), 3, 11, 0, 0), (.nop, 0, 0, 0, 0), (.nop, 0, 0, 0, 0), (.iload_n 3, 1, 3, 0, 0), (.ireturn, 1, 0, 0, 0)]
abbrev mX9_lengthBy : Nat := 69
def qX9_sureOf : List pmE := [(.iload_n 3, 1, 3, 0, 0), (.istore 4, 2, 4, 0, 0), (.nop, 0, 0, 0, 0), (.iconst 0, 1, 0, 0, 0), (.istore 5, 2, 5, 0, 0), (.nop, 0, 0, 0, 0), (.iconst 0, 1, 0, 0, 0), (.istore 6, 2, 6, 0, 0), (.nop, 0, 0, 0, 0), (.iload 6, 2, 6, 0, 0), (.nop, 0, 0, 0, 0), (.iload_n 2, 1, 2, 0, 0), (.if_icmp .ge 72, 3, 84, 0, 0), (.nop, 0, 0, 0, 0), (.nop, 0, 0, 0, 0), (.iload 5, 2, 5, 0, 0), (.nop, 0, 0, 0, 0), (.iload_n 2, 1, 2, 0, 0), (.if_icmp .ge 66, 3, 84, 0, 0), (.nop, 0, 0, 0, 0), (.nop, 0, 0, 0, 0), (.aload_n 0, 1, 0, 0, 0), (.aload_n 1, 1, 1, 0, 0), (.iload 5, 2, 5, 0, 0), (.nop, 0, 0, 0, 0), (.iload_n 2, 1, 2, 0, 0), (.iload 4, 2, 4, 0, 0), (.nop, 0, 0, 0, 0), (.invokevirtual 123, 3, 72, 0, 695), (.nop, 0, 0, 0, 0), (.nop, 0, 0, 0, 0), (.istore 7, 2, 7, 0, 0), (.nop, 0, 0, 0, 0), (.iload 7, 2, 7, 0, 0), (.nop, 0, 0, 0, 0), (.bipush (-4), 2, 0, 0, 0), (.nop, 0, 0, 0, 0), (.if_icmp .eq 20, 3, 57, 0, 0), (.nop, 0, 0, 0, 0), (.nop, 0, 0, 0, 0), (.aload_n 0, 1, 0, 0, 0), (.aload_n 1, 1, 1, 0, 0), (.iload 5, 2, 5, 0, 0), (.nop, 0, 0, 0, 0), (.iload_n 2, 1, 2, 0, 0), (.iload 7, 2, 7, 0, 0), (.nop, 0, 0, 0, 0), (.invokevirtual 127, 3, 73, 0, 699), (.nop, 0, 0, 0, 0), (.nop, 0, 0, 0, 0), (.iconst 2, 1, 0, 0, 0), (.if_icmp .ne 6, 3, 57, 0, 0), (.nop, 0, 0, 0, 0), (.nop, 0, 0, 0, 0), (.iload 5, 2, 5, 0, 0), (.nop, 0, 0, 0, 0), (.ireturn, 1, 0, 0, 0), (.aload_n 0, 1, 0, 0, 0), (.iload 4, 2, 4, 0, 0), (.nop, 0, 0, 0, 0), (.iload 7, 2, 7, 0, 0), (.nop, 0, 0, 0, 0), (.invokevirtual 114, 3, 75, 0, 552), (.nop, 0, 0, 0, 0), (.nop, 0, 0, 0, 0), (.istore 4, 2, 4, 0, 0), (.nop, 0, 0, 0, 0), (.iload 5, 2, 5, 0, 0), (.nop, 0, 0, 0, 0), (.aload_n 0, 1, 0, 0, 0), (.iload 7, 2, 7, 0, 0), (.nop, 0, 0, 0, 0), (.invokevirtual 117, 3, 76, 0, 556), (.nop, 0, 0, 0, 0), (.nop, 0, 0, 0, 0), (.iadd, 1, 0, 0, 0), (.istore 5, 2, 5, 0, 0), (.nop, 0, 0, 0, 0), (.iinc 6 1, 3, 6, 0, 0), (.nop, 0, 0, 0, 0), (.nop, 0, 0, 0, 0), (.goto (-72), 3, 9, 0, 0), (.nop, 0, 0, 0, 0), (.nop, 0, 0, 0, 0), (.iload 5, 2, 5, 0, 0), (.nop, 0, 0, 0, 0), (.ireturn, 1, 0, 0, 0)]
abbrev mX9_sureOf : Nat := 70
def qX9_ruleUsed : List pmE := [(.aload_n 0, 1, 0, 0, 0), (.getfield 23, 3, 9, 3, 232), (.nop, 0, 0, 0, 0), (.nop, 0, 0, 0, 0), (.iload_n 1, 1, 1, 0, 0), (.invokevirtual 85, 3, 25, 0, 506), (.nop, 0, 0, 0, 0), (.nop, 0, 0, 0, 0), (.iload_n 2, 1, 2, 0, 0), (.iand, 1, 0, 0, 0), (.istore_n 3, 1, 3, 0, 0), (.iload_n 3, 1, 3, 0, 0), (.ifCond .ne 6, 3, 18, 0, 0), (.nop, 0, 0, 0, 0), (.nop, 0, 0, 0, 0), (.bipush (-4), 2, 0, 0, 0), (.nop, 0, 0, 0, 0), (.ireturn, 1, 0, 0, 0), (.iconst 0, 1, 0, 0, 0), (.istore 4, 2, 4, 0, 0), (.nop, 0, 0, 0, 0), (.iload 4, 2, 4, 0, 0), (.nop, 0, 0, 0, 0), (.aload_n 0, 1, 0, 0, 0), (.getfield 14, 3, 9, 1, 230), (.nop, 0, 0, 0, 0), (.nop, 0, 0, 0, 0), (.invokevirtual 75, 3, 23, 0, 491), (.nop, 0, 0, 0, 0), (.nop, 0, 0, 0, 0), (.if_icmp .ge 36, 3, 66, 0, 0), (.nop, 0, 0, 0, 0), (.nop, 0, 0, 0, 0), (.iload_n 3, 1, 3, 0, 0), (.aload_n 0, 1, 0, 0, 0), (.getfield 14, 3, 9, 1, 230), (.nop, 0, 0, 0, 0), (.nop, 0, 0, 0, 0), (.iload 4, 2, 4, 0, 0), (.nop, 0, 0, 0, 0), (.invokevirtual 85, 3, 25, 0, 506), (.nop, 0, 0, 0, 0), (.nop, 0, 0, 0, 0), (.ishr, 1, 0, 0, 0), (.iconst 1, 1, 0, 0, 0), (.iand, 1, 0, 0, 0), (.iconst 1, 1, 0, 0, 0), (.if_icmp .ne 13, 3, 60, 0, 0), (.nop, 0, 0, 0, 0), (.nop, 0, 0, 0, 0), (.aload_n 0, 1, 0, 0, 0), (.getfield 14, 3, 9, 1, 230), (.nop, 0, 0, 0, 0), (.nop, 0, 0, 0, 0), (.iload 4, 2, 4, 0, 0), (.nop, 0, 0, 0, 0), (.invokevirtual 85, 3, 25, 0, 506), (.nop, 0, 0, 0, 0), (.nop, 0, 0, 0, 0), (.ireturn, 1, 0, 0, 0), (.iinc 4 1, 3, 4, 0, 0), (.nop, 0, 0, 0, 0), (.nop, 0, 0, 0, 0), (.goto (-42), 3, 21, 0, 0), (.nop, 0, 0, 0, 0), (.nop, 0, 0, 0, 0), (.bipush (-4), 2, 0, 0, 0), (.nop, 0, 0, 0, 0), (.ireturn, 1, 0, 0, 0)]
abbrev mX9_ruleUsed : Nat := 71
def qX9_firstPossible : List pmE := [(.iconst 0, 1, 0, 0, 0), (.istore 5, 2, 5, 0, 0), (.nop, 0, 0, 0, 0), (.iload 5, 2, 5, 0, 0), (.nop, 0, 0, 0, 0), (.aload_n 0, 1, 0, 0, 0), (.getfield 14, 3, 9, 1, 230), (.nop, 0, 0, 0, 0), (.nop, 0, 0, 0, 0), (.invokevirtual 75, 3, 23, 0, 491), (.nop, 0, 0, 0, 0), (.nop, 0, 0, 0, 0), (.if_icmp .ge 46, 3, 58, 0, 0), (.nop, 0, 0, 0, 0), (.nop, 0, 0, 0, 0), (.aload_n 0, 1, 0, 0, 0), (.getfield 14, 3, 9, 1, 230), (.nop, 0, 0, 0, 0), (.nop, 0, 0, 0, 0), (.iload 5, 2, 5, 0, 0), (.nop, 0, 0, 0, 0), (.invokevirtual 85, 3, 25, 0, 506), (.nop, 0, 0, 0, 0), (.nop, 0, 0, 0, 0), (.istore 6, 2, 6, 0, 0), (.nop, 0, 0, 0, 0), (.iload 4, 2, 4, 0, 0), (.nop, 0, 0, 0, 0), (.iload 6, 2, 6, 0, 0), (.nop, 0, 0, 0, 0), (.ishr, 1, 0, 0, 0), (.iconst 1, 1, 0, 0, 0), (.iand, 1, 0, 0, 0), (.iconst 1, 1, 0, 0, 0), (.if_icmp .ne 18, 3, 52, 0, 0), (.nop, 0, 0, 0, 0), (.nop, 0, 0, 0, 0), (.aload_n 0, 1, 0, 0, 0), (.aload_n 1, 1, 1, 0, 0), (.iload_n 2, 1, 2, 0, 0), (.iload_n 3, 1, 3, 0, 0), (.iload 6, 2, 6, 0, 0), (.nop, 0, 0, 0, 0), (.invokevirtual 127, 3, 73, 0, 699), (.nop, 0, 0, 0, 0), (.nop, 0, 0, 0, 0), (.ifCond .eq 6, 3, 52, 0, 0), (.nop, 0, 0, 0, 0), (.nop, 0, 0, 0, 0), (.iload 6, 2, 6, 0, 0), (.nop, 0, 0, 0, 0), (.ireturn, 1, 0, 0, 0), (.iinc 5 1, 3, 5, 0, 0), (.nop, 0, 0, 0, 0), (.nop, 0, 0, 0, 0), (.goto (-52), 3, 3, 0, 0), (.nop, 0, 0, 0, 0), (.nop, 0, 0, 0, 0), (.bipush (-4), 2, 0, 0, 0), (.nop, 0, 0, 0, 0), (.ireturn, 1, 0, 0, 0)]
abbrev mX9_firstPossible : Nat := 72
def qX9_standsInOpen : List pmE := [(.aload_n 0, 1, 0, 0, 0), (.getfield 39, 3, 9, 0, 229), (.nop, 0, 0, 0, 0), (.nop, 0, 0, 0, 0), (.iload 4, 2, 4, 0, 0), (.nop, 0, 0, 0, 0), (.invokevirtual 66, 3, 4, 0, 490), (.nop, 0, 0, 0, 0), (.nop, 0, 0, 0, 0), (.aload_n 1, 1, 1, 0, 0), (.iload_n 2, 1, 2, 0, 0), (.aload_n 0, 1, 0, 0, 0), (.getfield 20, 3, 9, 2, 231), (.nop, 0, 0, 0, 0), (.nop, 0, 0, 0, 0), (.iload 4, 2, 4, 0, 0), (.nop, 0, 0, 0, 0), (.invokevirtual 85, 3, 25, 0, 506), (.nop, 0, 0, 0, 0), (.nop, 0, 0, 0, 0), (.iload_n 3, 1, 3, 0, 0), (.iconst 1, 1, 0, 0, 0), (.invokevirtual 88, 3, 37, 0, 507), (.nop, 0, 0, 0, 0), (.nop, 0, 0, 0, 0), (.ireturn, 1, 0, 0, 0)]
abbrev mX9_standsInOpen : Nat := 73
def qX9_give : List pmE := [(.aload_n 0, 1, 0, 0, 0), (.getfield 39, 3, 9, 0, 229), (.nop, 0, 0, 0, 0), (.nop, 0, 0, 0, 0), (.iload_n 1, 1, 1, 0, 0), (.invokevirtual 66, 3, 4, 0, 490), (.nop, 0, 0, 0, 0), (.nop, 0, 0, 0, 0), (.astore_n 3, 1, 3, 0, 0), (.iconst 0, 1, 0, 0, 0), (.istore 4, 2, 4, 0, 0), (.nop, 0, 0, 0, 0), (.iload 4, 2, 4, 0, 0), (.nop, 0, 0, 0, 0), (.aload_n 3, 1, 3, 0, 0), (.getfield 120, 3, 5, 2, 165), (.nop, 0, 0, 0, 0), (.nop, 0, 0, 0, 0), (.invokevirtual 75, 3, 23, 0, 491), (.nop, 0, 0, 0, 0), (.nop, 0, 0, 0, 0), (.if_icmp .ge 31, 3, 52, 0, 0), (.nop, 0, 0, 0, 0), (.nop, 0, 0, 0, 0), (.aload_n 0, 1, 0, 0, 0), (.getfield 35, 3, 9, 6, 237), (.nop, 0, 0, 0, 0), (.nop, 0, 0, 0, 0), (.aload_n 3, 1, 3, 0, 0), (.iload 4, 2, 4, 0, 0), (.nop, 0, 0, 0, 0), (.aload_n 0, 1, 0, 0, 0), (.getfield 20, 3, 9, 2, 231), (.nop, 0, 0, 0, 0), (.nop, 0, 0, 0, 0), (.iload_n 1, 1, 1, 0, 0), (.invokevirtual 85, 3, 25, 0, 506), (.nop, 0, 0, 0, 0), (.nop, 0, 0, 0, 0), (.invokevirtual 130, 3, 36, 0, 538), (.nop, 0, 0, 0, 0), (.nop, 0, 0, 0, 0), (.iload_n 2, 1, 2, 0, 0), (.invokevirtual 106, 3, 18, 0, 533), (.nop, 0, 0, 0, 0), (.nop, 0, 0, 0, 0), (.iinc 4 1, 3, 4, 0, 0), (.nop, 0, 0, 0, 0), (.nop, 0, 0, 0, 0), (.goto (-37), 3, 12, 0, 0), (.nop, 0, 0, 0, 0), (.nop, 0, 0, 0, 0), (.return_, 1, 0, 0, 0)]
abbrev mX9_give : Nat := 74
def qX9_leftOf : List pmE := [(.iload_n 2, 1, 2, 0, 0), (.bipush (-4), 2, 0, 0, 0), (.nop, 0, 0, 0, 0), (.if_icmp .eq 25, 3, 28, 0, 0), (.nop, 0, 0, 0, 0), (.nop, 0, 0, 0, 0), (.aload_n 0, 1, 0, 0, 0), (.getfield 20, 3, 9, 2, 231), (.nop, 0, 0, 0, 0), (.nop, 0, 0, 0, 0), (.iload_n 2, 1, 2, 0, 0), (.invokevirtual 85, 3, 25, 0, 506), (.nop, 0, 0, 0, 0), (.nop, 0, 0, 0, 0), (.iconst 4, 1, 0, 0, 0), (.if_icmp .ne 13, 3, 28, 0, 0), (.nop, 0, 0, 0, 0), (.nop, 0, 0, 0, 0), (.iload_n 1, 1, 1, 0, 0), (.iconst 1, 1, 0, 0, 0), (.iload_n 2, 1, 2, 0, 0), (.ishl, 1, 0, 0, 0), (.iconst (-1), 1, 0, 0, 0), (.ixor, 1, 0, 0, 0), (.iand, 1, 0, 0, 0), (.goto 4, 3, 29, 0, 0), (.nop, 0, 0, 0, 0), (.nop, 0, 0, 0, 0), (.iload_n 1, 1, 1, 0, 0), (.ireturn, 1, 0, 0, 0)]
abbrev mX9_leftOf : Nat := 75
def qX9_lengthGone : List pmE := [(.iload_n 1, 1, 1, 0, 0), (.bipush (-4), 2, 0, 0, 0), (.nop, 0, 0, 0, 0), (.if_icmp .ne 7, 3, 10, 0, 0), (.nop, 0, 0, 0, 0), (.nop, 0, 0, 0, 0), (.iconst 1, 1, 0, 0, 0), (.goto 17, 3, 24, 0, 0), (.nop, 0, 0, 0, 0), (.nop, 0, 0, 0, 0), (.aload_n 0, 1, 0, 0, 0), (.getfield 39, 3, 9, 0, 229), (.nop, 0, 0, 0, 0), (.nop, 0, 0, 0, 0), (.iload_n 1, 1, 1, 0, 0), (.invokevirtual 66, 3, 4, 0, 490), (.nop, 0, 0, 0, 0), (.nop, 0, 0, 0, 0), (.getfield 70, 3, 5, 1, 159), (.nop, 0, 0, 0, 0), (.nop, 0, 0, 0, 0), (.invokevirtual 75, 3, 23, 0, 491), (.nop, 0, 0, 0, 0), (.nop, 0, 0, 0, 0), (.ireturn, 1, 0, 0, 0)]
abbrev mX9_lengthGone : Nat := 76
def qX10_init_0 : List pmE := [(.aload_n 0, 1, 0, 0, 0), (.invokespecial 1, 3, 0, 1, 62), (.nop, 0, 0, 0, 0), (.nop, 0, 0, 0, 0), (.aload_n 0, 1, 0, 0, 0), (.new 7, 3, 8, 0, 65), (.nop, 0, 0, 0, 0), (.nop, 0, 0, 0, 0), (.dup, 1, 0, 0, 0), (.invokespecial 9, 3, 52, 0, 67), (.nop, 0, 0, 0, 0), (.nop, 0, 0, 0, 0), (.putfield 10, 3, 210, 0, 281), (.nop, 0, 0, 0, 0), (.nop, 0, 0, 0, 0), (.aload_n 0, 1, 0, 0, 0), (.new 16, 3, 7, 0, 96), (.nop, 0, 0, 0, 0), (.nop, 0, 0, 0, 0), (.dup, 1, 0, 0, 0), (.invokespecial 18, 3, 46, 0, 98), (.nop, 0, 0, 0, 0), (.nop, 0, 0, 0, 0), (.putfield 19, 3, 210, 1, 282), (.nop, 0, 0, 0, 0), (.nop, 0, 0, 0, 0), (.aload_n 0, 1, 0, 0, 0), (.new 16, 3, 7, 0, 96), (.nop, 0, 0, 0, 0), (.nop, 0, 0, 0, 0), (.dup, 1, 0, 0, 0), (.invokespecial 18, 3, 46, 0, 98), (.nop, 0, 0, 0, 0), (.nop, 0, 0, 0, 0), (.putfield 23, 3, 210, 2, 283), (.nop, 0, 0, 0, 0), (.nop, 0, 0, 0, 0), (.aload_n 0, 1, 0, 0, 0), (.iconst 0, 1, 0, 0, 0), (.putfield 26, 3, 110, 3, 284), (.nop, 0, 0, 0, 0), (.nop, 0, 0, 0, 0), (.aload_n 0, 1, 0, 0, 0), (.new 30, 3, 4, 0, 215), (.nop, 0, 0, 0, 0), (.nop, 0, 0, 0, 0), (.dup, 1, 0, 0, 0), (.bipush 60, 2, 0, 0, 0), (.nop, 0, 0, 0, 0), (.invokespecial 32, 3, 22, 0, 216), (.nop, 0, 0, 0, 0), (.nop, 0, 0, 0, 0), (.putfield 35, 3, 210, 4, 285), (.nop, 0, 0, 0, 0), (.nop, 0, 0, 0, 0), (.aload_n 0, 1, 0, 0, 0), (.new 39, 3, 0, 0, 217), (.nop, 0, 0, 0, 0), (.nop, 0, 0, 0, 0), (.dup, 1, 0, 0, 0), (.invokespecial 41, 3, 0, 0, 218), (.nop, 0, 0, 0, 0), (.nop, 0, 0, 0, 0), (.putfield 42, 3, 210, 5, 286), (.nop, 0, 0, 0, 0), (.nop, 0, 0, 0, 0), (.aload_n 0, 1, 0, 0, 0), (.new 46, 3, 9, 0, 219), (.nop, 0, 0, 0, 0), (.nop, 0, 0, 0, 0), (.dup, 1, 0, 0, 0), (.aload_n 0, 1, 0, 0, 0), (.getfield 19, 3, 10, 1, 282), (.nop, 0, 0, 0, 0), (.nop, 0, 0, 0, 0), (.getfield 48, 3, 7, 1, 205), (.nop, 0, 0, 0, 0), (.nop, 0, 0, 0, 0), (.invokespecial 51, 3, 61, 0, 221), (.nop, 0, 0, 0, 0), (.nop, 0, 0, 0, 0), (.putfield 54, 3, 210, 6, 287), (.nop, 0, 0, 0, 0), (.nop, 0, 0, 0, 0), (.aload_n 0, 1, 0, 0, 0), (.new 58, 3, 2, 0, 254), (.nop, 0, 0, 0, 0), (.nop, 0, 0, 0, 0), (.dup, 1, 0, 0, 0), (.bipush 60, 2, 0, 0, 0), (.nop, 0, 0, 0, 0), (.invokespecial 60, 3, 15, 0, 255), (.nop, 0, 0, 0, 0), (.nop, 0, 0, 0, 0), (.putfield 61, 3, 210, 7, 288), (.nop, 0, 0, 0, 0), (.nop, 0, 0, 0, 0), (.aload_n 0, 1, 0, 0, 0), (.new 30, 3, 4, 0, 215), (.nop, 0, 0, 0, 0)]
def qX10_init_1 : List pmE := [(.nop, 0, 0, 0, 0), (.dup, 1, 0, 0, 0), (.bipush 11, 2, 0, 0, 0), (.nop, 0, 0, 0, 0), (.invokespecial 32, 3, 22, 0, 216), (.nop, 0, 0, 0, 0), (.nop, 0, 0, 0, 0), (.putfield 65, 3, 210, 8, 289), (.nop, 0, 0, 0, 0), (.nop, 0, 0, 0, 0), (.aload_n 0, 1, 0, 0, 0), (.iconst 4, 1, 0, 0, 0), (.anewarray 68, 3, 5, 0, 256), (.nop, 0, 0, 0, 0), (.nop, 0, 0, 0, 0), (.putfield 70, 3, 210, 9, 290), (.nop, 0, 0, 0, 0), (.nop, 0, 0, 0, 0), (.aload_n 0, 1, 0, 0, 0), (.bipush (-4), 2, 0, 0, 0), (.nop, 0, 0, 0, 0), (.putfield 74, 3, 10, 10, 291), (.nop, 0, 0, 0, 0), (.nop, 0, 0, 0, 0), (.aload_n 0, 1, 0, 0, 0), (.iconst 0, 1, 0, 0, 0), (.putfield 78, 3, 10, 11, 292), (.nop, 0, 0, 0, 0), (.nop, 0, 0, 0, 0), (.iconst 0, 1, 0, 0, 0), (.istore_n 1, 1, 1, 0, 0), (.iload_n 1, 1, 1, 0, 0), (.iconst 4, 1, 0, 0, 0), (.if_icmp .ge 22, 3, 155, 0, 0), (.nop, 0, 0, 0, 0), (.nop, 0, 0, 0, 0), (.aload_n 0, 1, 0, 0, 0), (.getfield 70, 3, 10, 9, 290), (.nop, 0, 0, 0, 0), (.nop, 0, 0, 0, 0), (.iload_n 1, 1, 1, 0, 0), (.new 68, 3, 6, 0, 256), (.nop, 0, 0, 0, 0), (.nop, 0, 0, 0, 0), (.dup, 1, 0, 0, 0), (.invokespecial 81, 3, 39, 0, 259), (.nop, 0, 0, 0, 0), (.nop, 0, 0, 0, 0), (.aastore, 1, 0, 0, 0), (.iinc 1 1, 3, 1, 0, 0), (.nop, 0, 0, 0, 0), (.nop, 0, 0, 0, 0), (.goto (-21), 3, 131, 0, 0), (.nop, 0, 0, 0, 0), (.nop, 0, 0, 0, 0), (.return_, 1, 0, 0, 0)]
def qX10_init : List pmE := qX10_init_0 ++ qX10_init_1
abbrev mX10_init : Nat := 77
def qX10_type : List pmE := [(.iload_n 1, 1, 1, 0, 0), (.bipush 32, 2, 0, 0, 0), (.nop, 0, 0, 0, 0), (.if_icmp .lt 9, 3, 12, 0, 0), (.nop, 0, 0, 0, 0), (.nop, 0, 0, 0, 0), (.iload_n 1, 1, 1, 0, 0), (.bipush 126, 2, 0, 0, 0), (.nop, 0, 0, 0, 0), (.if_icmp .le 5, 3, 14, 0, 0), (.nop, 0, 0, 0, 0), (.nop, 0, 0, 0, 0), (.iconst (-1), 1, 0, 0, 0), (.ireturn, 1, 0, 0, 0), (.aload_n 0, 1, 0, 0, 0), (.getfield 10, 3, 10, 0, 281), (.nop, 0, 0, 0, 0), (.nop, 0, 0, 0, 0), (.getfield 82, 3, 8, 0, 89), (.nop, 0, 0, 0, 0), (.nop, 0, 0, 0, 0), (.iload_n 1, 1, 1, 0, 0), (.invokevirtual 85, 3, 28, 0, 322), (.nop, 0, 0, 0, 0), (.nop, 0, 0, 0, 0), (.ifCond .eq 16, 3, 41, 0, 0), (.nop, 0, 0, 0, 0), (.nop, 0, 0, 0, 0), (.aload_n 0, 1, 0, 0, 0), (.getfield 10, 3, 10, 0, 281), (.nop, 0, 0, 0, 0), (.nop, 0, 0, 0, 0), (.getfield 82, 3, 8, 0, 89), (.nop, 0, 0, 0, 0), (.nop, 0, 0, 0, 0), (.invokevirtual 89, 3, 23, 0, 326), (.nop, 0, 0, 0, 0), (.nop, 0, 0, 0, 0), (.goto 5, 3, 43, 0, 0), (.nop, 0, 0, 0, 0), (.nop, 0, 0, 0, 0), (.bipush (-3), 2, 0, 0, 0), (.nop, 0, 0, 0, 0), (.ireturn, 1, 0, 0, 0)]
abbrev mX10_type : Nat := 78
def qX10_job : List pmE := [(.aload_n 0, 1, 0, 0, 0), (.getfield 10, 3, 10, 0, 281), (.nop, 0, 0, 0, 0), (.nop, 0, 0, 0, 0), (.invokevirtual 93, 3, 53, 0, 334), (.nop, 0, 0, 0, 0), (.nop, 0, 0, 0, 0), (.aload_n 0, 1, 0, 0, 0), (.getfield 10, 3, 10, 0, 281), (.nop, 0, 0, 0, 0), (.nop, 0, 0, 0, 0), (.aload_n 0, 1, 0, 0, 0), (.getfield 35, 3, 10, 4, 285), (.nop, 0, 0, 0, 0), (.nop, 0, 0, 0, 0), (.invokevirtual 96, 3, 57, 0, 338), (.nop, 0, 0, 0, 0), (.nop, 0, 0, 0, 0), (.aload_n 0, 1, 0, 0, 0), (.getfield 10, 3, 10, 0, 281), (.nop, 0, 0, 0, 0), (.nop, 0, 0, 0, 0), (.aload_n 0, 1, 0, 0, 0), (.getfield 42, 3, 10, 5, 286), (.nop, 0, 0, 0, 0), (.nop, 0, 0, 0, 0), (.invokevirtual 100, 3, 59, 0, 366), (.nop, 0, 0, 0, 0), (.nop, 0, 0, 0, 0), (.istore_n 1, 1, 1, 0, 0), (.aload_n 0, 1, 0, 0, 0), (.getfield 10, 3, 10, 0, 281), (.nop, 0, 0, 0, 0), (.nop, 0, 0, 0, 0), (.invokevirtual 104, 3, 56, 0, 397), (.nop, 0, 0, 0, 0), (.nop, 0, 0, 0, 0), (.istore_n 2, 1, 2, 0, 0), (.aload_n 0, 1, 0, 0, 0), (.getfield 10, 3, 10, 0, 281), (.nop, 0, 0, 0, 0), (.nop, 0, 0, 0, 0), (.getfield 82, 3, 8, 0, 89), (.nop, 0, 0, 0, 0), (.nop, 0, 0, 0, 0), (.invokevirtual 107, 3, 29, 0, 401), (.nop, 0, 0, 0, 0), (.nop, 0, 0, 0, 0), (.iload_n 1, 1, 1, 0, 0), (.ifCond .ne 5, 3, 54, 0, 0), (.nop, 0, 0, 0, 0), (.nop, 0, 0, 0, 0), (.iload_n 2, 1, 2, 0, 0), (.ireturn, 1, 0, 0, 0), (.aload_n 0, 1, 0, 0, 0), (.getfield 19, 3, 10, 1, 282), (.nop, 0, 0, 0, 0), (.nop, 0, 0, 0, 0), (.aload_n 0, 1, 0, 0, 0), (.getfield 35, 3, 10, 4, 285), (.nop, 0, 0, 0, 0), (.nop, 0, 0, 0, 0), (.aload_n 0, 1, 0, 0, 0), (.getfield 42, 3, 10, 5, 286), (.nop, 0, 0, 0, 0), (.nop, 0, 0, 0, 0), (.invokevirtual 110, 3, 47, 0, 402), (.nop, 0, 0, 0, 0), (.nop, 0, 0, 0, 0), (.aload_n 0, 1, 0, 0, 0), (.bipush (-4), 2, 0, 0, 0), (.nop, 0, 0, 0, 0), (.putfield 74, 3, 10, 10, 291), (.nop, 0, 0, 0, 0), (.nop, 0, 0, 0, 0), (.aload_n 0, 1, 0, 0, 0), (.getfield 19, 3, 10, 1, 282), (.nop, 0, 0, 0, 0), (.nop, 0, 0, 0, 0), (.getfield 48, 3, 7, 1, 205), (.nop, 0, 0, 0, 0), (.nop, 0, 0, 0, 0), (.invokevirtual 114, 3, 1, 0, 445), (.nop, 0, 0, 0, 0), (.nop, 0, 0, 0, 0), (.ireturn, 1, 0, 0, 0)]
abbrev mX10_job : Nat := 79
def qX10_rule : List pmE := [(.aload_n 0, 1, 0, 0, 0), (.getfield 42, 3, 10, 5, 286), (.nop, 0, 0, 0, 0), (.nop, 0, 0, 0, 0), (.iconst 0, 1, 0, 0, 0), (.invokevirtual 115, 3, 4, 0, 453), (.nop, 0, 0, 0, 0), (.nop, 0, 0, 0, 0), (.astore_n 1, 1, 1, 0, 0), (.aload_n 0, 1, 0, 0, 0), (.getfield 10, 3, 10, 0, 281), (.nop, 0, 0, 0, 0), (.nop, 0, 0, 0, 0), (.invokevirtual 93, 3, 53, 0, 334), (.nop, 0, 0, 0, 0), (.nop, 0, 0, 0, 0), (.aload_n 0, 1, 0, 0, 0), (.getfield 10, 3, 10, 0, 281), (.nop, 0, 0, 0, 0), (.nop, 0, 0, 0, 0), (.aload_n 1, 1, 1, 0, 0), (.invokevirtual 119, 3, 58, 0, 454), (.nop, 0, 0, 0, 0), (.nop, 0, 0, 0, 0), (.ifCond .eq 18, 3, 42, 0, 0), (.nop, 0, 0, 0, 0), (.nop, 0, 0, 0, 0), (.aload_n 0, 1, 0, 0, 0), (.getfield 10, 3, 10, 0, 281), (.nop, 0, 0, 0, 0), (.nop, 0, 0, 0, 0), (.invokevirtual 123, 3, 54, 0, 455), (.nop, 0, 0, 0, 0), (.nop, 0, 0, 0, 0), (.iconst (-1), 1, 0, 0, 0), (.if_icmp .ne 7, 3, 42, 0, 0), (.nop, 0, 0, 0, 0), (.nop, 0, 0, 0, 0), (.iconst 1, 1, 0, 0, 0), (.goto 4, 3, 43, 0, 0), (.nop, 0, 0, 0, 0), (.nop, 0, 0, 0, 0), (.iconst 0, 1, 0, 0, 0), (.istore_n 2, 1, 2, 0, 0), (.aload_n 0, 1, 0, 0, 0), (.getfield 10, 3, 10, 0, 281), (.nop, 0, 0, 0, 0), (.nop, 0, 0, 0, 0), (.invokevirtual 104, 3, 56, 0, 397), (.nop, 0, 0, 0, 0), (.nop, 0, 0, 0, 0), (.istore_n 3, 1, 3, 0, 0), (.aload_n 0, 1, 0, 0, 0), (.getfield 10, 3, 10, 0, 281), (.nop, 0, 0, 0, 0), (.nop, 0, 0, 0, 0), (.getfield 82, 3, 8, 0, 89), (.nop, 0, 0, 0, 0), (.nop, 0, 0, 0, 0), (.invokevirtual 107, 3, 29, 0, 401), (.nop, 0, 0, 0, 0), (.nop, 0, 0, 0, 0), (.iload_n 2, 1, 2, 0, 0), (.ifCond .ne 5, 3, 68, 0, 0), (.nop, 0, 0, 0, 0), (.nop, 0, 0, 0, 0), (.iload_n 3, 1, 3, 0, 0), (.ireturn, 1, 0, 0, 0), (.aload_n 0, 1, 0, 0, 0), (.getfield 19, 3, 10, 1, 282), (.nop, 0, 0, 0, 0), (.nop, 0, 0, 0, 0), (.aload_n 1, 1, 1, 0, 0), (.invokevirtual 126, 3, 48, 0, 456), (.nop, 0, 0, 0, 0), (.nop, 0, 0, 0, 0), (.ifCond .eq 18, 3, 94, 0, 0), (.nop, 0, 0, 0, 0), (.nop, 0, 0, 0, 0), (.aload_n 0, 1, 0, 0, 0), (.getfield 19, 3, 10, 1, 282), (.nop, 0, 0, 0, 0), (.nop, 0, 0, 0, 0), (.getfield 48, 3, 7, 1, 205), (.nop, 0, 0, 0, 0), (.nop, 0, 0, 0, 0), (.invokevirtual 114, 3, 1, 0, 445), (.nop, 0, 0, 0, 0), (.nop, 0, 0, 0, 0), (.iconst 1, 1, 0, 0, 0), (.isub, 1, 0, 0, 0), (.goto 5, 3, 96, 0, 0), (.nop, 0, 0, 0, 0), (.nop, 0, 0, 0, 0), (.bipush (-3), 2, 0, 0, 0), (.nop, 0, 0, 0, 0), (.ireturn, 1, 0, 0, 0)]
abbrev mX10_rule : Nat := 80
def qX10_of : List pmE := [(.aload_n 0, 1, 0, 0, 0), (.getfield 19, 3, 10, 1, 282), (.nop, 0, 0, 0, 0), (.nop, 0, 0, 0, 0), (.getfield 48, 3, 7, 1, 205), (.nop, 0, 0, 0, 0), (.nop, 0, 0, 0, 0), (.iload_n 1, 1, 1, 0, 0), (.invokevirtual 129, 3, 2, 0, 468), (.nop, 0, 0, 0, 0), (.nop, 0, 0, 0, 0), (.ifCond .ne 5, 3, 16, 0, 0), (.nop, 0, 0, 0, 0), (.nop, 0, 0, 0, 0), (.iconst (-1), 1, 0, 0, 0), (.ireturn, 1, 0, 0, 0), (.aload_n 0, 1, 0, 0, 0), (.getfield 19, 3, 10, 1, 282), (.nop, 0, 0, 0, 0), (.nop, 0, 0, 0, 0), (.getfield 48, 3, 7, 1, 205), (.nop, 0, 0, 0, 0), (.nop, 0, 0, 0, 0), (.iload_n 1, 1, 1, 0, 0), (.invokevirtual 115, 3, 4, 0, 453), (.nop, 0, 0, 0, 0), (.nop, 0, 0, 0, 0), (.astore_n 3, 1, 3, 0, 0), (.iload_n 2, 1, 2, 0, 0), (.tableswitch 77 0 4 #[35, 40, 48, 56, 71], 35, 0, 0, 0), (.nop, 0, 0, 0, 0), (.nop, 0, 0, 0, 0), (.nop, 0, 0, 0, 0), (.nop, 0, 0, 0, 0), (.nop, 0, 0, 0, 0), (.nop, 0, 0, 0, 0), (.nop, 0, 0, 0, 0), (.nop, 0, 0, 0, 0), (.nop, 0, 0, 0, 0), (.nop, 0, 0, 0, 0), (.nop, 0, 0, 0, 0), (.nop, 0, 0, 0, 0), (.nop, 0, 0, 0, 0), (.nop, 0, 0, 0, 0), (.nop, 0, 0, 0, 0), (.nop, 0, 0, 0, 0), (.nop, 0, 0, 0, 0), (.nop, 0, 0, 0, 0), (.nop, 0, 0, 0, 0), (.nop, 0, 0, 0, 0), (.nop, 0, 0, 0, 0), (.nop, 0, 0, 0, 0), (.nop, 0, 0, 0, 0), (.nop, 0, 0, 0, 0), (.nop, 0, 0, 0, 0), (.nop, 0, 0, 0, 0), (.nop, 0, 0, 0, 0), (.nop, 0, 0, 0, 0), (.nop, 0, 0, 0, 0), (.nop, 0, 0, 0, 0), (.nop, 0, 0, 0, 0), (.nop, 0, 0, 0, 0), (.nop, 0, 0, 0, 0), (.nop, 0, 0, 0, 0), (.aload_n 3, 1, 3, 0, 0), (.getfield 132, 3, 5, 0, 156), (.nop, 0, 0, 0, 0), (.nop, 0, 0, 0, 0), (.ireturn, 1, 0, 0, 0), (.aload_n 3, 1, 3, 0, 0), (.getfield 137, 3, 5, 1, 160), (.nop, 0, 0, 0, 0), (.nop, 0, 0, 0, 0), (.invokevirtual 89, 3, 23, 0, 326), (.nop, 0, 0, 0, 0), (.nop, 0, 0, 0, 0), (.ireturn, 1, 0, 0, 0), (.aload_n 3, 1, 3, 0, 0), (.getfield 140, 3, 5, 2, 163), (.nop, 0, 0, 0, 0), (.nop, 0, 0, 0, 0), (.invokevirtual 89, 3, 23, 0, 326), (.nop, 0, 0, 0, 0), (.nop, 0, 0, 0, 0), (.ireturn, 1, 0, 0, 0), (.aload_n 0, 1, 0, 0, 0), (.getfield 19, 3, 10, 1, 282), (.nop, 0, 0, 0, 0), (.nop, 0, 0, 0, 0), (.getfield 143, 3, 7, 0, 203), (.nop, 0, 0, 0, 0), (.nop, 0, 0, 0, 0), (.getfield 147, 3, 3, 1, 133), (.nop, 0, 0, 0, 0), (.nop, 0, 0, 0, 0), (.iload_n 1, 1, 1, 0, 0), (.ishr, 1, 0, 0, 0), (.iconst 1, 1, 0, 0, 0), (.iand, 1, 0, 0, 0), (.ireturn, 1, 0, 0, 0), (.aload_n 0, 1, 0, 0, 0), (.iload_n 1, 1, 1, 0, 0), (.invokevirtual 152, 3, 108, 0, 472), (.nop, 0, 0, 0, 0), (.nop, 0, 0, 0, 0), (.ireturn, 1, 0, 0, 0), (.iconst (-1), 1, 0, 0, 0), (.ireturn, 1, 0, 0, 0)]
abbrev mX10_of : Nat := 81
def qX10_spelt : List pmE := [(.aload_n 0, 1, 0, 0, 0), (.getfield 19, 3, 10, 1, 282), (.nop, 0, 0, 0, 0), (.nop, 0, 0, 0, 0), (.getfield 48, 3, 7, 1, 205), (.nop, 0, 0, 0, 0), (.nop, 0, 0, 0, 0), (.iload_n 1, 1, 1, 0, 0), (.invokevirtual 129, 3, 2, 0, 468), (.nop, 0, 0, 0, 0), (.nop, 0, 0, 0, 0), (.ifCond .eq 20, 3, 31, 0, 0), (.nop, 0, 0, 0, 0), (.nop, 0, 0, 0, 0), (.iload_n 2, 1, 2, 0, 0), (.iconst 2, 1, 0, 0, 0), (.invokestatic 156, 3, 114, 0, 565), (.nop, 0, 0, 0, 0), (.nop, 0, 0, 0, 0), (.ifCond .eq 12, 3, 31, 0, 0), (.nop, 0, 0, 0, 0), (.nop, 0, 0, 0, 0), (.iload_n 3, 1, 3, 0, 0), (.bipush 6, 2, 0, 0, 0), (.nop, 0, 0, 0, 0), (.invokestatic 156, 3, 114, 0, 565), (.nop, 0, 0, 0, 0), (.nop, 0, 0, 0, 0), (.ifCond .ne 5, 3, 33, 0, 0), (.nop, 0, 0, 0, 0), (.nop, 0, 0, 0, 0), (.iconst (-1), 1, 0, 0, 0), (.ireturn, 1, 0, 0, 0), (.aload_n 0, 1, 0, 0, 0), (.getfield 19, 3, 10, 1, 282), (.nop, 0, 0, 0, 0), (.nop, 0, 0, 0, 0), (.getfield 48, 3, 7, 1, 205), (.nop, 0, 0, 0, 0), (.nop, 0, 0, 0, 0), (.iload_n 1, 1, 1, 0, 0), (.invokevirtual 115, 3, 4, 0, 453), (.nop, 0, 0, 0, 0), (.nop, 0, 0, 0, 0), (.astore 4, 2, 4, 0, 0), (.nop, 0, 0, 0, 0), (.iload_n 2, 1, 2, 0, 0), (.ifCond .ne 11, 3, 58, 0, 0), (.nop, 0, 0, 0, 0), (.nop, 0, 0, 0, 0), (.aload 4, 2, 4, 0, 0), (.nop, 0, 0, 0, 0), (.getfield 137, 3, 5, 1, 160), (.nop, 0, 0, 0, 0), (.nop, 0, 0, 0, 0), (.goto 8, 3, 63, 0, 0), (.nop, 0, 0, 0, 0), (.nop, 0, 0, 0, 0), (.aload 4, 2, 4, 0, 0), (.nop, 0, 0, 0, 0), (.getfield 140, 3, 5, 2, 163), (.nop, 0, 0, 0, 0), (.nop, 0, 0, 0, 0), (.astore 5, 2, 5, 0, 0), (.nop, 0, 0, 0, 0), (.iload_n 3, 1, 3, 0, 0), (.aload 5, 2, 5, 0, 0), (.nop, 0, 0, 0, 0), (.invokevirtual 89, 3, 23, 0, 326), (.nop, 0, 0, 0, 0), (.nop, 0, 0, 0, 0), (.if_icmp .lt 6, 3, 77, 0, 0), (.nop, 0, 0, 0, 0), (.nop, 0, 0, 0, 0), (.bipush (-4), 2, 0, 0, 0), (.nop, 0, 0, 0, 0), (.ireturn, 1, 0, 0, 0), (.iload_n 2, 1, 2, 0, 0), (.ifCond .ne 12, 3, 90, 0, 0), (.nop, 0, 0, 0, 0), (.nop, 0, 0, 0, 0), (.aload 5, 2, 5, 0, 0), (.nop, 0, 0, 0, 0), (.iload_n 3, 1, 3, 0, 0), (.invokevirtual 160, 3, 25, 0, 560), (.nop, 0, 0, 0, 0), (.nop, 0, 0, 0, 0), (.goto 14, 3, 101, 0, 0), (.nop, 0, 0, 0, 0), (.nop, 0, 0, 0, 0), (.aload 4, 2, 4, 0, 0), (.nop, 0, 0, 0, 0), (.iload_n 3, 1, 3, 0, 0), (.aload 4, 2, 4, 0, 0), (.nop, 0, 0, 0, 0), (.getfield 132, 3, 5, 0, 156), (.nop, 0, 0, 0, 0), (.nop, 0, 0, 0, 0), (.invokevirtual 162, 3, 36, 0, 566), (.nop, 0, 0, 0, 0), (.nop, 0, 0, 0, 0), (.ireturn, 1, 0, 0, 0)]
abbrev mX10_spelt : Nat := 82
def qX10_at : List pmE := [(.aload_n 0, 1, 0, 0, 0), (.getfield 19, 3, 10, 1, 282), (.nop, 0, 0, 0, 0), (.nop, 0, 0, 0, 0), (.getfield 143, 3, 7, 0, 203), (.nop, 0, 0, 0, 0), (.nop, 0, 0, 0, 0), (.getfield 166, 3, 3, 0, 130), (.nop, 0, 0, 0, 0), (.nop, 0, 0, 0, 0), (.astore_n 3, 1, 3, 0, 0), (.iload_n 1, 1, 1, 0, 0), (.aload_n 3, 1, 3, 0, 0), (.invokevirtual 169, 3, 16, 0, 571), (.nop, 0, 0, 0, 0), (.nop, 0, 0, 0, 0), (.invokestatic 156, 3, 114, 0, 565), (.nop, 0, 0, 0, 0), (.nop, 0, 0, 0, 0), (.ifCond .eq 11, 3, 30, 0, 0), (.nop, 0, 0, 0, 0), (.nop, 0, 0, 0, 0), (.iload_n 2, 1, 2, 0, 0), (.iconst 2, 1, 0, 0, 0), (.invokestatic 156, 3, 114, 0, 565), (.nop, 0, 0, 0, 0), (.nop, 0, 0, 0, 0), (.ifCond .ne 5, 3, 32, 0, 0), (.nop, 0, 0, 0, 0), (.nop, 0, 0, 0, 0), (.iconst (-1), 1, 0, 0, 0), (.ireturn, 1, 0, 0, 0), (.iload_n 2, 1, 2, 0, 0), (.ifCond .ne 14, 3, 47, 0, 0), (.nop, 0, 0, 0, 0), (.nop, 0, 0, 0, 0), (.aload_n 3, 1, 3, 0, 0), (.getfield 170, 3, 2, 0, 118), (.nop, 0, 0, 0, 0), (.nop, 0, 0, 0, 0), (.iload_n 1, 1, 1, 0, 0), (.invokevirtual 160, 3, 25, 0, 560), (.nop, 0, 0, 0, 0), (.nop, 0, 0, 0, 0), (.goto 11, 3, 55, 0, 0), (.nop, 0, 0, 0, 0), (.nop, 0, 0, 0, 0), (.aload_n 3, 1, 3, 0, 0), (.getfield 173, 3, 2, 1, 121), (.nop, 0, 0, 0, 0), (.nop, 0, 0, 0, 0), (.iload_n 1, 1, 1, 0, 0), (.invokevirtual 160, 3, 25, 0, 560), (.nop, 0, 0, 0, 0), (.nop, 0, 0, 0, 0), (.ireturn, 1, 0, 0, 0)]
abbrev mX10_at : Nat := 83
def qX10_count_0 : List pmE := [(.iload_n 1, 1, 1, 0, 0), (.tableswitch 119 0 6 #[43, 57, 68, 79, 84, 103, 108], 43, 0, 0, 0), (.nop, 0, 0, 0, 0), (.nop, 0, 0, 0, 0), (.nop, 0, 0, 0, 0), (.nop, 0, 0, 0, 0), (.nop, 0, 0, 0, 0), (.nop, 0, 0, 0, 0), (.nop, 0, 0, 0, 0), (.nop, 0, 0, 0, 0), (.nop, 0, 0, 0, 0), (.nop, 0, 0, 0, 0), (.nop, 0, 0, 0, 0), (.nop, 0, 0, 0, 0), (.nop, 0, 0, 0, 0), (.nop, 0, 0, 0, 0), (.nop, 0, 0, 0, 0), (.nop, 0, 0, 0, 0), (.nop, 0, 0, 0, 0), (.nop, 0, 0, 0, 0), (.nop, 0, 0, 0, 0), (.nop, 0, 0, 0, 0), (.nop, 0, 0, 0, 0), (.nop, 0, 0, 0, 0), (.nop, 0, 0, 0, 0), (.nop, 0, 0, 0, 0), (.nop, 0, 0, 0, 0), (.nop, 0, 0, 0, 0), (.nop, 0, 0, 0, 0), (.nop, 0, 0, 0, 0), (.nop, 0, 0, 0, 0), (.nop, 0, 0, 0, 0), (.nop, 0, 0, 0, 0), (.nop, 0, 0, 0, 0), (.nop, 0, 0, 0, 0), (.nop, 0, 0, 0, 0), (.nop, 0, 0, 0, 0), (.nop, 0, 0, 0, 0), (.nop, 0, 0, 0, 0), (.nop, 0, 0, 0, 0), (.nop, 0, 0, 0, 0), (.nop, 0, 0, 0, 0), (.nop, 0, 0, 0, 0), (.nop, 0, 0, 0, 0), (.aload_n 0, 1, 0, 0, 0), (.getfield 19, 3, 10, 1, 282), (.nop, 0, 0, 0, 0), (.nop, 0, 0, 0, 0), (.getfield 143, 3, 7, 0, 203), (.nop, 0, 0, 0, 0), (.nop, 0, 0, 0, 0), (.getfield 166, 3, 3, 0, 130), (.nop, 0, 0, 0, 0), (.nop, 0, 0, 0, 0), (.invokevirtual 169, 3, 16, 0, 571), (.nop, 0, 0, 0, 0), (.nop, 0, 0, 0, 0), (.ireturn, 1, 0, 0, 0), (.aload_n 0, 1, 0, 0, 0), (.getfield 19, 3, 10, 1, 282), (.nop, 0, 0, 0, 0), (.nop, 0, 0, 0, 0), (.getfield 48, 3, 7, 1, 205), (.nop, 0, 0, 0, 0), (.nop, 0, 0, 0, 0), (.invokevirtual 114, 3, 1, 0, 445), (.nop, 0, 0, 0, 0), (.nop, 0, 0, 0, 0), (.ireturn, 1, 0, 0, 0), (.aload_n 0, 1, 0, 0, 0), (.getfield 19, 3, 10, 1, 282), (.nop, 0, 0, 0, 0), (.nop, 0, 0, 0, 0), (.getfield 143, 3, 7, 0, 203), (.nop, 0, 0, 0, 0), (.nop, 0, 0, 0, 0), (.getfield 147, 3, 3, 1, 133), (.nop, 0, 0, 0, 0), (.nop, 0, 0, 0, 0), (.ireturn, 1, 0, 0, 0), (.aload_n 0, 1, 0, 0, 0), (.invokevirtual 176, 3, 109, 0, 576), (.nop, 0, 0, 0, 0), (.nop, 0, 0, 0, 0), (.ireturn, 1, 0, 0, 0), (.aload_n 0, 1, 0, 0, 0), (.getfield 74, 3, 10, 10, 291), (.nop, 0, 0, 0, 0), (.nop, 0, 0, 0, 0), (.bipush (-4), 2, 0, 0, 0), (.nop, 0, 0, 0, 0), (.if_icmp .ne 8, 3, 99, 0, 0), (.nop, 0, 0, 0, 0), (.nop, 0, 0, 0, 0), (.bipush (-4), 2, 0, 0, 0), (.nop, 0, 0, 0, 0), (.goto 7, 3, 103, 0, 0), (.nop, 0, 0, 0, 0), (.nop, 0, 0, 0, 0), (.aload_n 0, 1, 0, 0, 0)]
def qX10_count_1 : List pmE := [(.getfield 78, 3, 10, 11, 292), (.nop, 0, 0, 0, 0), (.nop, 0, 0, 0, 0), (.ireturn, 1, 0, 0, 0), (.aload_n 0, 1, 0, 0, 0), (.getfield 74, 3, 10, 10, 291), (.nop, 0, 0, 0, 0), (.nop, 0, 0, 0, 0), (.ireturn, 1, 0, 0, 0), (.aload_n 0, 1, 0, 0, 0), (.getfield 19, 3, 10, 1, 282), (.nop, 0, 0, 0, 0), (.nop, 0, 0, 0, 0), (.getfield 179, 3, 7, 2, 207), (.nop, 0, 0, 0, 0), (.nop, 0, 0, 0, 0), (.invokevirtual 183, 3, 9, 0, 580), (.nop, 0, 0, 0, 0), (.nop, 0, 0, 0, 0), (.ireturn, 1, 0, 0, 0), (.iconst (-1), 1, 0, 0, 0), (.ireturn, 1, 0, 0, 0)]
def qX10_count : List pmE := qX10_count_0 ++ qX10_count_1
abbrev mX10_count : Nat := 84
def qX10_change : List pmE := [(.aload_n 0, 1, 0, 0, 0), (.getfield 19, 3, 10, 1, 282), (.nop, 0, 0, 0, 0), (.nop, 0, 0, 0, 0), (.getfield 143, 3, 7, 0, 203), (.nop, 0, 0, 0, 0), (.nop, 0, 0, 0, 0), (.getfield 166, 3, 3, 0, 130), (.nop, 0, 0, 0, 0), (.nop, 0, 0, 0, 0), (.astore_n 3, 1, 3, 0, 0), (.iload_n 1, 1, 1, 0, 0), (.aload_n 3, 1, 3, 0, 0), (.invokevirtual 169, 3, 16, 0, 571), (.nop, 0, 0, 0, 0), (.nop, 0, 0, 0, 0), (.invokestatic 156, 3, 114, 0, 565), (.nop, 0, 0, 0, 0), (.nop, 0, 0, 0, 0), (.ifCond .eq 10, 3, 29, 0, 0), (.nop, 0, 0, 0, 0), (.nop, 0, 0, 0, 0), (.iload_n 2, 1, 2, 0, 0), (.invokestatic 186, 3, 117, 0, 588), (.nop, 0, 0, 0, 0), (.nop, 0, 0, 0, 0), (.ifCond .ne 5, 3, 31, 0, 0), (.nop, 0, 0, 0, 0), (.nop, 0, 0, 0, 0), (.iconst (-1), 1, 0, 0, 0), (.ireturn, 1, 0, 0, 0), (.aload_n 3, 1, 3, 0, 0), (.getfield 170, 3, 2, 0, 118), (.nop, 0, 0, 0, 0), (.nop, 0, 0, 0, 0), (.iload_n 1, 1, 1, 0, 0), (.invokevirtual 160, 3, 25, 0, 560), (.nop, 0, 0, 0, 0), (.nop, 0, 0, 0, 0), (.istore 4, 2, 4, 0, 0), (.nop, 0, 0, 0, 0), (.iload 4, 2, 4, 0, 0), (.nop, 0, 0, 0, 0), (.iload_n 2, 1, 2, 0, 0), (.if_icmp .ne 6, 3, 50, 0, 0), (.nop, 0, 0, 0, 0), (.nop, 0, 0, 0, 0), (.bipush (-2), 2, 0, 0, 0), (.nop, 0, 0, 0, 0), (.ireturn, 1, 0, 0, 0), (.aload_n 0, 1, 0, 0, 0), (.getfield 19, 3, 10, 1, 282), (.nop, 0, 0, 0, 0), (.nop, 0, 0, 0, 0), (.invokevirtual 189, 3, 49, 0, 589), (.nop, 0, 0, 0, 0), (.nop, 0, 0, 0, 0), (.aload_n 3, 1, 3, 0, 0), (.getfield 170, 3, 2, 0, 118), (.nop, 0, 0, 0, 0), (.nop, 0, 0, 0, 0), (.iload_n 1, 1, 1, 0, 0), (.iload_n 2, 1, 2, 0, 0), (.invokevirtual 192, 3, 26, 0, 614), (.nop, 0, 0, 0, 0), (.nop, 0, 0, 0, 0), (.iload 4, 2, 4, 0, 0), (.nop, 0, 0, 0, 0), (.ireturn, 1, 0, 0, 0)]
abbrev mX10_change : Nat := 85
def qX10_turn : List pmE := [(.aload_n 0, 1, 0, 0, 0), (.getfield 19, 3, 10, 1, 282), (.nop, 0, 0, 0, 0), (.nop, 0, 0, 0, 0), (.getfield 48, 3, 7, 1, 205), (.nop, 0, 0, 0, 0), (.nop, 0, 0, 0, 0), (.iload_n 1, 1, 1, 0, 0), (.invokevirtual 129, 3, 2, 0, 468), (.nop, 0, 0, 0, 0), (.nop, 0, 0, 0, 0), (.ifCond .ne 5, 3, 16, 0, 0), (.nop, 0, 0, 0, 0), (.nop, 0, 0, 0, 0), (.iconst (-1), 1, 0, 0, 0), (.ireturn, 1, 0, 0, 0), (.aload_n 0, 1, 0, 0, 0), (.getfield 19, 3, 10, 1, 282), (.nop, 0, 0, 0, 0), (.nop, 0, 0, 0, 0), (.invokevirtual 189, 3, 49, 0, 589), (.nop, 0, 0, 0, 0), (.nop, 0, 0, 0, 0), (.aload_n 0, 1, 0, 0, 0), (.getfield 19, 3, 10, 1, 282), (.nop, 0, 0, 0, 0), (.nop, 0, 0, 0, 0), (.getfield 143, 3, 7, 0, 203), (.nop, 0, 0, 0, 0), (.nop, 0, 0, 0, 0), (.dup, 1, 0, 0, 0), (.getfield 147, 3, 3, 1, 133), (.nop, 0, 0, 0, 0), (.nop, 0, 0, 0, 0), (.iconst 1, 1, 0, 0, 0), (.iload_n 1, 1, 1, 0, 0), (.ishl, 1, 0, 0, 0), (.ixor, 1, 0, 0, 0), (.putfield 147, 3, 3, 1, 133), (.nop, 0, 0, 0, 0), (.nop, 0, 0, 0, 0), (.aload_n 0, 1, 0, 0, 0), (.getfield 19, 3, 10, 1, 282), (.nop, 0, 0, 0, 0), (.nop, 0, 0, 0, 0), (.getfield 143, 3, 7, 0, 203), (.nop, 0, 0, 0, 0), (.nop, 0, 0, 0, 0), (.getfield 147, 3, 3, 1, 133), (.nop, 0, 0, 0, 0), (.nop, 0, 0, 0, 0), (.iload_n 1, 1, 1, 0, 0), (.ishr, 1, 0, 0, 0), (.iconst 1, 1, 0, 0, 0), (.iand, 1, 0, 0, 0), (.ireturn, 1, 0, 0, 0)]
abbrev mX10_turn : Nat := 86
def qX10_pass : List pmE := [(.iload_n 1, 1, 1, 0, 0), (.ifCond .lt 20, 3, 21, 0, 0), (.nop, 0, 0, 0, 0), (.nop, 0, 0, 0, 0), (.iload_n 1, 1, 1, 0, 0), (.aload_n 0, 1, 0, 0, 0), (.getfield 19, 3, 10, 1, 282), (.nop, 0, 0, 0, 0), (.nop, 0, 0, 0, 0), (.getfield 48, 3, 7, 1, 205), (.nop, 0, 0, 0, 0), (.nop, 0, 0, 0, 0), (.invokevirtual 196, 3, 3, 0, 623), (.nop, 0, 0, 0, 0), (.nop, 0, 0, 0, 0), (.iconst (-1), 1, 0, 0, 0), (.ixor, 1, 0, 0, 0), (.iand, 1, 0, 0, 0), (.ifCond .eq 5, 3, 23, 0, 0), (.nop, 0, 0, 0, 0), (.nop, 0, 0, 0, 0), (.iconst (-1), 1, 0, 0, 0), (.ireturn, 1, 0, 0, 0), (.aload_n 0, 1, 0, 0, 0), (.iload_n 1, 1, 1, 0, 0), (.invokevirtual 199, 3, 110, 0, 624), (.nop, 0, 0, 0, 0), (.nop, 0, 0, 0, 0), (.ireturn, 1, 0, 0, 0)]
abbrev mX10_pass : Nat := 87
def qX10_pile : List pmE := [(.iload_n 1, 1, 1, 0, 0), (.ifCond .eq 15, 3, 16, 0, 0), (.nop, 0, 0, 0, 0), (.nop, 0, 0, 0, 0), (.iload_n 1, 1, 1, 0, 0), (.iconst 1, 1, 0, 0, 0), (.if_icmp .eq 10, 3, 16, 0, 0), (.nop, 0, 0, 0, 0), (.nop, 0, 0, 0, 0), (.iload_n 1, 1, 1, 0, 0), (.iconst 2, 1, 0, 0, 0), (.if_icmp .eq 5, 3, 16, 0, 0), (.nop, 0, 0, 0, 0), (.nop, 0, 0, 0, 0), (.iconst (-1), 1, 0, 0, 0), (.ireturn, 1, 0, 0, 0), (.aload_n 0, 1, 0, 0, 0), (.iload_n 1, 1, 1, 0, 0), (.putfield 74, 3, 10, 10, 291), (.nop, 0, 0, 0, 0), (.nop, 0, 0, 0, 0), (.aload_n 0, 1, 0, 0, 0), (.iconst 0, 1, 0, 0, 0), (.putfield 78, 3, 10, 11, 292), (.nop, 0, 0, 0, 0), (.nop, 0, 0, 0, 0), (.iconst 0, 1, 0, 0, 0), (.istore_n 2, 1, 2, 0, 0), (.iconst 0, 1, 0, 0, 0), (.istore_n 3, 1, 3, 0, 0), (.iload_n 3, 1, 3, 0, 0), (.aload_n 0, 1, 0, 0, 0), (.getfield 19, 3, 10, 1, 282), (.nop, 0, 0, 0, 0), (.nop, 0, 0, 0, 0), (.getfield 48, 3, 7, 1, 205), (.nop, 0, 0, 0, 0), (.nop, 0, 0, 0, 0), (.invokevirtual 114, 3, 1, 0, 445), (.nop, 0, 0, 0, 0), (.nop, 0, 0, 0, 0), (.if_icmp .ge 33, 3, 74, 0, 0), (.nop, 0, 0, 0, 0), (.nop, 0, 0, 0, 0), (.aload_n 0, 1, 0, 0, 0), (.getfield 19, 3, 10, 1, 282), (.nop, 0, 0, 0, 0), (.nop, 0, 0, 0, 0), (.getfield 48, 3, 7, 1, 205), (.nop, 0, 0, 0, 0), (.nop, 0, 0, 0, 0), (.iload_n 3, 1, 3, 0, 0), (.invokevirtual 115, 3, 4, 0, 453), (.nop, 0, 0, 0, 0), (.nop, 0, 0, 0, 0), (.getfield 132, 3, 5, 0, 156), (.nop, 0, 0, 0, 0), (.nop, 0, 0, 0, 0), (.iload_n 1, 1, 1, 0, 0), (.invokestatic 202, 3, 118, 0, 637), (.nop, 0, 0, 0, 0), (.nop, 0, 0, 0, 0), (.ifCond .eq 6, 3, 68, 0, 0), (.nop, 0, 0, 0, 0), (.nop, 0, 0, 0, 0), (.iinc 2 1, 3, 2, 0, 0), (.nop, 0, 0, 0, 0), (.nop, 0, 0, 0, 0), (.iinc 3 1, 3, 3, 0, 0), (.nop, 0, 0, 0, 0), (.nop, 0, 0, 0, 0), (.goto (-41), 3, 30, 0, 0), (.nop, 0, 0, 0, 0), (.nop, 0, 0, 0, 0), (.iload_n 2, 1, 2, 0, 0), (.ireturn, 1, 0, 0, 0)]
abbrev mX10_pile : Nat := 88
def qX10_put : List pmE := [(.aload_n 0, 1, 0, 0, 0), (.getfield 19, 3, 10, 1, 282), (.nop, 0, 0, 0, 0), (.nop, 0, 0, 0, 0), (.getfield 48, 3, 7, 1, 205), (.nop, 0, 0, 0, 0), (.nop, 0, 0, 0, 0), (.iload_n 1, 1, 1, 0, 0), (.invokevirtual 129, 3, 2, 0, 468), (.nop, 0, 0, 0, 0), (.nop, 0, 0, 0, 0), (.ifCond .ne 5, 3, 16, 0, 0), (.nop, 0, 0, 0, 0), (.nop, 0, 0, 0, 0), (.iconst (-1), 1, 0, 0, 0), (.ireturn, 1, 0, 0, 0), (.aload_n 0, 1, 0, 0, 0), (.getfield 74, 3, 10, 10, 291), (.nop, 0, 0, 0, 0), (.nop, 0, 0, 0, 0), (.bipush (-4), 2, 0, 0, 0), (.nop, 0, 0, 0, 0), (.if_icmp .ne 6, 3, 28, 0, 0), (.nop, 0, 0, 0, 0), (.nop, 0, 0, 0, 0), (.bipush (-11), 2, 0, 0, 0), (.nop, 0, 0, 0, 0), (.ireturn, 1, 0, 0, 0), (.aload_n 0, 1, 0, 0, 0), (.getfield 78, 3, 10, 11, 292), (.nop, 0, 0, 0, 0), (.nop, 0, 0, 0, 0), (.iload_n 1, 1, 1, 0, 0), (.ishr, 1, 0, 0, 0), (.iconst 1, 1, 0, 0, 0), (.iand, 1, 0, 0, 0), (.iconst 1, 1, 0, 0, 0), (.if_icmp .ne 6, 3, 43, 0, 0), (.nop, 0, 0, 0, 0), (.nop, 0, 0, 0, 0), (.bipush (-2), 2, 0, 0, 0), (.nop, 0, 0, 0, 0), (.ireturn, 1, 0, 0, 0), (.aload_n 0, 1, 0, 0, 0), (.getfield 78, 3, 10, 11, 292), (.nop, 0, 0, 0, 0), (.nop, 0, 0, 0, 0), (.invokestatic 205, 3, 184, 0, 644), (.nop, 0, 0, 0, 0), (.nop, 0, 0, 0, 0), (.iconst 4, 1, 0, 0, 0), (.if_icmp .lt 6, 3, 57, 0, 0), (.nop, 0, 0, 0, 0), (.nop, 0, 0, 0, 0), (.bipush (-13), 2, 0, 0, 0), (.nop, 0, 0, 0, 0), (.ireturn, 1, 0, 0, 0), (.aload_n 0, 1, 0, 0, 0), (.getfield 19, 3, 10, 1, 282), (.nop, 0, 0, 0, 0), (.nop, 0, 0, 0, 0), (.getfield 48, 3, 7, 1, 205), (.nop, 0, 0, 0, 0), (.nop, 0, 0, 0, 0), (.iload_n 1, 1, 1, 0, 0), (.invokevirtual 115, 3, 4, 0, 453), (.nop, 0, 0, 0, 0), (.nop, 0, 0, 0, 0), (.getfield 132, 3, 5, 0, 156), (.nop, 0, 0, 0, 0), (.nop, 0, 0, 0, 0), (.aload_n 0, 1, 0, 0, 0), (.getfield 74, 3, 10, 10, 291), (.nop, 0, 0, 0, 0), (.nop, 0, 0, 0, 0), (.invokestatic 202, 3, 118, 0, 637), (.nop, 0, 0, 0, 0), (.nop, 0, 0, 0, 0), (.ifCond .ne 6, 3, 84, 0, 0), (.nop, 0, 0, 0, 0), (.nop, 0, 0, 0, 0), (.bipush (-15), 2, 0, 0, 0), (.nop, 0, 0, 0, 0), (.ireturn, 1, 0, 0, 0), (.aload_n 0, 1, 0, 0, 0), (.dup, 1, 0, 0, 0), (.getfield 78, 3, 10, 11, 292), (.nop, 0, 0, 0, 0), (.nop, 0, 0, 0, 0), (.iconst 1, 1, 0, 0, 0), (.iload_n 1, 1, 1, 0, 0), (.ishl, 1, 0, 0, 0), (.ior, 1, 0, 0, 0), (.putfield 78, 3, 10, 11, 292), (.nop, 0, 0, 0, 0), (.nop, 0, 0, 0, 0), (.aload_n 0, 1, 0, 0, 0), (.getfield 78, 3, 10, 11, 292), (.nop, 0, 0, 0, 0), (.nop, 0, 0, 0, 0), (.invokestatic 205, 3, 184, 0, 644), (.nop, 0, 0, 0, 0), (.nop, 0, 0, 0, 0), (.ireturn, 1, 0, 0, 0)]
abbrev mX10_put : Nat := 89
def qX10_passPile : List pmE := [(.aload_n 0, 1, 0, 0, 0), (.getfield 74, 3, 10, 10, 291), (.nop, 0, 0, 0, 0), (.nop, 0, 0, 0, 0), (.bipush (-4), 2, 0, 0, 0), (.nop, 0, 0, 0, 0), (.if_icmp .ne 8, 3, 14, 0, 0), (.nop, 0, 0, 0, 0), (.nop, 0, 0, 0, 0), (.bipush (-11), 2, 0, 0, 0), (.nop, 0, 0, 0, 0), (.goto 11, 3, 22, 0, 0), (.nop, 0, 0, 0, 0), (.nop, 0, 0, 0, 0), (.aload_n 0, 1, 0, 0, 0), (.aload_n 0, 1, 0, 0, 0), (.getfield 78, 3, 10, 11, 292), (.nop, 0, 0, 0, 0), (.nop, 0, 0, 0, 0), (.invokevirtual 199, 3, 110, 0, 624), (.nop, 0, 0, 0, 0), (.nop, 0, 0, 0, 0), (.ireturn, 1, 0, 0, 0)]
abbrev mX10_passPile : Nat := 90
def qX10_undo : List pmE := [(.aload_n 0, 1, 0, 0, 0), (.getfield 19, 3, 10, 1, 282), (.nop, 0, 0, 0, 0), (.nop, 0, 0, 0, 0), (.invokevirtual 210, 3, 50, 0, 658), (.nop, 0, 0, 0, 0), (.nop, 0, 0, 0, 0), (.ifCond .eq 16, 3, 23, 0, 0), (.nop, 0, 0, 0, 0), (.nop, 0, 0, 0, 0), (.aload_n 0, 1, 0, 0, 0), (.getfield 19, 3, 10, 1, 282), (.nop, 0, 0, 0, 0), (.nop, 0, 0, 0, 0), (.getfield 179, 3, 7, 2, 207), (.nop, 0, 0, 0, 0), (.nop, 0, 0, 0, 0), (.invokevirtual 183, 3, 9, 0, 580), (.nop, 0, 0, 0, 0), (.nop, 0, 0, 0, 0), (.goto 5, 3, 25, 0, 0), (.nop, 0, 0, 0, 0), (.nop, 0, 0, 0, 0), (.bipush (-4), 2, 0, 0, 0), (.nop, 0, 0, 0, 0), (.ireturn, 1, 0, 0, 0)]
abbrev mX10_undo : Nat := 91
def qX10_comes : List pmE := [(.iload_n 1, 1, 1, 0, 0), (.iconst 4, 1, 0, 0, 0), (.invokestatic 156, 3, 114, 0, 565), (.nop, 0, 0, 0, 0), (.nop, 0, 0, 0, 0), (.ifCond .ne 5, 3, 10, 0, 0), (.nop, 0, 0, 0, 0), (.nop, 0, 0, 0, 0), (.iconst (-1), 1, 0, 0, 0), (.ireturn, 1, 0, 0, 0), (.aload_n 0, 1, 0, 0, 0), (.invokevirtual 214, 3, 107, 0, 476), (.nop, 0, 0, 0, 0), (.nop, 0, 0, 0, 0), (.astore_n 3, 1, 3, 0, 0), (.iload_n 1, 1, 1, 0, 0), (.ifCond .ne 8, 3, 24, 0, 0), (.nop, 0, 0, 0, 0), (.nop, 0, 0, 0, 0), (.aload_n 3, 1, 3, 0, 0), (.invokevirtual 169, 3, 16, 0, 571), (.nop, 0, 0, 0, 0), (.nop, 0, 0, 0, 0), (.ireturn, 1, 0, 0, 0), (.iload_n 1, 1, 1, 0, 0), (.iconst 3, 1, 0, 0, 0), (.if_icmp .ne 18, 3, 44, 0, 0), (.nop, 0, 0, 0, 0), (.nop, 0, 0, 0, 0), (.aload_n 3, 1, 3, 0, 0), (.invokevirtual 169, 3, 16, 0, 571), (.nop, 0, 0, 0, 0), (.nop, 0, 0, 0, 0), (.bipush 60, 2, 0, 0, 0), (.nop, 0, 0, 0, 0), (.if_icmp .gt 7, 3, 42, 0, 0), (.nop, 0, 0, 0, 0), (.nop, 0, 0, 0, 0), (.iconst 1, 1, 0, 0, 0), (.goto 4, 3, 43, 0, 0), (.nop, 0, 0, 0, 0), (.nop, 0, 0, 0, 0), (.iconst 0, 1, 0, 0, 0), (.ireturn, 1, 0, 0, 0), (.iload_n 2, 1, 2, 0, 0), (.aload_n 3, 1, 3, 0, 0), (.invokevirtual 169, 3, 16, 0, 571), (.nop, 0, 0, 0, 0), (.nop, 0, 0, 0, 0), (.invokestatic 156, 3, 114, 0, 565), (.nop, 0, 0, 0, 0), (.nop, 0, 0, 0, 0), (.ifCond .ne 5, 3, 57, 0, 0), (.nop, 0, 0, 0, 0), (.nop, 0, 0, 0, 0), (.iconst (-1), 1, 0, 0, 0), (.ireturn, 1, 0, 0, 0), (.iload_n 1, 1, 1, 0, 0), (.iconst 1, 1, 0, 0, 0), (.if_icmp .ne 14, 3, 73, 0, 0), (.nop, 0, 0, 0, 0), (.nop, 0, 0, 0, 0), (.aload_n 3, 1, 3, 0, 0), (.getfield 170, 3, 2, 0, 118), (.nop, 0, 0, 0, 0), (.nop, 0, 0, 0, 0), (.iload_n 2, 1, 2, 0, 0), (.invokevirtual 160, 3, 25, 0, 560), (.nop, 0, 0, 0, 0), (.nop, 0, 0, 0, 0), (.goto 11, 3, 81, 0, 0), (.nop, 0, 0, 0, 0), (.nop, 0, 0, 0, 0), (.aload_n 3, 1, 3, 0, 0), (.getfield 173, 3, 2, 1, 121), (.nop, 0, 0, 0, 0), (.nop, 0, 0, 0, 0), (.iload_n 2, 1, 2, 0, 0), (.invokevirtual 160, 3, 25, 0, 560), (.nop, 0, 0, 0, 0), (.nop, 0, 0, 0, 0), (.ireturn, 1, 0, 0, 0)]
abbrev mX10_comes : Nat := 92
def qX10_used : List pmE := [(.iload_n 1, 1, 1, 0, 0), (.aload_n 0, 1, 0, 0, 0), (.getfield 19, 3, 10, 1, 282), (.nop, 0, 0, 0, 0), (.nop, 0, 0, 0, 0), (.getfield 143, 3, 7, 0, 203), (.nop, 0, 0, 0, 0), (.nop, 0, 0, 0, 0), (.getfield 166, 3, 3, 0, 130), (.nop, 0, 0, 0, 0), (.nop, 0, 0, 0, 0), (.invokevirtual 169, 3, 16, 0, 571), (.nop, 0, 0, 0, 0), (.nop, 0, 0, 0, 0), (.invokestatic 156, 3, 114, 0, 565), (.nop, 0, 0, 0, 0), (.nop, 0, 0, 0, 0), (.ifCond .ne 5, 3, 22, 0, 0), (.nop, 0, 0, 0, 0), (.nop, 0, 0, 0, 0), (.iconst (-1), 1, 0, 0, 0), (.ireturn, 1, 0, 0, 0), (.aload_n 0, 1, 0, 0, 0), (.invokevirtual 214, 3, 107, 0, 476), (.nop, 0, 0, 0, 0), (.nop, 0, 0, 0, 0), (.pop, 1, 0, 0, 0), (.aload_n 0, 1, 0, 0, 0), (.getfield 54, 3, 10, 6, 287), (.nop, 0, 0, 0, 0), (.nop, 0, 0, 0, 0), (.getfield 218, 3, 9, 4, 234), (.nop, 0, 0, 0, 0), (.nop, 0, 0, 0, 0), (.iload_n 1, 1, 1, 0, 0), (.invokevirtual 160, 3, 25, 0, 560), (.nop, 0, 0, 0, 0), (.nop, 0, 0, 0, 0), (.ireturn, 1, 0, 0, 0)]
abbrev mX10_used : Nat := 93
def qX10_went : List pmE := [(.iload_n 1, 1, 1, 0, 0), (.bipush 60, 2, 0, 0, 0), (.nop, 0, 0, 0, 0), (.invokestatic 156, 3, 114, 0, 565), (.nop, 0, 0, 0, 0), (.nop, 0, 0, 0, 0), (.ifCond .ne 5, 3, 11, 0, 0), (.nop, 0, 0, 0, 0), (.nop, 0, 0, 0, 0), (.iconst (-1), 1, 0, 0, 0), (.ireturn, 1, 0, 0, 0), (.aload_n 0, 1, 0, 0, 0), (.invokevirtual 214, 3, 107, 0, 476), (.nop, 0, 0, 0, 0), (.nop, 0, 0, 0, 0), (.getfield 173, 3, 2, 1, 121), (.nop, 0, 0, 0, 0), (.nop, 0, 0, 0, 0), (.astore_n 2, 1, 2, 0, 0), (.iconst 0, 1, 0, 0, 0), (.istore_n 3, 1, 3, 0, 0), (.iload_n 3, 1, 3, 0, 0), (.aload_n 2, 1, 2, 0, 0), (.invokevirtual 89, 3, 23, 0, 326), (.nop, 0, 0, 0, 0), (.nop, 0, 0, 0, 0), (.if_icmp .ge 20, 3, 46, 0, 0), (.nop, 0, 0, 0, 0), (.nop, 0, 0, 0, 0), (.aload_n 2, 1, 2, 0, 0), (.iload_n 3, 1, 3, 0, 0), (.invokevirtual 160, 3, 25, 0, 560), (.nop, 0, 0, 0, 0), (.nop, 0, 0, 0, 0), (.iload_n 1, 1, 1, 0, 0), (.if_icmp .ne 5, 3, 40, 0, 0), (.nop, 0, 0, 0, 0), (.nop, 0, 0, 0, 0), (.iload_n 3, 1, 3, 0, 0), (.ireturn, 1, 0, 0, 0), (.iinc 3 1, 3, 3, 0, 0), (.nop, 0, 0, 0, 0), (.nop, 0, 0, 0, 0), (.goto (-22), 3, 21, 0, 0), (.nop, 0, 0, 0, 0), (.nop, 0, 0, 0, 0), (.bipush (-4), 2, 0, 0, 0), (.nop, 0, 0, 0, 0), (.ireturn, 1, 0, 0, 0)]
abbrev mX10_went : Nat := 94
def qX10_rest_0 : List pmE := [(.aload_n 0, 1, 0, 0, 0), (.getfield 61, 3, 10, 7, 288), (.nop, 0, 0, 0, 0), (.nop, 0, 0, 0, 0), (.aload_n 0, 1, 0, 0, 0), (.getfield 19, 3, 10, 1, 282), (.nop, 0, 0, 0, 0), (.nop, 0, 0, 0, 0), (.getfield 143, 3, 7, 0, 203), (.nop, 0, 0, 0, 0), (.nop, 0, 0, 0, 0), (.getfield 166, 3, 3, 0, 130), (.nop, 0, 0, 0, 0), (.nop, 0, 0, 0, 0), (.invokevirtual 221, 3, 19, 0, 628), (.nop, 0, 0, 0, 0), (.nop, 0, 0, 0, 0), (.iconst 0, 1, 0, 0, 0), (.istore_n 1, 1, 1, 0, 0), (.iload_n 1, 1, 1, 0, 0), (.bipush 20, 2, 0, 0, 0), (.nop, 0, 0, 0, 0), (.if_icmp .gt 98, 3, 120, 0, 0), (.nop, 0, 0, 0, 0), (.nop, 0, 0, 0, 0), (.aload_n 0, 1, 0, 0, 0), (.getfield 54, 3, 10, 6, 287), (.nop, 0, 0, 0, 0), (.nop, 0, 0, 0, 0), (.aload_n 0, 1, 0, 0, 0), (.getfield 61, 3, 10, 7, 288), (.nop, 0, 0, 0, 0), (.nop, 0, 0, 0, 0), (.invokevirtual 225, 3, 62, 0, 480), (.nop, 0, 0, 0, 0), (.nop, 0, 0, 0, 0), (.aload_n 0, 1, 0, 0, 0), (.getfield 54, 3, 10, 6, 287), (.nop, 0, 0, 0, 0), (.nop, 0, 0, 0, 0), (.aload_n 0, 1, 0, 0, 0), (.getfield 61, 3, 10, 7, 288), (.nop, 0, 0, 0, 0), (.nop, 0, 0, 0, 0), (.aload_n 0, 1, 0, 0, 0), (.getfield 19, 3, 10, 1, 282), (.nop, 0, 0, 0, 0), (.nop, 0, 0, 0, 0), (.getfield 143, 3, 7, 0, 203), (.nop, 0, 0, 0, 0), (.nop, 0, 0, 0, 0), (.getfield 147, 3, 3, 1, 133), (.nop, 0, 0, 0, 0), (.nop, 0, 0, 0, 0), (.invokevirtual 228, 3, 68, 0, 518), (.nop, 0, 0, 0, 0), (.nop, 0, 0, 0, 0), (.aload_n 0, 1, 0, 0, 0), (.getfield 54, 3, 10, 6, 287), (.nop, 0, 0, 0, 0), (.nop, 0, 0, 0, 0), (.getfield 232, 3, 9, 6, 238), (.nop, 0, 0, 0, 0), (.nop, 0, 0, 0, 0), (.invokevirtual 169, 3, 16, 0, 571), (.nop, 0, 0, 0, 0), (.nop, 0, 0, 0, 0), (.bipush 60, 2, 0, 0, 0), (.nop, 0, 0, 0, 0), (.if_icmp .le 6, 3, 75, 0, 0), (.nop, 0, 0, 0, 0), (.nop, 0, 0, 0, 0), (.bipush (-4), 2, 0, 0, 0), (.nop, 0, 0, 0, 0), (.ireturn, 1, 0, 0, 0), (.aload_n 0, 1, 0, 0, 0), (.getfield 54, 3, 10, 6, 287), (.nop, 0, 0, 0, 0), (.nop, 0, 0, 0, 0), (.getfield 232, 3, 9, 6, 238), (.nop, 0, 0, 0, 0), (.nop, 0, 0, 0, 0), (.getfield 170, 3, 2, 0, 118), (.nop, 0, 0, 0, 0), (.nop, 0, 0, 0, 0), (.aload_n 0, 1, 0, 0, 0), (.getfield 61, 3, 10, 7, 288), (.nop, 0, 0, 0, 0), (.nop, 0, 0, 0, 0), (.getfield 170, 3, 2, 0, 118), (.nop, 0, 0, 0, 0), (.nop, 0, 0, 0, 0), (.invokevirtual 235, 3, 32, 0, 682), (.nop, 0, 0, 0, 0), (.nop, 0, 0, 0, 0), (.ifCond .eq 5, 3, 100, 0, 0), (.nop, 0, 0, 0, 0), (.nop, 0, 0, 0, 0), (.iload_n 1, 1, 1, 0, 0), (.ireturn, 1, 0, 0, 0)]
def qX10_rest_1 : List pmE := [(.aload_n 0, 1, 0, 0, 0), (.getfield 61, 3, 10, 7, 288), (.nop, 0, 0, 0, 0), (.nop, 0, 0, 0, 0), (.aload_n 0, 1, 0, 0, 0), (.getfield 54, 3, 10, 6, 287), (.nop, 0, 0, 0, 0), (.nop, 0, 0, 0, 0), (.getfield 232, 3, 9, 6, 238), (.nop, 0, 0, 0, 0), (.nop, 0, 0, 0, 0), (.invokevirtual 221, 3, 19, 0, 628), (.nop, 0, 0, 0, 0), (.nop, 0, 0, 0, 0), (.iinc 1 1, 3, 1, 0, 0), (.nop, 0, 0, 0, 0), (.nop, 0, 0, 0, 0), (.goto (-98), 3, 19, 0, 0), (.nop, 0, 0, 0, 0), (.nop, 0, 0, 0, 0), (.bipush (-4), 2, 0, 0, 0), (.nop, 0, 0, 0, 0), (.ireturn, 1, 0, 0, 0)]
def qX10_rest : List pmE := qX10_rest_0 ++ qX10_rest_1
abbrev mX10_rest : Nat := 95
def qX10_sure : List pmE := [(.aload_n 0, 1, 0, 0, 0), (.getfield 19, 3, 10, 1, 282), (.nop, 0, 0, 0, 0), (.nop, 0, 0, 0, 0), (.getfield 143, 3, 7, 0, 203), (.nop, 0, 0, 0, 0), (.nop, 0, 0, 0, 0), (.getfield 166, 3, 3, 0, 130), (.nop, 0, 0, 0, 0), (.nop, 0, 0, 0, 0), (.astore_n 2, 1, 2, 0, 0), (.iload_n 1, 1, 1, 0, 0), (.ifCond .lt 11, 3, 23, 0, 0), (.nop, 0, 0, 0, 0), (.nop, 0, 0, 0, 0), (.iload_n 1, 1, 1, 0, 0), (.aload_n 2, 1, 2, 0, 0), (.invokevirtual 169, 3, 16, 0, 571), (.nop, 0, 0, 0, 0), (.nop, 0, 0, 0, 0), (.if_icmp .le 5, 3, 25, 0, 0), (.nop, 0, 0, 0, 0), (.nop, 0, 0, 0, 0), (.iconst (-1), 1, 0, 0, 0), (.ireturn, 1, 0, 0, 0), (.aload_n 0, 1, 0, 0, 0), (.getfield 54, 3, 10, 6, 287), (.nop, 0, 0, 0, 0), (.nop, 0, 0, 0, 0), (.aload_n 2, 1, 2, 0, 0), (.invokevirtual 225, 3, 62, 0, 480), (.nop, 0, 0, 0, 0), (.nop, 0, 0, 0, 0), (.aload_n 0, 1, 0, 0, 0), (.getfield 54, 3, 10, 6, 287), (.nop, 0, 0, 0, 0), (.nop, 0, 0, 0, 0), (.aload_n 2, 1, 2, 0, 0), (.iload_n 1, 1, 1, 0, 0), (.aload_n 0, 1, 0, 0, 0), (.getfield 19, 3, 10, 1, 282), (.nop, 0, 0, 0, 0), (.nop, 0, 0, 0, 0), (.getfield 143, 3, 7, 0, 203), (.nop, 0, 0, 0, 0), (.nop, 0, 0, 0, 0), (.getfield 147, 3, 3, 1, 133), (.nop, 0, 0, 0, 0), (.nop, 0, 0, 0, 0), (.invokevirtual 239, 3, 70, 0, 691), (.nop, 0, 0, 0, 0), (.nop, 0, 0, 0, 0), (.ireturn, 1, 0, 0, 0)]
abbrev mX10_sure : Nat := 96
def qX10_lean_0 : List pmE := [(.iload_n 1, 1, 1, 0, 0), (.iconst 2, 1, 0, 0, 0), (.invokestatic 156, 3, 114, 0, 565), (.nop, 0, 0, 0, 0), (.nop, 0, 0, 0, 0), (.ifCond .ne 5, 3, 10, 0, 0), (.nop, 0, 0, 0, 0), (.nop, 0, 0, 0, 0), (.iconst (-1), 1, 0, 0, 0), (.ireturn, 1, 0, 0, 0), (.aload_n 0, 1, 0, 0, 0), (.getfield 19, 3, 10, 1, 282), (.nop, 0, 0, 0, 0), (.nop, 0, 0, 0, 0), (.getfield 143, 3, 7, 0, 203), (.nop, 0, 0, 0, 0), (.nop, 0, 0, 0, 0), (.getfield 166, 3, 3, 0, 130), (.nop, 0, 0, 0, 0), (.nop, 0, 0, 0, 0), (.astore_n 2, 1, 2, 0, 0), (.aload_n 0, 1, 0, 0, 0), (.getfield 54, 3, 10, 6, 287), (.nop, 0, 0, 0, 0), (.nop, 0, 0, 0, 0), (.aload_n 2, 1, 2, 0, 0), (.invokevirtual 225, 3, 62, 0, 480), (.nop, 0, 0, 0, 0), (.nop, 0, 0, 0, 0), (.bipush (-4), 2, 0, 0, 0), (.nop, 0, 0, 0, 0), (.istore_n 3, 1, 3, 0, 0), (.bipush (-4), 2, 0, 0, 0), (.nop, 0, 0, 0, 0), (.istore 4, 2, 4, 0, 0), (.nop, 0, 0, 0, 0), (.iconst 0, 1, 0, 0, 0), (.istore 5, 2, 5, 0, 0), (.nop, 0, 0, 0, 0), (.iload 5, 2, 5, 0, 0), (.nop, 0, 0, 0, 0), (.aload_n 0, 1, 0, 0, 0), (.getfield 19, 3, 10, 1, 282), (.nop, 0, 0, 0, 0), (.nop, 0, 0, 0, 0), (.getfield 48, 3, 7, 1, 205), (.nop, 0, 0, 0, 0), (.nop, 0, 0, 0, 0), (.invokevirtual 114, 3, 1, 0, 445), (.nop, 0, 0, 0, 0), (.nop, 0, 0, 0, 0), (.if_icmp .ge 76, 3, 127, 0, 0), (.nop, 0, 0, 0, 0), (.nop, 0, 0, 0, 0), (.iconst 1, 1, 0, 0, 0), (.iload 5, 2, 5, 0, 0), (.nop, 0, 0, 0, 0), (.ishl, 1, 0, 0, 0), (.istore 6, 2, 6, 0, 0), (.nop, 0, 0, 0, 0), (.aload_n 0, 1, 0, 0, 0), (.getfield 19, 3, 10, 1, 282), (.nop, 0, 0, 0, 0), (.nop, 0, 0, 0, 0), (.getfield 143, 3, 7, 0, 203), (.nop, 0, 0, 0, 0), (.nop, 0, 0, 0, 0), (.getfield 147, 3, 3, 1, 133), (.nop, 0, 0, 0, 0), (.nop, 0, 0, 0, 0), (.iload 6, 2, 6, 0, 0), (.nop, 0, 0, 0, 0), (.iand, 1, 0, 0, 0), (.ifCond .eq 48, 3, 121, 0, 0), (.nop, 0, 0, 0, 0), (.nop, 0, 0, 0, 0), (.aload_n 0, 1, 0, 0, 0), (.getfield 54, 3, 10, 6, 287), (.nop, 0, 0, 0, 0), (.nop, 0, 0, 0, 0), (.aload_n 2, 1, 2, 0, 0), (.aload_n 0, 1, 0, 0, 0), (.getfield 19, 3, 10, 1, 282), (.nop, 0, 0, 0, 0), (.nop, 0, 0, 0, 0), (.getfield 143, 3, 7, 0, 203), (.nop, 0, 0, 0, 0), (.nop, 0, 0, 0, 0), (.getfield 147, 3, 3, 1, 133), (.nop, 0, 0, 0, 0), (.nop, 0, 0, 0, 0), (.iload 6, 2, 6, 0, 0), (.nop, 0, 0, 0, 0), (.iconst (-1), 1, 0, 0, 0), (.ixor, 1, 0, 0, 0), (.iand, 1, 0, 0, 0), (.invokevirtual 243, 3, 69, 0, 707), (.nop, 0, 0, 0, 0), (.nop, 0, 0, 0, 0), (.istore 7, 2, 7, 0, 0)]
def qX10_lean_1 : List pmE := [(.nop, 0, 0, 0, 0), (.iload_n 3, 1, 3, 0, 0), (.bipush (-4), 2, 0, 0, 0), (.nop, 0, 0, 0, 0), (.if_icmp .eq 10, 3, 114, 0, 0), (.nop, 0, 0, 0, 0), (.nop, 0, 0, 0, 0), (.iload 7, 2, 7, 0, 0), (.nop, 0, 0, 0, 0), (.iload 4, 2, 4, 0, 0), (.nop, 0, 0, 0, 0), (.if_icmp .ge 10, 3, 121, 0, 0), (.nop, 0, 0, 0, 0), (.nop, 0, 0, 0, 0), (.iload 5, 2, 5, 0, 0), (.nop, 0, 0, 0, 0), (.istore_n 3, 1, 3, 0, 0), (.iload 7, 2, 7, 0, 0), (.nop, 0, 0, 0, 0), (.istore 4, 2, 4, 0, 0), (.nop, 0, 0, 0, 0), (.iinc 5 1, 3, 5, 0, 0), (.nop, 0, 0, 0, 0), (.nop, 0, 0, 0, 0), (.goto (-85), 3, 39, 0, 0), (.nop, 0, 0, 0, 0), (.nop, 0, 0, 0, 0), (.iload_n 1, 1, 1, 0, 0), (.ifCond .ne 7, 3, 135, 0, 0), (.nop, 0, 0, 0, 0), (.nop, 0, 0, 0, 0), (.iload_n 3, 1, 3, 0, 0), (.goto 5, 3, 137, 0, 0), (.nop, 0, 0, 0, 0), (.nop, 0, 0, 0, 0), (.iload 4, 2, 4, 0, 0), (.nop, 0, 0, 0, 0), (.ireturn, 1, 0, 0, 0)]
def qX10_lean : List pmE := qX10_lean_0 ++ qX10_lean_1
abbrev mX10_lean : Nat := 97
def qX10_longOdds_0 : List pmE := [(.iload_n 1, 1, 1, 0, 0), (.sipush 361, 3, 0, 0, 0), (.nop, 0, 0, 0, 0), (.nop, 0, 0, 0, 0), (.invokestatic 156, 3, 114, 0, 565), (.nop, 0, 0, 0, 0), (.nop, 0, 0, 0, 0), (.ifCond .eq 20, 3, 27, 0, 0), (.nop, 0, 0, 0, 0), (.nop, 0, 0, 0, 0), (.iload_n 2, 1, 2, 0, 0), (.bipush 11, 2, 0, 0, 0), (.nop, 0, 0, 0, 0), (.invokestatic 156, 3, 114, 0, 565), (.nop, 0, 0, 0, 0), (.nop, 0, 0, 0, 0), (.ifCond .eq 11, 3, 27, 0, 0), (.nop, 0, 0, 0, 0), (.nop, 0, 0, 0, 0), (.iload_n 3, 1, 3, 0, 0), (.iconst 2, 1, 0, 0, 0), (.invokestatic 156, 3, 114, 0, 565), (.nop, 0, 0, 0, 0), (.nop, 0, 0, 0, 0), (.ifCond .ne 7, 3, 31, 0, 0), (.nop, 0, 0, 0, 0), (.nop, 0, 0, 0, 0), (.ldc2_w 247, 3, 1, 1, 715), (.nop, 0, 0, 0, 0), (.nop, 0, 0, 0, 0), (.lreturn, 1, 0, 0, 0), (.aload_n 0, 1, 0, 0, 0), (.getfield 54, 3, 10, 6, 287), (.nop, 0, 0, 0, 0), (.nop, 0, 0, 0, 0), (.aload_n 0, 1, 0, 0, 0), (.getfield 19, 3, 10, 1, 282), (.nop, 0, 0, 0, 0), (.nop, 0, 0, 0, 0), (.getfield 143, 3, 7, 0, 203), (.nop, 0, 0, 0, 0), (.nop, 0, 0, 0, 0), (.getfield 166, 3, 3, 0, 130), (.nop, 0, 0, 0, 0), (.nop, 0, 0, 0, 0), (.invokevirtual 225, 3, 62, 0, 480), (.nop, 0, 0, 0, 0), (.nop, 0, 0, 0, 0), (.aload_n 0, 1, 0, 0, 0), (.getfield 54, 3, 10, 6, 287), (.nop, 0, 0, 0, 0), (.nop, 0, 0, 0, 0), (.invokevirtual 249, 3, 67, 0, 716), (.nop, 0, 0, 0, 0), (.nop, 0, 0, 0, 0), (.aload_n 0, 1, 0, 0, 0), (.getfield 19, 3, 10, 1, 282), (.nop, 0, 0, 0, 0), (.nop, 0, 0, 0, 0), (.getfield 143, 3, 7, 0, 203), (.nop, 0, 0, 0, 0), (.nop, 0, 0, 0, 0), (.getfield 147, 3, 3, 1, 133), (.nop, 0, 0, 0, 0), (.nop, 0, 0, 0, 0), (.iand, 1, 0, 0, 0), (.istore 4, 2, 4, 0, 0), (.nop, 0, 0, 0, 0), (.aload_n 0, 1, 0, 0, 0), (.iload_n 1, 1, 1, 0, 0), (.iload 4, 2, 4, 0, 0), (.nop, 0, 0, 0, 0), (.invokevirtual 252, 3, 111, 0, 720), (.nop, 0, 0, 0, 0), (.nop, 0, 0, 0, 0), (.iload 4, 2, 4, 0, 0), (.nop, 0, 0, 0, 0), (.invokestatic 205, 3, 184, 0, 644), (.nop, 0, 0, 0, 0), (.nop, 0, 0, 0, 0), (.istore 5, 2, 5, 0, 0), (.nop, 0, 0, 0, 0), (.lconst 0, 1, 0, 0, 0), (.lstore 6, 2, 6, 0, 0), (.nop, 0, 0, 0, 0), (.iconst 0, 1, 0, 0, 0), (.istore 8, 2, 8, 0, 0), (.nop, 0, 0, 0, 0), (.iload 8, 2, 8, 0, 0), (.nop, 0, 0, 0, 0), (.iload 5, 2, 5, 0, 0), (.nop, 0, 0, 0, 0), (.if_icmp .gt 46, 3, 138, 0, 0), (.nop, 0, 0, 0, 0), (.nop, 0, 0, 0, 0), (.lload 6, 2, 6, 0, 0), (.nop, 0, 0, 0, 0), (.aload_n 0, 1, 0, 0, 0), (.getfield 65, 3, 10, 8, 289), (.nop, 0, 0, 0, 0)]
def qX10_longOdds_1 : List pmE := [(.nop, 0, 0, 0, 0), (.iload 8, 2, 8, 0, 0), (.nop, 0, 0, 0, 0), (.invokevirtual 160, 3, 25, 0, 560), (.nop, 0, 0, 0, 0), (.nop, 0, 0, 0, 0), (.i2l, 1, 0, 0, 0), (.bipush 10, 2, 0, 0, 0), (.nop, 0, 0, 0, 0), (.iload_n 2, 1, 2, 0, 0), (.isub, 1, 0, 0, 0), (.i2l, 1, 0, 0, 0), (.iload 8, 2, 8, 0, 0), (.nop, 0, 0, 0, 0), (.invokestatic 255, 3, 112, 0, 726), (.nop, 0, 0, 0, 0), (.nop, 0, 0, 0, 0), (.lmul, 1, 0, 0, 0), (.iload_n 2, 1, 2, 0, 0), (.i2l, 1, 0, 0, 0), (.iload 5, 2, 5, 0, 0), (.nop, 0, 0, 0, 0), (.iload 8, 2, 8, 0, 0), (.nop, 0, 0, 0, 0), (.isub, 1, 0, 0, 0), (.invokestatic 255, 3, 112, 0, 726), (.nop, 0, 0, 0, 0), (.nop, 0, 0, 0, 0), (.lmul, 1, 0, 0, 0), (.ladd, 1, 0, 0, 0), (.lstore 6, 2, 6, 0, 0), (.nop, 0, 0, 0, 0), (.iinc 8 1, 3, 8, 0, 0), (.nop, 0, 0, 0, 0), (.nop, 0, 0, 0, 0), (.goto (-47), 3, 88, 0, 0), (.nop, 0, 0, 0, 0), (.nop, 0, 0, 0, 0), (.ldc2_w 259, 3, 10, 0, 729), (.nop, 0, 0, 0, 0), (.nop, 0, 0, 0, 0), (.iload 5, 2, 5, 0, 0), (.nop, 0, 0, 0, 0), (.invokestatic 255, 3, 112, 0, 726), (.nop, 0, 0, 0, 0), (.nop, 0, 0, 0, 0), (.lstore 8, 2, 8, 0, 0), (.nop, 0, 0, 0, 0), (.lload 6, 2, 6, 0, 0), (.nop, 0, 0, 0, 0), (.lload 8, 2, 8, 0, 0), (.nop, 0, 0, 0, 0), (.invokestatic 261, 3, 113, 0, 730), (.nop, 0, 0, 0, 0), (.nop, 0, 0, 0, 0), (.lstore 10, 2, 10, 0, 0), (.nop, 0, 0, 0, 0), (.lload 10, 2, 10, 0, 0), (.nop, 0, 0, 0, 0), (.lconst 0, 1, 0, 0, 0), (.lcmp, 1, 0, 0, 0), (.ifCond .ne 7, 3, 168, 0, 0), (.nop, 0, 0, 0, 0), (.nop, 0, 0, 0, 0), (.ldc2_w 247, 3, 1, 1, 715), (.nop, 0, 0, 0, 0), (.nop, 0, 0, 0, 0), (.lreturn, 1, 0, 0, 0), (.iload_n 3, 1, 3, 0, 0), (.ifCond .ne 11, 3, 180, 0, 0), (.nop, 0, 0, 0, 0), (.nop, 0, 0, 0, 0), (.lload 6, 2, 6, 0, 0), (.nop, 0, 0, 0, 0), (.lload 10, 2, 10, 0, 0), (.nop, 0, 0, 0, 0), (.ldiv, 1, 0, 0, 0), (.goto 8, 3, 185, 0, 0), (.nop, 0, 0, 0, 0), (.nop, 0, 0, 0, 0), (.lload 8, 2, 8, 0, 0), (.nop, 0, 0, 0, 0), (.lload 10, 2, 10, 0, 0), (.nop, 0, 0, 0, 0), (.ldiv, 1, 0, 0, 0), (.lreturn, 1, 0, 0, 0)]
def qX10_longOdds : List pmE := qX10_longOdds_0 ++ qX10_longOdds_1
abbrev mX10_longOdds : Nat := 98
def qX10_image : List pmE := [(.aload_n 0, 1, 0, 0, 0), (.getfield 23, 3, 10, 2, 283), (.nop, 0, 0, 0, 0), (.nop, 0, 0, 0, 0), (.aload_n 0, 1, 0, 0, 0), (.getfield 19, 3, 10, 1, 282), (.nop, 0, 0, 0, 0), (.nop, 0, 0, 0, 0), (.invokevirtual 265, 3, 51, 0, 737), (.nop, 0, 0, 0, 0), (.nop, 0, 0, 0, 0), (.aload_n 0, 1, 0, 0, 0), (.iconst 1, 1, 0, 0, 0), (.putfield 26, 3, 110, 3, 284), (.nop, 0, 0, 0, 0), (.nop, 0, 0, 0, 0), (.iconst 1, 1, 0, 0, 0), (.ireturn, 1, 0, 0, 0)]
abbrev mX10_image : Nat := 99
def qX10_restore : List pmE := [(.aload_n 0, 1, 0, 0, 0), (.getfield 26, 3, 10, 3, 284), (.nop, 0, 0, 0, 0), (.nop, 0, 0, 0, 0), (.ifCond .ne 6, 3, 10, 0, 0), (.nop, 0, 0, 0, 0), (.nop, 0, 0, 0, 0), (.bipush (-4), 2, 0, 0, 0), (.nop, 0, 0, 0, 0), (.ireturn, 1, 0, 0, 0), (.aload_n 0, 1, 0, 0, 0), (.getfield 19, 3, 10, 1, 282), (.nop, 0, 0, 0, 0), (.nop, 0, 0, 0, 0), (.aload_n 0, 1, 0, 0, 0), (.getfield 23, 3, 10, 2, 283), (.nop, 0, 0, 0, 0), (.nop, 0, 0, 0, 0), (.invokevirtual 265, 3, 51, 0, 737), (.nop, 0, 0, 0, 0), (.nop, 0, 0, 0, 0), (.aload_n 0, 1, 0, 0, 0), (.bipush (-4), 2, 0, 0, 0), (.nop, 0, 0, 0, 0), (.putfield 74, 3, 10, 10, 291), (.nop, 0, 0, 0, 0), (.nop, 0, 0, 0, 0), (.iconst 1, 1, 0, 0, 0), (.ireturn, 1, 0, 0, 0)]
abbrev mX10_restore : Nat := 100
def qX10_came_0 : List pmE := [(.aload_n 0, 1, 0, 0, 0), (.getfield 19, 3, 10, 1, 282), (.nop, 0, 0, 0, 0), (.nop, 0, 0, 0, 0), (.getfield 48, 3, 7, 1, 205), (.nop, 0, 0, 0, 0), (.nop, 0, 0, 0, 0), (.iload_n 1, 1, 1, 0, 0), (.invokevirtual 129, 3, 2, 0, 468), (.nop, 0, 0, 0, 0), (.nop, 0, 0, 0, 0), (.ifCond .eq 21, 3, 32, 0, 0), (.nop, 0, 0, 0, 0), (.nop, 0, 0, 0, 0), (.iload_n 2, 1, 2, 0, 0), (.iload_n 3, 1, 3, 0, 0), (.invokestatic 268, 3, 115, 0, 754), (.nop, 0, 0, 0, 0), (.nop, 0, 0, 0, 0), (.ifCond .eq 13, 3, 32, 0, 0), (.nop, 0, 0, 0, 0), (.nop, 0, 0, 0, 0), (.iload 5, 2, 5, 0, 0), (.nop, 0, 0, 0, 0), (.bipush 61, 2, 0, 0, 0), (.nop, 0, 0, 0, 0), (.invokestatic 156, 3, 114, 0, 565), (.nop, 0, 0, 0, 0), (.nop, 0, 0, 0, 0), (.ifCond .ne 5, 3, 34, 0, 0), (.nop, 0, 0, 0, 0), (.nop, 0, 0, 0, 0), (.iconst (-1), 1, 0, 0, 0), (.ireturn, 1, 0, 0, 0), (.aload_n 0, 1, 0, 0, 0), (.getfield 70, 3, 10, 9, 290), (.nop, 0, 0, 0, 0), (.nop, 0, 0, 0, 0), (.iload_n 2, 1, 2, 0, 0), (.aaload, 1, 0, 0, 0), (.astore 6, 2, 6, 0, 0), (.nop, 0, 0, 0, 0), (.aload 6, 2, 6, 0, 0), (.nop, 0, 0, 0, 0), (.iload_n 3, 1, 3, 0, 0), (.iload 4, 2, 4, 0, 0), (.nop, 0, 0, 0, 0), (.iload 5, 2, 5, 0, 0), (.nop, 0, 0, 0, 0), (.invokevirtual 271, 3, 41, 0, 757), (.nop, 0, 0, 0, 0), (.nop, 0, 0, 0, 0), (.istore 7, 2, 7, 0, 0), (.nop, 0, 0, 0, 0), (.iload 7, 2, 7, 0, 0), (.nop, 0, 0, 0, 0), (.ifCond .eq 6, 3, 62, 0, 0), (.nop, 0, 0, 0, 0), (.nop, 0, 0, 0, 0), (.iload 7, 2, 7, 0, 0), (.nop, 0, 0, 0, 0), (.ireturn, 1, 0, 0, 0), (.aload_n 0, 1, 0, 0, 0), (.getfield 19, 3, 10, 1, 282), (.nop, 0, 0, 0, 0), (.nop, 0, 0, 0, 0), (.getfield 143, 3, 7, 0, 203), (.nop, 0, 0, 0, 0), (.nop, 0, 0, 0, 0), (.getfield 166, 3, 3, 0, 130), (.nop, 0, 0, 0, 0), (.nop, 0, 0, 0, 0), (.astore 8, 2, 8, 0, 0), (.nop, 0, 0, 0, 0), (.iconst 0, 1, 0, 0, 0), (.istore 9, 2, 9, 0, 0), (.nop, 0, 0, 0, 0), (.iconst 0, 1, 0, 0, 0), (.istore 10, 2, 10, 0, 0), (.nop, 0, 0, 0, 0), (.iload 10, 2, 10, 0, 0), (.nop, 0, 0, 0, 0), (.iconst 5, 1, 0, 0, 0), (.if_icmp .ge 71, 3, 154, 0, 0), (.nop, 0, 0, 0, 0), (.nop, 0, 0, 0, 0), (.aload_n 0, 1, 0, 0, 0), (.getfield 54, 3, 10, 6, 287), (.nop, 0, 0, 0, 0), (.nop, 0, 0, 0, 0), (.aload 8, 2, 8, 0, 0), (.nop, 0, 0, 0, 0), (.iload_n 1, 1, 1, 0, 0), (.iload 10, 2, 10, 0, 0), (.nop, 0, 0, 0, 0), (.invokevirtual 275, 3, 63, 0, 765), (.nop, 0, 0, 0, 0), (.nop, 0, 0, 0, 0), (.aload_n 0, 1, 0, 0, 0), (.getfield 54, 3, 10, 6, 287)]
def qX10_came_1 : List pmE := [(.nop, 0, 0, 0, 0), (.nop, 0, 0, 0, 0), (.aload 8, 2, 8, 0, 0), (.nop, 0, 0, 0, 0), (.aload_n 0, 1, 0, 0, 0), (.getfield 19, 3, 10, 1, 282), (.nop, 0, 0, 0, 0), (.nop, 0, 0, 0, 0), (.getfield 143, 3, 7, 0, 203), (.nop, 0, 0, 0, 0), (.nop, 0, 0, 0, 0), (.getfield 147, 3, 3, 1, 133), (.nop, 0, 0, 0, 0), (.nop, 0, 0, 0, 0), (.invokevirtual 228, 3, 68, 0, 518), (.nop, 0, 0, 0, 0), (.nop, 0, 0, 0, 0), (.aload 6, 2, 6, 0, 0), (.nop, 0, 0, 0, 0), (.aload_n 0, 1, 0, 0, 0), (.getfield 54, 3, 10, 6, 287), (.nop, 0, 0, 0, 0), (.nop, 0, 0, 0, 0), (.getfield 232, 3, 9, 6, 238), (.nop, 0, 0, 0, 0), (.nop, 0, 0, 0, 0), (.getfield 170, 3, 2, 0, 118), (.nop, 0, 0, 0, 0), (.nop, 0, 0, 0, 0), (.iload 4, 2, 4, 0, 0), (.nop, 0, 0, 0, 0), (.iload 5, 2, 5, 0, 0), (.nop, 0, 0, 0, 0), (.invokevirtual 279, 3, 43, 0, 769), (.nop, 0, 0, 0, 0), (.nop, 0, 0, 0, 0), (.ifCond .eq 12, 3, 148, 0, 0), (.nop, 0, 0, 0, 0), (.nop, 0, 0, 0, 0), (.iload 9, 2, 9, 0, 0), (.nop, 0, 0, 0, 0), (.iconst 1, 1, 0, 0, 0), (.iload 10, 2, 10, 0, 0), (.nop, 0, 0, 0, 0), (.ishl, 1, 0, 0, 0), (.ior, 1, 0, 0, 0), (.istore 9, 2, 9, 0, 0), (.nop, 0, 0, 0, 0), (.iinc 10 1, 3, 10, 0, 0), (.nop, 0, 0, 0, 0), (.nop, 0, 0, 0, 0), (.goto (-71), 3, 80, 0, 0), (.nop, 0, 0, 0, 0), (.nop, 0, 0, 0, 0), (.iload 9, 2, 9, 0, 0), (.nop, 0, 0, 0, 0), (.ireturn, 1, 0, 0, 0)]
def qX10_came : List pmE := qX10_came_0 ++ qX10_came_1
abbrev mX10_came : Nat := 101
def qX10_film : List pmE := [(.iload_n 1, 1, 1, 0, 0), (.iconst 2, 1, 0, 0, 0), (.invokestatic 156, 3, 114, 0, 565), (.nop, 0, 0, 0, 0), (.nop, 0, 0, 0, 0), (.ifCond .eq 11, 3, 16, 0, 0), (.nop, 0, 0, 0, 0), (.nop, 0, 0, 0, 0), (.iload_n 2, 1, 2, 0, 0), (.iload_n 3, 1, 3, 0, 0), (.invokestatic 268, 3, 115, 0, 754), (.nop, 0, 0, 0, 0), (.nop, 0, 0, 0, 0), (.ifCond .ne 5, 3, 18, 0, 0), (.nop, 0, 0, 0, 0), (.nop, 0, 0, 0, 0), (.iconst (-1), 1, 0, 0, 0), (.ireturn, 1, 0, 0, 0), (.aload_n 0, 1, 0, 0, 0), (.invokevirtual 214, 3, 107, 0, 476), (.nop, 0, 0, 0, 0), (.nop, 0, 0, 0, 0), (.astore 5, 2, 5, 0, 0), (.nop, 0, 0, 0, 0), (.iload_n 1, 1, 1, 0, 0), (.ifCond .ne 11, 3, 36, 0, 0), (.nop, 0, 0, 0, 0), (.nop, 0, 0, 0, 0), (.aload 5, 2, 5, 0, 0), (.nop, 0, 0, 0, 0), (.getfield 170, 3, 2, 0, 118), (.nop, 0, 0, 0, 0), (.nop, 0, 0, 0, 0), (.goto 8, 3, 41, 0, 0), (.nop, 0, 0, 0, 0), (.nop, 0, 0, 0, 0), (.aload 5, 2, 5, 0, 0), (.nop, 0, 0, 0, 0), (.getfield 173, 3, 2, 1, 121), (.nop, 0, 0, 0, 0), (.nop, 0, 0, 0, 0), (.astore 6, 2, 6, 0, 0), (.nop, 0, 0, 0, 0), (.aload_n 0, 1, 0, 0, 0), (.getfield 70, 3, 10, 9, 290), (.nop, 0, 0, 0, 0), (.nop, 0, 0, 0, 0), (.iload_n 2, 1, 2, 0, 0), (.aaload, 1, 0, 0, 0), (.iload_n 3, 1, 3, 0, 0), (.iload 4, 2, 4, 0, 0), (.nop, 0, 0, 0, 0), (.aload 6, 2, 6, 0, 0), (.nop, 0, 0, 0, 0), (.invokevirtual 89, 3, 23, 0, 326), (.nop, 0, 0, 0, 0), (.nop, 0, 0, 0, 0), (.invokevirtual 271, 3, 41, 0, 757), (.nop, 0, 0, 0, 0), (.nop, 0, 0, 0, 0), (.istore 7, 2, 7, 0, 0), (.nop, 0, 0, 0, 0), (.iload 7, 2, 7, 0, 0), (.nop, 0, 0, 0, 0), (.ifCond .eq 6, 3, 70, 0, 0), (.nop, 0, 0, 0, 0), (.nop, 0, 0, 0, 0), (.iload 7, 2, 7, 0, 0), (.nop, 0, 0, 0, 0), (.ireturn, 1, 0, 0, 0), (.iconst 0, 1, 0, 0, 0), (.istore 8, 2, 8, 0, 0), (.nop, 0, 0, 0, 0), (.iload 8, 2, 8, 0, 0), (.nop, 0, 0, 0, 0), (.aload 6, 2, 6, 0, 0), (.nop, 0, 0, 0, 0), (.invokevirtual 89, 3, 23, 0, 326), (.nop, 0, 0, 0, 0), (.nop, 0, 0, 0, 0), (.if_icmp .ge 31, 3, 111, 0, 0), (.nop, 0, 0, 0, 0), (.nop, 0, 0, 0, 0), (.aload_n 0, 1, 0, 0, 0), (.getfield 70, 3, 10, 9, 290), (.nop, 0, 0, 0, 0), (.nop, 0, 0, 0, 0), (.iload_n 2, 1, 2, 0, 0), (.aaload, 1, 0, 0, 0), (.iload 4, 2, 4, 0, 0), (.nop, 0, 0, 0, 0), (.iload 8, 2, 8, 0, 0), (.nop, 0, 0, 0, 0), (.iadd, 1, 0, 0, 0), (.aload 6, 2, 6, 0, 0), (.nop, 0, 0, 0, 0), (.iload 8, 2, 8, 0, 0), (.nop, 0, 0, 0, 0), (.invokevirtual 160, 3, 25, 0, 560), (.nop, 0, 0, 0, 0), (.nop, 0, 0, 0, 0), (.i2l, 1, 0, 0, 0), (.invokevirtual 283, 3, 44, 0, 779), (.nop, 0, 0, 0, 0), (.nop, 0, 0, 0, 0), (.iinc 8 1, 3, 8, 0, 0), (.nop, 0, 0, 0, 0), (.nop, 0, 0, 0, 0), (.goto (-35), 3, 73, 0, 0), (.nop, 0, 0, 0, 0), (.nop, 0, 0, 0, 0), (.aload 6, 2, 6, 0, 0), (.nop, 0, 0, 0, 0), (.invokevirtual 89, 3, 23, 0, 326), (.nop, 0, 0, 0, 0), (.nop, 0, 0, 0, 0), (.ireturn, 1, 0, 0, 0)]
abbrev mX10_film : Nat := 102
def qX10_sheet : List pmE := [(.iload_n 1, 1, 1, 0, 0), (.iload_n 2, 1, 2, 0, 0), (.invokestatic 268, 3, 115, 0, 754), (.nop, 0, 0, 0, 0), (.nop, 0, 0, 0, 0), (.ifCond .eq 9, 3, 14, 0, 0), (.nop, 0, 0, 0, 0), (.nop, 0, 0, 0, 0), (.iload_n 3, 1, 3, 0, 0), (.bipush 60, 2, 0, 0, 0), (.nop, 0, 0, 0, 0), (.if_icmp .le 5, 3, 16, 0, 0), (.nop, 0, 0, 0, 0), (.nop, 0, 0, 0, 0), (.iconst (-1), 1, 0, 0, 0), (.ireturn, 1, 0, 0, 0), (.iload_n 3, 1, 3, 0, 0), (.ifCond .ge 6, 3, 23, 0, 0), (.nop, 0, 0, 0, 0), (.nop, 0, 0, 0, 0), (.bipush (-14), 2, 0, 0, 0), (.nop, 0, 0, 0, 0), (.ireturn, 1, 0, 0, 0), (.aload_n 0, 1, 0, 0, 0), (.getfield 70, 3, 10, 9, 290), (.nop, 0, 0, 0, 0), (.nop, 0, 0, 0, 0), (.iload_n 1, 1, 1, 0, 0), (.aaload, 1, 0, 0, 0), (.iload_n 2, 1, 2, 0, 0), (.iload_n 3, 1, 3, 0, 0), (.invokevirtual 287, 3, 40, 0, 791), (.nop, 0, 0, 0, 0), (.nop, 0, 0, 0, 0), (.iload_n 3, 1, 3, 0, 0), (.ireturn, 1, 0, 0, 0)]
abbrev mX10_sheet : Nat := 103
def qX10_drop : List pmE := [(.iload_n 1, 1, 1, 0, 0), (.iconst 4, 1, 0, 0, 0), (.invokestatic 156, 3, 114, 0, 565), (.nop, 0, 0, 0, 0), (.nop, 0, 0, 0, 0), (.ifCond .ne 5, 3, 10, 0, 0), (.nop, 0, 0, 0, 0), (.nop, 0, 0, 0, 0), (.iconst (-1), 1, 0, 0, 0), (.ireturn, 1, 0, 0, 0), (.aload_n 0, 1, 0, 0, 0), (.getfield 70, 3, 10, 9, 290), (.nop, 0, 0, 0, 0), (.nop, 0, 0, 0, 0), (.iload_n 1, 1, 1, 0, 0), (.aaload, 1, 0, 0, 0), (.astore_n 2, 1, 2, 0, 0), (.aload_n 2, 1, 2, 0, 0), (.getfield 289, 3, 6, 1, 266), (.nop, 0, 0, 0, 0), (.nop, 0, 0, 0, 0), (.ifCond .ne 6, 3, 27, 0, 0), (.nop, 0, 0, 0, 0), (.nop, 0, 0, 0, 0), (.bipush (-11), 2, 0, 0, 0), (.nop, 0, 0, 0, 0), (.ireturn, 1, 0, 0, 0), (.aload_n 2, 1, 2, 0, 0), (.iconst 0, 1, 0, 0, 0), (.putfield 289, 3, 106, 1, 266), (.nop, 0, 0, 0, 0), (.nop, 0, 0, 0, 0), (.aload_n 2, 1, 2, 0, 0), (.getfield 292, 3, 6, 3, 270), (.nop, 0, 0, 0, 0), (.nop, 0, 0, 0, 0), (.ireturn, 1, 0, 0, 0)]
abbrev mX10_drop : Nat := 104
def qX10_item : List pmE := [(.iload_n 1, 1, 1, 0, 0), (.iload_n 2, 1, 2, 0, 0), (.invokestatic 268, 3, 115, 0, 754), (.nop, 0, 0, 0, 0), (.nop, 0, 0, 0, 0), (.ifCond .ne 5, 3, 10, 0, 0), (.nop, 0, 0, 0, 0), (.nop, 0, 0, 0, 0), (.iconst (-1), 1, 0, 0, 0), (.ireturn, 1, 0, 0, 0), (.aload_n 0, 1, 0, 0, 0), (.getfield 70, 3, 10, 9, 290), (.nop, 0, 0, 0, 0), (.nop, 0, 0, 0, 0), (.iload_n 1, 1, 1, 0, 0), (.aaload, 1, 0, 0, 0), (.iload_n 2, 1, 2, 0, 0), (.iload_n 3, 1, 3, 0, 0), (.iconst 1, 1, 0, 0, 0), (.invokevirtual 271, 3, 41, 0, 757), (.nop, 0, 0, 0, 0), (.nop, 0, 0, 0, 0), (.istore 6, 2, 6, 0, 0), (.nop, 0, 0, 0, 0), (.iload 6, 2, 6, 0, 0), (.nop, 0, 0, 0, 0), (.ifCond .eq 6, 3, 32, 0, 0), (.nop, 0, 0, 0, 0), (.nop, 0, 0, 0, 0), (.iload 6, 2, 6, 0, 0), (.nop, 0, 0, 0, 0), (.ireturn, 1, 0, 0, 0), (.aload_n 0, 1, 0, 0, 0), (.getfield 70, 3, 10, 9, 290), (.nop, 0, 0, 0, 0), (.nop, 0, 0, 0, 0), (.iload_n 1, 1, 1, 0, 0), (.aaload, 1, 0, 0, 0), (.iload_n 3, 1, 3, 0, 0), (.lload 4, 2, 4, 0, 0), (.nop, 0, 0, 0, 0), (.invokevirtual 283, 3, 44, 0, 779), (.nop, 0, 0, 0, 0), (.nop, 0, 0, 0, 0), (.iconst 1, 1, 0, 0, 0), (.ireturn, 1, 0, 0, 0)]
abbrev mX10_item : Nat := 105
def qX10_copy : List pmE := [(.iload_n 1, 1, 1, 0, 0), (.iconst 4, 1, 0, 0, 0), (.invokestatic 156, 3, 114, 0, 565), (.nop, 0, 0, 0, 0), (.nop, 0, 0, 0, 0), (.ifCond .eq 11, 3, 16, 0, 0), (.nop, 0, 0, 0, 0), (.nop, 0, 0, 0, 0), (.iload_n 3, 1, 3, 0, 0), (.iconst 4, 1, 0, 0, 0), (.invokestatic 156, 3, 114, 0, 565), (.nop, 0, 0, 0, 0), (.nop, 0, 0, 0, 0), (.ifCond .ne 5, 3, 18, 0, 0), (.nop, 0, 0, 0, 0), (.nop, 0, 0, 0, 0), (.iconst (-1), 1, 0, 0, 0), (.ireturn, 1, 0, 0, 0), (.aload_n 0, 1, 0, 0, 0), (.getfield 70, 3, 10, 9, 290), (.nop, 0, 0, 0, 0), (.nop, 0, 0, 0, 0), (.iload_n 1, 1, 1, 0, 0), (.aaload, 1, 0, 0, 0), (.astore 6, 2, 6, 0, 0), (.nop, 0, 0, 0, 0), (.aload_n 0, 1, 0, 0, 0), (.getfield 70, 3, 10, 9, 290), (.nop, 0, 0, 0, 0), (.nop, 0, 0, 0, 0), (.iload_n 3, 1, 3, 0, 0), (.aaload, 1, 0, 0, 0), (.astore 7, 2, 7, 0, 0), (.nop, 0, 0, 0, 0), (.aload 6, 2, 6, 0, 0), (.nop, 0, 0, 0, 0), (.getfield 289, 3, 6, 1, 266), (.nop, 0, 0, 0, 0), (.nop, 0, 0, 0, 0), (.ifCond .eq 11, 3, 50, 0, 0), (.nop, 0, 0, 0, 0), (.nop, 0, 0, 0, 0), (.aload 7, 2, 7, 0, 0), (.nop, 0, 0, 0, 0), (.getfield 289, 3, 6, 1, 266), (.nop, 0, 0, 0, 0), (.nop, 0, 0, 0, 0), (.ifCond .ne 6, 3, 53, 0, 0), (.nop, 0, 0, 0, 0), (.nop, 0, 0, 0, 0), (.bipush (-11), 2, 0, 0, 0), (.nop, 0, 0, 0, 0), (.ireturn, 1, 0, 0, 0), (.aload 6, 2, 6, 0, 0), (.nop, 0, 0, 0, 0), (.getfield 294, 3, 6, 2, 268), (.nop, 0, 0, 0, 0), (.nop, 0, 0, 0, 0), (.aload 7, 2, 7, 0, 0), (.nop, 0, 0, 0, 0), (.getfield 294, 3, 6, 2, 268), (.nop, 0, 0, 0, 0), (.nop, 0, 0, 0, 0), (.if_icmp .eq 6, 3, 69, 0, 0), (.nop, 0, 0, 0, 0), (.nop, 0, 0, 0, 0), (.bipush (-12), 2, 0, 0, 0), (.nop, 0, 0, 0, 0), (.ireturn, 1, 0, 0, 0), (.aload 6, 2, 6, 0, 0), (.nop, 0, 0, 0, 0), (.iload_n 2, 1, 2, 0, 0), (.iload 5, 2, 5, 0, 0), (.nop, 0, 0, 0, 0), (.invokevirtual 297, 3, 42, 0, 810), (.nop, 0, 0, 0, 0), (.nop, 0, 0, 0, 0), (.ifCond .eq 15, 3, 92, 0, 0), (.nop, 0, 0, 0, 0), (.nop, 0, 0, 0, 0), (.aload 7, 2, 7, 0, 0), (.nop, 0, 0, 0, 0), (.iload 4, 2, 4, 0, 0), (.nop, 0, 0, 0, 0), (.iload 5, 2, 5, 0, 0), (.nop, 0, 0, 0, 0), (.invokevirtual 297, 3, 42, 0, 810), (.nop, 0, 0, 0, 0), (.nop, 0, 0, 0, 0), (.ifCond .ne 6, 3, 95, 0, 0), (.nop, 0, 0, 0, 0), (.nop, 0, 0, 0, 0), (.bipush (-13), 2, 0, 0, 0), (.nop, 0, 0, 0, 0), (.ireturn, 1, 0, 0, 0), (.aload 6, 2, 6, 0, 0), (.nop, 0, 0, 0, 0), (.getfield 300, 3, 6, 0, 264), (.nop, 0, 0, 0, 0), (.nop, 0, 0, 0, 0), (.iload_n 2, 1, 2, 0, 0), (.aload 7, 2, 7, 0, 0), (.nop, 0, 0, 0, 0), (.getfield 300, 3, 6, 0, 264), (.nop, 0, 0, 0, 0), (.nop, 0, 0, 0, 0), (.iload 4, 2, 4, 0, 0), (.nop, 0, 0, 0, 0), (.iload 5, 2, 5, 0, 0), (.nop, 0, 0, 0, 0), (.invokestatic 304, 3, 0, 1, 811), (.nop, 0, 0, 0, 0), (.nop, 0, 0, 0, 0), (.iload 5, 2, 5, 0, 0), (.nop, 0, 0, 0, 0), (.ireturn, 1, 0, 0, 0)]
abbrev mX10_copy : Nat := 106
def qX10_whatComes : List pmE := [(.aload_n 0, 1, 0, 0, 0), (.getfield 54, 3, 10, 6, 287), (.nop, 0, 0, 0, 0), (.nop, 0, 0, 0, 0), (.aload_n 0, 1, 0, 0, 0), (.getfield 19, 3, 10, 1, 282), (.nop, 0, 0, 0, 0), (.nop, 0, 0, 0, 0), (.getfield 143, 3, 7, 0, 203), (.nop, 0, 0, 0, 0), (.nop, 0, 0, 0, 0), (.getfield 166, 3, 3, 0, 130), (.nop, 0, 0, 0, 0), (.nop, 0, 0, 0, 0), (.invokevirtual 225, 3, 62, 0, 480), (.nop, 0, 0, 0, 0), (.nop, 0, 0, 0, 0), (.aload_n 0, 1, 0, 0, 0), (.getfield 54, 3, 10, 6, 287), (.nop, 0, 0, 0, 0), (.nop, 0, 0, 0, 0), (.aload_n 0, 1, 0, 0, 0), (.getfield 19, 3, 10, 1, 282), (.nop, 0, 0, 0, 0), (.nop, 0, 0, 0, 0), (.getfield 143, 3, 7, 0, 203), (.nop, 0, 0, 0, 0), (.nop, 0, 0, 0, 0), (.getfield 166, 3, 3, 0, 130), (.nop, 0, 0, 0, 0), (.nop, 0, 0, 0, 0), (.aload_n 0, 1, 0, 0, 0), (.getfield 19, 3, 10, 1, 282), (.nop, 0, 0, 0, 0), (.nop, 0, 0, 0, 0), (.getfield 143, 3, 7, 0, 203), (.nop, 0, 0, 0, 0), (.nop, 0, 0, 0, 0), (.getfield 147, 3, 3, 1, 133), (.nop, 0, 0, 0, 0), (.nop, 0, 0, 0, 0), (.invokevirtual 228, 3, 68, 0, 518), (.nop, 0, 0, 0, 0), (.nop, 0, 0, 0, 0), (.aload_n 0, 1, 0, 0, 0), (.getfield 54, 3, 10, 6, 287), (.nop, 0, 0, 0, 0), (.nop, 0, 0, 0, 0), (.getfield 232, 3, 9, 6, 238), (.nop, 0, 0, 0, 0), (.nop, 0, 0, 0, 0), (.areturn, 1, 0, 0, 0)]
abbrev mX10_whatComes : Nat := 107
def qX10_usesOf : List pmE := [(.aload_n 0, 1, 0, 0, 0), (.invokevirtual 214, 3, 107, 0, 476), (.nop, 0, 0, 0, 0), (.nop, 0, 0, 0, 0), (.pop, 1, 0, 0, 0), (.aload_n 0, 1, 0, 0, 0), (.getfield 54, 3, 10, 6, 287), (.nop, 0, 0, 0, 0), (.nop, 0, 0, 0, 0), (.getfield 310, 3, 9, 5, 236), (.nop, 0, 0, 0, 0), (.nop, 0, 0, 0, 0), (.iload_n 1, 1, 1, 0, 0), (.invokevirtual 160, 3, 25, 0, 560), (.nop, 0, 0, 0, 0), (.nop, 0, 0, 0, 0), (.ireturn, 1, 0, 0, 0)]
abbrev mX10_usesOf : Nat := 108
def qX10_idleRules : List pmE := [(.aload_n 0, 1, 0, 0, 0), (.invokevirtual 214, 3, 107, 0, 476), (.nop, 0, 0, 0, 0), (.nop, 0, 0, 0, 0), (.pop, 1, 0, 0, 0), (.iconst 0, 1, 0, 0, 0), (.istore_n 1, 1, 1, 0, 0), (.iconst 0, 1, 0, 0, 0), (.istore_n 2, 1, 2, 0, 0), (.iload_n 2, 1, 2, 0, 0), (.aload_n 0, 1, 0, 0, 0), (.getfield 19, 3, 10, 1, 282), (.nop, 0, 0, 0, 0), (.nop, 0, 0, 0, 0), (.getfield 48, 3, 7, 1, 205), (.nop, 0, 0, 0, 0), (.nop, 0, 0, 0, 0), (.invokevirtual 114, 3, 1, 0, 445), (.nop, 0, 0, 0, 0), (.nop, 0, 0, 0, 0), (.if_icmp .ge 29, 3, 49, 0, 0), (.nop, 0, 0, 0, 0), (.nop, 0, 0, 0, 0), (.aload_n 0, 1, 0, 0, 0), (.getfield 54, 3, 10, 6, 287), (.nop, 0, 0, 0, 0), (.nop, 0, 0, 0, 0), (.getfield 310, 3, 9, 5, 236), (.nop, 0, 0, 0, 0), (.nop, 0, 0, 0, 0), (.iload_n 2, 1, 2, 0, 0), (.invokevirtual 160, 3, 25, 0, 560), (.nop, 0, 0, 0, 0), (.nop, 0, 0, 0, 0), (.ifCond .ne 9, 3, 43, 0, 0), (.nop, 0, 0, 0, 0), (.nop, 0, 0, 0, 0), (.iload_n 1, 1, 1, 0, 0), (.iconst 1, 1, 0, 0, 0), (.iload_n 2, 1, 2, 0, 0), (.ishl, 1, 0, 0, 0), (.ior, 1, 0, 0, 0), (.istore_n 1, 1, 1, 0, 0), (.iinc 2 1, 3, 2, 0, 0), (.nop, 0, 0, 0, 0), (.nop, 0, 0, 0, 0), (.goto (-37), 3, 9, 0, 0), (.nop, 0, 0, 0, 0), (.nop, 0, 0, 0, 0), (.iload_n 1, 1, 1, 0, 0), (.aload_n 0, 1, 0, 0, 0), (.getfield 19, 3, 10, 1, 282), (.nop, 0, 0, 0, 0), (.nop, 0, 0, 0, 0), (.getfield 143, 3, 7, 0, 203), (.nop, 0, 0, 0, 0), (.nop, 0, 0, 0, 0), (.getfield 147, 3, 3, 1, 133), (.nop, 0, 0, 0, 0), (.nop, 0, 0, 0, 0), (.iand, 1, 0, 0, 0), (.ireturn, 1, 0, 0, 0)]
abbrev mX10_idleRules : Nat := 109
def qX10_goThrough : List pmE := [(.aload_n 0, 1, 0, 0, 0), (.getfield 19, 3, 10, 1, 282), (.nop, 0, 0, 0, 0), (.nop, 0, 0, 0, 0), (.getfield 143, 3, 7, 0, 203), (.nop, 0, 0, 0, 0), (.nop, 0, 0, 0, 0), (.getfield 166, 3, 3, 0, 130), (.nop, 0, 0, 0, 0), (.nop, 0, 0, 0, 0), (.astore_n 2, 1, 2, 0, 0), (.aload_n 0, 1, 0, 0, 0), (.getfield 54, 3, 10, 6, 287), (.nop, 0, 0, 0, 0), (.nop, 0, 0, 0, 0), (.aload_n 2, 1, 2, 0, 0), (.invokevirtual 225, 3, 62, 0, 480), (.nop, 0, 0, 0, 0), (.nop, 0, 0, 0, 0), (.aload_n 0, 1, 0, 0, 0), (.getfield 54, 3, 10, 6, 287), (.nop, 0, 0, 0, 0), (.nop, 0, 0, 0, 0), (.aload_n 2, 1, 2, 0, 0), (.iload_n 1, 1, 1, 0, 0), (.aload_n 0, 1, 0, 0, 0), (.getfield 19, 3, 10, 1, 282), (.nop, 0, 0, 0, 0), (.nop, 0, 0, 0, 0), (.getfield 143, 3, 7, 0, 203), (.nop, 0, 0, 0, 0), (.nop, 0, 0, 0, 0), (.getfield 147, 3, 3, 1, 133), (.nop, 0, 0, 0, 0), (.nop, 0, 0, 0, 0), (.iand, 1, 0, 0, 0), (.invokevirtual 228, 3, 68, 0, 518), (.nop, 0, 0, 0, 0), (.nop, 0, 0, 0, 0), (.aload_n 0, 1, 0, 0, 0), (.getfield 54, 3, 10, 6, 287), (.nop, 0, 0, 0, 0), (.nop, 0, 0, 0, 0), (.getfield 232, 3, 9, 6, 238), (.nop, 0, 0, 0, 0), (.nop, 0, 0, 0, 0), (.invokevirtual 169, 3, 16, 0, 571), (.nop, 0, 0, 0, 0), (.nop, 0, 0, 0, 0), (.bipush 60, 2, 0, 0, 0), (.nop, 0, 0, 0, 0), (.if_icmp .le 6, 3, 57, 0, 0), (.nop, 0, 0, 0, 0), (.nop, 0, 0, 0, 0), (.bipush (-3), 2, 0, 0, 0), (.nop, 0, 0, 0, 0), (.ireturn, 1, 0, 0, 0), (.aload_n 0, 1, 0, 0, 0), (.getfield 19, 3, 10, 1, 282), (.nop, 0, 0, 0, 0), (.nop, 0, 0, 0, 0), (.invokevirtual 189, 3, 49, 0, 589), (.nop, 0, 0, 0, 0), (.nop, 0, 0, 0, 0), (.aload_n 2, 1, 2, 0, 0), (.aload_n 0, 1, 0, 0, 0), (.getfield 54, 3, 10, 6, 287), (.nop, 0, 0, 0, 0), (.nop, 0, 0, 0, 0), (.getfield 232, 3, 9, 6, 238), (.nop, 0, 0, 0, 0), (.nop, 0, 0, 0, 0), (.invokevirtual 221, 3, 19, 0, 628), (.nop, 0, 0, 0, 0), (.nop, 0, 0, 0, 0), (.aload_n 0, 1, 0, 0, 0), (.getfield 54, 3, 10, 6, 287), (.nop, 0, 0, 0, 0), (.nop, 0, 0, 0, 0), (.getfield 310, 3, 9, 5, 236), (.nop, 0, 0, 0, 0), (.nop, 0, 0, 0, 0), (.invokevirtual 313, 3, 33, 0, 629), (.nop, 0, 0, 0, 0), (.nop, 0, 0, 0, 0), (.ireturn, 1, 0, 0, 0)]
abbrev mX10_goThrough : Nat := 110
def qX10_tallyShortOnes : List pmE := [(.iconst 1, 1, 0, 0, 0), (.iload_n 2, 1, 2, 0, 0), (.invokestatic 205, 3, 184, 0, 644), (.nop, 0, 0, 0, 0), (.nop, 0, 0, 0, 0), (.ishl, 1, 0, 0, 0), (.istore_n 3, 1, 3, 0, 0), (.aload_n 0, 1, 0, 0, 0), (.getfield 65, 3, 10, 8, 289), (.nop, 0, 0, 0, 0), (.nop, 0, 0, 0, 0), (.bipush 11, 2, 0, 0, 0), (.nop, 0, 0, 0, 0), (.iconst 0, 1, 0, 0, 0), (.invokevirtual 316, 3, 30, 0, 724), (.nop, 0, 0, 0, 0), (.nop, 0, 0, 0, 0), (.iload_n 2, 1, 2, 0, 0), (.istore 4, 2, 4, 0, 0), (.nop, 0, 0, 0, 0), (.iconst 0, 1, 0, 0, 0), (.istore 5, 2, 5, 0, 0), (.nop, 0, 0, 0, 0), (.iload 5, 2, 5, 0, 0), (.nop, 0, 0, 0, 0), (.iload_n 3, 1, 3, 0, 0), (.if_icmp .ge 53, 3, 79, 0, 0), (.nop, 0, 0, 0, 0), (.nop, 0, 0, 0, 0), (.aload_n 0, 1, 0, 0, 0), (.getfield 54, 3, 10, 6, 287), (.nop, 0, 0, 0, 0), (.nop, 0, 0, 0, 0), (.aload_n 0, 1, 0, 0, 0), (.getfield 19, 3, 10, 1, 282), (.nop, 0, 0, 0, 0), (.nop, 0, 0, 0, 0), (.getfield 143, 3, 7, 0, 203), (.nop, 0, 0, 0, 0), (.nop, 0, 0, 0, 0), (.getfield 166, 3, 3, 0, 130), (.nop, 0, 0, 0, 0), (.nop, 0, 0, 0, 0), (.iload 4, 2, 4, 0, 0), (.nop, 0, 0, 0, 0), (.invokevirtual 243, 3, 69, 0, 707), (.nop, 0, 0, 0, 0), (.nop, 0, 0, 0, 0), (.iload_n 1, 1, 1, 0, 0), (.if_icmp .gt 16, 3, 65, 0, 0), (.nop, 0, 0, 0, 0), (.nop, 0, 0, 0, 0), (.aload_n 0, 1, 0, 0, 0), (.getfield 65, 3, 10, 8, 289), (.nop, 0, 0, 0, 0), (.nop, 0, 0, 0, 0), (.iload 4, 2, 4, 0, 0), (.nop, 0, 0, 0, 0), (.invokestatic 205, 3, 184, 0, 644), (.nop, 0, 0, 0, 0), (.nop, 0, 0, 0, 0), (.iconst 1, 1, 0, 0, 0), (.invokevirtual 319, 3, 27, 0, 725), (.nop, 0, 0, 0, 0), (.nop, 0, 0, 0, 0), (.iload 4, 2, 4, 0, 0), (.nop, 0, 0, 0, 0), (.iconst 1, 1, 0, 0, 0), (.isub, 1, 0, 0, 0), (.iload_n 2, 1, 2, 0, 0), (.iand, 1, 0, 0, 0), (.istore 4, 2, 4, 0, 0), (.nop, 0, 0, 0, 0), (.iinc 5 1, 3, 5, 0, 0), (.nop, 0, 0, 0, 0), (.nop, 0, 0, 0, 0), (.goto (-53), 3, 23, 0, 0), (.nop, 0, 0, 0, 0), (.nop, 0, 0, 0, 0), (.return_, 1, 0, 0, 0)]
abbrev mX10_tallyShortOnes : Nat := 111
def qX10_power : List pmE := [(.lconst 1, 1, 0, 0, 0), (.lstore_n 3, 1, 3, 0, 0), (.iconst 0, 1, 0, 0, 0), (.istore 5, 2, 5, 0, 0), (.nop, 0, 0, 0, 0), (.iload 5, 2, 5, 0, 0), (.nop, 0, 0, 0, 0), (.iload_n 2, 1, 2, 0, 0), (.if_icmp .ge 13, 3, 21, 0, 0), (.nop, 0, 0, 0, 0), (.nop, 0, 0, 0, 0), (.lload_n 3, 1, 3, 0, 0), (.lload_n 0, 1, 0, 0, 0), (.lmul, 1, 0, 0, 0), (.lstore_n 3, 1, 3, 0, 0), (.iinc 5 1, 3, 5, 0, 0), (.nop, 0, 0, 0, 0), (.nop, 0, 0, 0, 0), (.goto (-13), 3, 5, 0, 0), (.nop, 0, 0, 0, 0), (.nop, 0, 0, 0, 0), (.lload_n 3, 1, 3, 0, 0), (.lreturn, 1, 0, 0, 0)]
abbrev mX10_power : Nat := 112
def qX10_commonDivisor : List pmE := [(.lload_n 0, 1, 0, 0, 0), (.lstore 4, 2, 4, 0, 0), (.nop, 0, 0, 0, 0), (.lload_n 2, 1, 2, 0, 0), (.lstore 6, 2, 6, 0, 0), (.nop, 0, 0, 0, 0), (.iconst 0, 1, 0, 0, 0), (.istore 8, 2, 8, 0, 0), (.nop, 0, 0, 0, 0), (.iload 8, 2, 8, 0, 0), (.nop, 0, 0, 0, 0), (.sipush 200, 3, 0, 0, 0), (.nop, 0, 0, 0, 0), (.nop, 0, 0, 0, 0), (.if_icmp .ge 31, 3, 45, 0, 0), (.nop, 0, 0, 0, 0), (.nop, 0, 0, 0, 0), (.lload 6, 2, 6, 0, 0), (.nop, 0, 0, 0, 0), (.lconst 0, 1, 0, 0, 0), (.lcmp, 1, 0, 0, 0), (.ifCond .eq 24, 3, 45, 0, 0), (.nop, 0, 0, 0, 0), (.nop, 0, 0, 0, 0), (.lload 4, 2, 4, 0, 0), (.nop, 0, 0, 0, 0), (.lload 6, 2, 6, 0, 0), (.nop, 0, 0, 0, 0), (.lrem, 1, 0, 0, 0), (.lstore 9, 2, 9, 0, 0), (.nop, 0, 0, 0, 0), (.lload 6, 2, 6, 0, 0), (.nop, 0, 0, 0, 0), (.lstore 4, 2, 4, 0, 0), (.nop, 0, 0, 0, 0), (.lload 9, 2, 9, 0, 0), (.nop, 0, 0, 0, 0), (.lstore 6, 2, 6, 0, 0), (.nop, 0, 0, 0, 0), (.iinc 8 1, 3, 8, 0, 0), (.nop, 0, 0, 0, 0), (.nop, 0, 0, 0, 0), (.goto (-33), 3, 9, 0, 0), (.nop, 0, 0, 0, 0), (.nop, 0, 0, 0, 0), (.lload 4, 2, 4, 0, 0), (.nop, 0, 0, 0, 0), (.lreturn, 1, 0, 0, 0)]
abbrev mX10_commonDivisor : Nat := 113
def qX10_isWithin : List pmE := [(.iload_n 0, 1, 0, 0, 0), (.ifCond .lt 12, 3, 13, 0, 0), (.nop, 0, 0, 0, 0), (.nop, 0, 0, 0, 0), (.iload_n 0, 1, 0, 0, 0), (.iload_n 1, 1, 1, 0, 0), (.if_icmp .ge 7, 3, 13, 0, 0), (.nop, 0, 0, 0, 0), (.nop, 0, 0, 0, 0), (.iconst 1, 1, 0, 0, 0), (.goto 4, 3, 14, 0, 0), (.nop, 0, 0, 0, 0), (.nop, 0, 0, 0, 0), (.iconst 0, 1, 0, 0, 0), (.ireturn, 1, 0, 0, 0)]
abbrev mX10_isWithin : Nat := 114
def qX10_isLaneOfSheet : List pmE := [(.iload_n 0, 1, 0, 0, 0), (.iconst 4, 1, 0, 0, 0), (.invokestatic 156, 3, 114, 0, 565), (.nop, 0, 0, 0, 0), (.nop, 0, 0, 0, 0), (.ifCond .eq 15, 3, 20, 0, 0), (.nop, 0, 0, 0, 0), (.nop, 0, 0, 0, 0), (.iload_n 1, 1, 1, 0, 0), (.iconst 4, 1, 0, 0, 0), (.invokestatic 156, 3, 114, 0, 565), (.nop, 0, 0, 0, 0), (.nop, 0, 0, 0, 0), (.ifCond .eq 7, 3, 20, 0, 0), (.nop, 0, 0, 0, 0), (.nop, 0, 0, 0, 0), (.iconst 1, 1, 0, 0, 0), (.goto 4, 3, 21, 0, 0), (.nop, 0, 0, 0, 0), (.nop, 0, 0, 0, 0), (.iconst 0, 1, 0, 0, 0), (.ireturn, 1, 0, 0, 0)]
abbrev mX10_isLaneOfSheet : Nat := 115
def qX10_isWordLetter : List pmE := [(.iload_n 0, 1, 0, 0, 0), (.bipush 97, 2, 0, 0, 0), (.nop, 0, 0, 0, 0), (.if_icmp .lt 13, 3, 16, 0, 0), (.nop, 0, 0, 0, 0), (.nop, 0, 0, 0, 0), (.iload_n 0, 1, 0, 0, 0), (.bipush 122, 2, 0, 0, 0), (.nop, 0, 0, 0, 0), (.if_icmp .gt 7, 3, 16, 0, 0), (.nop, 0, 0, 0, 0), (.nop, 0, 0, 0, 0), (.iconst 1, 1, 0, 0, 0), (.goto 4, 3, 17, 0, 0), (.nop, 0, 0, 0, 0), (.nop, 0, 0, 0, 0), (.iconst 0, 1, 0, 0, 0), (.ireturn, 1, 0, 0, 0)]
abbrev mX10_isWordLetter : Nat := 116
def qX10_isLetter : List pmE := [(.iload_n 0, 1, 0, 0, 0), (.invokestatic 322, 3, 116, 0, 362), (.nop, 0, 0, 0, 0), (.nop, 0, 0, 0, 0), (.ifCond .ne 9, 3, 13, 0, 0), (.nop, 0, 0, 0, 0), (.nop, 0, 0, 0, 0), (.iload_n 0, 1, 0, 0, 0), (.bipush 95, 2, 0, 0, 0), (.nop, 0, 0, 0, 0), (.if_icmp .ne 7, 3, 17, 0, 0), (.nop, 0, 0, 0, 0), (.nop, 0, 0, 0, 0), (.iconst 1, 1, 0, 0, 0), (.goto 4, 3, 18, 0, 0), (.nop, 0, 0, 0, 0), (.nop, 0, 0, 0, 0), (.iconst 0, 1, 0, 0, 0), (.ireturn, 1, 0, 0, 0)]
abbrev mX10_isLetter : Nat := 117
def qX10_isOfSort : List pmE := [(.iload_n 1, 1, 1, 0, 0), (.tableswitch 61 0 2 #[27, 29, 45], 27, 0, 0, 0), (.nop, 0, 0, 0, 0), (.nop, 0, 0, 0, 0), (.nop, 0, 0, 0, 0), (.nop, 0, 0, 0, 0), (.nop, 0, 0, 0, 0), (.nop, 0, 0, 0, 0), (.nop, 0, 0, 0, 0), (.nop, 0, 0, 0, 0), (.nop, 0, 0, 0, 0), (.nop, 0, 0, 0, 0), (.nop, 0, 0, 0, 0), (.nop, 0, 0, 0, 0), (.nop, 0, 0, 0, 0), (.nop, 0, 0, 0, 0), (.nop, 0, 0, 0, 0), (.nop, 0, 0, 0, 0), (.nop, 0, 0, 0, 0), (.nop, 0, 0, 0, 0), (.nop, 0, 0, 0, 0), (.nop, 0, 0, 0, 0), (.nop, 0, 0, 0, 0), (.nop, 0, 0, 0, 0), (.nop, 0, 0, 0, 0), (.nop, 0, 0, 0, 0), (.nop, 0, 0, 0, 0), (.nop, 0, 0, 0, 0), (.iconst 1, 1, 0, 0, 0), (.ireturn, 1, 0, 0, 0), (.iload_n 0, 1, 0, 0, 0), (.iconst 1, 1, 0, 0, 0), (.if_icmp .eq 8, 3, 40, 0, 0), (.nop, 0, 0, 0, 0), (.nop, 0, 0, 0, 0), (.iload_n 0, 1, 0, 0, 0), (.iconst 3, 1, 0, 0, 0), (.if_icmp .ne 7, 3, 44, 0, 0), (.nop, 0, 0, 0, 0), (.nop, 0, 0, 0, 0), (.iconst 1, 1, 0, 0, 0), (.goto 4, 3, 45, 0, 0), (.nop, 0, 0, 0, 0), (.nop, 0, 0, 0, 0), (.iconst 0, 1, 0, 0, 0), (.ireturn, 1, 0, 0, 0), (.iload_n 0, 1, 0, 0, 0), (.iconst 2, 1, 0, 0, 0), (.if_icmp .eq 8, 3, 56, 0, 0), (.nop, 0, 0, 0, 0), (.nop, 0, 0, 0, 0), (.iload_n 0, 1, 0, 0, 0), (.iconst 4, 1, 0, 0, 0), (.if_icmp .ne 7, 3, 60, 0, 0), (.nop, 0, 0, 0, 0), (.nop, 0, 0, 0, 0), (.iconst 1, 1, 0, 0, 0), (.goto 4, 3, 61, 0, 0), (.nop, 0, 0, 0, 0), (.nop, 0, 0, 0, 0), (.iconst 0, 1, 0, 0, 0), (.ireturn, 1, 0, 0, 0), (.iconst 0, 1, 0, 0, 0), (.ireturn, 1, 0, 0, 0)]
abbrev mX10_isOfSort : Nat := 118
def qX11_init_0 : List pmE := [(.aload_n 0, 1, 0, 0, 0), (.invokespecial 1, 3, 0, 1, 817), (.nop, 0, 0, 0, 0), (.nop, 0, 0, 0, 0), (.aload_n 0, 1, 0, 0, 0), (.sipush 150, 3, 0, 0, 0), (.nop, 0, 0, 0, 0), (.nop, 0, 0, 0, 0), (.newarray .int, 2, 0, 0, 0), (.nop, 0, 0, 0, 0), (.putfield 7, 3, 211, 0, 818), (.nop, 0, 0, 0, 0), (.nop, 0, 0, 0, 0), (.aload_n 0, 1, 0, 0, 0), (.sipush 151, 3, 0, 0, 0), (.nop, 0, 0, 0, 0), (.nop, 0, 0, 0, 0), (.newarray .int, 2, 0, 0, 0), (.nop, 0, 0, 0, 0), (.putfield 13, 3, 211, 2, 820), (.nop, 0, 0, 0, 0), (.nop, 0, 0, 0, 0), (.aload_n 0, 1, 0, 0, 0), (.bipush 122, 2, 0, 0, 0), (.nop, 0, 0, 0, 0), (.newarray .int, 2, 0, 0, 0), (.nop, 0, 0, 0, 0), (.putfield 16, 3, 211, 3, 821), (.nop, 0, 0, 0, 0), (.nop, 0, 0, 0, 0), (.aload_n 0, 1, 0, 0, 0), (.sipush 976, 3, 0, 0, 0), (.nop, 0, 0, 0, 0), (.nop, 0, 0, 0, 0), (.newarray .int, 2, 0, 0, 0), (.nop, 0, 0, 0, 0), (.putfield 19, 3, 211, 4, 822), (.nop, 0, 0, 0, 0), (.nop, 0, 0, 0, 0), (.aload_n 0, 1, 0, 0, 0), (.bipush (-4), 2, 0, 0, 0), (.nop, 0, 0, 0, 0), (.putfield 22, 3, 11, 7, 825), (.nop, 0, 0, 0, 0), (.nop, 0, 0, 0, 0), (.aload_n 0, 1, 0, 0, 0), (.sipush 151, 3, 0, 0, 0), (.nop, 0, 0, 0, 0), (.nop, 0, 0, 0, 0), (.newarray .int, 2, 0, 0, 0), (.nop, 0, 0, 0, 0), (.putfield 26, 3, 211, 8, 826), (.nop, 0, 0, 0, 0), (.nop, 0, 0, 0, 0), (.aload_n 0, 1, 0, 0, 0), (.bipush 122, 2, 0, 0, 0), (.nop, 0, 0, 0, 0), (.newarray .int, 2, 0, 0, 0), (.nop, 0, 0, 0, 0), (.putfield 29, 3, 211, 9, 827), (.nop, 0, 0, 0, 0), (.nop, 0, 0, 0, 0), (.aload_n 0, 1, 0, 0, 0), (.sipush 976, 3, 0, 0, 0), (.nop, 0, 0, 0, 0), (.nop, 0, 0, 0, 0), (.newarray .int, 2, 0, 0, 0), (.nop, 0, 0, 0, 0), (.putfield 32, 3, 211, 10, 828), (.nop, 0, 0, 0, 0), (.nop, 0, 0, 0, 0), (.aload_n 0, 1, 0, 0, 0), (.iconst 4, 1, 0, 0, 0), (.newarray .boolean, 2, 0, 0, 0), (.nop, 0, 0, 0, 0), (.putfield 35, 3, 211, 13, 831), (.nop, 0, 0, 0, 0), (.nop, 0, 0, 0, 0), (.aload_n 0, 1, 0, 0, 0), (.iconst 4, 1, 0, 0, 0), (.newarray .int, 2, 0, 0, 0), (.nop, 0, 0, 0, 0), (.putfield 39, 3, 211, 14, 832), (.nop, 0, 0, 0, 0), (.nop, 0, 0, 0, 0), (.aload_n 0, 1, 0, 0, 0), (.iconst 4, 1, 0, 0, 0), (.newarray .int, 2, 0, 0, 0), (.nop, 0, 0, 0, 0), (.putfield 42, 3, 211, 15, 833), (.nop, 0, 0, 0, 0), (.nop, 0, 0, 0, 0), (.aload_n 0, 1, 0, 0, 0), (.sipush 240, 3, 0, 0, 0), (.nop, 0, 0, 0, 0), (.nop, 0, 0, 0, 0), (.newarray .long, 2, 0, 0, 0), (.nop, 0, 0, 0, 0), (.putfield 45, 3, 211, 16, 834), (.nop, 0, 0, 0, 0)]
def qX11_init_1 : List pmE := [(.nop, 0, 0, 0, 0), (.aload_n 0, 1, 0, 0, 0), (.bipush 60, 2, 0, 0, 0), (.nop, 0, 0, 0, 0), (.newarray .long, 2, 0, 0, 0), (.nop, 0, 0, 0, 0), (.putfield 49, 3, 211, 17, 835), (.nop, 0, 0, 0, 0), (.nop, 0, 0, 0, 0), (.aload_n 0, 1, 0, 0, 0), (.sipush 151, 3, 0, 0, 0), (.nop, 0, 0, 0, 0), (.nop, 0, 0, 0, 0), (.newarray .int, 2, 0, 0, 0), (.nop, 0, 0, 0, 0), (.putfield 52, 3, 211, 19, 837), (.nop, 0, 0, 0, 0), (.nop, 0, 0, 0, 0), (.aload_n 0, 1, 0, 0, 0), (.bipush 60, 2, 0, 0, 0), (.nop, 0, 0, 0, 0), (.newarray .int, 2, 0, 0, 0), (.nop, 0, 0, 0, 0), (.putfield 55, 3, 211, 20, 838), (.nop, 0, 0, 0, 0), (.nop, 0, 0, 0, 0), (.aload_n 0, 1, 0, 0, 0), (.sipush 360, 3, 0, 0, 0), (.nop, 0, 0, 0, 0), (.nop, 0, 0, 0, 0), (.newarray .int, 2, 0, 0, 0), (.nop, 0, 0, 0, 0), (.putfield 58, 3, 211, 22, 840), (.nop, 0, 0, 0, 0), (.nop, 0, 0, 0, 0), (.aload_n 0, 1, 0, 0, 0), (.sipush 360, 3, 0, 0, 0), (.nop, 0, 0, 0, 0), (.nop, 0, 0, 0, 0), (.newarray .int, 2, 0, 0, 0), (.nop, 0, 0, 0, 0), (.putfield 61, 3, 211, 23, 841), (.nop, 0, 0, 0, 0), (.nop, 0, 0, 0, 0), (.aload_n 0, 1, 0, 0, 0), (.bipush 10, 2, 0, 0, 0), (.nop, 0, 0, 0, 0), (.newarray .int, 2, 0, 0, 0), (.nop, 0, 0, 0, 0), (.putfield 64, 3, 211, 25, 843), (.nop, 0, 0, 0, 0), (.nop, 0, 0, 0, 0), (.aload_n 0, 1, 0, 0, 0), (.bipush 60, 2, 0, 0, 0), (.nop, 0, 0, 0, 0), (.newarray .int, 2, 0, 0, 0), (.nop, 0, 0, 0, 0), (.putfield 67, 3, 211, 26, 844), (.nop, 0, 0, 0, 0), (.nop, 0, 0, 0, 0), (.aload_n 0, 1, 0, 0, 0), (.bipush 10, 2, 0, 0, 0), (.nop, 0, 0, 0, 0), (.newarray .int, 2, 0, 0, 0), (.nop, 0, 0, 0, 0), (.putfield 70, 3, 211, 27, 845), (.nop, 0, 0, 0, 0), (.nop, 0, 0, 0, 0), (.aload_n 0, 1, 0, 0, 0), (.bipush 122, 2, 0, 0, 0), (.nop, 0, 0, 0, 0), (.newarray .int, 2, 0, 0, 0), (.nop, 0, 0, 0, 0), (.putfield 73, 3, 211, 28, 846), (.nop, 0, 0, 0, 0), (.nop, 0, 0, 0, 0), (.return_, 1, 0, 0, 0)]
def qX11_init : List pmE := qX11_init_0 ++ qX11_init_1
abbrev mX11_init : Nat := 119
def qX11_in : List pmE := [(.lload_n 0, 1, 0, 0, 0), (.lload_n 2, 1, 2, 0, 0), (.lcmp, 1, 0, 0, 0), (.ifCond .lt 14, 3, 17, 0, 0), (.nop, 0, 0, 0, 0), (.nop, 0, 0, 0, 0), (.lload_n 0, 1, 0, 0, 0), (.lload 4, 2, 4, 0, 0), (.nop, 0, 0, 0, 0), (.lcmp, 1, 0, 0, 0), (.ifCond .gt 7, 3, 17, 0, 0), (.nop, 0, 0, 0, 0), (.nop, 0, 0, 0, 0), (.iconst 1, 1, 0, 0, 0), (.goto 4, 3, 18, 0, 0), (.nop, 0, 0, 0, 0), (.nop, 0, 0, 0, 0), (.iconst 0, 1, 0, 0, 0), (.ireturn, 1, 0, 0, 0)]
abbrev mX11_in : Nat := 120
def qX11_has : List pmE := [(.iload_n 0, 1, 0, 0, 0), (.iload_n 1, 1, 1, 0, 0), (.ishr, 1, 0, 0, 0), (.iconst 1, 1, 0, 0, 0), (.iand, 1, 0, 0, 0), (.iconst 1, 1, 0, 0, 0), (.if_icmp .ne 7, 3, 13, 0, 0), (.nop, 0, 0, 0, 0), (.nop, 0, 0, 0, 0), (.iconst 1, 1, 0, 0, 0), (.goto 4, 3, 14, 0, 0), (.nop, 0, 0, 0, 0), (.nop, 0, 0, 0, 0), (.iconst 0, 1, 0, 0, 0), (.ireturn, 1, 0, 0, 0)]
abbrev mX11_has : Nat := 121
def qX11_bits : List pmE := [(.iconst 0, 1, 0, 0, 0), (.istore_n 1, 1, 1, 0, 0), (.iload_n 0, 1, 0, 0, 0), (.istore_n 2, 1, 2, 0, 0), (.iload_n 2, 1, 2, 0, 0), (.ifCond .eq 15, 3, 20, 0, 0), (.nop, 0, 0, 0, 0), (.nop, 0, 0, 0, 0), (.iinc 1 1, 3, 1, 0, 0), (.nop, 0, 0, 0, 0), (.nop, 0, 0, 0, 0), (.iload_n 2, 1, 2, 0, 0), (.iload_n 2, 1, 2, 0, 0), (.iconst 1, 1, 0, 0, 0), (.isub, 1, 0, 0, 0), (.iand, 1, 0, 0, 0), (.istore_n 2, 1, 2, 0, 0), (.goto (-13), 3, 4, 0, 0), (.nop, 0, 0, 0, 0), (.nop, 0, 0, 0, 0), (.iload_n 1, 1, 1, 0, 0), (.ireturn, 1, 0, 0, 0)]
abbrev mX11_bits : Nat := 122
def qX11_copies : List pmE := [(.iconst 0, 1, 0, 0, 0), (.istore_n 3, 1, 3, 0, 0), (.iload_n 3, 1, 3, 0, 0), (.iload_n 2, 1, 2, 0, 0), (.if_icmp .ge 15, 3, 19, 0, 0), (.nop, 0, 0, 0, 0), (.nop, 0, 0, 0, 0), (.aload_n 1, 1, 1, 0, 0), (.iload_n 3, 1, 3, 0, 0), (.aload_n 0, 1, 0, 0, 0), (.iload_n 3, 1, 3, 0, 0), (.iaload, 1, 0, 0, 0), (.iastore, 1, 0, 0, 0), (.iinc 3 1, 3, 3, 0, 0), (.nop, 0, 0, 0, 0), (.nop, 0, 0, 0, 0), (.goto (-14), 3, 2, 0, 0), (.nop, 0, 0, 0, 0), (.nop, 0, 0, 0, 0), (.return_, 1, 0, 0, 0)]
abbrev mX11_copies : Nat := 123
def qX11_isSmall : List pmE := [(.iload_n 0, 1, 0, 0, 0), (.i2l, 1, 0, 0, 0), (.ldc2_w 76, 3, 97, 0, 938), (.nop, 0, 0, 0, 0), (.nop, 0, 0, 0, 0), (.ldc2_w 78, 3, 122, 0, 939), (.nop, 0, 0, 0, 0), (.nop, 0, 0, 0, 0), (.invokestatic 80, 3, 120, 0, 913), (.nop, 0, 0, 0, 0), (.nop, 0, 0, 0, 0), (.ireturn, 1, 0, 0, 0)]
abbrev mX11_isSmall : Nat := 124
def qX11_isLetter : List pmE := [(.iload_n 0, 1, 0, 0, 0), (.invokestatic 84, 3, 124, 0, 935), (.nop, 0, 0, 0, 0), (.nop, 0, 0, 0, 0), (.ifCond .ne 9, 3, 13, 0, 0), (.nop, 0, 0, 0, 0), (.nop, 0, 0, 0, 0), (.iload_n 0, 1, 0, 0, 0), (.bipush 95, 2, 0, 0, 0), (.nop, 0, 0, 0, 0), (.if_icmp .ne 7, 3, 17, 0, 0), (.nop, 0, 0, 0, 0), (.nop, 0, 0, 0, 0), (.iconst 1, 1, 0, 0, 0), (.goto 4, 3, 18, 0, 0), (.nop, 0, 0, 0, 0), (.nop, 0, 0, 0, 0), (.iconst 0, 1, 0, 0, 0), (.ireturn, 1, 0, 0, 0)]
abbrev mX11_isLetter : Nat := 125
def qX11_type : List pmE := [(.iload_n 1, 1, 1, 0, 0), (.i2l, 1, 0, 0, 0), (.ldc2_w 88, 3, 32, 0, 911), (.nop, 0, 0, 0, 0), (.nop, 0, 0, 0, 0), (.ldc2_w 90, 3, 126, 0, 912), (.nop, 0, 0, 0, 0), (.nop, 0, 0, 0, 0), (.invokestatic 80, 3, 120, 0, 913), (.nop, 0, 0, 0, 0), (.nop, 0, 0, 0, 0), (.ifCond .ne 5, 3, 16, 0, 0), (.nop, 0, 0, 0, 0), (.nop, 0, 0, 0, 0), (.iconst (-1), 1, 0, 0, 0), (.ireturn, 1, 0, 0, 0), (.aload_n 0, 1, 0, 0, 0), (.getfield 92, 3, 11, 1, 819), (.nop, 0, 0, 0, 0), (.nop, 0, 0, 0, 0), (.sipush 150, 3, 0, 0, 0), (.nop, 0, 0, 0, 0), (.nop, 0, 0, 0, 0), (.if_icmp .ne 6, 3, 29, 0, 0), (.nop, 0, 0, 0, 0), (.nop, 0, 0, 0, 0), (.bipush (-3), 2, 0, 0, 0), (.nop, 0, 0, 0, 0), (.ireturn, 1, 0, 0, 0), (.aload_n 0, 1, 0, 0, 0), (.getfield 7, 3, 11, 0, 818), (.nop, 0, 0, 0, 0), (.nop, 0, 0, 0, 0), (.aload_n 0, 1, 0, 0, 0), (.getfield 92, 3, 11, 1, 819), (.nop, 0, 0, 0, 0), (.nop, 0, 0, 0, 0), (.iload_n 1, 1, 1, 0, 0), (.iastore, 1, 0, 0, 0), (.aload_n 0, 1, 0, 0, 0), (.dup, 1, 0, 0, 0), (.getfield 92, 3, 11, 1, 819), (.nop, 0, 0, 0, 0), (.nop, 0, 0, 0, 0), (.iconst 1, 1, 0, 0, 0), (.iadd, 1, 0, 0, 0), (.putfield 92, 3, 11, 1, 819), (.nop, 0, 0, 0, 0), (.nop, 0, 0, 0, 0), (.aload_n 0, 1, 0, 0, 0), (.getfield 92, 3, 11, 1, 819), (.nop, 0, 0, 0, 0), (.nop, 0, 0, 0, 0), (.ireturn, 1, 0, 0, 0)]
abbrev mX11_type : Nat := 126
def qX11_here : List pmE := [(.aload_n 0, 1, 0, 0, 0), (.getfield 95, 3, 11, 18, 836), (.nop, 0, 0, 0, 0), (.nop, 0, 0, 0, 0), (.aload_n 0, 1, 0, 0, 0), (.getfield 92, 3, 11, 1, 819), (.nop, 0, 0, 0, 0), (.nop, 0, 0, 0, 0), (.if_icmp .ge 30, 3, 38, 0, 0), (.nop, 0, 0, 0, 0), (.nop, 0, 0, 0, 0), (.aload_n 0, 1, 0, 0, 0), (.getfield 7, 3, 11, 0, 818), (.nop, 0, 0, 0, 0), (.nop, 0, 0, 0, 0), (.aload_n 0, 1, 0, 0, 0), (.getfield 95, 3, 11, 18, 836), (.nop, 0, 0, 0, 0), (.nop, 0, 0, 0, 0), (.iaload, 1, 0, 0, 0), (.bipush 32, 2, 0, 0, 0), (.nop, 0, 0, 0, 0), (.if_icmp .ne 16, 3, 38, 0, 0), (.nop, 0, 0, 0, 0), (.nop, 0, 0, 0, 0), (.aload_n 0, 1, 0, 0, 0), (.dup, 1, 0, 0, 0), (.getfield 95, 3, 11, 18, 836), (.nop, 0, 0, 0, 0), (.nop, 0, 0, 0, 0), (.iconst 1, 1, 0, 0, 0), (.iadd, 1, 0, 0, 0), (.putfield 95, 3, 11, 18, 836), (.nop, 0, 0, 0, 0), (.nop, 0, 0, 0, 0), (.goto (-35), 3, 0, 0, 0), (.nop, 0, 0, 0, 0), (.nop, 0, 0, 0, 0), (.aload_n 0, 1, 0, 0, 0), (.getfield 95, 3, 11, 18, 836), (.nop, 0, 0, 0, 0), (.nop, 0, 0, 0, 0), (.aload_n 0, 1, 0, 0, 0), (.getfield 92, 3, 11, 1, 819), (.nop, 0, 0, 0, 0), (.nop, 0, 0, 0, 0), (.if_icmp .ge 15, 3, 61, 0, 0), (.nop, 0, 0, 0, 0), (.nop, 0, 0, 0, 0), (.aload_n 0, 1, 0, 0, 0), (.getfield 7, 3, 11, 0, 818), (.nop, 0, 0, 0, 0), (.nop, 0, 0, 0, 0), (.aload_n 0, 1, 0, 0, 0), (.getfield 95, 3, 11, 18, 836), (.nop, 0, 0, 0, 0), (.nop, 0, 0, 0, 0), (.iaload, 1, 0, 0, 0), (.goto 5, 3, 63, 0, 0), (.nop, 0, 0, 0, 0), (.nop, 0, 0, 0, 0), (.bipush (-4), 2, 0, 0, 0), (.nop, 0, 0, 0, 0), (.ireturn, 1, 0, 0, 0)]
abbrev mX11_here : Nat := 127
def qX11_kindOf : List pmE := [(.iload_n 0, 1, 0, 0, 0), (.bipush 112, 2, 0, 0, 0), (.nop, 0, 0, 0, 0), (.if_icmp .ne 7, 3, 10, 0, 0), (.nop, 0, 0, 0, 0), (.nop, 0, 0, 0, 0), (.iconst 0, 1, 0, 0, 0), (.goto 45, 3, 52, 0, 0), (.nop, 0, 0, 0, 0), (.nop, 0, 0, 0, 0), (.iload_n 0, 1, 0, 0, 0), (.bipush 119, 2, 0, 0, 0), (.nop, 0, 0, 0, 0), (.if_icmp .ne 7, 3, 20, 0, 0), (.nop, 0, 0, 0, 0), (.nop, 0, 0, 0, 0), (.iconst 1, 1, 0, 0, 0), (.goto 35, 3, 52, 0, 0), (.nop, 0, 0, 0, 0), (.nop, 0, 0, 0, 0), (.iload_n 0, 1, 0, 0, 0), (.bipush 102, 2, 0, 0, 0), (.nop, 0, 0, 0, 0), (.if_icmp .ne 7, 3, 30, 0, 0), (.nop, 0, 0, 0, 0), (.nop, 0, 0, 0, 0), (.iconst 2, 1, 0, 0, 0), (.goto 25, 3, 52, 0, 0), (.nop, 0, 0, 0, 0), (.nop, 0, 0, 0, 0), (.iload_n 0, 1, 0, 0, 0), (.bipush 116, 2, 0, 0, 0), (.nop, 0, 0, 0, 0), (.if_icmp .ne 7, 3, 40, 0, 0), (.nop, 0, 0, 0, 0), (.nop, 0, 0, 0, 0), (.iconst 3, 1, 0, 0, 0), (.goto 15, 3, 52, 0, 0), (.nop, 0, 0, 0, 0), (.nop, 0, 0, 0, 0), (.iload_n 0, 1, 0, 0, 0), (.bipush 111, 2, 0, 0, 0), (.nop, 0, 0, 0, 0), (.if_icmp .ne 7, 3, 50, 0, 0), (.nop, 0, 0, 0, 0), (.nop, 0, 0, 0, 0), (.iconst 4, 1, 0, 0, 0), (.goto 5, 3, 52, 0, 0), (.nop, 0, 0, 0, 0), (.nop, 0, 0, 0, 0), (.bipush (-4), 2, 0, 0, 0), (.nop, 0, 0, 0, 0), (.ireturn, 1, 0, 0, 0)]
abbrev mX11_kindOf : Nat := 128
def qX11_takes : List pmE := [(.aload_n 0, 1, 0, 0, 0), (.invokevirtual 98, 3, 127, 0, 928), (.nop, 0, 0, 0, 0), (.nop, 0, 0, 0, 0), (.iload_n 1, 1, 1, 0, 0), (.if_icmp .ne 7, 3, 12, 0, 0), (.nop, 0, 0, 0, 0), (.nop, 0, 0, 0, 0), (.iconst 1, 1, 0, 0, 0), (.goto 4, 3, 13, 0, 0), (.nop, 0, 0, 0, 0), (.nop, 0, 0, 0, 0), (.iconst 0, 1, 0, 0, 0), (.istore_n 2, 1, 2, 0, 0), (.aload_n 0, 1, 0, 0, 0), (.dup, 1, 0, 0, 0), (.getfield 95, 3, 11, 18, 836), (.nop, 0, 0, 0, 0), (.nop, 0, 0, 0, 0), (.iload_n 2, 1, 2, 0, 0), (.ifCond .eq 7, 3, 27, 0, 0), (.nop, 0, 0, 0, 0), (.nop, 0, 0, 0, 0), (.iconst 1, 1, 0, 0, 0), (.goto 4, 3, 28, 0, 0), (.nop, 0, 0, 0, 0), (.nop, 0, 0, 0, 0), (.iconst 0, 1, 0, 0, 0), (.iadd, 1, 0, 0, 0), (.putfield 95, 3, 11, 18, 836), (.nop, 0, 0, 0, 0), (.nop, 0, 0, 0, 0), (.iload_n 2, 1, 2, 0, 0), (.ireturn, 1, 0, 0, 0)]
abbrev mX11_takes : Nat := 129
def qX11_takesLetters : List pmE := [(.iconst 0, 1, 0, 0, 0), (.istore 4, 2, 4, 0, 0), (.nop, 0, 0, 0, 0), (.iload 4, 2, 4, 0, 0), (.nop, 0, 0, 0, 0), (.iload_n 3, 1, 3, 0, 0), (.if_icmp .ge 39, 3, 45, 0, 0), (.nop, 0, 0, 0, 0), (.nop, 0, 0, 0, 0), (.aload_n 0, 1, 0, 0, 0), (.invokevirtual 98, 3, 127, 0, 928), (.nop, 0, 0, 0, 0), (.nop, 0, 0, 0, 0), (.invokestatic 102, 3, 125, 0, 932), (.nop, 0, 0, 0, 0), (.nop, 0, 0, 0, 0), (.ifCond .eq 29, 3, 45, 0, 0), (.nop, 0, 0, 0, 0), (.nop, 0, 0, 0, 0), (.aload_n 1, 1, 1, 0, 0), (.iload_n 2, 1, 2, 0, 0), (.iload 4, 2, 4, 0, 0), (.nop, 0, 0, 0, 0), (.iadd, 1, 0, 0, 0), (.aload_n 0, 1, 0, 0, 0), (.invokevirtual 98, 3, 127, 0, 928), (.nop, 0, 0, 0, 0), (.nop, 0, 0, 0, 0), (.iastore, 1, 0, 0, 0), (.aload_n 0, 1, 0, 0, 0), (.dup, 1, 0, 0, 0), (.getfield 95, 3, 11, 18, 836), (.nop, 0, 0, 0, 0), (.nop, 0, 0, 0, 0), (.iconst 1, 1, 0, 0, 0), (.iadd, 1, 0, 0, 0), (.putfield 95, 3, 11, 18, 836), (.nop, 0, 0, 0, 0), (.nop, 0, 0, 0, 0), (.iinc 4 1, 3, 4, 0, 0), (.nop, 0, 0, 0, 0), (.nop, 0, 0, 0, 0), (.goto (-39), 3, 3, 0, 0), (.nop, 0, 0, 0, 0), (.nop, 0, 0, 0, 0), (.iload 4, 2, 4, 0, 0), (.nop, 0, 0, 0, 0), (.ireturn, 1, 0, 0, 0)]
abbrev mX11_takesLetters : Nat := 130
def qX11_readsRule_0 : List pmE := [(.aload_n 0, 1, 0, 0, 0), (.getfield 52, 3, 11, 19, 837), (.nop, 0, 0, 0, 0), (.nop, 0, 0, 0, 0), (.iconst 0, 1, 0, 0, 0), (.iaload, 1, 0, 0, 0), (.istore_n 1, 1, 1, 0, 0), (.aload_n 0, 1, 0, 0, 0), (.invokevirtual 98, 3, 127, 0, 928), (.nop, 0, 0, 0, 0), (.nop, 0, 0, 0, 0), (.invokestatic 105, 3, 128, 0, 948), (.nop, 0, 0, 0, 0), (.nop, 0, 0, 0, 0), (.istore_n 2, 1, 2, 0, 0), (.iload_n 2, 1, 2, 0, 0), (.bipush (-4), 2, 0, 0, 0), (.nop, 0, 0, 0, 0), (.if_icmp .ne 5, 3, 23, 0, 0), (.nop, 0, 0, 0, 0), (.nop, 0, 0, 0, 0), (.iconst 0, 1, 0, 0, 0), (.ireturn, 1, 0, 0, 0), (.aload_n 0, 1, 0, 0, 0), (.dup, 1, 0, 0, 0), (.getfield 95, 3, 11, 18, 836), (.nop, 0, 0, 0, 0), (.nop, 0, 0, 0, 0), (.iconst 1, 1, 0, 0, 0), (.iadd, 1, 0, 0, 0), (.putfield 95, 3, 11, 18, 836), (.nop, 0, 0, 0, 0), (.nop, 0, 0, 0, 0), (.aload_n 0, 1, 0, 0, 0), (.bipush 58, 2, 0, 0, 0), (.nop, 0, 0, 0, 0), (.invokevirtual 109, 3, 129, 0, 940), (.nop, 0, 0, 0, 0), (.nop, 0, 0, 0, 0), (.ifCond .ne 5, 3, 44, 0, 0), (.nop, 0, 0, 0, 0), (.nop, 0, 0, 0, 0), (.iconst 0, 1, 0, 0, 0), (.ireturn, 1, 0, 0, 0), (.aload_n 0, 1, 0, 0, 0), (.getfield 52, 3, 11, 19, 837), (.nop, 0, 0, 0, 0), (.nop, 0, 0, 0, 0), (.iconst 1, 1, 0, 0, 0), (.iload_n 1, 1, 1, 0, 0), (.iadd, 1, 0, 0, 0), (.iload_n 2, 1, 2, 0, 0), (.iastore, 1, 0, 0, 0), (.aload_n 0, 1, 0, 0, 0), (.getfield 52, 3, 11, 19, 837), (.nop, 0, 0, 0, 0), (.nop, 0, 0, 0, 0), (.bipush 11, 2, 0, 0, 0), (.nop, 0, 0, 0, 0), (.iload_n 1, 1, 1, 0, 0), (.iadd, 1, 0, 0, 0), (.aload_n 0, 1, 0, 0, 0), (.aload_n 0, 1, 0, 0, 0), (.getfield 52, 3, 11, 19, 837), (.nop, 0, 0, 0, 0), (.nop, 0, 0, 0, 0), (.bipush 31, 2, 0, 0, 0), (.nop, 0, 0, 0, 0), (.bipush 6, 2, 0, 0, 0), (.nop, 0, 0, 0, 0), (.iload_n 1, 1, 1, 0, 0), (.imul, 1, 0, 0, 0), (.iadd, 1, 0, 0, 0), (.bipush 6, 2, 0, 0, 0), (.nop, 0, 0, 0, 0), (.invokevirtual 112, 3, 130, 0, 924), (.nop, 0, 0, 0, 0), (.nop, 0, 0, 0, 0), (.iastore, 1, 0, 0, 0), (.aload_n 0, 1, 0, 0, 0), (.getfield 52, 3, 11, 19, 837), (.nop, 0, 0, 0, 0), (.nop, 0, 0, 0, 0), (.bipush 11, 2, 0, 0, 0), (.nop, 0, 0, 0, 0), (.iload_n 1, 1, 1, 0, 0), (.iadd, 1, 0, 0, 0), (.iaload, 1, 0, 0, 0), (.ifCond .eq 12, 3, 100, 0, 0), (.nop, 0, 0, 0, 0), (.nop, 0, 0, 0, 0), (.aload_n 0, 1, 0, 0, 0), (.bipush 61, 2, 0, 0, 0), (.nop, 0, 0, 0, 0), (.invokevirtual 109, 3, 129, 0, 940), (.nop, 0, 0, 0, 0), (.nop, 0, 0, 0, 0), (.ifCond .ne 5, 3, 102, 0, 0), (.nop, 0, 0, 0, 0), (.nop, 0, 0, 0, 0)]
def qX11_readsRule_1 : List pmE := [(.iconst 0, 1, 0, 0, 0), (.ireturn, 1, 0, 0, 0), (.aload_n 0, 1, 0, 0, 0), (.getfield 52, 3, 11, 19, 837), (.nop, 0, 0, 0, 0), (.nop, 0, 0, 0, 0), (.bipush 21, 2, 0, 0, 0), (.nop, 0, 0, 0, 0), (.iload_n 1, 1, 1, 0, 0), (.iadd, 1, 0, 0, 0), (.aload_n 0, 1, 0, 0, 0), (.aload_n 0, 1, 0, 0, 0), (.getfield 52, 3, 11, 19, 837), (.nop, 0, 0, 0, 0), (.nop, 0, 0, 0, 0), (.bipush 91, 2, 0, 0, 0), (.nop, 0, 0, 0, 0), (.bipush 6, 2, 0, 0, 0), (.nop, 0, 0, 0, 0), (.iload_n 1, 1, 1, 0, 0), (.imul, 1, 0, 0, 0), (.iadd, 1, 0, 0, 0), (.bipush 6, 2, 0, 0, 0), (.nop, 0, 0, 0, 0), (.invokevirtual 112, 3, 130, 0, 924), (.nop, 0, 0, 0, 0), (.nop, 0, 0, 0, 0), (.iastore, 1, 0, 0, 0), (.aload_n 0, 1, 0, 0, 0), (.getfield 52, 3, 11, 19, 837), (.nop, 0, 0, 0, 0), (.nop, 0, 0, 0, 0), (.iconst 0, 1, 0, 0, 0), (.dup2, 1, 0, 0, 0), (.iaload, 1, 0, 0, 0), (.iconst 1, 1, 0, 0, 0), (.iadd, 1, 0, 0, 0), (.iastore, 1, 0, 0, 0), (.iconst 1, 1, 0, 0, 0), (.ireturn, 1, 0, 0, 0)]
def qX11_readsRule : List pmE := qX11_readsRule_0 ++ qX11_readsRule_1
abbrev mX11_readsRule : Nat := 131
def qX11_readsJob : List pmE := [(.aload_n 0, 1, 0, 0, 0), (.aload_n 0, 1, 0, 0, 0), (.aload_n 0, 1, 0, 0, 0), (.getfield 55, 3, 11, 20, 838), (.nop, 0, 0, 0, 0), (.nop, 0, 0, 0, 0), (.iconst 0, 1, 0, 0, 0), (.bipush 60, 2, 0, 0, 0), (.nop, 0, 0, 0, 0), (.invokevirtual 112, 3, 130, 0, 924), (.nop, 0, 0, 0, 0), (.nop, 0, 0, 0, 0), (.putfield 116, 3, 11, 21, 839), (.nop, 0, 0, 0, 0), (.nop, 0, 0, 0, 0), (.aload_n 0, 1, 0, 0, 0), (.invokevirtual 98, 3, 127, 0, 928), (.nop, 0, 0, 0, 0), (.nop, 0, 0, 0, 0), (.bipush (-4), 2, 0, 0, 0), (.nop, 0, 0, 0, 0), (.if_icmp .eq 32, 3, 53, 0, 0), (.nop, 0, 0, 0, 0), (.nop, 0, 0, 0, 0), (.aload_n 0, 1, 0, 0, 0), (.getfield 52, 3, 11, 19, 837), (.nop, 0, 0, 0, 0), (.nop, 0, 0, 0, 0), (.iconst 0, 1, 0, 0, 0), (.iaload, 1, 0, 0, 0), (.bipush 10, 2, 0, 0, 0), (.nop, 0, 0, 0, 0), (.if_icmp .eq 19, 3, 51, 0, 0), (.nop, 0, 0, 0, 0), (.nop, 0, 0, 0, 0), (.aload_n 0, 1, 0, 0, 0), (.bipush 59, 2, 0, 0, 0), (.nop, 0, 0, 0, 0), (.invokevirtual 109, 3, 129, 0, 940), (.nop, 0, 0, 0, 0), (.nop, 0, 0, 0, 0), (.ifCond .eq 10, 3, 51, 0, 0), (.nop, 0, 0, 0, 0), (.nop, 0, 0, 0, 0), (.aload_n 0, 1, 0, 0, 0), (.invokevirtual 119, 3, 131, 0, 944), (.nop, 0, 0, 0, 0), (.nop, 0, 0, 0, 0), (.ifCond .ne (-33), 3, 15, 0, 0), (.nop, 0, 0, 0, 0), (.nop, 0, 0, 0, 0), (.iconst 0, 1, 0, 0, 0), (.ireturn, 1, 0, 0, 0), (.iconst 1, 1, 0, 0, 0), (.ireturn, 1, 0, 0, 0)]
abbrev mX11_readsJob : Nat := 132
def qX11_fault : List pmE := [(.aload_n 0, 1, 0, 0, 0), (.invokevirtual 98, 3, 127, 0, 928), (.nop, 0, 0, 0, 0), (.nop, 0, 0, 0, 0), (.bipush (-4), 2, 0, 0, 0), (.nop, 0, 0, 0, 0), (.if_icmp .ne 10, 3, 16, 0, 0), (.nop, 0, 0, 0, 0), (.nop, 0, 0, 0, 0), (.aload_n 0, 1, 0, 0, 0), (.getfield 92, 3, 11, 1, 819), (.nop, 0, 0, 0, 0), (.nop, 0, 0, 0, 0), (.goto 7, 3, 20, 0, 0), (.nop, 0, 0, 0, 0), (.nop, 0, 0, 0, 0), (.aload_n 0, 1, 0, 0, 0), (.getfield 95, 3, 11, 18, 836), (.nop, 0, 0, 0, 0), (.nop, 0, 0, 0, 0), (.istore_n 1, 1, 1, 0, 0), (.aload_n 0, 1, 0, 0, 0), (.iconst 0, 1, 0, 0, 0), (.putfield 92, 3, 11, 1, 819), (.nop, 0, 0, 0, 0), (.nop, 0, 0, 0, 0), (.bipush (-20), 2, 0, 0, 0), (.nop, 0, 0, 0, 0), (.iload_n 1, 1, 1, 0, 0), (.isub, 1, 0, 0, 0), (.ireturn, 1, 0, 0, 0)]
abbrev mX11_fault : Nat := 133
def qX11_job_0 : List pmE := [(.aload_n 0, 1, 0, 0, 0), (.iconst 0, 1, 0, 0, 0), (.putfield 95, 3, 11, 18, 836), (.nop, 0, 0, 0, 0), (.nop, 0, 0, 0, 0), (.aload_n 0, 1, 0, 0, 0), (.getfield 52, 3, 11, 19, 837), (.nop, 0, 0, 0, 0), (.nop, 0, 0, 0, 0), (.iconst 0, 1, 0, 0, 0), (.iconst 0, 1, 0, 0, 0), (.iastore, 1, 0, 0, 0), (.aload_n 0, 1, 0, 0, 0), (.invokevirtual 123, 3, 132, 0, 920), (.nop, 0, 0, 0, 0), (.nop, 0, 0, 0, 0), (.ifCond .ne 8, 3, 24, 0, 0), (.nop, 0, 0, 0, 0), (.nop, 0, 0, 0, 0), (.aload_n 0, 1, 0, 0, 0), (.invokevirtual 126, 3, 133, 0, 951), (.nop, 0, 0, 0, 0), (.nop, 0, 0, 0, 0), (.ireturn, 1, 0, 0, 0), (.aload_n 0, 1, 0, 0, 0), (.iconst 0, 1, 0, 0, 0), (.putfield 92, 3, 11, 1, 819), (.nop, 0, 0, 0, 0), (.nop, 0, 0, 0, 0), (.aload_n 0, 1, 0, 0, 0), (.getfield 52, 3, 11, 19, 837), (.nop, 0, 0, 0, 0), (.nop, 0, 0, 0, 0), (.aload_n 0, 1, 0, 0, 0), (.getfield 13, 3, 11, 2, 820), (.nop, 0, 0, 0, 0), (.nop, 0, 0, 0, 0), (.sipush 151, 3, 0, 0, 0), (.nop, 0, 0, 0, 0), (.nop, 0, 0, 0, 0), (.invokestatic 129, 3, 123, 0, 955), (.nop, 0, 0, 0, 0), (.nop, 0, 0, 0, 0), (.aload_n 0, 1, 0, 0, 0), (.getfield 16, 3, 11, 3, 821), (.nop, 0, 0, 0, 0), (.nop, 0, 0, 0, 0), (.iconst 0, 1, 0, 0, 0), (.aload_n 0, 1, 0, 0, 0), (.getfield 116, 3, 11, 21, 839), (.nop, 0, 0, 0, 0), (.nop, 0, 0, 0, 0), (.iastore, 1, 0, 0, 0), (.aload_n 0, 1, 0, 0, 0), (.getfield 16, 3, 11, 3, 821), (.nop, 0, 0, 0, 0), (.nop, 0, 0, 0, 0), (.iconst 1, 1, 0, 0, 0), (.iconst 1, 1, 0, 0, 0), (.aload_n 0, 1, 0, 0, 0), (.getfield 13, 3, 11, 2, 820), (.nop, 0, 0, 0, 0), (.nop, 0, 0, 0, 0), (.iconst 0, 1, 0, 0, 0), (.iaload, 1, 0, 0, 0), (.ishl, 1, 0, 0, 0), (.iconst 1, 1, 0, 0, 0), (.isub, 1, 0, 0, 0), (.iastore, 1, 0, 0, 0), (.iconst 0, 1, 0, 0, 0), (.istore_n 1, 1, 1, 0, 0), (.iload_n 1, 1, 1, 0, 0), (.aload_n 0, 1, 0, 0, 0), (.getfield 116, 3, 11, 21, 839), (.nop, 0, 0, 0, 0), (.nop, 0, 0, 0, 0), (.if_icmp .ge 33, 3, 109, 0, 0), (.nop, 0, 0, 0, 0), (.nop, 0, 0, 0, 0), (.aload_n 0, 1, 0, 0, 0), (.getfield 16, 3, 11, 3, 821), (.nop, 0, 0, 0, 0), (.nop, 0, 0, 0, 0), (.iconst 2, 1, 0, 0, 0), (.iload_n 1, 1, 1, 0, 0), (.iadd, 1, 0, 0, 0), (.aload_n 0, 1, 0, 0, 0), (.getfield 55, 3, 11, 20, 838), (.nop, 0, 0, 0, 0), (.nop, 0, 0, 0, 0), (.iload_n 1, 1, 1, 0, 0), (.iaload, 1, 0, 0, 0), (.iastore, 1, 0, 0, 0), (.aload_n 0, 1, 0, 0, 0), (.getfield 16, 3, 11, 3, 821), (.nop, 0, 0, 0, 0), (.nop, 0, 0, 0, 0), (.bipush 62, 2, 0, 0, 0), (.nop, 0, 0, 0, 0), (.iload_n 1, 1, 1, 0, 0)]
def qX11_job_1 : List pmE := [(.iadd, 1, 0, 0, 0), (.iload_n 1, 1, 1, 0, 0), (.iastore, 1, 0, 0, 0), (.iinc 1 1, 3, 1, 0, 0), (.nop, 0, 0, 0, 0), (.nop, 0, 0, 0, 0), (.goto (-35), 3, 71, 0, 0), (.nop, 0, 0, 0, 0), (.nop, 0, 0, 0, 0), (.aload_n 0, 1, 0, 0, 0), (.iconst 0, 1, 0, 0, 0), (.putfield 133, 3, 11, 5, 823), (.nop, 0, 0, 0, 0), (.nop, 0, 0, 0, 0), (.aload_n 0, 1, 0, 0, 0), (.bipush (-4), 2, 0, 0, 0), (.nop, 0, 0, 0, 0), (.putfield 22, 3, 11, 7, 825), (.nop, 0, 0, 0, 0), (.nop, 0, 0, 0, 0), (.aload_n 0, 1, 0, 0, 0), (.getfield 13, 3, 11, 2, 820), (.nop, 0, 0, 0, 0), (.nop, 0, 0, 0, 0), (.iconst 0, 1, 0, 0, 0), (.iaload, 1, 0, 0, 0), (.ireturn, 1, 0, 0, 0)]
def qX11_job : List pmE := qX11_job_0 ++ qX11_job_1
abbrev mX11_job : Nat := 134
def qX11_rule_0 : List pmE := [(.aload_n 0, 1, 0, 0, 0), (.iconst 0, 1, 0, 0, 0), (.putfield 95, 3, 11, 18, 836), (.nop, 0, 0, 0, 0), (.nop, 0, 0, 0, 0), (.aload_n 0, 1, 0, 0, 0), (.getfield 13, 3, 11, 2, 820), (.nop, 0, 0, 0, 0), (.nop, 0, 0, 0, 0), (.aload_n 0, 1, 0, 0, 0), (.getfield 52, 3, 11, 19, 837), (.nop, 0, 0, 0, 0), (.nop, 0, 0, 0, 0), (.sipush 151, 3, 0, 0, 0), (.nop, 0, 0, 0, 0), (.nop, 0, 0, 0, 0), (.invokestatic 129, 3, 123, 0, 955), (.nop, 0, 0, 0, 0), (.nop, 0, 0, 0, 0), (.aload_n 0, 1, 0, 0, 0), (.getfield 52, 3, 11, 19, 837), (.nop, 0, 0, 0, 0), (.nop, 0, 0, 0, 0), (.iconst 0, 1, 0, 0, 0), (.iaload, 1, 0, 0, 0), (.bipush 10, 2, 0, 0, 0), (.nop, 0, 0, 0, 0), (.if_icmp .ne 7, 3, 34, 0, 0), (.nop, 0, 0, 0, 0), (.nop, 0, 0, 0, 0), (.iconst 1, 1, 0, 0, 0), (.goto 4, 3, 35, 0, 0), (.nop, 0, 0, 0, 0), (.nop, 0, 0, 0, 0), (.iconst 0, 1, 0, 0, 0), (.istore_n 1, 1, 1, 0, 0), (.aload_n 0, 1, 0, 0, 0), (.getfield 52, 3, 11, 19, 837), (.nop, 0, 0, 0, 0), (.nop, 0, 0, 0, 0), (.iconst 0, 1, 0, 0, 0), (.dup2, 1, 0, 0, 0), (.iaload, 1, 0, 0, 0), (.iload_n 1, 1, 1, 0, 0), (.ifCond .eq 7, 3, 51, 0, 0), (.nop, 0, 0, 0, 0), (.nop, 0, 0, 0, 0), (.iconst 1, 1, 0, 0, 0), (.goto 4, 3, 52, 0, 0), (.nop, 0, 0, 0, 0), (.nop, 0, 0, 0, 0), (.iconst 0, 1, 0, 0, 0), (.isub, 1, 0, 0, 0), (.iastore, 1, 0, 0, 0), (.aload_n 0, 1, 0, 0, 0), (.invokevirtual 119, 3, 131, 0, 944), (.nop, 0, 0, 0, 0), (.nop, 0, 0, 0, 0), (.ifCond .eq 12, 3, 70, 0, 0), (.nop, 0, 0, 0, 0), (.nop, 0, 0, 0, 0), (.aload_n 0, 1, 0, 0, 0), (.invokevirtual 98, 3, 127, 0, 928), (.nop, 0, 0, 0, 0), (.nop, 0, 0, 0, 0), (.bipush (-4), 2, 0, 0, 0), (.nop, 0, 0, 0, 0), (.if_icmp .eq 8, 3, 75, 0, 0), (.nop, 0, 0, 0, 0), (.nop, 0, 0, 0, 0), (.aload_n 0, 1, 0, 0, 0), (.invokevirtual 126, 3, 133, 0, 951), (.nop, 0, 0, 0, 0), (.nop, 0, 0, 0, 0), (.ireturn, 1, 0, 0, 0), (.aload_n 0, 1, 0, 0, 0), (.iconst 0, 1, 0, 0, 0), (.putfield 92, 3, 11, 1, 819), (.nop, 0, 0, 0, 0), (.nop, 0, 0, 0, 0), (.iload_n 1, 1, 1, 0, 0), (.ifCond .eq 6, 3, 87, 0, 0), (.nop, 0, 0, 0, 0), (.nop, 0, 0, 0, 0), (.bipush (-3), 2, 0, 0, 0), (.nop, 0, 0, 0, 0), (.ireturn, 1, 0, 0, 0), (.aload_n 0, 1, 0, 0, 0), (.getfield 52, 3, 11, 19, 837), (.nop, 0, 0, 0, 0), (.nop, 0, 0, 0, 0), (.aload_n 0, 1, 0, 0, 0), (.getfield 13, 3, 11, 2, 820), (.nop, 0, 0, 0, 0), (.nop, 0, 0, 0, 0), (.sipush 151, 3, 0, 0, 0), (.nop, 0, 0, 0, 0), (.nop, 0, 0, 0, 0), (.invokestatic 129, 3, 123, 0, 955), (.nop, 0, 0, 0, 0)]
def qX11_rule_1 : List pmE := [(.nop, 0, 0, 0, 0), (.aload_n 0, 1, 0, 0, 0), (.getfield 16, 3, 11, 3, 821), (.nop, 0, 0, 0, 0), (.nop, 0, 0, 0, 0), (.iconst 1, 1, 0, 0, 0), (.dup2, 1, 0, 0, 0), (.iaload, 1, 0, 0, 0), (.iconst 1, 1, 0, 0, 0), (.aload_n 0, 1, 0, 0, 0), (.getfield 13, 3, 11, 2, 820), (.nop, 0, 0, 0, 0), (.nop, 0, 0, 0, 0), (.iconst 0, 1, 0, 0, 0), (.iaload, 1, 0, 0, 0), (.iconst 1, 1, 0, 0, 0), (.isub, 1, 0, 0, 0), (.ishl, 1, 0, 0, 0), (.ior, 1, 0, 0, 0), (.iastore, 1, 0, 0, 0), (.aload_n 0, 1, 0, 0, 0), (.iconst 0, 1, 0, 0, 0), (.putfield 133, 3, 11, 5, 823), (.nop, 0, 0, 0, 0), (.nop, 0, 0, 0, 0), (.aload_n 0, 1, 0, 0, 0), (.getfield 13, 3, 11, 2, 820), (.nop, 0, 0, 0, 0), (.nop, 0, 0, 0, 0), (.iconst 0, 1, 0, 0, 0), (.iaload, 1, 0, 0, 0), (.iconst 1, 1, 0, 0, 0), (.isub, 1, 0, 0, 0), (.ireturn, 1, 0, 0, 0)]
def qX11_rule : List pmE := qX11_rule_0 ++ qX11_rule_1
abbrev mX11_rule : Nat := 135
def qX11_kindsAsTold : List pmE := [(.iconst 0, 1, 0, 0, 0), (.istore_n 1, 1, 1, 0, 0), (.iload_n 1, 1, 1, 0, 0), (.bipush 10, 2, 0, 0, 0), (.nop, 0, 0, 0, 0), (.if_icmp .ge 23, 3, 28, 0, 0), (.nop, 0, 0, 0, 0), (.nop, 0, 0, 0, 0), (.aload_n 0, 1, 0, 0, 0), (.getfield 70, 3, 11, 27, 845), (.nop, 0, 0, 0, 0), (.nop, 0, 0, 0, 0), (.iload_n 1, 1, 1, 0, 0), (.aload_n 0, 1, 0, 0, 0), (.getfield 13, 3, 11, 2, 820), (.nop, 0, 0, 0, 0), (.nop, 0, 0, 0, 0), (.iconst 1, 1, 0, 0, 0), (.iload_n 1, 1, 1, 0, 0), (.iadd, 1, 0, 0, 0), (.iaload, 1, 0, 0, 0), (.iastore, 1, 0, 0, 0), (.iinc 1 1, 3, 1, 0, 0), (.nop, 0, 0, 0, 0), (.nop, 0, 0, 0, 0), (.goto (-23), 3, 2, 0, 0), (.nop, 0, 0, 0, 0), (.nop, 0, 0, 0, 0), (.return_, 1, 0, 0, 0)]
abbrev mX11_kindsAsTold : Nat := 136
def qX11_hasPhrase : List pmE := [(.aload_n 0, 1, 0, 0, 0), (.getfield 13, 3, 11, 2, 820), (.nop, 0, 0, 0, 0), (.nop, 0, 0, 0, 0), (.bipush 11, 2, 0, 0, 0), (.nop, 0, 0, 0, 0), (.iload_n 2, 1, 2, 0, 0), (.iadd, 1, 0, 0, 0), (.iaload, 1, 0, 0, 0), (.istore 4, 2, 4, 0, 0), (.nop, 0, 0, 0, 0), (.iload_n 3, 1, 3, 0, 0), (.iload 4, 2, 4, 0, 0), (.nop, 0, 0, 0, 0), (.iadd, 1, 0, 0, 0), (.aload_n 1, 1, 1, 0, 0), (.iconst 0, 1, 0, 0, 0), (.iaload, 1, 0, 0, 0), (.if_icmp .gt 7, 3, 25, 0, 0), (.nop, 0, 0, 0, 0), (.nop, 0, 0, 0, 0), (.iconst 1, 1, 0, 0, 0), (.goto 4, 3, 26, 0, 0), (.nop, 0, 0, 0, 0), (.nop, 0, 0, 0, 0), (.iconst 0, 1, 0, 0, 0), (.istore 5, 2, 5, 0, 0), (.nop, 0, 0, 0, 0), (.iconst 0, 1, 0, 0, 0), (.istore 6, 2, 6, 0, 0), (.nop, 0, 0, 0, 0), (.iload 6, 2, 6, 0, 0), (.nop, 0, 0, 0, 0), (.iload 4, 2, 4, 0, 0), (.nop, 0, 0, 0, 0), (.if_icmp .ge 47, 3, 82, 0, 0), (.nop, 0, 0, 0, 0), (.nop, 0, 0, 0, 0), (.iload 5, 2, 5, 0, 0), (.nop, 0, 0, 0, 0), (.ifCond .eq 42, 3, 82, 0, 0), (.nop, 0, 0, 0, 0), (.nop, 0, 0, 0, 0), (.aload_n 1, 1, 1, 0, 0), (.iconst 2, 1, 0, 0, 0), (.iload_n 3, 1, 3, 0, 0), (.iadd, 1, 0, 0, 0), (.iload 6, 2, 6, 0, 0), (.nop, 0, 0, 0, 0), (.iadd, 1, 0, 0, 0), (.iaload, 1, 0, 0, 0), (.aload_n 0, 1, 0, 0, 0), (.getfield 13, 3, 11, 2, 820), (.nop, 0, 0, 0, 0), (.nop, 0, 0, 0, 0), (.bipush 31, 2, 0, 0, 0), (.nop, 0, 0, 0, 0), (.bipush 6, 2, 0, 0, 0), (.nop, 0, 0, 0, 0), (.iload_n 2, 1, 2, 0, 0), (.imul, 1, 0, 0, 0), (.iadd, 1, 0, 0, 0), (.iload 6, 2, 6, 0, 0), (.nop, 0, 0, 0, 0), (.iadd, 1, 0, 0, 0), (.iaload, 1, 0, 0, 0), (.if_icmp .ne 7, 3, 73, 0, 0), (.nop, 0, 0, 0, 0), (.nop, 0, 0, 0, 0), (.iconst 1, 1, 0, 0, 0), (.goto 4, 3, 74, 0, 0), (.nop, 0, 0, 0, 0), (.nop, 0, 0, 0, 0), (.iconst 0, 1, 0, 0, 0), (.istore 5, 2, 5, 0, 0), (.nop, 0, 0, 0, 0), (.iinc 6 1, 3, 6, 0, 0), (.nop, 0, 0, 0, 0), (.nop, 0, 0, 0, 0), (.goto (-48), 3, 31, 0, 0), (.nop, 0, 0, 0, 0), (.nop, 0, 0, 0, 0), (.iload 5, 2, 5, 0, 0), (.nop, 0, 0, 0, 0), (.ireturn, 1, 0, 0, 0)]
abbrev mX11_hasPhrase : Nat := 137
def qX11_isSmallAt : List pmE := [(.iload_n 1, 1, 1, 0, 0), (.ifCond .lt 25, 3, 26, 0, 0), (.nop, 0, 0, 0, 0), (.nop, 0, 0, 0, 0), (.iload_n 1, 1, 1, 0, 0), (.aload_n 0, 1, 0, 0, 0), (.iconst 0, 1, 0, 0, 0), (.iaload, 1, 0, 0, 0), (.if_icmp .ge 18, 3, 26, 0, 0), (.nop, 0, 0, 0, 0), (.nop, 0, 0, 0, 0), (.aload_n 0, 1, 0, 0, 0), (.iconst 2, 1, 0, 0, 0), (.iload_n 1, 1, 1, 0, 0), (.iadd, 1, 0, 0, 0), (.iaload, 1, 0, 0, 0), (.invokestatic 84, 3, 124, 0, 935), (.nop, 0, 0, 0, 0), (.nop, 0, 0, 0, 0), (.ifCond .eq 7, 3, 26, 0, 0), (.nop, 0, 0, 0, 0), (.nop, 0, 0, 0, 0), (.iconst 1, 1, 0, 0, 0), (.goto 4, 3, 27, 0, 0), (.nop, 0, 0, 0, 0), (.nop, 0, 0, 0, 0), (.iconst 0, 1, 0, 0, 0), (.ireturn, 1, 0, 0, 0)]
abbrev mX11_isSmallAt : Nat := 138
def qX11_stands_0 : List pmE := [(.aload_n 0, 1, 0, 0, 0), (.aload_n 1, 1, 1, 0, 0), (.iload_n 2, 1, 2, 0, 0), (.iload_n 3, 1, 3, 0, 0), (.invokevirtual 136, 3, 137, 0, 993), (.nop, 0, 0, 0, 0), (.nop, 0, 0, 0, 0), (.ifCond .ne 5, 3, 12, 0, 0), (.nop, 0, 0, 0, 0), (.nop, 0, 0, 0, 0), (.iconst 0, 1, 0, 0, 0), (.ireturn, 1, 0, 0, 0), (.aload_n 0, 1, 0, 0, 0), (.getfield 70, 3, 11, 27, 845), (.nop, 0, 0, 0, 0), (.nop, 0, 0, 0, 0), (.iload_n 2, 1, 2, 0, 0), (.iaload, 1, 0, 0, 0), (.tableswitch 82 0 3 #[30, 32, 66, 32], 30, 0, 0, 0), (.nop, 0, 0, 0, 0), (.nop, 0, 0, 0, 0), (.nop, 0, 0, 0, 0), (.nop, 0, 0, 0, 0), (.nop, 0, 0, 0, 0), (.nop, 0, 0, 0, 0), (.nop, 0, 0, 0, 0), (.nop, 0, 0, 0, 0), (.nop, 0, 0, 0, 0), (.nop, 0, 0, 0, 0), (.nop, 0, 0, 0, 0), (.nop, 0, 0, 0, 0), (.nop, 0, 0, 0, 0), (.nop, 0, 0, 0, 0), (.nop, 0, 0, 0, 0), (.nop, 0, 0, 0, 0), (.nop, 0, 0, 0, 0), (.nop, 0, 0, 0, 0), (.nop, 0, 0, 0, 0), (.nop, 0, 0, 0, 0), (.nop, 0, 0, 0, 0), (.nop, 0, 0, 0, 0), (.nop, 0, 0, 0, 0), (.nop, 0, 0, 0, 0), (.nop, 0, 0, 0, 0), (.nop, 0, 0, 0, 0), (.nop, 0, 0, 0, 0), (.nop, 0, 0, 0, 0), (.nop, 0, 0, 0, 0), (.iconst 1, 1, 0, 0, 0), (.ireturn, 1, 0, 0, 0), (.aload_n 1, 1, 1, 0, 0), (.iload_n 3, 1, 3, 0, 0), (.iconst 1, 1, 0, 0, 0), (.isub, 1, 0, 0, 0), (.invokestatic 140, 3, 138, 0, 997), (.nop, 0, 0, 0, 0), (.nop, 0, 0, 0, 0), (.ifCond .ne 25, 3, 82, 0, 0), (.nop, 0, 0, 0, 0), (.nop, 0, 0, 0, 0), (.aload_n 1, 1, 1, 0, 0), (.iload_n 3, 1, 3, 0, 0), (.aload_n 0, 1, 0, 0, 0), (.getfield 13, 3, 11, 2, 820), (.nop, 0, 0, 0, 0), (.nop, 0, 0, 0, 0), (.bipush 11, 2, 0, 0, 0), (.nop, 0, 0, 0, 0), (.iload_n 2, 1, 2, 0, 0), (.iadd, 1, 0, 0, 0), (.iaload, 1, 0, 0, 0), (.iadd, 1, 0, 0, 0), (.invokestatic 140, 3, 138, 0, 997), (.nop, 0, 0, 0, 0), (.nop, 0, 0, 0, 0), (.ifCond .ne 7, 3, 82, 0, 0), (.nop, 0, 0, 0, 0), (.nop, 0, 0, 0, 0), (.iconst 1, 1, 0, 0, 0), (.goto 4, 3, 83, 0, 0), (.nop, 0, 0, 0, 0), (.nop, 0, 0, 0, 0), (.iconst 0, 1, 0, 0, 0), (.ireturn, 1, 0, 0, 0), (.aload_n 1, 1, 1, 0, 0), (.iload_n 3, 1, 3, 0, 0), (.iconst 1, 1, 0, 0, 0), (.isub, 1, 0, 0, 0), (.invokestatic 140, 3, 138, 0, 997), (.nop, 0, 0, 0, 0), (.nop, 0, 0, 0, 0), (.ifCond .ne 7, 3, 98, 0, 0), (.nop, 0, 0, 0, 0), (.nop, 0, 0, 0, 0), (.iconst 1, 1, 0, 0, 0), (.goto 4, 3, 99, 0, 0), (.nop, 0, 0, 0, 0), (.nop, 0, 0, 0, 0), (.iconst 0, 1, 0, 0, 0), (.ireturn, 1, 0, 0, 0)]
def qX11_stands_1 : List pmE := [(.aload_n 1, 1, 1, 0, 0), (.iload_n 3, 1, 3, 0, 0), (.iconst 1, 1, 0, 0, 0), (.isub, 1, 0, 0, 0), (.invokestatic 140, 3, 138, 0, 997), (.nop, 0, 0, 0, 0), (.nop, 0, 0, 0, 0), (.ifCond .ne 16, 3, 123, 0, 0), (.nop, 0, 0, 0, 0), (.nop, 0, 0, 0, 0), (.aload_n 0, 1, 0, 0, 0), (.getfield 64, 3, 11, 25, 843), (.nop, 0, 0, 0, 0), (.nop, 0, 0, 0, 0), (.iload_n 2, 1, 2, 0, 0), (.iaload, 1, 0, 0, 0), (.ifCond .ne 7, 3, 123, 0, 0), (.nop, 0, 0, 0, 0), (.nop, 0, 0, 0, 0), (.iconst 1, 1, 0, 0, 0), (.goto 4, 3, 124, 0, 0), (.nop, 0, 0, 0, 0), (.nop, 0, 0, 0, 0), (.iconst 0, 1, 0, 0, 0), (.ireturn, 1, 0, 0, 0)]
def qX11_stands : List pmE := qX11_stands_0 ++ qX11_stands_1
abbrev mX11_stands : Nat := 139
def qX11_givenBy : List pmE := [(.aload_n 0, 1, 0, 0, 0), (.getfield 13, 3, 11, 2, 820), (.nop, 0, 0, 0, 0), (.nop, 0, 0, 0, 0), (.bipush 91, 2, 0, 0, 0), (.nop, 0, 0, 0, 0), (.bipush 6, 2, 0, 0, 0), (.nop, 0, 0, 0, 0), (.iload_n 1, 1, 1, 0, 0), (.imul, 1, 0, 0, 0), (.iadd, 1, 0, 0, 0), (.aload_n 0, 1, 0, 0, 0), (.getfield 70, 3, 11, 27, 845), (.nop, 0, 0, 0, 0), (.nop, 0, 0, 0, 0), (.iload_n 1, 1, 1, 0, 0), (.iaload, 1, 0, 0, 0), (.iconst 3, 1, 0, 0, 0), (.if_icmp .ne 19, 3, 37, 0, 0), (.nop, 0, 0, 0, 0), (.nop, 0, 0, 0, 0), (.aload_n 0, 1, 0, 0, 0), (.getfield 13, 3, 11, 2, 820), (.nop, 0, 0, 0, 0), (.nop, 0, 0, 0, 0), (.bipush 21, 2, 0, 0, 0), (.nop, 0, 0, 0, 0), (.iload_n 1, 1, 1, 0, 0), (.iadd, 1, 0, 0, 0), (.iaload, 1, 0, 0, 0), (.iconst 1, 1, 0, 0, 0), (.isub, 1, 0, 0, 0), (.iload_n 2, 1, 2, 0, 0), (.isub, 1, 0, 0, 0), (.goto 4, 3, 38, 0, 0), (.nop, 0, 0, 0, 0), (.nop, 0, 0, 0, 0), (.iload_n 2, 1, 2, 0, 0), (.iadd, 1, 0, 0, 0), (.iaload, 1, 0, 0, 0), (.ireturn, 1, 0, 0, 0)]
abbrev mX11_givenBy : Nat := 140
def qX11_comesIn : List pmE := [(.aload_n 0, 1, 0, 0, 0), (.getfield 58, 3, 11, 22, 840), (.nop, 0, 0, 0, 0), (.nop, 0, 0, 0, 0), (.aload_n 0, 1, 0, 0, 0), (.getfield 144, 3, 11, 24, 842), (.nop, 0, 0, 0, 0), (.nop, 0, 0, 0, 0), (.iload_n 1, 1, 1, 0, 0), (.iastore, 1, 0, 0, 0), (.aload_n 0, 1, 0, 0, 0), (.getfield 61, 3, 11, 23, 841), (.nop, 0, 0, 0, 0), (.nop, 0, 0, 0, 0), (.aload_n 0, 1, 0, 0, 0), (.getfield 144, 3, 11, 24, 842), (.nop, 0, 0, 0, 0), (.nop, 0, 0, 0, 0), (.iload_n 2, 1, 2, 0, 0), (.iastore, 1, 0, 0, 0), (.aload_n 0, 1, 0, 0, 0), (.dup, 1, 0, 0, 0), (.getfield 144, 3, 11, 24, 842), (.nop, 0, 0, 0, 0), (.nop, 0, 0, 0, 0), (.iconst 1, 1, 0, 0, 0), (.iadd, 1, 0, 0, 0), (.putfield 144, 3, 11, 24, 842), (.nop, 0, 0, 0, 0), (.nop, 0, 0, 0, 0), (.return_, 1, 0, 0, 0)]
abbrev mX11_comesIn : Nat := 141
def qX11_ruleAt : List pmE := [(.bipush (-4), 2, 0, 0, 0), (.nop, 0, 0, 0, 0), (.istore 4, 2, 4, 0, 0), (.nop, 0, 0, 0, 0), (.iconst 0, 1, 0, 0, 0), (.istore 5, 2, 5, 0, 0), (.nop, 0, 0, 0, 0), (.iload 5, 2, 5, 0, 0), (.nop, 0, 0, 0, 0), (.aload_n 0, 1, 0, 0, 0), (.getfield 13, 3, 11, 2, 820), (.nop, 0, 0, 0, 0), (.nop, 0, 0, 0, 0), (.iconst 0, 1, 0, 0, 0), (.iaload, 1, 0, 0, 0), (.if_icmp .ge 91, 3, 106, 0, 0), (.nop, 0, 0, 0, 0), (.nop, 0, 0, 0, 0), (.iload_n 2, 1, 2, 0, 0), (.iload 5, 2, 5, 0, 0), (.nop, 0, 0, 0, 0), (.invokestatic 147, 3, 121, 0, 986), (.nop, 0, 0, 0, 0), (.nop, 0, 0, 0, 0), (.ifCond .eq 29, 3, 53, 0, 0), (.nop, 0, 0, 0, 0), (.nop, 0, 0, 0, 0), (.aload_n 1, 1, 1, 0, 0), (.iconst 1, 1, 0, 0, 0), (.iaload, 1, 0, 0, 0), (.iload 5, 2, 5, 0, 0), (.nop, 0, 0, 0, 0), (.invokestatic 147, 3, 121, 0, 986), (.nop, 0, 0, 0, 0), (.nop, 0, 0, 0, 0), (.ifCond .eq 18, 3, 53, 0, 0), (.nop, 0, 0, 0, 0), (.nop, 0, 0, 0, 0), (.aload_n 0, 1, 0, 0, 0), (.aload_n 1, 1, 1, 0, 0), (.iload 5, 2, 5, 0, 0), (.nop, 0, 0, 0, 0), (.iload_n 3, 1, 3, 0, 0), (.invokevirtual 151, 3, 139, 0, 989), (.nop, 0, 0, 0, 0), (.nop, 0, 0, 0, 0), (.ifCond .eq 7, 3, 53, 0, 0), (.nop, 0, 0, 0, 0), (.nop, 0, 0, 0, 0), (.iconst 1, 1, 0, 0, 0), (.goto 4, 3, 54, 0, 0), (.nop, 0, 0, 0, 0), (.nop, 0, 0, 0, 0), (.iconst 0, 1, 0, 0, 0), (.istore 6, 2, 6, 0, 0), (.nop, 0, 0, 0, 0), (.iload 6, 2, 6, 0, 0), (.nop, 0, 0, 0, 0), (.ifCond .eq 38, 3, 96, 0, 0), (.nop, 0, 0, 0, 0), (.nop, 0, 0, 0, 0), (.iload 4, 2, 4, 0, 0), (.nop, 0, 0, 0, 0), (.bipush (-4), 2, 0, 0, 0), (.nop, 0, 0, 0, 0), (.if_icmp .eq 26, 3, 91, 0, 0), (.nop, 0, 0, 0, 0), (.nop, 0, 0, 0, 0), (.aload_n 0, 1, 0, 0, 0), (.getfield 13, 3, 11, 2, 820), (.nop, 0, 0, 0, 0), (.nop, 0, 0, 0, 0), (.bipush 11, 2, 0, 0, 0), (.nop, 0, 0, 0, 0), (.iload 5, 2, 5, 0, 0), (.nop, 0, 0, 0, 0), (.iadd, 1, 0, 0, 0), (.iaload, 1, 0, 0, 0), (.aload_n 0, 1, 0, 0, 0), (.getfield 13, 3, 11, 2, 820), (.nop, 0, 0, 0, 0), (.nop, 0, 0, 0, 0), (.bipush 11, 2, 0, 0, 0), (.nop, 0, 0, 0, 0), (.iload 4, 2, 4, 0, 0), (.nop, 0, 0, 0, 0), (.iadd, 1, 0, 0, 0), (.iaload, 1, 0, 0, 0), (.if_icmp .le 8, 3, 96, 0, 0), (.nop, 0, 0, 0, 0), (.nop, 0, 0, 0, 0), (.iload 5, 2, 5, 0, 0), (.nop, 0, 0, 0, 0), (.goto 5, 3, 98, 0, 0), (.nop, 0, 0, 0, 0), (.nop, 0, 0, 0, 0), (.iload 4, 2, 4, 0, 0), (.nop, 0, 0, 0, 0), (.istore 4, 2, 4, 0, 0), (.nop, 0, 0, 0, 0), (.iinc 5 1, 3, 5, 0, 0), (.nop, 0, 0, 0, 0), (.nop, 0, 0, 0, 0), (.goto (-96), 3, 7, 0, 0), (.nop, 0, 0, 0, 0), (.nop, 0, 0, 0, 0), (.iload 4, 2, 4, 0, 0), (.nop, 0, 0, 0, 0), (.ireturn, 1, 0, 0, 0)]
abbrev mX11_ruleAt : Nat := 142
def qX11_goesOver_0 : List pmE := [(.iconst 0, 1, 0, 0, 0), (.istore_n 3, 1, 3, 0, 0), (.aload_n 0, 1, 0, 0, 0), (.iconst 0, 1, 0, 0, 0), (.putfield 144, 3, 11, 24, 842), (.nop, 0, 0, 0, 0), (.nop, 0, 0, 0, 0), (.iconst 0, 1, 0, 0, 0), (.istore 4, 2, 4, 0, 0), (.nop, 0, 0, 0, 0), (.iload 4, 2, 4, 0, 0), (.nop, 0, 0, 0, 0), (.bipush 10, 2, 0, 0, 0), (.nop, 0, 0, 0, 0), (.if_icmp .ge 17, 3, 31, 0, 0), (.nop, 0, 0, 0, 0), (.nop, 0, 0, 0, 0), (.aload_n 0, 1, 0, 0, 0), (.getfield 64, 3, 11, 25, 843), (.nop, 0, 0, 0, 0), (.nop, 0, 0, 0, 0), (.iload 4, 2, 4, 0, 0), (.nop, 0, 0, 0, 0), (.iconst 0, 1, 0, 0, 0), (.iastore, 1, 0, 0, 0), (.iinc 4 1, 3, 4, 0, 0), (.nop, 0, 0, 0, 0), (.nop, 0, 0, 0, 0), (.goto (-18), 3, 10, 0, 0), (.nop, 0, 0, 0, 0), (.nop, 0, 0, 0, 0), (.iconst 0, 1, 0, 0, 0), (.istore 4, 2, 4, 0, 0), (.nop, 0, 0, 0, 0), (.iload 4, 2, 4, 0, 0), (.nop, 0, 0, 0, 0), (.bipush 60, 2, 0, 0, 0), (.nop, 0, 0, 0, 0), (.if_icmp .ge 18, 3, 56, 0, 0), (.nop, 0, 0, 0, 0), (.nop, 0, 0, 0, 0), (.aload_n 0, 1, 0, 0, 0), (.getfield 67, 3, 11, 26, 844), (.nop, 0, 0, 0, 0), (.nop, 0, 0, 0, 0), (.iload 4, 2, 4, 0, 0), (.nop, 0, 0, 0, 0), (.bipush (-4), 2, 0, 0, 0), (.nop, 0, 0, 0, 0), (.iastore, 1, 0, 0, 0), (.iinc 4 1, 3, 4, 0, 0), (.nop, 0, 0, 0, 0), (.nop, 0, 0, 0, 0), (.goto (-19), 3, 34, 0, 0), (.nop, 0, 0, 0, 0), (.nop, 0, 0, 0, 0), (.iconst 0, 1, 0, 0, 0), (.istore 4, 2, 4, 0, 0), (.nop, 0, 0, 0, 0), (.iload 4, 2, 4, 0, 0), (.nop, 0, 0, 0, 0), (.aload_n 1, 1, 1, 0, 0), (.iconst 0, 1, 0, 0, 0), (.iaload, 1, 0, 0, 0), (.if_icmp .ge 127, 3, 191, 0, 0), (.nop, 0, 0, 0, 0), (.nop, 0, 0, 0, 0), (.aload_n 0, 1, 0, 0, 0), (.aload_n 1, 1, 1, 0, 0), (.iload_n 2, 1, 2, 0, 0), (.iload 4, 2, 4, 0, 0), (.nop, 0, 0, 0, 0), (.invokevirtual 154, 3, 142, 0, 982), (.nop, 0, 0, 0, 0), (.nop, 0, 0, 0, 0), (.istore 5, 2, 5, 0, 0), (.nop, 0, 0, 0, 0), (.aload_n 0, 1, 0, 0, 0), (.getfield 67, 3, 11, 26, 844), (.nop, 0, 0, 0, 0), (.nop, 0, 0, 0, 0), (.iload 4, 2, 4, 0, 0), (.nop, 0, 0, 0, 0), (.iload 5, 2, 5, 0, 0), (.nop, 0, 0, 0, 0), (.iastore, 1, 0, 0, 0), (.iload 5, 2, 5, 0, 0), (.nop, 0, 0, 0, 0), (.bipush (-4), 2, 0, 0, 0), (.nop, 0, 0, 0, 0), (.if_icmp .ne 26, 3, 116, 0, 0), (.nop, 0, 0, 0, 0), (.nop, 0, 0, 0, 0), (.aload_n 0, 1, 0, 0, 0), (.aload_n 1, 1, 1, 0, 0), (.iconst 2, 1, 0, 0, 0), (.iload 4, 2, 4, 0, 0), (.nop, 0, 0, 0, 0), (.iadd, 1, 0, 0, 0), (.iaload, 1, 0, 0, 0)]
def qX11_goesOver_1 : List pmE := [(.aload_n 1, 1, 1, 0, 0), (.bipush 62, 2, 0, 0, 0), (.nop, 0, 0, 0, 0), (.iload 4, 2, 4, 0, 0), (.nop, 0, 0, 0, 0), (.iadd, 1, 0, 0, 0), (.iaload, 1, 0, 0, 0), (.invokevirtual 157, 3, 141, 0, 1000), (.nop, 0, 0, 0, 0), (.nop, 0, 0, 0, 0), (.iinc 4 1, 3, 4, 0, 0), (.nop, 0, 0, 0, 0), (.nop, 0, 0, 0, 0), (.goto 75, 3, 188, 0, 0), (.nop, 0, 0, 0, 0), (.nop, 0, 0, 0, 0), (.iconst 0, 1, 0, 0, 0), (.istore 6, 2, 6, 0, 0), (.nop, 0, 0, 0, 0), (.iload 6, 2, 6, 0, 0), (.nop, 0, 0, 0, 0), (.aload_n 0, 1, 0, 0, 0), (.getfield 13, 3, 11, 2, 820), (.nop, 0, 0, 0, 0), (.nop, 0, 0, 0, 0), (.bipush 21, 2, 0, 0, 0), (.nop, 0, 0, 0, 0), (.iload 5, 2, 5, 0, 0), (.nop, 0, 0, 0, 0), (.iadd, 1, 0, 0, 0), (.iaload, 1, 0, 0, 0), (.if_icmp .ge 28, 3, 159, 0, 0), (.nop, 0, 0, 0, 0), (.nop, 0, 0, 0, 0), (.aload_n 0, 1, 0, 0, 0), (.aload_n 0, 1, 0, 0, 0), (.iload 5, 2, 5, 0, 0), (.nop, 0, 0, 0, 0), (.iload 6, 2, 6, 0, 0), (.nop, 0, 0, 0, 0), (.invokevirtual 161, 3, 140, 0, 1004), (.nop, 0, 0, 0, 0), (.nop, 0, 0, 0, 0), (.aload_n 1, 1, 1, 0, 0), (.bipush 62, 2, 0, 0, 0), (.nop, 0, 0, 0, 0), (.iload 4, 2, 4, 0, 0), (.nop, 0, 0, 0, 0), (.iadd, 1, 0, 0, 0), (.iaload, 1, 0, 0, 0), (.invokevirtual 157, 3, 141, 0, 1000), (.nop, 0, 0, 0, 0), (.nop, 0, 0, 0, 0), (.iinc 6 1, 3, 6, 0, 0), (.nop, 0, 0, 0, 0), (.nop, 0, 0, 0, 0), (.goto (-37), 3, 119, 0, 0), (.nop, 0, 0, 0, 0), (.nop, 0, 0, 0, 0), (.aload_n 0, 1, 0, 0, 0), (.getfield 64, 3, 11, 25, 843), (.nop, 0, 0, 0, 0), (.nop, 0, 0, 0, 0), (.iload 5, 2, 5, 0, 0), (.nop, 0, 0, 0, 0), (.dup2, 1, 0, 0, 0), (.iaload, 1, 0, 0, 0), (.iconst 1, 1, 0, 0, 0), (.iadd, 1, 0, 0, 0), (.iastore, 1, 0, 0, 0), (.iinc 3 1, 3, 3, 0, 0), (.nop, 0, 0, 0, 0), (.nop, 0, 0, 0, 0), (.iload 4, 2, 4, 0, 0), (.nop, 0, 0, 0, 0), (.aload_n 0, 1, 0, 0, 0), (.getfield 13, 3, 11, 2, 820), (.nop, 0, 0, 0, 0), (.nop, 0, 0, 0, 0), (.bipush 11, 2, 0, 0, 0), (.nop, 0, 0, 0, 0), (.iload 5, 2, 5, 0, 0), (.nop, 0, 0, 0, 0), (.iadd, 1, 0, 0, 0), (.iaload, 1, 0, 0, 0), (.iadd, 1, 0, 0, 0), (.istore 4, 2, 4, 0, 0), (.nop, 0, 0, 0, 0), (.goto (-129), 3, 59, 0, 0), (.nop, 0, 0, 0, 0), (.nop, 0, 0, 0, 0), (.iload_n 3, 1, 3, 0, 0), (.ireturn, 1, 0, 0, 0)]
def qX11_goesOver : List pmE := qX11_goesOver_0 ++ qX11_goesOver_1
abbrev mX11_goesOver : Nat := 143
def qX11_comesNow : List pmE := [(.aload_n 0, 1, 0, 0, 0), (.invokevirtual 165, 3, 136, 0, 974), (.nop, 0, 0, 0, 0), (.nop, 0, 0, 0, 0), (.aload_n 0, 1, 0, 0, 0), (.aload_n 0, 1, 0, 0, 0), (.getfield 16, 3, 11, 3, 821), (.nop, 0, 0, 0, 0), (.nop, 0, 0, 0, 0), (.sipush 1023, 3, 0, 0, 0), (.nop, 0, 0, 0, 0), (.nop, 0, 0, 0, 0), (.invokevirtual 168, 3, 143, 0, 978), (.nop, 0, 0, 0, 0), (.nop, 0, 0, 0, 0), (.ireturn, 1, 0, 0, 0)]
abbrev mX11_comesNow : Nat := 144
def qX11_becomes : List pmE := [(.aload_n 1, 1, 1, 0, 0), (.iconst 0, 1, 0, 0, 0), (.aload_n 0, 1, 0, 0, 0), (.getfield 144, 3, 11, 24, 842), (.nop, 0, 0, 0, 0), (.nop, 0, 0, 0, 0), (.iastore, 1, 0, 0, 0), (.iconst 0, 1, 0, 0, 0), (.istore_n 2, 1, 2, 0, 0), (.iload_n 2, 1, 2, 0, 0), (.aload_n 0, 1, 0, 0, 0), (.getfield 144, 3, 11, 24, 842), (.nop, 0, 0, 0, 0), (.nop, 0, 0, 0, 0), (.if_icmp .ge 32, 3, 46, 0, 0), (.nop, 0, 0, 0, 0), (.nop, 0, 0, 0, 0), (.aload_n 1, 1, 1, 0, 0), (.iconst 2, 1, 0, 0, 0), (.iload_n 2, 1, 2, 0, 0), (.iadd, 1, 0, 0, 0), (.aload_n 0, 1, 0, 0, 0), (.getfield 58, 3, 11, 22, 840), (.nop, 0, 0, 0, 0), (.nop, 0, 0, 0, 0), (.iload_n 2, 1, 2, 0, 0), (.iaload, 1, 0, 0, 0), (.iastore, 1, 0, 0, 0), (.aload_n 1, 1, 1, 0, 0), (.bipush 62, 2, 0, 0, 0), (.nop, 0, 0, 0, 0), (.iload_n 2, 1, 2, 0, 0), (.iadd, 1, 0, 0, 0), (.aload_n 0, 1, 0, 0, 0), (.getfield 61, 3, 11, 23, 841), (.nop, 0, 0, 0, 0), (.nop, 0, 0, 0, 0), (.iload_n 2, 1, 2, 0, 0), (.iaload, 1, 0, 0, 0), (.iastore, 1, 0, 0, 0), (.iinc 2 1, 3, 2, 0, 0), (.nop, 0, 0, 0, 0), (.nop, 0, 0, 0, 0), (.goto (-34), 3, 9, 0, 0), (.nop, 0, 0, 0, 0), (.nop, 0, 0, 0, 0), (.return_, 1, 0, 0, 0)]
abbrev mX11_becomes : Nat := 145
def qX11_isRule : List pmE := [(.iload_n 1, 1, 1, 0, 0), (.i2l, 1, 0, 0, 0), (.lconst 0, 1, 0, 0, 0), (.aload_n 0, 1, 0, 0, 0), (.getfield 13, 3, 11, 2, 820), (.nop, 0, 0, 0, 0), (.nop, 0, 0, 0, 0), (.iconst 0, 1, 0, 0, 0), (.iaload, 1, 0, 0, 0), (.iconst 1, 1, 0, 0, 0), (.isub, 1, 0, 0, 0), (.i2l, 1, 0, 0, 0), (.invokestatic 80, 3, 120, 0, 913), (.nop, 0, 0, 0, 0), (.nop, 0, 0, 0, 0), (.ireturn, 1, 0, 0, 0)]
abbrev mX11_isRule : Nat := 146
def qX11_of : List pmE := [(.aload_n 0, 1, 0, 0, 0), (.iload_n 1, 1, 1, 0, 0), (.invokevirtual 172, 3, 146, 0, 966), (.nop, 0, 0, 0, 0), (.nop, 0, 0, 0, 0), (.ifCond .ne 5, 3, 10, 0, 0), (.nop, 0, 0, 0, 0), (.nop, 0, 0, 0, 0), (.iconst (-1), 1, 0, 0, 0), (.ireturn, 1, 0, 0, 0), (.iload_n 2, 1, 2, 0, 0), (.tableswitch 85 0 4 #[33, 42, 52, 62, 73], 33, 0, 0, 0), (.nop, 0, 0, 0, 0), (.nop, 0, 0, 0, 0), (.nop, 0, 0, 0, 0), (.nop, 0, 0, 0, 0), (.nop, 0, 0, 0, 0), (.nop, 0, 0, 0, 0), (.nop, 0, 0, 0, 0), (.nop, 0, 0, 0, 0), (.nop, 0, 0, 0, 0), (.nop, 0, 0, 0, 0), (.nop, 0, 0, 0, 0), (.nop, 0, 0, 0, 0), (.nop, 0, 0, 0, 0), (.nop, 0, 0, 0, 0), (.nop, 0, 0, 0, 0), (.nop, 0, 0, 0, 0), (.nop, 0, 0, 0, 0), (.nop, 0, 0, 0, 0), (.nop, 0, 0, 0, 0), (.nop, 0, 0, 0, 0), (.nop, 0, 0, 0, 0), (.nop, 0, 0, 0, 0), (.nop, 0, 0, 0, 0), (.nop, 0, 0, 0, 0), (.nop, 0, 0, 0, 0), (.nop, 0, 0, 0, 0), (.nop, 0, 0, 0, 0), (.nop, 0, 0, 0, 0), (.nop, 0, 0, 0, 0), (.nop, 0, 0, 0, 0), (.nop, 0, 0, 0, 0), (.nop, 0, 0, 0, 0), (.aload_n 0, 1, 0, 0, 0), (.getfield 13, 3, 11, 2, 820), (.nop, 0, 0, 0, 0), (.nop, 0, 0, 0, 0), (.iconst 1, 1, 0, 0, 0), (.iload_n 1, 1, 1, 0, 0), (.iadd, 1, 0, 0, 0), (.iaload, 1, 0, 0, 0), (.ireturn, 1, 0, 0, 0), (.aload_n 0, 1, 0, 0, 0), (.getfield 13, 3, 11, 2, 820), (.nop, 0, 0, 0, 0), (.nop, 0, 0, 0, 0), (.bipush 11, 2, 0, 0, 0), (.nop, 0, 0, 0, 0), (.iload_n 1, 1, 1, 0, 0), (.iadd, 1, 0, 0, 0), (.iaload, 1, 0, 0, 0), (.ireturn, 1, 0, 0, 0), (.aload_n 0, 1, 0, 0, 0), (.getfield 13, 3, 11, 2, 820), (.nop, 0, 0, 0, 0), (.nop, 0, 0, 0, 0), (.bipush 21, 2, 0, 0, 0), (.nop, 0, 0, 0, 0), (.iload_n 1, 1, 1, 0, 0), (.iadd, 1, 0, 0, 0), (.iaload, 1, 0, 0, 0), (.ireturn, 1, 0, 0, 0), (.aload_n 0, 1, 0, 0, 0), (.getfield 16, 3, 11, 3, 821), (.nop, 0, 0, 0, 0), (.nop, 0, 0, 0, 0), (.iconst 1, 1, 0, 0, 0), (.iaload, 1, 0, 0, 0), (.iload_n 1, 1, 1, 0, 0), (.ishr, 1, 0, 0, 0), (.iconst 1, 1, 0, 0, 0), (.iand, 1, 0, 0, 0), (.ireturn, 1, 0, 0, 0), (.aload_n 0, 1, 0, 0, 0), (.invokevirtual 175, 3, 144, 0, 970), (.nop, 0, 0, 0, 0), (.nop, 0, 0, 0, 0), (.pop, 1, 0, 0, 0), (.aload_n 0, 1, 0, 0, 0), (.getfield 64, 3, 11, 25, 843), (.nop, 0, 0, 0, 0), (.nop, 0, 0, 0, 0), (.iload_n 1, 1, 1, 0, 0), (.iaload, 1, 0, 0, 0), (.ireturn, 1, 0, 0, 0), (.iconst (-1), 1, 0, 0, 0), (.ireturn, 1, 0, 0, 0)]
abbrev mX11_of : Nat := 147
def qX11_spelt : List pmE := [(.aload_n 0, 1, 0, 0, 0), (.iload_n 1, 1, 1, 0, 0), (.invokevirtual 172, 3, 146, 0, 966), (.nop, 0, 0, 0, 0), (.nop, 0, 0, 0, 0), (.ifCond .eq 25, 3, 30, 0, 0), (.nop, 0, 0, 0, 0), (.nop, 0, 0, 0, 0), (.iload_n 2, 1, 2, 0, 0), (.i2l, 1, 0, 0, 0), (.lconst 0, 1, 0, 0, 0), (.lconst 1, 1, 0, 0, 0), (.invokestatic 80, 3, 120, 0, 913), (.nop, 0, 0, 0, 0), (.nop, 0, 0, 0, 0), (.ifCond .eq 15, 3, 30, 0, 0), (.nop, 0, 0, 0, 0), (.nop, 0, 0, 0, 0), (.iload_n 3, 1, 3, 0, 0), (.i2l, 1, 0, 0, 0), (.lconst 0, 1, 0, 0, 0), (.ldc2_w 178, 3, 5, 0, 1012), (.nop, 0, 0, 0, 0), (.nop, 0, 0, 0, 0), (.invokestatic 80, 3, 120, 0, 913), (.nop, 0, 0, 0, 0), (.nop, 0, 0, 0, 0), (.ifCond .ne 5, 3, 32, 0, 0), (.nop, 0, 0, 0, 0), (.nop, 0, 0, 0, 0), (.iconst (-1), 1, 0, 0, 0), (.ireturn, 1, 0, 0, 0), (.aload_n 0, 1, 0, 0, 0), (.invokevirtual 165, 3, 136, 0, 974), (.nop, 0, 0, 0, 0), (.nop, 0, 0, 0, 0), (.iload_n 2, 1, 2, 0, 0), (.ifCond .ne 36, 3, 73, 0, 0), (.nop, 0, 0, 0, 0), (.nop, 0, 0, 0, 0), (.iload_n 3, 1, 3, 0, 0), (.aload_n 0, 1, 0, 0, 0), (.getfield 13, 3, 11, 2, 820), (.nop, 0, 0, 0, 0), (.nop, 0, 0, 0, 0), (.bipush 11, 2, 0, 0, 0), (.nop, 0, 0, 0, 0), (.iload_n 1, 1, 1, 0, 0), (.iadd, 1, 0, 0, 0), (.iaload, 1, 0, 0, 0), (.if_icmp .ge 20, 3, 70, 0, 0), (.nop, 0, 0, 0, 0), (.nop, 0, 0, 0, 0), (.aload_n 0, 1, 0, 0, 0), (.getfield 13, 3, 11, 2, 820), (.nop, 0, 0, 0, 0), (.nop, 0, 0, 0, 0), (.bipush 31, 2, 0, 0, 0), (.nop, 0, 0, 0, 0), (.bipush 6, 2, 0, 0, 0), (.nop, 0, 0, 0, 0), (.iload_n 1, 1, 1, 0, 0), (.imul, 1, 0, 0, 0), (.iadd, 1, 0, 0, 0), (.iload_n 3, 1, 3, 0, 0), (.iadd, 1, 0, 0, 0), (.iaload, 1, 0, 0, 0), (.goto 5, 3, 72, 0, 0), (.nop, 0, 0, 0, 0), (.nop, 0, 0, 0, 0), (.bipush (-4), 2, 0, 0, 0), (.nop, 0, 0, 0, 0), (.ireturn, 1, 0, 0, 0), (.iload_n 3, 1, 3, 0, 0), (.aload_n 0, 1, 0, 0, 0), (.getfield 13, 3, 11, 2, 820), (.nop, 0, 0, 0, 0), (.nop, 0, 0, 0, 0), (.bipush 21, 2, 0, 0, 0), (.nop, 0, 0, 0, 0), (.iload_n 1, 1, 1, 0, 0), (.iadd, 1, 0, 0, 0), (.iaload, 1, 0, 0, 0), (.if_icmp .ge 12, 3, 95, 0, 0), (.nop, 0, 0, 0, 0), (.nop, 0, 0, 0, 0), (.aload_n 0, 1, 0, 0, 0), (.iload_n 1, 1, 1, 0, 0), (.iload_n 3, 1, 3, 0, 0), (.invokevirtual 161, 3, 140, 0, 1004), (.nop, 0, 0, 0, 0), (.nop, 0, 0, 0, 0), (.goto 5, 3, 97, 0, 0), (.nop, 0, 0, 0, 0), (.nop, 0, 0, 0, 0), (.bipush (-4), 2, 0, 0, 0), (.nop, 0, 0, 0, 0), (.ireturn, 1, 0, 0, 0)]
abbrev mX11_spelt : Nat := 148
def qX11_isPlace : List pmE := [(.iload_n 1, 1, 1, 0, 0), (.i2l, 1, 0, 0, 0), (.lconst 0, 1, 0, 0, 0), (.aload_n 0, 1, 0, 0, 0), (.getfield 16, 3, 11, 3, 821), (.nop, 0, 0, 0, 0), (.nop, 0, 0, 0, 0), (.iconst 0, 1, 0, 0, 0), (.iaload, 1, 0, 0, 0), (.iconst 1, 1, 0, 0, 0), (.isub, 1, 0, 0, 0), (.i2l, 1, 0, 0, 0), (.invokestatic 80, 3, 120, 0, 913), (.nop, 0, 0, 0, 0), (.nop, 0, 0, 0, 0), (.ireturn, 1, 0, 0, 0)]
abbrev mX11_isPlace : Nat := 149
def qX11_at : List pmE := [(.aload_n 0, 1, 0, 0, 0), (.iload_n 1, 1, 1, 0, 0), (.invokevirtual 180, 3, 149, 0, 1017), (.nop, 0, 0, 0, 0), (.nop, 0, 0, 0, 0), (.ifCond .eq 33, 3, 38, 0, 0), (.nop, 0, 0, 0, 0), (.nop, 0, 0, 0, 0), (.iload_n 2, 1, 2, 0, 0), (.i2l, 1, 0, 0, 0), (.lconst 0, 1, 0, 0, 0), (.lconst 1, 1, 0, 0, 0), (.invokestatic 80, 3, 120, 0, 913), (.nop, 0, 0, 0, 0), (.nop, 0, 0, 0, 0), (.ifCond .eq 23, 3, 38, 0, 0), (.nop, 0, 0, 0, 0), (.nop, 0, 0, 0, 0), (.aload_n 0, 1, 0, 0, 0), (.getfield 16, 3, 11, 3, 821), (.nop, 0, 0, 0, 0), (.nop, 0, 0, 0, 0), (.iload_n 2, 1, 2, 0, 0), (.ifCond .ne 7, 3, 30, 0, 0), (.nop, 0, 0, 0, 0), (.nop, 0, 0, 0, 0), (.iconst 2, 1, 0, 0, 0), (.goto 5, 3, 32, 0, 0), (.nop, 0, 0, 0, 0), (.nop, 0, 0, 0, 0), (.bipush 62, 2, 0, 0, 0), (.nop, 0, 0, 0, 0), (.iload_n 1, 1, 1, 0, 0), (.iadd, 1, 0, 0, 0), (.iaload, 1, 0, 0, 0), (.goto 4, 3, 39, 0, 0), (.nop, 0, 0, 0, 0), (.nop, 0, 0, 0, 0), (.iconst (-1), 1, 0, 0, 0), (.ireturn, 1, 0, 0, 0)]
abbrev mX11_at : Nat := 150
def qX11_idle : List pmE := [(.aload_n 0, 1, 0, 0, 0), (.invokevirtual 175, 3, 144, 0, 970), (.nop, 0, 0, 0, 0), (.nop, 0, 0, 0, 0), (.pop, 1, 0, 0, 0), (.iconst 0, 1, 0, 0, 0), (.istore_n 1, 1, 1, 0, 0), (.iconst 0, 1, 0, 0, 0), (.istore_n 2, 1, 2, 0, 0), (.iload_n 2, 1, 2, 0, 0), (.aload_n 0, 1, 0, 0, 0), (.getfield 13, 3, 11, 2, 820), (.nop, 0, 0, 0, 0), (.nop, 0, 0, 0, 0), (.iconst 0, 1, 0, 0, 0), (.iaload, 1, 0, 0, 0), (.if_icmp .ge 41, 3, 57, 0, 0), (.nop, 0, 0, 0, 0), (.nop, 0, 0, 0, 0), (.iload_n 1, 1, 1, 0, 0), (.aload_n 0, 1, 0, 0, 0), (.getfield 16, 3, 11, 3, 821), (.nop, 0, 0, 0, 0), (.nop, 0, 0, 0, 0), (.iconst 1, 1, 0, 0, 0), (.iaload, 1, 0, 0, 0), (.iload_n 2, 1, 2, 0, 0), (.invokestatic 147, 3, 121, 0, 986), (.nop, 0, 0, 0, 0), (.nop, 0, 0, 0, 0), (.ifCond .eq 18, 3, 48, 0, 0), (.nop, 0, 0, 0, 0), (.nop, 0, 0, 0, 0), (.aload_n 0, 1, 0, 0, 0), (.getfield 64, 3, 11, 25, 843), (.nop, 0, 0, 0, 0), (.nop, 0, 0, 0, 0), (.iload_n 2, 1, 2, 0, 0), (.iaload, 1, 0, 0, 0), (.ifCond .ne 9, 3, 48, 0, 0), (.nop, 0, 0, 0, 0), (.nop, 0, 0, 0, 0), (.iconst 1, 1, 0, 0, 0), (.iload_n 2, 1, 2, 0, 0), (.ishl, 1, 0, 0, 0), (.goto 4, 3, 49, 0, 0), (.nop, 0, 0, 0, 0), (.nop, 0, 0, 0, 0), (.iconst 0, 1, 0, 0, 0), (.ior, 1, 0, 0, 0), (.istore_n 1, 1, 1, 0, 0), (.iinc 2 1, 3, 2, 0, 0), (.nop, 0, 0, 0, 0), (.nop, 0, 0, 0, 0), (.goto (-45), 3, 9, 0, 0), (.nop, 0, 0, 0, 0), (.nop, 0, 0, 0, 0), (.iload_n 1, 1, 1, 0, 0), (.ireturn, 1, 0, 0, 0)]
abbrev mX11_idle : Nat := 151
def qX11_count : List pmE := [(.iload_n 1, 1, 1, 0, 0), (.tableswitch 98 0 6 #[43, 50, 57, 64, 69, 88, 93], 43, 0, 0, 0), (.nop, 0, 0, 0, 0), (.nop, 0, 0, 0, 0), (.nop, 0, 0, 0, 0), (.nop, 0, 0, 0, 0), (.nop, 0, 0, 0, 0), (.nop, 0, 0, 0, 0), (.nop, 0, 0, 0, 0), (.nop, 0, 0, 0, 0), (.nop, 0, 0, 0, 0), (.nop, 0, 0, 0, 0), (.nop, 0, 0, 0, 0), (.nop, 0, 0, 0, 0), (.nop, 0, 0, 0, 0), (.nop, 0, 0, 0, 0), (.nop, 0, 0, 0, 0), (.nop, 0, 0, 0, 0), (.nop, 0, 0, 0, 0), (.nop, 0, 0, 0, 0), (.nop, 0, 0, 0, 0), (.nop, 0, 0, 0, 0), (.nop, 0, 0, 0, 0), (.nop, 0, 0, 0, 0), (.nop, 0, 0, 0, 0), (.nop, 0, 0, 0, 0), (.nop, 0, 0, 0, 0), (.nop, 0, 0, 0, 0), (.nop, 0, 0, 0, 0), (.nop, 0, 0, 0, 0), (.nop, 0, 0, 0, 0), (.nop, 0, 0, 0, 0), (.nop, 0, 0, 0, 0), (.nop, 0, 0, 0, 0), (.nop, 0, 0, 0, 0), (.nop, 0, 0, 0, 0), (.nop, 0, 0, 0, 0), (.nop, 0, 0, 0, 0), (.nop, 0, 0, 0, 0), (.nop, 0, 0, 0, 0), (.nop, 0, 0, 0, 0), (.nop, 0, 0, 0, 0), (.nop, 0, 0, 0, 0), (.nop, 0, 0, 0, 0), (.aload_n 0, 1, 0, 0, 0), (.getfield 16, 3, 11, 3, 821), (.nop, 0, 0, 0, 0), (.nop, 0, 0, 0, 0), (.iconst 0, 1, 0, 0, 0), (.iaload, 1, 0, 0, 0), (.ireturn, 1, 0, 0, 0), (.aload_n 0, 1, 0, 0, 0), (.getfield 13, 3, 11, 2, 820), (.nop, 0, 0, 0, 0), (.nop, 0, 0, 0, 0), (.iconst 0, 1, 0, 0, 0), (.iaload, 1, 0, 0, 0), (.ireturn, 1, 0, 0, 0), (.aload_n 0, 1, 0, 0, 0), (.getfield 16, 3, 11, 3, 821), (.nop, 0, 0, 0, 0), (.nop, 0, 0, 0, 0), (.iconst 1, 1, 0, 0, 0), (.iaload, 1, 0, 0, 0), (.ireturn, 1, 0, 0, 0), (.aload_n 0, 1, 0, 0, 0), (.invokevirtual 183, 3, 151, 0, 1025), (.nop, 0, 0, 0, 0), (.nop, 0, 0, 0, 0), (.ireturn, 1, 0, 0, 0), (.aload_n 0, 1, 0, 0, 0), (.getfield 22, 3, 11, 7, 825), (.nop, 0, 0, 0, 0), (.nop, 0, 0, 0, 0), (.bipush (-4), 2, 0, 0, 0), (.nop, 0, 0, 0, 0), (.if_icmp .ne 8, 3, 84, 0, 0), (.nop, 0, 0, 0, 0), (.nop, 0, 0, 0, 0), (.bipush (-4), 2, 0, 0, 0), (.nop, 0, 0, 0, 0), (.goto 7, 3, 88, 0, 0), (.nop, 0, 0, 0, 0), (.nop, 0, 0, 0, 0), (.aload_n 0, 1, 0, 0, 0), (.getfield 186, 3, 11, 6, 824), (.nop, 0, 0, 0, 0), (.nop, 0, 0, 0, 0), (.ireturn, 1, 0, 0, 0), (.aload_n 0, 1, 0, 0, 0), (.getfield 22, 3, 11, 7, 825), (.nop, 0, 0, 0, 0), (.nop, 0, 0, 0, 0), (.ireturn, 1, 0, 0, 0), (.aload_n 0, 1, 0, 0, 0), (.getfield 133, 3, 11, 5, 823), (.nop, 0, 0, 0, 0), (.nop, 0, 0, 0, 0), (.ireturn, 1, 0, 0, 0), (.iconst (-1), 1, 0, 0, 0), (.ireturn, 1, 0, 0, 0)]
abbrev mX11_count : Nat := 152
def qX11_notes : List pmE := [(.aload_n 0, 1, 0, 0, 0), (.getfield 133, 3, 11, 5, 823), (.nop, 0, 0, 0, 0), (.nop, 0, 0, 0, 0), (.bipush 8, 2, 0, 0, 0), (.nop, 0, 0, 0, 0), (.if_icmp .ne 43, 3, 49, 0, 0), (.nop, 0, 0, 0, 0), (.nop, 0, 0, 0, 0), (.iconst 0, 1, 0, 0, 0), (.istore_n 1, 1, 1, 0, 0), (.iload_n 1, 1, 1, 0, 0), (.sipush 854, 3, 0, 0, 0), (.nop, 0, 0, 0, 0), (.nop, 0, 0, 0, 0), (.if_icmp .ge 24, 3, 39, 0, 0), (.nop, 0, 0, 0, 0), (.nop, 0, 0, 0, 0), (.aload_n 0, 1, 0, 0, 0), (.getfield 19, 3, 11, 4, 822), (.nop, 0, 0, 0, 0), (.nop, 0, 0, 0, 0), (.iload_n 1, 1, 1, 0, 0), (.aload_n 0, 1, 0, 0, 0), (.getfield 19, 3, 11, 4, 822), (.nop, 0, 0, 0, 0), (.nop, 0, 0, 0, 0), (.iload_n 1, 1, 1, 0, 0), (.bipush 122, 2, 0, 0, 0), (.nop, 0, 0, 0, 0), (.iadd, 1, 0, 0, 0), (.iaload, 1, 0, 0, 0), (.iastore, 1, 0, 0, 0), (.iinc 1 1, 3, 1, 0, 0), (.nop, 0, 0, 0, 0), (.nop, 0, 0, 0, 0), (.goto (-25), 3, 11, 0, 0), (.nop, 0, 0, 0, 0), (.nop, 0, 0, 0, 0), (.aload_n 0, 1, 0, 0, 0), (.dup, 1, 0, 0, 0), (.getfield 133, 3, 11, 5, 823), (.nop, 0, 0, 0, 0), (.nop, 0, 0, 0, 0), (.iconst 1, 1, 0, 0, 0), (.isub, 1, 0, 0, 0), (.putfield 133, 3, 11, 5, 823), (.nop, 0, 0, 0, 0), (.nop, 0, 0, 0, 0), (.iconst 0, 1, 0, 0, 0), (.istore_n 1, 1, 1, 0, 0), (.iload_n 1, 1, 1, 0, 0), (.bipush 122, 2, 0, 0, 0), (.nop, 0, 0, 0, 0), (.if_icmp .ge 29, 3, 83, 0, 0), (.nop, 0, 0, 0, 0), (.nop, 0, 0, 0, 0), (.aload_n 0, 1, 0, 0, 0), (.getfield 19, 3, 11, 4, 822), (.nop, 0, 0, 0, 0), (.nop, 0, 0, 0, 0), (.bipush 122, 2, 0, 0, 0), (.nop, 0, 0, 0, 0), (.aload_n 0, 1, 0, 0, 0), (.getfield 133, 3, 11, 5, 823), (.nop, 0, 0, 0, 0), (.nop, 0, 0, 0, 0), (.imul, 1, 0, 0, 0), (.iload_n 1, 1, 1, 0, 0), (.iadd, 1, 0, 0, 0), (.aload_n 0, 1, 0, 0, 0), (.getfield 16, 3, 11, 3, 821), (.nop, 0, 0, 0, 0), (.nop, 0, 0, 0, 0), (.iload_n 1, 1, 1, 0, 0), (.iaload, 1, 0, 0, 0), (.iastore, 1, 0, 0, 0), (.iinc 1 1, 3, 1, 0, 0), (.nop, 0, 0, 0, 0), (.nop, 0, 0, 0, 0), (.goto (-29), 3, 51, 0, 0), (.nop, 0, 0, 0, 0), (.nop, 0, 0, 0, 0), (.aload_n 0, 1, 0, 0, 0), (.dup, 1, 0, 0, 0), (.getfield 133, 3, 11, 5, 823), (.nop, 0, 0, 0, 0), (.nop, 0, 0, 0, 0), (.iconst 1, 1, 0, 0, 0), (.iadd, 1, 0, 0, 0), (.putfield 133, 3, 11, 5, 823), (.nop, 0, 0, 0, 0), (.nop, 0, 0, 0, 0), (.return_, 1, 0, 0, 0)]
abbrev mX11_notes : Nat := 153
def qX11_change : List pmE := [(.aload_n 0, 1, 0, 0, 0), (.iload_n 1, 1, 1, 0, 0), (.invokevirtual 180, 3, 149, 0, 1017), (.nop, 0, 0, 0, 0), (.nop, 0, 0, 0, 0), (.ifCond .eq 10, 3, 15, 0, 0), (.nop, 0, 0, 0, 0), (.nop, 0, 0, 0, 0), (.iload_n 2, 1, 2, 0, 0), (.invokestatic 102, 3, 125, 0, 932), (.nop, 0, 0, 0, 0), (.nop, 0, 0, 0, 0), (.ifCond .ne 5, 3, 17, 0, 0), (.nop, 0, 0, 0, 0), (.nop, 0, 0, 0, 0), (.iconst (-1), 1, 0, 0, 0), (.ireturn, 1, 0, 0, 0), (.aload_n 0, 1, 0, 0, 0), (.getfield 16, 3, 11, 3, 821), (.nop, 0, 0, 0, 0), (.nop, 0, 0, 0, 0), (.iconst 2, 1, 0, 0, 0), (.iload_n 1, 1, 1, 0, 0), (.iadd, 1, 0, 0, 0), (.iaload, 1, 0, 0, 0), (.istore_n 3, 1, 3, 0, 0), (.iload_n 3, 1, 3, 0, 0), (.iload_n 2, 1, 2, 0, 0), (.if_icmp .ne 6, 3, 34, 0, 0), (.nop, 0, 0, 0, 0), (.nop, 0, 0, 0, 0), (.bipush (-2), 2, 0, 0, 0), (.nop, 0, 0, 0, 0), (.ireturn, 1, 0, 0, 0), (.aload_n 0, 1, 0, 0, 0), (.invokevirtual 189, 3, 153, 0, 1033), (.nop, 0, 0, 0, 0), (.nop, 0, 0, 0, 0), (.aload_n 0, 1, 0, 0, 0), (.getfield 16, 3, 11, 3, 821), (.nop, 0, 0, 0, 0), (.nop, 0, 0, 0, 0), (.iconst 2, 1, 0, 0, 0), (.iload_n 1, 1, 1, 0, 0), (.iadd, 1, 0, 0, 0), (.iload_n 2, 1, 2, 0, 0), (.iastore, 1, 0, 0, 0), (.iload_n 3, 1, 3, 0, 0), (.ireturn, 1, 0, 0, 0)]
abbrev mX11_change : Nat := 154
def qX11_turn : List pmE := [(.aload_n 0, 1, 0, 0, 0), (.iload_n 1, 1, 1, 0, 0), (.invokevirtual 172, 3, 146, 0, 966), (.nop, 0, 0, 0, 0), (.nop, 0, 0, 0, 0), (.ifCond .ne 5, 3, 10, 0, 0), (.nop, 0, 0, 0, 0), (.nop, 0, 0, 0, 0), (.iconst (-1), 1, 0, 0, 0), (.ireturn, 1, 0, 0, 0), (.aload_n 0, 1, 0, 0, 0), (.invokevirtual 189, 3, 153, 0, 1033), (.nop, 0, 0, 0, 0), (.nop, 0, 0, 0, 0), (.aload_n 0, 1, 0, 0, 0), (.getfield 16, 3, 11, 3, 821), (.nop, 0, 0, 0, 0), (.nop, 0, 0, 0, 0), (.iconst 1, 1, 0, 0, 0), (.dup2, 1, 0, 0, 0), (.iaload, 1, 0, 0, 0), (.iconst 1, 1, 0, 0, 0), (.iload_n 1, 1, 1, 0, 0), (.ishl, 1, 0, 0, 0), (.ixor, 1, 0, 0, 0), (.iastore, 1, 0, 0, 0), (.aload_n 0, 1, 0, 0, 0), (.getfield 16, 3, 11, 3, 821), (.nop, 0, 0, 0, 0), (.nop, 0, 0, 0, 0), (.iconst 1, 1, 0, 0, 0), (.iaload, 1, 0, 0, 0), (.iload_n 1, 1, 1, 0, 0), (.ishr, 1, 0, 0, 0), (.iconst 1, 1, 0, 0, 0), (.iand, 1, 0, 0, 0), (.ireturn, 1, 0, 0, 0)]
abbrev mX11_turn : Nat := 155
def qX11_passes : List pmE := [(.aload_n 0, 1, 0, 0, 0), (.invokevirtual 165, 3, 136, 0, 974), (.nop, 0, 0, 0, 0), (.nop, 0, 0, 0, 0), (.aload_n 0, 1, 0, 0, 0), (.aload_n 0, 1, 0, 0, 0), (.getfield 16, 3, 11, 3, 821), (.nop, 0, 0, 0, 0), (.nop, 0, 0, 0, 0), (.iload_n 1, 1, 1, 0, 0), (.invokevirtual 168, 3, 143, 0, 978), (.nop, 0, 0, 0, 0), (.nop, 0, 0, 0, 0), (.istore_n 2, 1, 2, 0, 0), (.aload_n 0, 1, 0, 0, 0), (.getfield 144, 3, 11, 24, 842), (.nop, 0, 0, 0, 0), (.nop, 0, 0, 0, 0), (.bipush 60, 2, 0, 0, 0), (.nop, 0, 0, 0, 0), (.if_icmp .le 6, 3, 26, 0, 0), (.nop, 0, 0, 0, 0), (.nop, 0, 0, 0, 0), (.bipush (-3), 2, 0, 0, 0), (.nop, 0, 0, 0, 0), (.ireturn, 1, 0, 0, 0), (.aload_n 0, 1, 0, 0, 0), (.invokevirtual 189, 3, 153, 0, 1033), (.nop, 0, 0, 0, 0), (.nop, 0, 0, 0, 0), (.aload_n 0, 1, 0, 0, 0), (.aload_n 0, 1, 0, 0, 0), (.getfield 16, 3, 11, 3, 821), (.nop, 0, 0, 0, 0), (.nop, 0, 0, 0, 0), (.invokevirtual 192, 3, 145, 0, 1049), (.nop, 0, 0, 0, 0), (.nop, 0, 0, 0, 0), (.iload_n 2, 1, 2, 0, 0), (.ireturn, 1, 0, 0, 0)]
abbrev mX11_passes : Nat := 156
def qX11_pass : List pmE := [(.iload_n 1, 1, 1, 0, 0), (.i2l, 1, 0, 0, 0), (.lconst 0, 1, 0, 0, 0), (.iconst 1, 1, 0, 0, 0), (.aload_n 0, 1, 0, 0, 0), (.getfield 13, 3, 11, 2, 820), (.nop, 0, 0, 0, 0), (.nop, 0, 0, 0, 0), (.iconst 0, 1, 0, 0, 0), (.iaload, 1, 0, 0, 0), (.ishl, 1, 0, 0, 0), (.iconst 1, 1, 0, 0, 0), (.isub, 1, 0, 0, 0), (.i2l, 1, 0, 0, 0), (.invokestatic 80, 3, 120, 0, 913), (.nop, 0, 0, 0, 0), (.nop, 0, 0, 0, 0), (.ifCond .eq 11, 3, 28, 0, 0), (.nop, 0, 0, 0, 0), (.nop, 0, 0, 0, 0), (.aload_n 0, 1, 0, 0, 0), (.iload_n 1, 1, 1, 0, 0), (.invokevirtual 196, 3, 156, 0, 1045), (.nop, 0, 0, 0, 0), (.nop, 0, 0, 0, 0), (.goto 4, 3, 29, 0, 0), (.nop, 0, 0, 0, 0), (.nop, 0, 0, 0, 0), (.iconst (-1), 1, 0, 0, 0), (.ireturn, 1, 0, 0, 0)]
abbrev mX11_pass : Nat := 157
def qX11_isOfSort : List pmE := [(.iload_n 1, 1, 1, 0, 0), (.ifCond .eq 33, 3, 34, 0, 0), (.nop, 0, 0, 0, 0), (.nop, 0, 0, 0, 0), (.iload_n 1, 1, 1, 0, 0), (.iconst 1, 1, 0, 0, 0), (.if_icmp .ne 13, 3, 19, 0, 0), (.nop, 0, 0, 0, 0), (.nop, 0, 0, 0, 0), (.iload_n 0, 1, 0, 0, 0), (.iconst 1, 1, 0, 0, 0), (.if_icmp .eq 23, 3, 34, 0, 0), (.nop, 0, 0, 0, 0), (.nop, 0, 0, 0, 0), (.iload_n 0, 1, 0, 0, 0), (.iconst 3, 1, 0, 0, 0), (.if_icmp .eq 18, 3, 34, 0, 0), (.nop, 0, 0, 0, 0), (.nop, 0, 0, 0, 0), (.iload_n 1, 1, 1, 0, 0), (.iconst 2, 1, 0, 0, 0), (.if_icmp .ne 17, 3, 38, 0, 0), (.nop, 0, 0, 0, 0), (.nop, 0, 0, 0, 0), (.iload_n 0, 1, 0, 0, 0), (.iconst 2, 1, 0, 0, 0), (.if_icmp .eq 8, 3, 34, 0, 0), (.nop, 0, 0, 0, 0), (.nop, 0, 0, 0, 0), (.iload_n 0, 1, 0, 0, 0), (.iconst 4, 1, 0, 0, 0), (.if_icmp .ne 7, 3, 38, 0, 0), (.nop, 0, 0, 0, 0), (.nop, 0, 0, 0, 0), (.iconst 1, 1, 0, 0, 0), (.goto 4, 3, 39, 0, 0), (.nop, 0, 0, 0, 0), (.nop, 0, 0, 0, 0), (.iconst 0, 1, 0, 0, 0), (.ireturn, 1, 0, 0, 0)]
abbrev mX11_isOfSort : Nat := 158
def qX11_pile : List pmE := [(.iload_n 1, 1, 1, 0, 0), (.i2l, 1, 0, 0, 0), (.lconst 0, 1, 0, 0, 0), (.ldc2_w 199, 3, 2, 0, 1057), (.nop, 0, 0, 0, 0), (.nop, 0, 0, 0, 0), (.invokestatic 80, 3, 120, 0, 913), (.nop, 0, 0, 0, 0), (.nop, 0, 0, 0, 0), (.ifCond .ne 5, 3, 14, 0, 0), (.nop, 0, 0, 0, 0), (.nop, 0, 0, 0, 0), (.iconst (-1), 1, 0, 0, 0), (.ireturn, 1, 0, 0, 0), (.aload_n 0, 1, 0, 0, 0), (.iconst 0, 1, 0, 0, 0), (.putfield 186, 3, 11, 6, 824), (.nop, 0, 0, 0, 0), (.nop, 0, 0, 0, 0), (.aload_n 0, 1, 0, 0, 0), (.iload_n 1, 1, 1, 0, 0), (.putfield 22, 3, 11, 7, 825), (.nop, 0, 0, 0, 0), (.nop, 0, 0, 0, 0), (.iconst 0, 1, 0, 0, 0), (.istore_n 2, 1, 2, 0, 0), (.iconst 0, 1, 0, 0, 0), (.istore_n 3, 1, 3, 0, 0), (.iload_n 3, 1, 3, 0, 0), (.aload_n 0, 1, 0, 0, 0), (.getfield 13, 3, 11, 2, 820), (.nop, 0, 0, 0, 0), (.nop, 0, 0, 0, 0), (.iconst 0, 1, 0, 0, 0), (.iaload, 1, 0, 0, 0), (.if_icmp .ge 32, 3, 67, 0, 0), (.nop, 0, 0, 0, 0), (.nop, 0, 0, 0, 0), (.iload_n 2, 1, 2, 0, 0), (.aload_n 0, 1, 0, 0, 0), (.getfield 13, 3, 11, 2, 820), (.nop, 0, 0, 0, 0), (.nop, 0, 0, 0, 0), (.iconst 1, 1, 0, 0, 0), (.iload_n 3, 1, 3, 0, 0), (.iadd, 1, 0, 0, 0), (.iaload, 1, 0, 0, 0), (.iload_n 1, 1, 1, 0, 0), (.invokestatic 201, 3, 158, 0, 1058), (.nop, 0, 0, 0, 0), (.nop, 0, 0, 0, 0), (.ifCond .eq 7, 3, 58, 0, 0), (.nop, 0, 0, 0, 0), (.nop, 0, 0, 0, 0), (.iconst 1, 1, 0, 0, 0), (.goto 4, 3, 59, 0, 0), (.nop, 0, 0, 0, 0), (.nop, 0, 0, 0, 0), (.iconst 0, 1, 0, 0, 0), (.iadd, 1, 0, 0, 0), (.istore_n 2, 1, 2, 0, 0), (.iinc 3 1, 3, 3, 0, 0), (.nop, 0, 0, 0, 0), (.nop, 0, 0, 0, 0), (.goto (-36), 3, 28, 0, 0), (.nop, 0, 0, 0, 0), (.nop, 0, 0, 0, 0), (.iload_n 2, 1, 2, 0, 0), (.ireturn, 1, 0, 0, 0)]
abbrev mX11_pile : Nat := 159
def qX11_put : List pmE := [(.aload_n 0, 1, 0, 0, 0), (.iload_n 1, 1, 1, 0, 0), (.invokevirtual 172, 3, 146, 0, 966), (.nop, 0, 0, 0, 0), (.nop, 0, 0, 0, 0), (.ifCond .ne 5, 3, 10, 0, 0), (.nop, 0, 0, 0, 0), (.nop, 0, 0, 0, 0), (.iconst (-1), 1, 0, 0, 0), (.ireturn, 1, 0, 0, 0), (.aload_n 0, 1, 0, 0, 0), (.getfield 22, 3, 11, 7, 825), (.nop, 0, 0, 0, 0), (.nop, 0, 0, 0, 0), (.bipush (-4), 2, 0, 0, 0), (.nop, 0, 0, 0, 0), (.if_icmp .ne 6, 3, 22, 0, 0), (.nop, 0, 0, 0, 0), (.nop, 0, 0, 0, 0), (.bipush (-11), 2, 0, 0, 0), (.nop, 0, 0, 0, 0), (.ireturn, 1, 0, 0, 0), (.aload_n 0, 1, 0, 0, 0), (.getfield 186, 3, 11, 6, 824), (.nop, 0, 0, 0, 0), (.nop, 0, 0, 0, 0), (.iload_n 1, 1, 1, 0, 0), (.invokestatic 147, 3, 121, 0, 986), (.nop, 0, 0, 0, 0), (.nop, 0, 0, 0, 0), (.ifCond .eq 6, 3, 36, 0, 0), (.nop, 0, 0, 0, 0), (.nop, 0, 0, 0, 0), (.bipush (-2), 2, 0, 0, 0), (.nop, 0, 0, 0, 0), (.ireturn, 1, 0, 0, 0), (.aload_n 0, 1, 0, 0, 0), (.getfield 186, 3, 11, 6, 824), (.nop, 0, 0, 0, 0), (.nop, 0, 0, 0, 0), (.invokestatic 204, 3, 122, 0, 1065), (.nop, 0, 0, 0, 0), (.nop, 0, 0, 0, 0), (.iconst 4, 1, 0, 0, 0), (.if_icmp .ne 6, 3, 50, 0, 0), (.nop, 0, 0, 0, 0), (.nop, 0, 0, 0, 0), (.bipush (-13), 2, 0, 0, 0), (.nop, 0, 0, 0, 0), (.ireturn, 1, 0, 0, 0), (.aload_n 0, 1, 0, 0, 0), (.getfield 13, 3, 11, 2, 820), (.nop, 0, 0, 0, 0), (.nop, 0, 0, 0, 0), (.iconst 1, 1, 0, 0, 0), (.iload_n 1, 1, 1, 0, 0), (.iadd, 1, 0, 0, 0), (.iaload, 1, 0, 0, 0), (.aload_n 0, 1, 0, 0, 0), (.getfield 22, 3, 11, 7, 825), (.nop, 0, 0, 0, 0), (.nop, 0, 0, 0, 0), (.invokestatic 201, 3, 158, 0, 1058), (.nop, 0, 0, 0, 0), (.nop, 0, 0, 0, 0), (.ifCond .ne 6, 3, 71, 0, 0), (.nop, 0, 0, 0, 0), (.nop, 0, 0, 0, 0), (.bipush (-15), 2, 0, 0, 0), (.nop, 0, 0, 0, 0), (.ireturn, 1, 0, 0, 0), (.aload_n 0, 1, 0, 0, 0), (.dup, 1, 0, 0, 0), (.getfield 186, 3, 11, 6, 824), (.nop, 0, 0, 0, 0), (.nop, 0, 0, 0, 0), (.iconst 1, 1, 0, 0, 0), (.iload_n 1, 1, 1, 0, 0), (.ishl, 1, 0, 0, 0), (.ior, 1, 0, 0, 0), (.putfield 186, 3, 11, 6, 824), (.nop, 0, 0, 0, 0), (.nop, 0, 0, 0, 0), (.aload_n 0, 1, 0, 0, 0), (.getfield 186, 3, 11, 6, 824), (.nop, 0, 0, 0, 0), (.nop, 0, 0, 0, 0), (.invokestatic 204, 3, 122, 0, 1065), (.nop, 0, 0, 0, 0), (.nop, 0, 0, 0, 0), (.ireturn, 1, 0, 0, 0)]
abbrev mX11_put : Nat := 160
def qX11_passPile : List pmE := [(.aload_n 0, 1, 0, 0, 0), (.getfield 22, 3, 11, 7, 825), (.nop, 0, 0, 0, 0), (.nop, 0, 0, 0, 0), (.bipush (-4), 2, 0, 0, 0), (.nop, 0, 0, 0, 0), (.if_icmp .ne 8, 3, 14, 0, 0), (.nop, 0, 0, 0, 0), (.nop, 0, 0, 0, 0), (.bipush (-11), 2, 0, 0, 0), (.nop, 0, 0, 0, 0), (.goto 11, 3, 22, 0, 0), (.nop, 0, 0, 0, 0), (.nop, 0, 0, 0, 0), (.aload_n 0, 1, 0, 0, 0), (.aload_n 0, 1, 0, 0, 0), (.getfield 186, 3, 11, 6, 824), (.nop, 0, 0, 0, 0), (.nop, 0, 0, 0, 0), (.invokevirtual 196, 3, 156, 0, 1045), (.nop, 0, 0, 0, 0), (.nop, 0, 0, 0, 0), (.ireturn, 1, 0, 0, 0)]
abbrev mX11_passPile : Nat := 161
def qX11_undo : List pmE := [(.aload_n 0, 1, 0, 0, 0), (.getfield 133, 3, 11, 5, 823), (.nop, 0, 0, 0, 0), (.nop, 0, 0, 0, 0), (.ifCond .ne 6, 3, 10, 0, 0), (.nop, 0, 0, 0, 0), (.nop, 0, 0, 0, 0), (.bipush (-4), 2, 0, 0, 0), (.nop, 0, 0, 0, 0), (.ireturn, 1, 0, 0, 0), (.aload_n 0, 1, 0, 0, 0), (.dup, 1, 0, 0, 0), (.getfield 133, 3, 11, 5, 823), (.nop, 0, 0, 0, 0), (.nop, 0, 0, 0, 0), (.iconst 1, 1, 0, 0, 0), (.isub, 1, 0, 0, 0), (.putfield 133, 3, 11, 5, 823), (.nop, 0, 0, 0, 0), (.nop, 0, 0, 0, 0), (.iconst 0, 1, 0, 0, 0), (.istore_n 1, 1, 1, 0, 0), (.iload_n 1, 1, 1, 0, 0), (.bipush 122, 2, 0, 0, 0), (.nop, 0, 0, 0, 0), (.if_icmp .ge 29, 3, 54, 0, 0), (.nop, 0, 0, 0, 0), (.nop, 0, 0, 0, 0), (.aload_n 0, 1, 0, 0, 0), (.getfield 16, 3, 11, 3, 821), (.nop, 0, 0, 0, 0), (.nop, 0, 0, 0, 0), (.iload_n 1, 1, 1, 0, 0), (.aload_n 0, 1, 0, 0, 0), (.getfield 19, 3, 11, 4, 822), (.nop, 0, 0, 0, 0), (.nop, 0, 0, 0, 0), (.bipush 122, 2, 0, 0, 0), (.nop, 0, 0, 0, 0), (.aload_n 0, 1, 0, 0, 0), (.getfield 133, 3, 11, 5, 823), (.nop, 0, 0, 0, 0), (.nop, 0, 0, 0, 0), (.imul, 1, 0, 0, 0), (.iload_n 1, 1, 1, 0, 0), (.iadd, 1, 0, 0, 0), (.iaload, 1, 0, 0, 0), (.iastore, 1, 0, 0, 0), (.iinc 1 1, 3, 1, 0, 0), (.nop, 0, 0, 0, 0), (.nop, 0, 0, 0, 0), (.goto (-29), 3, 22, 0, 0), (.nop, 0, 0, 0, 0), (.nop, 0, 0, 0, 0), (.aload_n 0, 1, 0, 0, 0), (.getfield 133, 3, 11, 5, 823), (.nop, 0, 0, 0, 0), (.nop, 0, 0, 0, 0), (.ireturn, 1, 0, 0, 0)]
abbrev mX11_undo : Nat := 162
def qX11_comes : List pmE := [(.iload_n 1, 1, 1, 0, 0), (.i2l, 1, 0, 0, 0), (.lconst 0, 1, 0, 0, 0), (.ldc2_w 207, 3, 3, 0, 1080), (.nop, 0, 0, 0, 0), (.nop, 0, 0, 0, 0), (.invokestatic 80, 3, 120, 0, 913), (.nop, 0, 0, 0, 0), (.nop, 0, 0, 0, 0), (.ifCond .ne 5, 3, 14, 0, 0), (.nop, 0, 0, 0, 0), (.nop, 0, 0, 0, 0), (.iconst (-1), 1, 0, 0, 0), (.ireturn, 1, 0, 0, 0), (.aload_n 0, 1, 0, 0, 0), (.invokevirtual 175, 3, 144, 0, 970), (.nop, 0, 0, 0, 0), (.nop, 0, 0, 0, 0), (.pop, 1, 0, 0, 0), (.iload_n 1, 1, 1, 0, 0), (.ifCond .eq 8, 3, 28, 0, 0), (.nop, 0, 0, 0, 0), (.nop, 0, 0, 0, 0), (.iload_n 1, 1, 1, 0, 0), (.iconst 3, 1, 0, 0, 0), (.if_icmp .ne 29, 3, 54, 0, 0), (.nop, 0, 0, 0, 0), (.nop, 0, 0, 0, 0), (.iload_n 1, 1, 1, 0, 0), (.ifCond .ne 10, 3, 39, 0, 0), (.nop, 0, 0, 0, 0), (.nop, 0, 0, 0, 0), (.aload_n 0, 1, 0, 0, 0), (.getfield 144, 3, 11, 24, 842), (.nop, 0, 0, 0, 0), (.nop, 0, 0, 0, 0), (.goto 17, 3, 53, 0, 0), (.nop, 0, 0, 0, 0), (.nop, 0, 0, 0, 0), (.aload_n 0, 1, 0, 0, 0), (.getfield 144, 3, 11, 24, 842), (.nop, 0, 0, 0, 0), (.nop, 0, 0, 0, 0), (.bipush 60, 2, 0, 0, 0), (.nop, 0, 0, 0, 0), (.if_icmp .le 7, 3, 52, 0, 0), (.nop, 0, 0, 0, 0), (.nop, 0, 0, 0, 0), (.iconst 0, 1, 0, 0, 0), (.goto 4, 3, 53, 0, 0), (.nop, 0, 0, 0, 0), (.nop, 0, 0, 0, 0), (.iconst 1, 1, 0, 0, 0), (.ireturn, 1, 0, 0, 0), (.iload_n 2, 1, 2, 0, 0), (.i2l, 1, 0, 0, 0), (.lconst 0, 1, 0, 0, 0), (.aload_n 0, 1, 0, 0, 0), (.getfield 144, 3, 11, 24, 842), (.nop, 0, 0, 0, 0), (.nop, 0, 0, 0, 0), (.iconst 1, 1, 0, 0, 0), (.isub, 1, 0, 0, 0), (.i2l, 1, 0, 0, 0), (.invokestatic 80, 3, 120, 0, 913), (.nop, 0, 0, 0, 0), (.nop, 0, 0, 0, 0), (.ifCond .ne 7, 3, 74, 0, 0), (.nop, 0, 0, 0, 0), (.nop, 0, 0, 0, 0), (.iconst (-1), 1, 0, 0, 0), (.goto 23, 3, 94, 0, 0), (.nop, 0, 0, 0, 0), (.nop, 0, 0, 0, 0), (.iload_n 1, 1, 1, 0, 0), (.iconst 1, 1, 0, 0, 0), (.if_icmp .ne 12, 3, 88, 0, 0), (.nop, 0, 0, 0, 0), (.nop, 0, 0, 0, 0), (.aload_n 0, 1, 0, 0, 0), (.getfield 58, 3, 11, 22, 840), (.nop, 0, 0, 0, 0), (.nop, 0, 0, 0, 0), (.iload_n 2, 1, 2, 0, 0), (.iaload, 1, 0, 0, 0), (.goto 9, 3, 94, 0, 0), (.nop, 0, 0, 0, 0), (.nop, 0, 0, 0, 0), (.aload_n 0, 1, 0, 0, 0), (.getfield 61, 3, 11, 23, 841), (.nop, 0, 0, 0, 0), (.nop, 0, 0, 0, 0), (.iload_n 2, 1, 2, 0, 0), (.iaload, 1, 0, 0, 0), (.ireturn, 1, 0, 0, 0)]
abbrev mX11_comes : Nat := 163
def qX11_used : List pmE := [(.aload_n 0, 1, 0, 0, 0), (.iload_n 1, 1, 1, 0, 0), (.invokevirtual 180, 3, 149, 0, 1017), (.nop, 0, 0, 0, 0), (.nop, 0, 0, 0, 0), (.ifCond .ne 5, 3, 10, 0, 0), (.nop, 0, 0, 0, 0), (.nop, 0, 0, 0, 0), (.iconst (-1), 1, 0, 0, 0), (.ireturn, 1, 0, 0, 0), (.aload_n 0, 1, 0, 0, 0), (.invokevirtual 175, 3, 144, 0, 970), (.nop, 0, 0, 0, 0), (.nop, 0, 0, 0, 0), (.pop, 1, 0, 0, 0), (.aload_n 0, 1, 0, 0, 0), (.getfield 67, 3, 11, 26, 844), (.nop, 0, 0, 0, 0), (.nop, 0, 0, 0, 0), (.iload_n 1, 1, 1, 0, 0), (.iaload, 1, 0, 0, 0), (.ireturn, 1, 0, 0, 0)]
abbrev mX11_used : Nat := 164
def qX11_went : List pmE := [(.iload_n 1, 1, 1, 0, 0), (.i2l, 1, 0, 0, 0), (.lconst 0, 1, 0, 0, 0), (.ldc2_w 209, 3, 59, 0, 1089), (.nop, 0, 0, 0, 0), (.nop, 0, 0, 0, 0), (.invokestatic 80, 3, 120, 0, 913), (.nop, 0, 0, 0, 0), (.nop, 0, 0, 0, 0), (.ifCond .ne 5, 3, 14, 0, 0), (.nop, 0, 0, 0, 0), (.nop, 0, 0, 0, 0), (.iconst (-1), 1, 0, 0, 0), (.ireturn, 1, 0, 0, 0), (.aload_n 0, 1, 0, 0, 0), (.invokevirtual 175, 3, 144, 0, 970), (.nop, 0, 0, 0, 0), (.nop, 0, 0, 0, 0), (.pop, 1, 0, 0, 0), (.iconst 0, 1, 0, 0, 0), (.istore_n 2, 1, 2, 0, 0), (.iload_n 2, 1, 2, 0, 0), (.aload_n 0, 1, 0, 0, 0), (.getfield 144, 3, 11, 24, 842), (.nop, 0, 0, 0, 0), (.nop, 0, 0, 0, 0), (.if_icmp .ge 21, 3, 47, 0, 0), (.nop, 0, 0, 0, 0), (.nop, 0, 0, 0, 0), (.aload_n 0, 1, 0, 0, 0), (.getfield 61, 3, 11, 23, 841), (.nop, 0, 0, 0, 0), (.nop, 0, 0, 0, 0), (.iload_n 2, 1, 2, 0, 0), (.iaload, 1, 0, 0, 0), (.iload_n 1, 1, 1, 0, 0), (.if_icmp .ne 5, 3, 41, 0, 0), (.nop, 0, 0, 0, 0), (.nop, 0, 0, 0, 0), (.iload_n 2, 1, 2, 0, 0), (.ireturn, 1, 0, 0, 0), (.iinc 2 1, 3, 2, 0, 0), (.nop, 0, 0, 0, 0), (.nop, 0, 0, 0, 0), (.goto (-23), 3, 21, 0, 0), (.nop, 0, 0, 0, 0), (.nop, 0, 0, 0, 0), (.bipush (-4), 2, 0, 0, 0), (.nop, 0, 0, 0, 0), (.ireturn, 1, 0, 0, 0)]
abbrev mX11_went : Nat := 165
def qX11_isSameLine : List pmE := [(.aload_n 1, 1, 1, 0, 0), (.iconst 0, 1, 0, 0, 0), (.iaload, 1, 0, 0, 0), (.aload_n 0, 1, 0, 0, 0), (.getfield 144, 3, 11, 24, 842), (.nop, 0, 0, 0, 0), (.nop, 0, 0, 0, 0), (.if_icmp .ne 7, 3, 14, 0, 0), (.nop, 0, 0, 0, 0), (.nop, 0, 0, 0, 0), (.iconst 1, 1, 0, 0, 0), (.goto 4, 3, 15, 0, 0), (.nop, 0, 0, 0, 0), (.nop, 0, 0, 0, 0), (.iconst 0, 1, 0, 0, 0), (.istore_n 2, 1, 2, 0, 0), (.iconst 0, 1, 0, 0, 0), (.istore_n 3, 1, 3, 0, 0), (.iload_n 3, 1, 3, 0, 0), (.aload_n 0, 1, 0, 0, 0), (.getfield 144, 3, 11, 24, 842), (.nop, 0, 0, 0, 0), (.nop, 0, 0, 0, 0), (.if_icmp .ge 33, 3, 56, 0, 0), (.nop, 0, 0, 0, 0), (.nop, 0, 0, 0, 0), (.iload_n 2, 1, 2, 0, 0), (.ifCond .eq 29, 3, 56, 0, 0), (.nop, 0, 0, 0, 0), (.nop, 0, 0, 0, 0), (.aload_n 1, 1, 1, 0, 0), (.iconst 2, 1, 0, 0, 0), (.iload_n 3, 1, 3, 0, 0), (.iadd, 1, 0, 0, 0), (.iaload, 1, 0, 0, 0), (.aload_n 0, 1, 0, 0, 0), (.getfield 58, 3, 11, 22, 840), (.nop, 0, 0, 0, 0), (.nop, 0, 0, 0, 0), (.iload_n 3, 1, 3, 0, 0), (.iaload, 1, 0, 0, 0), (.if_icmp .ne 7, 3, 48, 0, 0), (.nop, 0, 0, 0, 0), (.nop, 0, 0, 0, 0), (.iconst 1, 1, 0, 0, 0), (.goto 4, 3, 49, 0, 0), (.nop, 0, 0, 0, 0), (.nop, 0, 0, 0, 0), (.iconst 0, 1, 0, 0, 0), (.istore_n 2, 1, 2, 0, 0), (.iinc 3 1, 3, 3, 0, 0), (.nop, 0, 0, 0, 0), (.nop, 0, 0, 0, 0), (.goto (-35), 3, 18, 0, 0), (.nop, 0, 0, 0, 0), (.nop, 0, 0, 0, 0), (.iload_n 2, 1, 2, 0, 0), (.ireturn, 1, 0, 0, 0)]
abbrev mX11_isSameLine : Nat := 166
def qX11_rest : List pmE := [(.aload_n 0, 1, 0, 0, 0), (.invokevirtual 165, 3, 136, 0, 974), (.nop, 0, 0, 0, 0), (.nop, 0, 0, 0, 0), (.aload_n 0, 1, 0, 0, 0), (.getfield 16, 3, 11, 3, 821), (.nop, 0, 0, 0, 0), (.nop, 0, 0, 0, 0), (.aload_n 0, 1, 0, 0, 0), (.getfield 73, 3, 11, 28, 846), (.nop, 0, 0, 0, 0), (.nop, 0, 0, 0, 0), (.bipush 122, 2, 0, 0, 0), (.nop, 0, 0, 0, 0), (.invokestatic 129, 3, 123, 0, 955), (.nop, 0, 0, 0, 0), (.nop, 0, 0, 0, 0), (.iconst 0, 1, 0, 0, 0), (.istore_n 1, 1, 1, 0, 0), (.iload_n 1, 1, 1, 0, 0), (.bipush 21, 2, 0, 0, 0), (.nop, 0, 0, 0, 0), (.if_icmp .ge 54, 3, 76, 0, 0), (.nop, 0, 0, 0, 0), (.nop, 0, 0, 0, 0), (.aload_n 0, 1, 0, 0, 0), (.aload_n 0, 1, 0, 0, 0), (.getfield 73, 3, 11, 28, 846), (.nop, 0, 0, 0, 0), (.nop, 0, 0, 0, 0), (.sipush 1023, 3, 0, 0, 0), (.nop, 0, 0, 0, 0), (.nop, 0, 0, 0, 0), (.invokevirtual 168, 3, 143, 0, 978), (.nop, 0, 0, 0, 0), (.nop, 0, 0, 0, 0), (.pop, 1, 0, 0, 0), (.aload_n 0, 1, 0, 0, 0), (.aload_n 0, 1, 0, 0, 0), (.getfield 73, 3, 11, 28, 846), (.nop, 0, 0, 0, 0), (.nop, 0, 0, 0, 0), (.invokevirtual 211, 3, 166, 0, 1094), (.nop, 0, 0, 0, 0), (.nop, 0, 0, 0, 0), (.ifCond .eq 5, 3, 50, 0, 0), (.nop, 0, 0, 0, 0), (.nop, 0, 0, 0, 0), (.iload_n 1, 1, 1, 0, 0), (.ireturn, 1, 0, 0, 0), (.aload_n 0, 1, 0, 0, 0), (.getfield 144, 3, 11, 24, 842), (.nop, 0, 0, 0, 0), (.nop, 0, 0, 0, 0), (.bipush 60, 2, 0, 0, 0), (.nop, 0, 0, 0, 0), (.if_icmp .le 6, 3, 62, 0, 0), (.nop, 0, 0, 0, 0), (.nop, 0, 0, 0, 0), (.bipush (-4), 2, 0, 0, 0), (.nop, 0, 0, 0, 0), (.ireturn, 1, 0, 0, 0), (.aload_n 0, 1, 0, 0, 0), (.aload_n 0, 1, 0, 0, 0), (.getfield 73, 3, 11, 28, 846), (.nop, 0, 0, 0, 0), (.nop, 0, 0, 0, 0), (.invokevirtual 192, 3, 145, 0, 1049), (.nop, 0, 0, 0, 0), (.nop, 0, 0, 0, 0), (.iinc 1 1, 3, 1, 0, 0), (.nop, 0, 0, 0, 0), (.nop, 0, 0, 0, 0), (.goto (-54), 3, 19, 0, 0), (.nop, 0, 0, 0, 0), (.nop, 0, 0, 0, 0), (.bipush (-4), 2, 0, 0, 0), (.nop, 0, 0, 0, 0), (.ireturn, 1, 0, 0, 0)]
abbrev mX11_rest : Nat := 167
def qX11_sureOf_0 : List pmE := [(.aload_n 0, 1, 0, 0, 0), (.getfield 13, 3, 11, 2, 820), (.nop, 0, 0, 0, 0), (.nop, 0, 0, 0, 0), (.bipush 11, 2, 0, 0, 0), (.nop, 0, 0, 0, 0), (.iload_n 1, 1, 1, 0, 0), (.iadd, 1, 0, 0, 0), (.iaload, 1, 0, 0, 0), (.istore 4, 2, 4, 0, 0), (.nop, 0, 0, 0, 0), (.aload_n 0, 1, 0, 0, 0), (.getfield 13, 3, 11, 2, 820), (.nop, 0, 0, 0, 0), (.nop, 0, 0, 0, 0), (.iconst 1, 1, 0, 0, 0), (.iload_n 1, 1, 1, 0, 0), (.iadd, 1, 0, 0, 0), (.iaload, 1, 0, 0, 0), (.istore 5, 2, 5, 0, 0), (.nop, 0, 0, 0, 0), (.iconst 0, 1, 0, 0, 0), (.istore 6, 2, 6, 0, 0), (.nop, 0, 0, 0, 0), (.iload 6, 2, 6, 0, 0), (.nop, 0, 0, 0, 0), (.iload 4, 2, 4, 0, 0), (.nop, 0, 0, 0, 0), (.if_icmp .ge 48, 3, 76, 0, 0), (.nop, 0, 0, 0, 0), (.nop, 0, 0, 0, 0), (.iload_n 2, 1, 2, 0, 0), (.iload 6, 2, 6, 0, 0), (.nop, 0, 0, 0, 0), (.iadd, 1, 0, 0, 0), (.iload_n 3, 1, 3, 0, 0), (.if_icmp .ge 40, 3, 76, 0, 0), (.nop, 0, 0, 0, 0), (.nop, 0, 0, 0, 0), (.aload_n 0, 1, 0, 0, 0), (.getfield 16, 3, 11, 3, 821), (.nop, 0, 0, 0, 0), (.nop, 0, 0, 0, 0), (.iconst 2, 1, 0, 0, 0), (.iload_n 2, 1, 2, 0, 0), (.iadd, 1, 0, 0, 0), (.iload 6, 2, 6, 0, 0), (.nop, 0, 0, 0, 0), (.iadd, 1, 0, 0, 0), (.iaload, 1, 0, 0, 0), (.aload_n 0, 1, 0, 0, 0), (.getfield 13, 3, 11, 2, 820), (.nop, 0, 0, 0, 0), (.nop, 0, 0, 0, 0), (.bipush 31, 2, 0, 0, 0), (.nop, 0, 0, 0, 0), (.bipush 6, 2, 0, 0, 0), (.nop, 0, 0, 0, 0), (.iload_n 1, 1, 1, 0, 0), (.imul, 1, 0, 0, 0), (.iadd, 1, 0, 0, 0), (.iload 6, 2, 6, 0, 0), (.nop, 0, 0, 0, 0), (.iadd, 1, 0, 0, 0), (.iaload, 1, 0, 0, 0), (.if_icmp .eq 5, 3, 70, 0, 0), (.nop, 0, 0, 0, 0), (.nop, 0, 0, 0, 0), (.iconst (-1), 1, 0, 0, 0), (.ireturn, 1, 0, 0, 0), (.iinc 6 1, 3, 6, 0, 0), (.nop, 0, 0, 0, 0), (.nop, 0, 0, 0, 0), (.goto (-49), 3, 24, 0, 0), (.nop, 0, 0, 0, 0), (.nop, 0, 0, 0, 0), (.iload 5, 2, 5, 0, 0), (.nop, 0, 0, 0, 0), (.ifCond .eq 23, 3, 101, 0, 0), (.nop, 0, 0, 0, 0), (.nop, 0, 0, 0, 0), (.iload_n 2, 1, 2, 0, 0), (.ifCond .le 19, 3, 101, 0, 0), (.nop, 0, 0, 0, 0), (.nop, 0, 0, 0, 0), (.aload_n 0, 1, 0, 0, 0), (.getfield 16, 3, 11, 3, 821), (.nop, 0, 0, 0, 0), (.nop, 0, 0, 0, 0), (.iconst 2, 1, 0, 0, 0), (.iload_n 2, 1, 2, 0, 0), (.iadd, 1, 0, 0, 0), (.iconst 1, 1, 0, 0, 0), (.isub, 1, 0, 0, 0), (.iaload, 1, 0, 0, 0), (.invokestatic 84, 3, 124, 0, 935), (.nop, 0, 0, 0, 0), (.nop, 0, 0, 0, 0), (.ifCond .ne 18, 3, 116, 0, 0), (.nop, 0, 0, 0, 0)]
def qX11_sureOf_1 : List pmE := [(.nop, 0, 0, 0, 0), (.iload 5, 2, 5, 0, 0), (.nop, 0, 0, 0, 0), (.iconst 4, 1, 0, 0, 0), (.if_icmp .ne 14, 3, 118, 0, 0), (.nop, 0, 0, 0, 0), (.nop, 0, 0, 0, 0), (.aload_n 0, 1, 0, 0, 0), (.getfield 64, 3, 11, 25, 843), (.nop, 0, 0, 0, 0), (.nop, 0, 0, 0, 0), (.iload_n 1, 1, 1, 0, 0), (.iaload, 1, 0, 0, 0), (.ifCond .le 5, 3, 118, 0, 0), (.nop, 0, 0, 0, 0), (.nop, 0, 0, 0, 0), (.iconst (-1), 1, 0, 0, 0), (.ireturn, 1, 0, 0, 0), (.iload 5, 2, 5, 0, 0), (.nop, 0, 0, 0, 0), (.iconst 1, 1, 0, 0, 0), (.if_icmp .eq 9, 3, 130, 0, 0), (.nop, 0, 0, 0, 0), (.nop, 0, 0, 0, 0), (.iload 5, 2, 5, 0, 0), (.nop, 0, 0, 0, 0), (.iconst 3, 1, 0, 0, 0), (.if_icmp .ne 7, 3, 134, 0, 0), (.nop, 0, 0, 0, 0), (.nop, 0, 0, 0, 0), (.iconst 1, 1, 0, 0, 0), (.goto 4, 3, 135, 0, 0), (.nop, 0, 0, 0, 0), (.nop, 0, 0, 0, 0), (.iconst 0, 1, 0, 0, 0), (.istore 6, 2, 6, 0, 0), (.nop, 0, 0, 0, 0), (.iload 6, 2, 6, 0, 0), (.nop, 0, 0, 0, 0), (.ifCond .eq 34, 3, 173, 0, 0), (.nop, 0, 0, 0, 0), (.nop, 0, 0, 0, 0), (.iload_n 2, 1, 2, 0, 0), (.iload 4, 2, 4, 0, 0), (.nop, 0, 0, 0, 0), (.iadd, 1, 0, 0, 0), (.iload_n 3, 1, 3, 0, 0), (.if_icmp .ge 26, 3, 173, 0, 0), (.nop, 0, 0, 0, 0), (.nop, 0, 0, 0, 0), (.aload_n 0, 1, 0, 0, 0), (.getfield 16, 3, 11, 3, 821), (.nop, 0, 0, 0, 0), (.nop, 0, 0, 0, 0), (.iconst 2, 1, 0, 0, 0), (.iload_n 2, 1, 2, 0, 0), (.iadd, 1, 0, 0, 0), (.iload 4, 2, 4, 0, 0), (.nop, 0, 0, 0, 0), (.iadd, 1, 0, 0, 0), (.iaload, 1, 0, 0, 0), (.invokestatic 84, 3, 124, 0, 935), (.nop, 0, 0, 0, 0), (.nop, 0, 0, 0, 0), (.ifCond .eq 7, 3, 171, 0, 0), (.nop, 0, 0, 0, 0), (.nop, 0, 0, 0, 0), (.iconst (-1), 1, 0, 0, 0), (.goto 4, 3, 172, 0, 0), (.nop, 0, 0, 0, 0), (.nop, 0, 0, 0, 0), (.iconst 1, 1, 0, 0, 0), (.ireturn, 1, 0, 0, 0), (.iload 6, 2, 6, 0, 0), (.nop, 0, 0, 0, 0), (.ifCond .ne 11, 3, 186, 0, 0), (.nop, 0, 0, 0, 0), (.nop, 0, 0, 0, 0), (.iload_n 2, 1, 2, 0, 0), (.iload 4, 2, 4, 0, 0), (.nop, 0, 0, 0, 0), (.iadd, 1, 0, 0, 0), (.iload_n 3, 1, 3, 0, 0), (.if_icmp .le 7, 3, 190, 0, 0), (.nop, 0, 0, 0, 0), (.nop, 0, 0, 0, 0), (.iconst 0, 1, 0, 0, 0), (.goto 4, 3, 191, 0, 0), (.nop, 0, 0, 0, 0), (.nop, 0, 0, 0, 0), (.iconst 1, 1, 0, 0, 0), (.ireturn, 1, 0, 0, 0)]
def qX11_sureOf : List pmE := qX11_sureOf_0 ++ qX11_sureOf_1
abbrev mX11_sureOf : Nat := 168
def qX11_sure_0 : List pmE := [(.iload_n 1, 1, 1, 0, 0), (.i2l, 1, 0, 0, 0), (.lconst 0, 1, 0, 0, 0), (.aload_n 0, 1, 0, 0, 0), (.getfield 16, 3, 11, 3, 821), (.nop, 0, 0, 0, 0), (.nop, 0, 0, 0, 0), (.iconst 0, 1, 0, 0, 0), (.iaload, 1, 0, 0, 0), (.i2l, 1, 0, 0, 0), (.invokestatic 80, 3, 120, 0, 913), (.nop, 0, 0, 0, 0), (.nop, 0, 0, 0, 0), (.ifCond .ne 5, 3, 18, 0, 0), (.nop, 0, 0, 0, 0), (.nop, 0, 0, 0, 0), (.iconst (-1), 1, 0, 0, 0), (.ireturn, 1, 0, 0, 0), (.iconst 0, 1, 0, 0, 0), (.istore_n 2, 1, 2, 0, 0), (.iload_n 2, 1, 2, 0, 0), (.bipush 10, 2, 0, 0, 0), (.nop, 0, 0, 0, 0), (.if_icmp .ge 16, 3, 39, 0, 0), (.nop, 0, 0, 0, 0), (.nop, 0, 0, 0, 0), (.aload_n 0, 1, 0, 0, 0), (.getfield 64, 3, 11, 25, 843), (.nop, 0, 0, 0, 0), (.nop, 0, 0, 0, 0), (.iload_n 2, 1, 2, 0, 0), (.iconst 0, 1, 0, 0, 0), (.iastore, 1, 0, 0, 0), (.iinc 2 1, 3, 2, 0, 0), (.nop, 0, 0, 0, 0), (.nop, 0, 0, 0, 0), (.goto (-16), 3, 20, 0, 0), (.nop, 0, 0, 0, 0), (.nop, 0, 0, 0, 0), (.iconst 0, 1, 0, 0, 0), (.istore_n 2, 1, 2, 0, 0), (.iload_n 2, 1, 2, 0, 0), (.iload_n 1, 1, 1, 0, 0), (.if_icmp .ge 192, 3, 235, 0, 0), (.nop, 0, 0, 0, 0), (.nop, 0, 0, 0, 0), (.bipush (-4), 2, 0, 0, 0), (.nop, 0, 0, 0, 0), (.istore_n 3, 1, 3, 0, 0), (.bipush (-4), 2, 0, 0, 0), (.nop, 0, 0, 0, 0), (.istore 4, 2, 4, 0, 0), (.nop, 0, 0, 0, 0), (.iconst 0, 1, 0, 0, 0), (.istore 5, 2, 5, 0, 0), (.nop, 0, 0, 0, 0), (.iload 5, 2, 5, 0, 0), (.nop, 0, 0, 0, 0), (.aload_n 0, 1, 0, 0, 0), (.getfield 13, 3, 11, 2, 820), (.nop, 0, 0, 0, 0), (.nop, 0, 0, 0, 0), (.iconst 0, 1, 0, 0, 0), (.iaload, 1, 0, 0, 0), (.if_icmp .ge 122, 3, 186, 0, 0), (.nop, 0, 0, 0, 0), (.nop, 0, 0, 0, 0), (.aload_n 0, 1, 0, 0, 0), (.getfield 16, 3, 11, 3, 821), (.nop, 0, 0, 0, 0), (.nop, 0, 0, 0, 0), (.iconst 1, 1, 0, 0, 0), (.iaload, 1, 0, 0, 0), (.iload 5, 2, 5, 0, 0), (.nop, 0, 0, 0, 0), (.invokestatic 147, 3, 121, 0, 986), (.nop, 0, 0, 0, 0), (.nop, 0, 0, 0, 0), (.ifCond .eq 14, 3, 92, 0, 0), (.nop, 0, 0, 0, 0), (.nop, 0, 0, 0, 0), (.aload_n 0, 1, 0, 0, 0), (.iload 5, 2, 5, 0, 0), (.nop, 0, 0, 0, 0), (.iload_n 2, 1, 2, 0, 0), (.iload_n 1, 1, 1, 0, 0), (.invokevirtual 215, 3, 168, 0, 1102), (.nop, 0, 0, 0, 0), (.nop, 0, 0, 0, 0), (.goto 4, 3, 93, 0, 0), (.nop, 0, 0, 0, 0), (.nop, 0, 0, 0, 0), (.iconst (-1), 1, 0, 0, 0), (.istore 6, 2, 6, 0, 0), (.nop, 0, 0, 0, 0), (.iload 6, 2, 6, 0, 0), (.nop, 0, 0, 0, 0), (.iconst 1, 1, 0, 0, 0), (.if_icmp .ne 36, 3, 134, 0, 0), (.nop, 0, 0, 0, 0)]
def qX11_sure_1 : List pmE := [(.nop, 0, 0, 0, 0), (.iload_n 3, 1, 3, 0, 0), (.bipush (-4), 2, 0, 0, 0), (.nop, 0, 0, 0, 0), (.if_icmp .eq 25, 3, 129, 0, 0), (.nop, 0, 0, 0, 0), (.nop, 0, 0, 0, 0), (.aload_n 0, 1, 0, 0, 0), (.getfield 13, 3, 11, 2, 820), (.nop, 0, 0, 0, 0), (.nop, 0, 0, 0, 0), (.bipush 11, 2, 0, 0, 0), (.nop, 0, 0, 0, 0), (.iload 5, 2, 5, 0, 0), (.nop, 0, 0, 0, 0), (.iadd, 1, 0, 0, 0), (.iaload, 1, 0, 0, 0), (.aload_n 0, 1, 0, 0, 0), (.getfield 13, 3, 11, 2, 820), (.nop, 0, 0, 0, 0), (.nop, 0, 0, 0, 0), (.bipush 11, 2, 0, 0, 0), (.nop, 0, 0, 0, 0), (.iload_n 3, 1, 3, 0, 0), (.iadd, 1, 0, 0, 0), (.iaload, 1, 0, 0, 0), (.if_icmp .le 8, 3, 134, 0, 0), (.nop, 0, 0, 0, 0), (.nop, 0, 0, 0, 0), (.iload 5, 2, 5, 0, 0), (.nop, 0, 0, 0, 0), (.goto 4, 3, 135, 0, 0), (.nop, 0, 0, 0, 0), (.nop, 0, 0, 0, 0), (.iload_n 3, 1, 3, 0, 0), (.istore_n 3, 1, 3, 0, 0), (.iload 6, 2, 6, 0, 0), (.nop, 0, 0, 0, 0), (.ifCond .lt 38, 3, 176, 0, 0), (.nop, 0, 0, 0, 0), (.nop, 0, 0, 0, 0), (.iload 4, 2, 4, 0, 0), (.nop, 0, 0, 0, 0), (.bipush (-4), 2, 0, 0, 0), (.nop, 0, 0, 0, 0), (.if_icmp .eq 26, 3, 171, 0, 0), (.nop, 0, 0, 0, 0), (.nop, 0, 0, 0, 0), (.aload_n 0, 1, 0, 0, 0), (.getfield 13, 3, 11, 2, 820), (.nop, 0, 0, 0, 0), (.nop, 0, 0, 0, 0), (.bipush 11, 2, 0, 0, 0), (.nop, 0, 0, 0, 0), (.iload 5, 2, 5, 0, 0), (.nop, 0, 0, 0, 0), (.iadd, 1, 0, 0, 0), (.iaload, 1, 0, 0, 0), (.aload_n 0, 1, 0, 0, 0), (.getfield 13, 3, 11, 2, 820), (.nop, 0, 0, 0, 0), (.nop, 0, 0, 0, 0), (.bipush 11, 2, 0, 0, 0), (.nop, 0, 0, 0, 0), (.iload 4, 2, 4, 0, 0), (.nop, 0, 0, 0, 0), (.iadd, 1, 0, 0, 0), (.iaload, 1, 0, 0, 0), (.if_icmp .le 8, 3, 176, 0, 0), (.nop, 0, 0, 0, 0), (.nop, 0, 0, 0, 0), (.iload 5, 2, 5, 0, 0), (.nop, 0, 0, 0, 0), (.goto 5, 3, 178, 0, 0), (.nop, 0, 0, 0, 0), (.nop, 0, 0, 0, 0), (.iload 4, 2, 4, 0, 0), (.nop, 0, 0, 0, 0), (.istore 4, 2, 4, 0, 0), (.nop, 0, 0, 0, 0), (.iinc 5 1, 3, 5, 0, 0), (.nop, 0, 0, 0, 0), (.nop, 0, 0, 0, 0), (.goto (-127), 3, 56, 0, 0), (.nop, 0, 0, 0, 0), (.nop, 0, 0, 0, 0), (.iload 4, 2, 4, 0, 0), (.nop, 0, 0, 0, 0), (.iload_n 3, 1, 3, 0, 0), (.if_icmp .eq 5, 3, 194, 0, 0), (.nop, 0, 0, 0, 0), (.nop, 0, 0, 0, 0), (.iload_n 2, 1, 2, 0, 0), (.ireturn, 1, 0, 0, 0), (.iload_n 3, 1, 3, 0, 0), (.bipush (-4), 2, 0, 0, 0), (.nop, 0, 0, 0, 0), (.if_icmp .eq 13, 3, 210, 0, 0), (.nop, 0, 0, 0, 0), (.nop, 0, 0, 0, 0)]
def qX11_sure_2 : List pmE := [(.aload_n 0, 1, 0, 0, 0), (.getfield 64, 3, 11, 25, 843), (.nop, 0, 0, 0, 0), (.nop, 0, 0, 0, 0), (.iload_n 3, 1, 3, 0, 0), (.dup2, 1, 0, 0, 0), (.iaload, 1, 0, 0, 0), (.iconst 1, 1, 0, 0, 0), (.iadd, 1, 0, 0, 0), (.iastore, 1, 0, 0, 0), (.iload_n 2, 1, 2, 0, 0), (.iload_n 3, 1, 3, 0, 0), (.bipush (-4), 2, 0, 0, 0), (.nop, 0, 0, 0, 0), (.if_icmp .ne 7, 3, 221, 0, 0), (.nop, 0, 0, 0, 0), (.nop, 0, 0, 0, 0), (.iconst 1, 1, 0, 0, 0), (.goto 12, 3, 230, 0, 0), (.nop, 0, 0, 0, 0), (.nop, 0, 0, 0, 0), (.aload_n 0, 1, 0, 0, 0), (.getfield 13, 3, 11, 2, 820), (.nop, 0, 0, 0, 0), (.nop, 0, 0, 0, 0), (.bipush 11, 2, 0, 0, 0), (.nop, 0, 0, 0, 0), (.iload_n 3, 1, 3, 0, 0), (.iadd, 1, 0, 0, 0), (.iaload, 1, 0, 0, 0), (.iadd, 1, 0, 0, 0), (.istore_n 2, 1, 2, 0, 0), (.goto (-191), 3, 41, 0, 0), (.nop, 0, 0, 0, 0), (.nop, 0, 0, 0, 0), (.iload_n 2, 1, 2, 0, 0), (.ireturn, 1, 0, 0, 0)]
def qX11_sure : List pmE := qX11_sure_0 ++ qX11_sure_1 ++ qX11_sure_2
abbrev mX11_sure : Nat := 169
def qX11_lean_0 : List pmE := [(.iload_n 1, 1, 1, 0, 0), (.i2l, 1, 0, 0, 0), (.lconst 0, 1, 0, 0, 0), (.lconst 1, 1, 0, 0, 0), (.invokestatic 80, 3, 120, 0, 913), (.nop, 0, 0, 0, 0), (.nop, 0, 0, 0, 0), (.ifCond .ne 5, 3, 12, 0, 0), (.nop, 0, 0, 0, 0), (.nop, 0, 0, 0, 0), (.iconst (-1), 1, 0, 0, 0), (.ireturn, 1, 0, 0, 0), (.aload_n 0, 1, 0, 0, 0), (.invokevirtual 165, 3, 136, 0, 974), (.nop, 0, 0, 0, 0), (.nop, 0, 0, 0, 0), (.bipush (-4), 2, 0, 0, 0), (.nop, 0, 0, 0, 0), (.istore_n 2, 1, 2, 0, 0), (.sipush 999, 3, 0, 0, 0), (.nop, 0, 0, 0, 0), (.nop, 0, 0, 0, 0), (.istore_n 3, 1, 3, 0, 0), (.iconst 0, 1, 0, 0, 0), (.istore 4, 2, 4, 0, 0), (.nop, 0, 0, 0, 0), (.iload 4, 2, 4, 0, 0), (.nop, 0, 0, 0, 0), (.aload_n 0, 1, 0, 0, 0), (.getfield 13, 3, 11, 2, 820), (.nop, 0, 0, 0, 0), (.nop, 0, 0, 0, 0), (.iconst 0, 1, 0, 0, 0), (.iaload, 1, 0, 0, 0), (.if_icmp .ge 74, 3, 108, 0, 0), (.nop, 0, 0, 0, 0), (.nop, 0, 0, 0, 0), (.aload_n 0, 1, 0, 0, 0), (.getfield 16, 3, 11, 3, 821), (.nop, 0, 0, 0, 0), (.nop, 0, 0, 0, 0), (.iconst 1, 1, 0, 0, 0), (.iaload, 1, 0, 0, 0), (.iload 4, 2, 4, 0, 0), (.nop, 0, 0, 0, 0), (.invokestatic 147, 3, 121, 0, 986), (.nop, 0, 0, 0, 0), (.nop, 0, 0, 0, 0), (.ifCond .eq 54, 3, 102, 0, 0), (.nop, 0, 0, 0, 0), (.nop, 0, 0, 0, 0), (.aload_n 0, 1, 0, 0, 0), (.aload_n 0, 1, 0, 0, 0), (.getfield 16, 3, 11, 3, 821), (.nop, 0, 0, 0, 0), (.nop, 0, 0, 0, 0), (.sipush 1023, 3, 0, 0, 0), (.nop, 0, 0, 0, 0), (.nop, 0, 0, 0, 0), (.iconst 1, 1, 0, 0, 0), (.iload 4, 2, 4, 0, 0), (.nop, 0, 0, 0, 0), (.ishl, 1, 0, 0, 0), (.iconst (-1), 1, 0, 0, 0), (.ixor, 1, 0, 0, 0), (.iand, 1, 0, 0, 0), (.invokevirtual 168, 3, 143, 0, 978), (.nop, 0, 0, 0, 0), (.nop, 0, 0, 0, 0), (.pop, 1, 0, 0, 0), (.aload_n 0, 1, 0, 0, 0), (.getfield 144, 3, 11, 24, 842), (.nop, 0, 0, 0, 0), (.nop, 0, 0, 0, 0), (.iload_n 3, 1, 3, 0, 0), (.if_icmp .ge 8, 3, 83, 0, 0), (.nop, 0, 0, 0, 0), (.nop, 0, 0, 0, 0), (.iload 4, 2, 4, 0, 0), (.nop, 0, 0, 0, 0), (.goto 4, 3, 84, 0, 0), (.nop, 0, 0, 0, 0), (.nop, 0, 0, 0, 0), (.iload_n 2, 1, 2, 0, 0), (.istore_n 2, 1, 2, 0, 0), (.aload_n 0, 1, 0, 0, 0), (.getfield 144, 3, 11, 24, 842), (.nop, 0, 0, 0, 0), (.nop, 0, 0, 0, 0), (.iload_n 3, 1, 3, 0, 0), (.if_icmp .ge 10, 3, 100, 0, 0), (.nop, 0, 0, 0, 0), (.nop, 0, 0, 0, 0), (.aload_n 0, 1, 0, 0, 0), (.getfield 144, 3, 11, 24, 842), (.nop, 0, 0, 0, 0), (.nop, 0, 0, 0, 0), (.goto 4, 3, 101, 0, 0), (.nop, 0, 0, 0, 0), (.nop, 0, 0, 0, 0)]
def qX11_lean_1 : List pmE := [(.iload_n 3, 1, 3, 0, 0), (.istore_n 3, 1, 3, 0, 0), (.iinc 4 1, 3, 4, 0, 0), (.nop, 0, 0, 0, 0), (.nop, 0, 0, 0, 0), (.goto (-79), 3, 26, 0, 0), (.nop, 0, 0, 0, 0), (.nop, 0, 0, 0, 0), (.iload_n 2, 1, 2, 0, 0), (.bipush (-4), 2, 0, 0, 0), (.nop, 0, 0, 0, 0), (.if_icmp .ne 8, 3, 119, 0, 0), (.nop, 0, 0, 0, 0), (.nop, 0, 0, 0, 0), (.bipush (-4), 2, 0, 0, 0), (.nop, 0, 0, 0, 0), (.goto 12, 3, 128, 0, 0), (.nop, 0, 0, 0, 0), (.nop, 0, 0, 0, 0), (.iload_n 1, 1, 1, 0, 0), (.ifCond .ne 7, 3, 127, 0, 0), (.nop, 0, 0, 0, 0), (.nop, 0, 0, 0, 0), (.iload_n 2, 1, 2, 0, 0), (.goto 4, 3, 128, 0, 0), (.nop, 0, 0, 0, 0), (.nop, 0, 0, 0, 0), (.iload_n 3, 1, 3, 0, 0), (.ireturn, 1, 0, 0, 0)]
def qX11_lean : List pmE := qX11_lean_0 ++ qX11_lean_1
abbrev mX11_lean : Nat := 170
def qX11_longOdds_0 : List pmE := [(.iload_n 1, 1, 1, 0, 0), (.i2l, 1, 0, 0, 0), (.lconst 0, 1, 0, 0, 0), (.ldc2_w 219, 3, 360, 0, 1114), (.nop, 0, 0, 0, 0), (.nop, 0, 0, 0, 0), (.invokestatic 80, 3, 120, 0, 913), (.nop, 0, 0, 0, 0), (.nop, 0, 0, 0, 0), (.ifCond .eq 25, 3, 34, 0, 0), (.nop, 0, 0, 0, 0), (.nop, 0, 0, 0, 0), (.iload_n 2, 1, 2, 0, 0), (.i2l, 1, 0, 0, 0), (.lconst 0, 1, 0, 0, 0), (.ldc2_w 221, 3, 10, 0, 1115), (.nop, 0, 0, 0, 0), (.nop, 0, 0, 0, 0), (.invokestatic 80, 3, 120, 0, 913), (.nop, 0, 0, 0, 0), (.nop, 0, 0, 0, 0), (.ifCond .eq 13, 3, 34, 0, 0), (.nop, 0, 0, 0, 0), (.nop, 0, 0, 0, 0), (.iload_n 3, 1, 3, 0, 0), (.i2l, 1, 0, 0, 0), (.lconst 0, 1, 0, 0, 0), (.lconst 1, 1, 0, 0, 0), (.invokestatic 80, 3, 120, 0, 913), (.nop, 0, 0, 0, 0), (.nop, 0, 0, 0, 0), (.ifCond .ne 7, 3, 38, 0, 0), (.nop, 0, 0, 0, 0), (.nop, 0, 0, 0, 0), (.ldc2_w 223, 3, 1, 1, 1116), (.nop, 0, 0, 0, 0), (.nop, 0, 0, 0, 0), (.lreturn, 1, 0, 0, 0), (.aload_n 0, 1, 0, 0, 0), (.invokevirtual 165, 3, 136, 0, 974), (.nop, 0, 0, 0, 0), (.nop, 0, 0, 0, 0), (.lconst 0, 1, 0, 0, 0), (.lstore 4, 2, 4, 0, 0), (.nop, 0, 0, 0, 0), (.lconst 1, 1, 0, 0, 0), (.lstore 6, 2, 6, 0, 0), (.nop, 0, 0, 0, 0), (.iconst 0, 1, 0, 0, 0), (.istore 8, 2, 8, 0, 0), (.nop, 0, 0, 0, 0), (.iload 8, 2, 8, 0, 0), (.nop, 0, 0, 0, 0), (.aload_n 0, 1, 0, 0, 0), (.getfield 13, 3, 11, 2, 820), (.nop, 0, 0, 0, 0), (.nop, 0, 0, 0, 0), (.iconst 0, 1, 0, 0, 0), (.iaload, 1, 0, 0, 0), (.if_icmp .ge 35, 3, 94, 0, 0), (.nop, 0, 0, 0, 0), (.nop, 0, 0, 0, 0), (.lload 6, 2, 6, 0, 0), (.nop, 0, 0, 0, 0), (.aload_n 0, 1, 0, 0, 0), (.getfield 16, 3, 11, 3, 821), (.nop, 0, 0, 0, 0), (.nop, 0, 0, 0, 0), (.iconst 1, 1, 0, 0, 0), (.iaload, 1, 0, 0, 0), (.iload 8, 2, 8, 0, 0), (.nop, 0, 0, 0, 0), (.invokestatic 147, 3, 121, 0, 986), (.nop, 0, 0, 0, 0), (.nop, 0, 0, 0, 0), (.ifCond .eq 9, 3, 84, 0, 0), (.nop, 0, 0, 0, 0), (.nop, 0, 0, 0, 0), (.ldc2_w 221, 3, 10, 0, 1115), (.nop, 0, 0, 0, 0), (.nop, 0, 0, 0, 0), (.goto 4, 3, 85, 0, 0), (.nop, 0, 0, 0, 0), (.nop, 0, 0, 0, 0), (.lconst 1, 1, 0, 0, 0), (.lmul, 1, 0, 0, 0), (.lstore 6, 2, 6, 0, 0), (.nop, 0, 0, 0, 0), (.iinc 8 1, 3, 8, 0, 0), (.nop, 0, 0, 0, 0), (.nop, 0, 0, 0, 0), (.goto (-40), 3, 51, 0, 0), (.nop, 0, 0, 0, 0), (.nop, 0, 0, 0, 0), (.iconst 0, 1, 0, 0, 0), (.istore 8, 2, 8, 0, 0), (.nop, 0, 0, 0, 0), (.iload 8, 2, 8, 0, 0), (.nop, 0, 0, 0, 0), (.iconst 1, 1, 0, 0, 0)]
def qX11_longOdds_1 : List pmE := [(.aload_n 0, 1, 0, 0, 0), (.getfield 13, 3, 11, 2, 820), (.nop, 0, 0, 0, 0), (.nop, 0, 0, 0, 0), (.iconst 0, 1, 0, 0, 0), (.iaload, 1, 0, 0, 0), (.ishl, 1, 0, 0, 0), (.if_icmp .ge 126, 3, 233, 0, 0), (.nop, 0, 0, 0, 0), (.nop, 0, 0, 0, 0), (.iload 8, 2, 8, 0, 0), (.nop, 0, 0, 0, 0), (.aload_n 0, 1, 0, 0, 0), (.getfield 16, 3, 11, 3, 821), (.nop, 0, 0, 0, 0), (.nop, 0, 0, 0, 0), (.iconst 1, 1, 0, 0, 0), (.iaload, 1, 0, 0, 0), (.iconst (-1), 1, 0, 0, 0), (.ixor, 1, 0, 0, 0), (.iand, 1, 0, 0, 0), (.ifCond .ne 106, 3, 227, 0, 0), (.nop, 0, 0, 0, 0), (.nop, 0, 0, 0, 0), (.lconst 1, 1, 0, 0, 0), (.lstore 9, 2, 9, 0, 0), (.nop, 0, 0, 0, 0), (.iconst 0, 1, 0, 0, 0), (.istore 11, 2, 11, 0, 0), (.nop, 0, 0, 0, 0), (.iload 11, 2, 11, 0, 0), (.nop, 0, 0, 0, 0), (.aload_n 0, 1, 0, 0, 0), (.getfield 13, 3, 11, 2, 820), (.nop, 0, 0, 0, 0), (.nop, 0, 0, 0, 0), (.iconst 0, 1, 0, 0, 0), (.iaload, 1, 0, 0, 0), (.if_icmp .ge 52, 3, 190, 0, 0), (.nop, 0, 0, 0, 0), (.nop, 0, 0, 0, 0), (.lload 9, 2, 9, 0, 0), (.nop, 0, 0, 0, 0), (.aload_n 0, 1, 0, 0, 0), (.getfield 16, 3, 11, 3, 821), (.nop, 0, 0, 0, 0), (.nop, 0, 0, 0, 0), (.iconst 1, 1, 0, 0, 0), (.iaload, 1, 0, 0, 0), (.iload 11, 2, 11, 0, 0), (.nop, 0, 0, 0, 0), (.invokestatic 147, 3, 121, 0, 986), (.nop, 0, 0, 0, 0), (.nop, 0, 0, 0, 0), (.ifCond .ne 7, 3, 161, 0, 0), (.nop, 0, 0, 0, 0), (.nop, 0, 0, 0, 0), (.lconst 1, 1, 0, 0, 0), (.goto 23, 3, 181, 0, 0), (.nop, 0, 0, 0, 0), (.nop, 0, 0, 0, 0), (.iload 8, 2, 8, 0, 0), (.nop, 0, 0, 0, 0), (.iload 11, 2, 11, 0, 0), (.nop, 0, 0, 0, 0), (.invokestatic 147, 3, 121, 0, 986), (.nop, 0, 0, 0, 0), (.nop, 0, 0, 0, 0), (.ifCond .eq 11, 3, 179, 0, 0), (.nop, 0, 0, 0, 0), (.nop, 0, 0, 0, 0), (.bipush 10, 2, 0, 0, 0), (.nop, 0, 0, 0, 0), (.iload_n 2, 1, 2, 0, 0), (.isub, 1, 0, 0, 0), (.i2l, 1, 0, 0, 0), (.goto 5, 3, 181, 0, 0), (.nop, 0, 0, 0, 0), (.nop, 0, 0, 0, 0), (.iload_n 2, 1, 2, 0, 0), (.i2l, 1, 0, 0, 0), (.lmul, 1, 0, 0, 0), (.lstore 9, 2, 9, 0, 0), (.nop, 0, 0, 0, 0), (.iinc 11 1, 3, 11, 0, 0), (.nop, 0, 0, 0, 0), (.nop, 0, 0, 0, 0), (.goto (-57), 3, 130, 0, 0), (.nop, 0, 0, 0, 0), (.nop, 0, 0, 0, 0), (.lload 9, 2, 9, 0, 0), (.nop, 0, 0, 0, 0), (.lconst 0, 1, 0, 0, 0), (.lcmp, 1, 0, 0, 0), (.ifCond .le 33, 3, 227, 0, 0), (.nop, 0, 0, 0, 0), (.nop, 0, 0, 0, 0), (.aload_n 0, 1, 0, 0, 0), (.aload_n 0, 1, 0, 0, 0), (.getfield 16, 3, 11, 3, 821)]
def qX11_longOdds_2 : List pmE := [(.nop, 0, 0, 0, 0), (.nop, 0, 0, 0, 0), (.iload 8, 2, 8, 0, 0), (.nop, 0, 0, 0, 0), (.invokevirtual 168, 3, 143, 0, 978), (.nop, 0, 0, 0, 0), (.nop, 0, 0, 0, 0), (.pop, 1, 0, 0, 0), (.lload 4, 2, 4, 0, 0), (.nop, 0, 0, 0, 0), (.aload_n 0, 1, 0, 0, 0), (.getfield 144, 3, 11, 24, 842), (.nop, 0, 0, 0, 0), (.nop, 0, 0, 0, 0), (.iload_n 1, 1, 1, 0, 0), (.if_icmp .gt 8, 3, 223, 0, 0), (.nop, 0, 0, 0, 0), (.nop, 0, 0, 0, 0), (.lload 9, 2, 9, 0, 0), (.nop, 0, 0, 0, 0), (.goto 4, 3, 224, 0, 0), (.nop, 0, 0, 0, 0), (.nop, 0, 0, 0, 0), (.lconst 0, 1, 0, 0, 0), (.ladd, 1, 0, 0, 0), (.lstore 4, 2, 4, 0, 0), (.nop, 0, 0, 0, 0), (.iinc 8 1, 3, 8, 0, 0), (.nop, 0, 0, 0, 0), (.nop, 0, 0, 0, 0), (.goto (-133), 3, 97, 0, 0), (.nop, 0, 0, 0, 0), (.nop, 0, 0, 0, 0), (.lload 4, 2, 4, 0, 0), (.nop, 0, 0, 0, 0), (.lstore 8, 2, 8, 0, 0), (.nop, 0, 0, 0, 0), (.lload 6, 2, 6, 0, 0), (.nop, 0, 0, 0, 0), (.lstore 10, 2, 10, 0, 0), (.nop, 0, 0, 0, 0), (.lload 10, 2, 10, 0, 0), (.nop, 0, 0, 0, 0), (.lconst 0, 1, 0, 0, 0), (.lcmp, 1, 0, 0, 0), (.ifCond .eq 21, 3, 266, 0, 0), (.nop, 0, 0, 0, 0), (.nop, 0, 0, 0, 0), (.lload 8, 2, 8, 0, 0), (.nop, 0, 0, 0, 0), (.lload 10, 2, 10, 0, 0), (.nop, 0, 0, 0, 0), (.lrem, 1, 0, 0, 0), (.lstore 12, 2, 12, 0, 0), (.nop, 0, 0, 0, 0), (.lload 10, 2, 10, 0, 0), (.nop, 0, 0, 0, 0), (.lstore 8, 2, 8, 0, 0), (.nop, 0, 0, 0, 0), (.lload 12, 2, 12, 0, 0), (.nop, 0, 0, 0, 0), (.lstore 10, 2, 10, 0, 0), (.nop, 0, 0, 0, 0), (.goto (-22), 3, 241, 0, 0), (.nop, 0, 0, 0, 0), (.nop, 0, 0, 0, 0), (.iload_n 3, 1, 3, 0, 0), (.ifCond .ne 11, 3, 278, 0, 0), (.nop, 0, 0, 0, 0), (.nop, 0, 0, 0, 0), (.lload 4, 2, 4, 0, 0), (.nop, 0, 0, 0, 0), (.lload 8, 2, 8, 0, 0), (.nop, 0, 0, 0, 0), (.ldiv, 1, 0, 0, 0), (.goto 8, 3, 283, 0, 0), (.nop, 0, 0, 0, 0), (.nop, 0, 0, 0, 0), (.lload 6, 2, 6, 0, 0), (.nop, 0, 0, 0, 0), (.lload 8, 2, 8, 0, 0), (.nop, 0, 0, 0, 0), (.ldiv, 1, 0, 0, 0), (.lreturn, 1, 0, 0, 0)]
def qX11_longOdds : List pmE := qX11_longOdds_0 ++ qX11_longOdds_1 ++ qX11_longOdds_2
abbrev mX11_longOdds : Nat := 171
def qX11_image : List pmE := [(.aload_n 0, 1, 0, 0, 0), (.getfield 13, 3, 11, 2, 820), (.nop, 0, 0, 0, 0), (.nop, 0, 0, 0, 0), (.aload_n 0, 1, 0, 0, 0), (.getfield 26, 3, 11, 8, 826), (.nop, 0, 0, 0, 0), (.nop, 0, 0, 0, 0), (.sipush 151, 3, 0, 0, 0), (.nop, 0, 0, 0, 0), (.nop, 0, 0, 0, 0), (.invokestatic 129, 3, 123, 0, 955), (.nop, 0, 0, 0, 0), (.nop, 0, 0, 0, 0), (.aload_n 0, 1, 0, 0, 0), (.getfield 16, 3, 11, 3, 821), (.nop, 0, 0, 0, 0), (.nop, 0, 0, 0, 0), (.aload_n 0, 1, 0, 0, 0), (.getfield 29, 3, 11, 9, 827), (.nop, 0, 0, 0, 0), (.nop, 0, 0, 0, 0), (.bipush 122, 2, 0, 0, 0), (.nop, 0, 0, 0, 0), (.invokestatic 129, 3, 123, 0, 955), (.nop, 0, 0, 0, 0), (.nop, 0, 0, 0, 0), (.aload_n 0, 1, 0, 0, 0), (.getfield 19, 3, 11, 4, 822), (.nop, 0, 0, 0, 0), (.nop, 0, 0, 0, 0), (.aload_n 0, 1, 0, 0, 0), (.getfield 32, 3, 11, 10, 828), (.nop, 0, 0, 0, 0), (.nop, 0, 0, 0, 0), (.sipush 976, 3, 0, 0, 0), (.nop, 0, 0, 0, 0), (.nop, 0, 0, 0, 0), (.invokestatic 129, 3, 123, 0, 955), (.nop, 0, 0, 0, 0), (.nop, 0, 0, 0, 0), (.aload_n 0, 1, 0, 0, 0), (.aload_n 0, 1, 0, 0, 0), (.getfield 133, 3, 11, 5, 823), (.nop, 0, 0, 0, 0), (.nop, 0, 0, 0, 0), (.putfield 225, 3, 11, 11, 829), (.nop, 0, 0, 0, 0), (.nop, 0, 0, 0, 0), (.aload_n 0, 1, 0, 0, 0), (.iconst 1, 1, 0, 0, 0), (.putfield 228, 3, 111, 12, 830), (.nop, 0, 0, 0, 0), (.nop, 0, 0, 0, 0), (.iconst 1, 1, 0, 0, 0), (.ireturn, 1, 0, 0, 0)]
abbrev mX11_image : Nat := 172
def qX11_restore : List pmE := [(.aload_n 0, 1, 0, 0, 0), (.getfield 228, 3, 11, 12, 830), (.nop, 0, 0, 0, 0), (.nop, 0, 0, 0, 0), (.ifCond .ne 6, 3, 10, 0, 0), (.nop, 0, 0, 0, 0), (.nop, 0, 0, 0, 0), (.bipush (-4), 2, 0, 0, 0), (.nop, 0, 0, 0, 0), (.ireturn, 1, 0, 0, 0), (.aload_n 0, 1, 0, 0, 0), (.getfield 26, 3, 11, 8, 826), (.nop, 0, 0, 0, 0), (.nop, 0, 0, 0, 0), (.aload_n 0, 1, 0, 0, 0), (.getfield 13, 3, 11, 2, 820), (.nop, 0, 0, 0, 0), (.nop, 0, 0, 0, 0), (.sipush 151, 3, 0, 0, 0), (.nop, 0, 0, 0, 0), (.nop, 0, 0, 0, 0), (.invokestatic 129, 3, 123, 0, 955), (.nop, 0, 0, 0, 0), (.nop, 0, 0, 0, 0), (.aload_n 0, 1, 0, 0, 0), (.getfield 29, 3, 11, 9, 827), (.nop, 0, 0, 0, 0), (.nop, 0, 0, 0, 0), (.aload_n 0, 1, 0, 0, 0), (.getfield 16, 3, 11, 3, 821), (.nop, 0, 0, 0, 0), (.nop, 0, 0, 0, 0), (.bipush 122, 2, 0, 0, 0), (.nop, 0, 0, 0, 0), (.invokestatic 129, 3, 123, 0, 955), (.nop, 0, 0, 0, 0), (.nop, 0, 0, 0, 0), (.aload_n 0, 1, 0, 0, 0), (.getfield 32, 3, 11, 10, 828), (.nop, 0, 0, 0, 0), (.nop, 0, 0, 0, 0), (.aload_n 0, 1, 0, 0, 0), (.getfield 19, 3, 11, 4, 822), (.nop, 0, 0, 0, 0), (.nop, 0, 0, 0, 0), (.sipush 976, 3, 0, 0, 0), (.nop, 0, 0, 0, 0), (.nop, 0, 0, 0, 0), (.invokestatic 129, 3, 123, 0, 955), (.nop, 0, 0, 0, 0), (.nop, 0, 0, 0, 0), (.aload_n 0, 1, 0, 0, 0), (.aload_n 0, 1, 0, 0, 0), (.getfield 225, 3, 11, 11, 829), (.nop, 0, 0, 0, 0), (.nop, 0, 0, 0, 0), (.putfield 133, 3, 11, 5, 823), (.nop, 0, 0, 0, 0), (.nop, 0, 0, 0, 0), (.aload_n 0, 1, 0, 0, 0), (.bipush (-4), 2, 0, 0, 0), (.nop, 0, 0, 0, 0), (.putfield 22, 3, 11, 7, 825), (.nop, 0, 0, 0, 0), (.nop, 0, 0, 0, 0), (.iconst 1, 1, 0, 0, 0), (.ireturn, 1, 0, 0, 0)]
abbrev mX11_restore : Nat := 173
def qX11_isSheet : List pmE := [(.iload_n 0, 1, 0, 0, 0), (.i2l, 1, 0, 0, 0), (.lconst 0, 1, 0, 0, 0), (.ldc2_w 207, 3, 3, 0, 1080), (.nop, 0, 0, 0, 0), (.nop, 0, 0, 0, 0), (.invokestatic 80, 3, 120, 0, 913), (.nop, 0, 0, 0, 0), (.nop, 0, 0, 0, 0), (.ireturn, 1, 0, 0, 0)]
abbrev mX11_isSheet : Nat := 174
def qX11_isLane : List pmE := [(.iload_n 0, 1, 0, 0, 0), (.i2l, 1, 0, 0, 0), (.lconst 0, 1, 0, 0, 0), (.ldc2_w 207, 3, 3, 0, 1080), (.nop, 0, 0, 0, 0), (.nop, 0, 0, 0, 0), (.invokestatic 80, 3, 120, 0, 913), (.nop, 0, 0, 0, 0), (.nop, 0, 0, 0, 0), (.ireturn, 1, 0, 0, 0)]
abbrev mX11_isLane : Nat := 175
def qX11_finds : List pmE := [(.aload_n 0, 1, 0, 0, 0), (.getfield 35, 3, 11, 13, 831), (.nop, 0, 0, 0, 0), (.nop, 0, 0, 0, 0), (.iload_n 1, 1, 1, 0, 0), (.baload, 1, 0, 0, 0), (.ifCond .ne 6, 3, 12, 0, 0), (.nop, 0, 0, 0, 0), (.nop, 0, 0, 0, 0), (.bipush (-11), 2, 0, 0, 0), (.nop, 0, 0, 0, 0), (.ireturn, 1, 0, 0, 0), (.aload_n 0, 1, 0, 0, 0), (.getfield 39, 3, 11, 14, 832), (.nop, 0, 0, 0, 0), (.nop, 0, 0, 0, 0), (.iload_n 1, 1, 1, 0, 0), (.iaload, 1, 0, 0, 0), (.iload_n 2, 1, 2, 0, 0), (.if_icmp .eq 8, 3, 27, 0, 0), (.nop, 0, 0, 0, 0), (.nop, 0, 0, 0, 0), (.bipush (-12), 2, 0, 0, 0), (.nop, 0, 0, 0, 0), (.goto 35, 3, 59, 0, 0), (.nop, 0, 0, 0, 0), (.nop, 0, 0, 0, 0), (.iload_n 3, 1, 3, 0, 0), (.ifCond .lt 25, 3, 53, 0, 0), (.nop, 0, 0, 0, 0), (.nop, 0, 0, 0, 0), (.iload 4, 2, 4, 0, 0), (.nop, 0, 0, 0, 0), (.ifCond .lt 20, 3, 53, 0, 0), (.nop, 0, 0, 0, 0), (.nop, 0, 0, 0, 0), (.iload_n 3, 1, 3, 0, 0), (.i2l, 1, 0, 0, 0), (.iload 4, 2, 4, 0, 0), (.nop, 0, 0, 0, 0), (.i2l, 1, 0, 0, 0), (.ladd, 1, 0, 0, 0), (.aload_n 0, 1, 0, 0, 0), (.getfield 42, 3, 11, 15, 833), (.nop, 0, 0, 0, 0), (.nop, 0, 0, 0, 0), (.iload_n 1, 1, 1, 0, 0), (.iaload, 1, 0, 0, 0), (.i2l, 1, 0, 0, 0), (.lcmp, 1, 0, 0, 0), (.ifCond .le 8, 3, 58, 0, 0), (.nop, 0, 0, 0, 0), (.nop, 0, 0, 0, 0), (.bipush (-13), 2, 0, 0, 0), (.nop, 0, 0, 0, 0), (.goto 4, 3, 59, 0, 0), (.nop, 0, 0, 0, 0), (.nop, 0, 0, 0, 0), (.iconst 0, 1, 0, 0, 0), (.ireturn, 1, 0, 0, 0)]
abbrev mX11_finds : Nat := 176
def qX11_cut : List pmE := [(.iload_n 0, 1, 0, 0, 0), (.ifCond .ne 10, 3, 11, 0, 0), (.nop, 0, 0, 0, 0), (.nop, 0, 0, 0, 0), (.lload_n 1, 1, 1, 0, 0), (.l2i, 1, 0, 0, 0), (.i2b, 1, 0, 0, 0), (.i2l, 1, 0, 0, 0), (.goto 27, 3, 35, 0, 0), (.nop, 0, 0, 0, 0), (.nop, 0, 0, 0, 0), (.iload_n 0, 1, 0, 0, 0), (.iconst 1, 1, 0, 0, 0), (.if_icmp .ne 10, 3, 23, 0, 0), (.nop, 0, 0, 0, 0), (.nop, 0, 0, 0, 0), (.lload_n 1, 1, 1, 0, 0), (.l2i, 1, 0, 0, 0), (.i2s, 1, 0, 0, 0), (.i2l, 1, 0, 0, 0), (.goto 15, 3, 35, 0, 0), (.nop, 0, 0, 0, 0), (.nop, 0, 0, 0, 0), (.iload_n 0, 1, 0, 0, 0), (.iconst 2, 1, 0, 0, 0), (.if_icmp .ne 9, 3, 34, 0, 0), (.nop, 0, 0, 0, 0), (.nop, 0, 0, 0, 0), (.lload_n 1, 1, 1, 0, 0), (.l2i, 1, 0, 0, 0), (.i2l, 1, 0, 0, 0), (.goto 4, 3, 35, 0, 0), (.nop, 0, 0, 0, 0), (.nop, 0, 0, 0, 0), (.lload_n 1, 1, 1, 0, 0), (.lreturn, 1, 0, 0, 0)]
abbrev mX11_cut : Nat := 177
def qX11_came_0 : List pmE := [(.aload_n 0, 1, 0, 0, 0), (.iload_n 1, 1, 1, 0, 0), (.invokevirtual 172, 3, 146, 0, 966), (.nop, 0, 0, 0, 0), (.nop, 0, 0, 0, 0), (.ifCond .eq 30, 3, 35, 0, 0), (.nop, 0, 0, 0, 0), (.nop, 0, 0, 0, 0), (.iload_n 2, 1, 2, 0, 0), (.invokestatic 232, 3, 174, 0, 1129), (.nop, 0, 0, 0, 0), (.nop, 0, 0, 0, 0), (.ifCond .eq 23, 3, 35, 0, 0), (.nop, 0, 0, 0, 0), (.nop, 0, 0, 0, 0), (.iload_n 3, 1, 3, 0, 0), (.invokestatic 235, 3, 175, 0, 1132), (.nop, 0, 0, 0, 0), (.nop, 0, 0, 0, 0), (.ifCond .eq 16, 3, 35, 0, 0), (.nop, 0, 0, 0, 0), (.nop, 0, 0, 0, 0), (.iload 5, 2, 5, 0, 0), (.nop, 0, 0, 0, 0), (.i2l, 1, 0, 0, 0), (.lconst 0, 1, 0, 0, 0), (.ldc2_w 238, 3, 60, 0, 1135), (.nop, 0, 0, 0, 0), (.nop, 0, 0, 0, 0), (.invokestatic 80, 3, 120, 0, 913), (.nop, 0, 0, 0, 0), (.nop, 0, 0, 0, 0), (.ifCond .ne 5, 3, 37, 0, 0), (.nop, 0, 0, 0, 0), (.nop, 0, 0, 0, 0), (.iconst (-1), 1, 0, 0, 0), (.ireturn, 1, 0, 0, 0), (.aload_n 0, 1, 0, 0, 0), (.iload_n 2, 1, 2, 0, 0), (.iload_n 3, 1, 3, 0, 0), (.iload 4, 2, 4, 0, 0), (.nop, 0, 0, 0, 0), (.iload 5, 2, 5, 0, 0), (.nop, 0, 0, 0, 0), (.invokevirtual 240, 3, 176, 0, 1136), (.nop, 0, 0, 0, 0), (.nop, 0, 0, 0, 0), (.istore 6, 2, 6, 0, 0), (.nop, 0, 0, 0, 0), (.iload 6, 2, 6, 0, 0), (.nop, 0, 0, 0, 0), (.ifCond .ge 6, 3, 57, 0, 0), (.nop, 0, 0, 0, 0), (.nop, 0, 0, 0, 0), (.iload 6, 2, 6, 0, 0), (.nop, 0, 0, 0, 0), (.ireturn, 1, 0, 0, 0), (.iconst 0, 1, 0, 0, 0), (.istore 7, 2, 7, 0, 0), (.nop, 0, 0, 0, 0), (.iconst 0, 1, 0, 0, 0), (.istore 8, 2, 8, 0, 0), (.nop, 0, 0, 0, 0), (.iload 8, 2, 8, 0, 0), (.nop, 0, 0, 0, 0), (.iconst 5, 1, 0, 0, 0), (.if_icmp .ge 122, 3, 188, 0, 0), (.nop, 0, 0, 0, 0), (.nop, 0, 0, 0, 0), (.aload_n 0, 1, 0, 0, 0), (.invokevirtual 165, 3, 136, 0, 974), (.nop, 0, 0, 0, 0), (.nop, 0, 0, 0, 0), (.aload_n 0, 1, 0, 0, 0), (.getfield 70, 3, 11, 27, 845), (.nop, 0, 0, 0, 0), (.nop, 0, 0, 0, 0), (.iload_n 1, 1, 1, 0, 0), (.iload 8, 2, 8, 0, 0), (.nop, 0, 0, 0, 0), (.iastore, 1, 0, 0, 0), (.aload_n 0, 1, 0, 0, 0), (.aload_n 0, 1, 0, 0, 0), (.getfield 16, 3, 11, 3, 821), (.nop, 0, 0, 0, 0), (.nop, 0, 0, 0, 0), (.sipush 1023, 3, 0, 0, 0), (.nop, 0, 0, 0, 0), (.nop, 0, 0, 0, 0), (.invokevirtual 168, 3, 143, 0, 978), (.nop, 0, 0, 0, 0), (.nop, 0, 0, 0, 0), (.pop, 1, 0, 0, 0), (.aload_n 0, 1, 0, 0, 0), (.getfield 144, 3, 11, 24, 842), (.nop, 0, 0, 0, 0), (.nop, 0, 0, 0, 0), (.iload 5, 2, 5, 0, 0), (.nop, 0, 0, 0, 0), (.if_icmp .ne 7, 3, 106, 0, 0)]
def qX11_came_1 : List pmE := [(.nop, 0, 0, 0, 0), (.nop, 0, 0, 0, 0), (.iconst 1, 1, 0, 0, 0), (.goto 4, 3, 107, 0, 0), (.nop, 0, 0, 0, 0), (.nop, 0, 0, 0, 0), (.iconst 0, 1, 0, 0, 0), (.istore 9, 2, 9, 0, 0), (.nop, 0, 0, 0, 0), (.iconst 0, 1, 0, 0, 0), (.istore 10, 2, 10, 0, 0), (.nop, 0, 0, 0, 0), (.iload 10, 2, 10, 0, 0), (.nop, 0, 0, 0, 0), (.iload 5, 2, 5, 0, 0), (.nop, 0, 0, 0, 0), (.if_icmp .ge 48, 3, 164, 0, 0), (.nop, 0, 0, 0, 0), (.nop, 0, 0, 0, 0), (.iload 9, 2, 9, 0, 0), (.nop, 0, 0, 0, 0), (.ifCond .eq 43, 3, 164, 0, 0), (.nop, 0, 0, 0, 0), (.nop, 0, 0, 0, 0), (.aload_n 0, 1, 0, 0, 0), (.getfield 45, 3, 11, 16, 834), (.nop, 0, 0, 0, 0), (.nop, 0, 0, 0, 0), (.bipush 60, 2, 0, 0, 0), (.nop, 0, 0, 0, 0), (.iload_n 2, 1, 2, 0, 0), (.imul, 1, 0, 0, 0), (.iload 4, 2, 4, 0, 0), (.nop, 0, 0, 0, 0), (.iadd, 1, 0, 0, 0), (.iload 10, 2, 10, 0, 0), (.nop, 0, 0, 0, 0), (.iadd, 1, 0, 0, 0), (.laload, 1, 0, 0, 0), (.aload_n 0, 1, 0, 0, 0), (.getfield 58, 3, 11, 22, 840), (.nop, 0, 0, 0, 0), (.nop, 0, 0, 0, 0), (.iload 10, 2, 10, 0, 0), (.nop, 0, 0, 0, 0), (.iaload, 1, 0, 0, 0), (.i2l, 1, 0, 0, 0), (.lcmp, 1, 0, 0, 0), (.ifCond .ne 7, 3, 155, 0, 0), (.nop, 0, 0, 0, 0), (.nop, 0, 0, 0, 0), (.iconst 1, 1, 0, 0, 0), (.goto 4, 3, 156, 0, 0), (.nop, 0, 0, 0, 0), (.nop, 0, 0, 0, 0), (.iconst 0, 1, 0, 0, 0), (.istore 9, 2, 9, 0, 0), (.nop, 0, 0, 0, 0), (.iinc 10 1, 3, 10, 0, 0), (.nop, 0, 0, 0, 0), (.nop, 0, 0, 0, 0), (.goto (-49), 3, 112, 0, 0), (.nop, 0, 0, 0, 0), (.nop, 0, 0, 0, 0), (.iload 7, 2, 7, 0, 0), (.nop, 0, 0, 0, 0), (.iload 9, 2, 9, 0, 0), (.nop, 0, 0, 0, 0), (.ifCond .eq 10, 3, 178, 0, 0), (.nop, 0, 0, 0, 0), (.nop, 0, 0, 0, 0), (.iconst 1, 1, 0, 0, 0), (.iload 8, 2, 8, 0, 0), (.nop, 0, 0, 0, 0), (.ishl, 1, 0, 0, 0), (.goto 4, 3, 179, 0, 0), (.nop, 0, 0, 0, 0), (.nop, 0, 0, 0, 0), (.iconst 0, 1, 0, 0, 0), (.ior, 1, 0, 0, 0), (.istore 7, 2, 7, 0, 0), (.nop, 0, 0, 0, 0), (.iinc 8 1, 3, 8, 0, 0), (.nop, 0, 0, 0, 0), (.nop, 0, 0, 0, 0), (.goto (-122), 3, 63, 0, 0), (.nop, 0, 0, 0, 0), (.nop, 0, 0, 0, 0), (.iload 7, 2, 7, 0, 0), (.nop, 0, 0, 0, 0), (.ireturn, 1, 0, 0, 0)]
def qX11_came : List pmE := qX11_came_0 ++ qX11_came_1
abbrev mX11_came : Nat := 178
def qX11_film : List pmE := [(.iload_n 1, 1, 1, 0, 0), (.i2l, 1, 0, 0, 0), (.lconst 0, 1, 0, 0, 0), (.lconst 1, 1, 0, 0, 0), (.invokestatic 80, 3, 120, 0, 913), (.nop, 0, 0, 0, 0), (.nop, 0, 0, 0, 0), (.ifCond .eq 17, 3, 24, 0, 0), (.nop, 0, 0, 0, 0), (.nop, 0, 0, 0, 0), (.iload_n 2, 1, 2, 0, 0), (.invokestatic 232, 3, 174, 0, 1129), (.nop, 0, 0, 0, 0), (.nop, 0, 0, 0, 0), (.ifCond .eq 10, 3, 24, 0, 0), (.nop, 0, 0, 0, 0), (.nop, 0, 0, 0, 0), (.iload_n 3, 1, 3, 0, 0), (.invokestatic 235, 3, 175, 0, 1132), (.nop, 0, 0, 0, 0), (.nop, 0, 0, 0, 0), (.ifCond .ne 5, 3, 26, 0, 0), (.nop, 0, 0, 0, 0), (.nop, 0, 0, 0, 0), (.iconst (-1), 1, 0, 0, 0), (.ireturn, 1, 0, 0, 0), (.aload_n 0, 1, 0, 0, 0), (.invokevirtual 175, 3, 144, 0, 970), (.nop, 0, 0, 0, 0), (.nop, 0, 0, 0, 0), (.pop, 1, 0, 0, 0), (.aload_n 0, 1, 0, 0, 0), (.iload_n 2, 1, 2, 0, 0), (.iload_n 3, 1, 3, 0, 0), (.iload 4, 2, 4, 0, 0), (.nop, 0, 0, 0, 0), (.aload_n 0, 1, 0, 0, 0), (.getfield 144, 3, 11, 24, 842), (.nop, 0, 0, 0, 0), (.nop, 0, 0, 0, 0), (.invokevirtual 240, 3, 176, 0, 1136), (.nop, 0, 0, 0, 0), (.nop, 0, 0, 0, 0), (.istore 5, 2, 5, 0, 0), (.nop, 0, 0, 0, 0), (.iload 5, 2, 5, 0, 0), (.nop, 0, 0, 0, 0), (.ifCond .ge 6, 3, 53, 0, 0), (.nop, 0, 0, 0, 0), (.nop, 0, 0, 0, 0), (.iload 5, 2, 5, 0, 0), (.nop, 0, 0, 0, 0), (.ireturn, 1, 0, 0, 0), (.iconst 0, 1, 0, 0, 0), (.istore 6, 2, 6, 0, 0), (.nop, 0, 0, 0, 0), (.iload 6, 2, 6, 0, 0), (.nop, 0, 0, 0, 0), (.aload_n 0, 1, 0, 0, 0), (.getfield 144, 3, 11, 24, 842), (.nop, 0, 0, 0, 0), (.nop, 0, 0, 0, 0), (.if_icmp .ge 47, 3, 109, 0, 0), (.nop, 0, 0, 0, 0), (.nop, 0, 0, 0, 0), (.aload_n 0, 1, 0, 0, 0), (.getfield 45, 3, 11, 16, 834), (.nop, 0, 0, 0, 0), (.nop, 0, 0, 0, 0), (.bipush 60, 2, 0, 0, 0), (.nop, 0, 0, 0, 0), (.iload_n 2, 1, 2, 0, 0), (.imul, 1, 0, 0, 0), (.iload 4, 2, 4, 0, 0), (.nop, 0, 0, 0, 0), (.iadd, 1, 0, 0, 0), (.iload 6, 2, 6, 0, 0), (.nop, 0, 0, 0, 0), (.iadd, 1, 0, 0, 0), (.iload_n 1, 1, 1, 0, 0), (.ifCond .ne 14, 3, 94, 0, 0), (.nop, 0, 0, 0, 0), (.nop, 0, 0, 0, 0), (.aload_n 0, 1, 0, 0, 0), (.getfield 58, 3, 11, 22, 840), (.nop, 0, 0, 0, 0), (.nop, 0, 0, 0, 0), (.iload 6, 2, 6, 0, 0), (.nop, 0, 0, 0, 0), (.iaload, 1, 0, 0, 0), (.i2l, 1, 0, 0, 0), (.goto 11, 3, 102, 0, 0), (.nop, 0, 0, 0, 0), (.nop, 0, 0, 0, 0), (.aload_n 0, 1, 0, 0, 0), (.getfield 61, 3, 11, 23, 841), (.nop, 0, 0, 0, 0), (.nop, 0, 0, 0, 0), (.iload 6, 2, 6, 0, 0), (.nop, 0, 0, 0, 0), (.iaload, 1, 0, 0, 0), (.i2l, 1, 0, 0, 0), (.lastore, 1, 0, 0, 0), (.iinc 6 1, 3, 6, 0, 0), (.nop, 0, 0, 0, 0), (.nop, 0, 0, 0, 0), (.goto (-50), 3, 56, 0, 0), (.nop, 0, 0, 0, 0), (.nop, 0, 0, 0, 0), (.aload_n 0, 1, 0, 0, 0), (.getfield 144, 3, 11, 24, 842), (.nop, 0, 0, 0, 0), (.nop, 0, 0, 0, 0), (.ireturn, 1, 0, 0, 0)]
abbrev mX11_film : Nat := 179
def qX11_sheet : List pmE := [(.iload_n 1, 1, 1, 0, 0), (.invokestatic 232, 3, 174, 0, 1129), (.nop, 0, 0, 0, 0), (.nop, 0, 0, 0, 0), (.ifCond .eq 16, 3, 20, 0, 0), (.nop, 0, 0, 0, 0), (.nop, 0, 0, 0, 0), (.iload_n 2, 1, 2, 0, 0), (.invokestatic 235, 3, 175, 0, 1132), (.nop, 0, 0, 0, 0), (.nop, 0, 0, 0, 0), (.ifCond .eq 9, 3, 20, 0, 0), (.nop, 0, 0, 0, 0), (.nop, 0, 0, 0, 0), (.iload_n 3, 1, 3, 0, 0), (.bipush 60, 2, 0, 0, 0), (.nop, 0, 0, 0, 0), (.if_icmp .le 5, 3, 22, 0, 0), (.nop, 0, 0, 0, 0), (.nop, 0, 0, 0, 0), (.iconst (-1), 1, 0, 0, 0), (.ireturn, 1, 0, 0, 0), (.iload_n 3, 1, 3, 0, 0), (.ifCond .ge 6, 3, 29, 0, 0), (.nop, 0, 0, 0, 0), (.nop, 0, 0, 0, 0), (.bipush (-14), 2, 0, 0, 0), (.nop, 0, 0, 0, 0), (.ireturn, 1, 0, 0, 0), (.aload_n 0, 1, 0, 0, 0), (.getfield 35, 3, 11, 13, 831), (.nop, 0, 0, 0, 0), (.nop, 0, 0, 0, 0), (.iload_n 1, 1, 1, 0, 0), (.iconst 1, 1, 0, 0, 0), (.bastore, 1, 0, 0, 0), (.aload_n 0, 1, 0, 0, 0), (.getfield 39, 3, 11, 14, 832), (.nop, 0, 0, 0, 0), (.nop, 0, 0, 0, 0), (.iload_n 1, 1, 1, 0, 0), (.iload_n 2, 1, 2, 0, 0), (.iastore, 1, 0, 0, 0), (.aload_n 0, 1, 0, 0, 0), (.getfield 42, 3, 11, 15, 833), (.nop, 0, 0, 0, 0), (.nop, 0, 0, 0, 0), (.iload_n 1, 1, 1, 0, 0), (.iload_n 3, 1, 3, 0, 0), (.iastore, 1, 0, 0, 0), (.iconst 0, 1, 0, 0, 0), (.istore 4, 2, 4, 0, 0), (.nop, 0, 0, 0, 0), (.iload 4, 2, 4, 0, 0), (.nop, 0, 0, 0, 0), (.bipush 60, 2, 0, 0, 0), (.nop, 0, 0, 0, 0), (.if_icmp .ge 22, 3, 79, 0, 0), (.nop, 0, 0, 0, 0), (.nop, 0, 0, 0, 0), (.aload_n 0, 1, 0, 0, 0), (.getfield 45, 3, 11, 16, 834), (.nop, 0, 0, 0, 0), (.nop, 0, 0, 0, 0), (.bipush 60, 2, 0, 0, 0), (.nop, 0, 0, 0, 0), (.iload_n 1, 1, 1, 0, 0), (.imul, 1, 0, 0, 0), (.iload 4, 2, 4, 0, 0), (.nop, 0, 0, 0, 0), (.iadd, 1, 0, 0, 0), (.lconst 0, 1, 0, 0, 0), (.lastore, 1, 0, 0, 0), (.iinc 4 1, 3, 4, 0, 0), (.nop, 0, 0, 0, 0), (.nop, 0, 0, 0, 0), (.goto (-23), 3, 53, 0, 0), (.nop, 0, 0, 0, 0), (.nop, 0, 0, 0, 0), (.iload_n 3, 1, 3, 0, 0), (.ireturn, 1, 0, 0, 0)]
abbrev mX11_sheet : Nat := 180
def qX11_drop : List pmE := [(.iload_n 1, 1, 1, 0, 0), (.invokestatic 232, 3, 174, 0, 1129), (.nop, 0, 0, 0, 0), (.nop, 0, 0, 0, 0), (.ifCond .ne 5, 3, 9, 0, 0), (.nop, 0, 0, 0, 0), (.nop, 0, 0, 0, 0), (.iconst (-1), 1, 0, 0, 0), (.ireturn, 1, 0, 0, 0), (.aload_n 0, 1, 0, 0, 0), (.getfield 35, 3, 11, 13, 831), (.nop, 0, 0, 0, 0), (.nop, 0, 0, 0, 0), (.iload_n 1, 1, 1, 0, 0), (.baload, 1, 0, 0, 0), (.ifCond .ne 6, 3, 21, 0, 0), (.nop, 0, 0, 0, 0), (.nop, 0, 0, 0, 0), (.bipush (-11), 2, 0, 0, 0), (.nop, 0, 0, 0, 0), (.ireturn, 1, 0, 0, 0), (.aload_n 0, 1, 0, 0, 0), (.getfield 35, 3, 11, 13, 831), (.nop, 0, 0, 0, 0), (.nop, 0, 0, 0, 0), (.iload_n 1, 1, 1, 0, 0), (.iconst 0, 1, 0, 0, 0), (.bastore, 1, 0, 0, 0), (.aload_n 0, 1, 0, 0, 0), (.getfield 42, 3, 11, 15, 833), (.nop, 0, 0, 0, 0), (.nop, 0, 0, 0, 0), (.iload_n 1, 1, 1, 0, 0), (.iaload, 1, 0, 0, 0), (.ireturn, 1, 0, 0, 0)]
abbrev mX11_drop : Nat := 181
def qX11_item : List pmE := [(.iload_n 1, 1, 1, 0, 0), (.invokestatic 232, 3, 174, 0, 1129), (.nop, 0, 0, 0, 0), (.nop, 0, 0, 0, 0), (.ifCond .eq 10, 3, 14, 0, 0), (.nop, 0, 0, 0, 0), (.nop, 0, 0, 0, 0), (.iload_n 2, 1, 2, 0, 0), (.invokestatic 235, 3, 175, 0, 1132), (.nop, 0, 0, 0, 0), (.nop, 0, 0, 0, 0), (.ifCond .ne 5, 3, 16, 0, 0), (.nop, 0, 0, 0, 0), (.nop, 0, 0, 0, 0), (.iconst (-1), 1, 0, 0, 0), (.ireturn, 1, 0, 0, 0), (.aload_n 0, 1, 0, 0, 0), (.iload_n 1, 1, 1, 0, 0), (.iload_n 2, 1, 2, 0, 0), (.iload_n 3, 1, 3, 0, 0), (.iconst 1, 1, 0, 0, 0), (.invokevirtual 240, 3, 176, 0, 1136), (.nop, 0, 0, 0, 0), (.nop, 0, 0, 0, 0), (.istore 6, 2, 6, 0, 0), (.nop, 0, 0, 0, 0), (.iload 6, 2, 6, 0, 0), (.nop, 0, 0, 0, 0), (.ifCond .ge 6, 3, 34, 0, 0), (.nop, 0, 0, 0, 0), (.nop, 0, 0, 0, 0), (.iload 6, 2, 6, 0, 0), (.nop, 0, 0, 0, 0), (.ireturn, 1, 0, 0, 0), (.aload_n 0, 1, 0, 0, 0), (.getfield 45, 3, 11, 16, 834), (.nop, 0, 0, 0, 0), (.nop, 0, 0, 0, 0), (.bipush 60, 2, 0, 0, 0), (.nop, 0, 0, 0, 0), (.iload_n 1, 1, 1, 0, 0), (.imul, 1, 0, 0, 0), (.iload_n 3, 1, 3, 0, 0), (.iadd, 1, 0, 0, 0), (.iload_n 2, 1, 2, 0, 0), (.lload 4, 2, 4, 0, 0), (.nop, 0, 0, 0, 0), (.invokestatic 244, 3, 177, 0, 1156), (.nop, 0, 0, 0, 0), (.nop, 0, 0, 0, 0), (.lastore, 1, 0, 0, 0), (.iconst 1, 1, 0, 0, 0), (.ireturn, 1, 0, 0, 0)]
abbrev mX11_item : Nat := 182
def qX11_copy_0 : List pmE := [(.iload_n 1, 1, 1, 0, 0), (.invokestatic 232, 3, 174, 0, 1129), (.nop, 0, 0, 0, 0), (.nop, 0, 0, 0, 0), (.ifCond .eq 10, 3, 14, 0, 0), (.nop, 0, 0, 0, 0), (.nop, 0, 0, 0, 0), (.iload_n 3, 1, 3, 0, 0), (.invokestatic 232, 3, 174, 0, 1129), (.nop, 0, 0, 0, 0), (.nop, 0, 0, 0, 0), (.ifCond .ne 5, 3, 16, 0, 0), (.nop, 0, 0, 0, 0), (.nop, 0, 0, 0, 0), (.iconst (-1), 1, 0, 0, 0), (.ireturn, 1, 0, 0, 0), (.aload_n 0, 1, 0, 0, 0), (.getfield 35, 3, 11, 13, 831), (.nop, 0, 0, 0, 0), (.nop, 0, 0, 0, 0), (.iload_n 1, 1, 1, 0, 0), (.baload, 1, 0, 0, 0), (.ifCond .eq 12, 3, 34, 0, 0), (.nop, 0, 0, 0, 0), (.nop, 0, 0, 0, 0), (.aload_n 0, 1, 0, 0, 0), (.getfield 35, 3, 11, 13, 831), (.nop, 0, 0, 0, 0), (.nop, 0, 0, 0, 0), (.iload_n 3, 1, 3, 0, 0), (.baload, 1, 0, 0, 0), (.ifCond .ne 6, 3, 37, 0, 0), (.nop, 0, 0, 0, 0), (.nop, 0, 0, 0, 0), (.bipush (-11), 2, 0, 0, 0), (.nop, 0, 0, 0, 0), (.ireturn, 1, 0, 0, 0), (.aload_n 0, 1, 0, 0, 0), (.getfield 39, 3, 11, 14, 832), (.nop, 0, 0, 0, 0), (.nop, 0, 0, 0, 0), (.iload_n 1, 1, 1, 0, 0), (.iaload, 1, 0, 0, 0), (.aload_n 0, 1, 0, 0, 0), (.getfield 39, 3, 11, 14, 832), (.nop, 0, 0, 0, 0), (.nop, 0, 0, 0, 0), (.iload_n 3, 1, 3, 0, 0), (.iaload, 1, 0, 0, 0), (.if_icmp .eq 6, 3, 55, 0, 0), (.nop, 0, 0, 0, 0), (.nop, 0, 0, 0, 0), (.bipush (-12), 2, 0, 0, 0), (.nop, 0, 0, 0, 0), (.ireturn, 1, 0, 0, 0), (.aload_n 0, 1, 0, 0, 0), (.iload_n 1, 1, 1, 0, 0), (.aload_n 0, 1, 0, 0, 0), (.getfield 39, 3, 11, 14, 832), (.nop, 0, 0, 0, 0), (.nop, 0, 0, 0, 0), (.iload_n 1, 1, 1, 0, 0), (.iaload, 1, 0, 0, 0), (.iload_n 2, 1, 2, 0, 0), (.iload 5, 2, 5, 0, 0), (.nop, 0, 0, 0, 0), (.invokevirtual 240, 3, 176, 0, 1136), (.nop, 0, 0, 0, 0), (.nop, 0, 0, 0, 0), (.istore 6, 2, 6, 0, 0), (.nop, 0, 0, 0, 0), (.iload 6, 2, 6, 0, 0), (.nop, 0, 0, 0, 0), (.ifCond .ge 8, 3, 81, 0, 0), (.nop, 0, 0, 0, 0), (.nop, 0, 0, 0, 0), (.iload 6, 2, 6, 0, 0), (.nop, 0, 0, 0, 0), (.goto 18, 3, 96, 0, 0), (.nop, 0, 0, 0, 0), (.nop, 0, 0, 0, 0), (.aload_n 0, 1, 0, 0, 0), (.iload_n 3, 1, 3, 0, 0), (.aload_n 0, 1, 0, 0, 0), (.getfield 39, 3, 11, 14, 832), (.nop, 0, 0, 0, 0), (.nop, 0, 0, 0, 0), (.iload_n 3, 1, 3, 0, 0), (.iaload, 1, 0, 0, 0), (.iload 4, 2, 4, 0, 0), (.nop, 0, 0, 0, 0), (.iload 5, 2, 5, 0, 0), (.nop, 0, 0, 0, 0), (.invokevirtual 240, 3, 176, 0, 1136), (.nop, 0, 0, 0, 0), (.nop, 0, 0, 0, 0), (.istore 6, 2, 6, 0, 0), (.nop, 0, 0, 0, 0), (.iload 6, 2, 6, 0, 0), (.nop, 0, 0, 0, 0)]
def qX11_copy_1 : List pmE := [(.ifCond .ge 6, 3, 106, 0, 0), (.nop, 0, 0, 0, 0), (.nop, 0, 0, 0, 0), (.iload 6, 2, 6, 0, 0), (.nop, 0, 0, 0, 0), (.ireturn, 1, 0, 0, 0), (.iconst 0, 1, 0, 0, 0), (.istore 7, 2, 7, 0, 0), (.nop, 0, 0, 0, 0), (.iload 7, 2, 7, 0, 0), (.nop, 0, 0, 0, 0), (.iload 5, 2, 5, 0, 0), (.nop, 0, 0, 0, 0), (.if_icmp .ge 30, 3, 143, 0, 0), (.nop, 0, 0, 0, 0), (.nop, 0, 0, 0, 0), (.aload_n 0, 1, 0, 0, 0), (.getfield 49, 3, 11, 17, 835), (.nop, 0, 0, 0, 0), (.nop, 0, 0, 0, 0), (.iload 7, 2, 7, 0, 0), (.nop, 0, 0, 0, 0), (.aload_n 0, 1, 0, 0, 0), (.getfield 45, 3, 11, 16, 834), (.nop, 0, 0, 0, 0), (.nop, 0, 0, 0, 0), (.bipush 60, 2, 0, 0, 0), (.nop, 0, 0, 0, 0), (.iload_n 1, 1, 1, 0, 0), (.imul, 1, 0, 0, 0), (.iload_n 2, 1, 2, 0, 0), (.iadd, 1, 0, 0, 0), (.iload 7, 2, 7, 0, 0), (.nop, 0, 0, 0, 0), (.iadd, 1, 0, 0, 0), (.laload, 1, 0, 0, 0), (.lastore, 1, 0, 0, 0), (.iinc 7 1, 3, 7, 0, 0), (.nop, 0, 0, 0, 0), (.nop, 0, 0, 0, 0), (.goto (-31), 3, 109, 0, 0), (.nop, 0, 0, 0, 0), (.nop, 0, 0, 0, 0), (.iconst 0, 1, 0, 0, 0), (.istore 7, 2, 7, 0, 0), (.nop, 0, 0, 0, 0), (.iload 7, 2, 7, 0, 0), (.nop, 0, 0, 0, 0), (.iload 5, 2, 5, 0, 0), (.nop, 0, 0, 0, 0), (.if_icmp .ge 31, 3, 181, 0, 0), (.nop, 0, 0, 0, 0), (.nop, 0, 0, 0, 0), (.aload_n 0, 1, 0, 0, 0), (.getfield 45, 3, 11, 16, 834), (.nop, 0, 0, 0, 0), (.nop, 0, 0, 0, 0), (.bipush 60, 2, 0, 0, 0), (.nop, 0, 0, 0, 0), (.iload_n 3, 1, 3, 0, 0), (.imul, 1, 0, 0, 0), (.iload 4, 2, 4, 0, 0), (.nop, 0, 0, 0, 0), (.iadd, 1, 0, 0, 0), (.iload 7, 2, 7, 0, 0), (.nop, 0, 0, 0, 0), (.iadd, 1, 0, 0, 0), (.aload_n 0, 1, 0, 0, 0), (.getfield 49, 3, 11, 17, 835), (.nop, 0, 0, 0, 0), (.nop, 0, 0, 0, 0), (.iload 7, 2, 7, 0, 0), (.nop, 0, 0, 0, 0), (.laload, 1, 0, 0, 0), (.lastore, 1, 0, 0, 0), (.iinc 7 1, 3, 7, 0, 0), (.nop, 0, 0, 0, 0), (.nop, 0, 0, 0, 0), (.goto (-32), 3, 146, 0, 0), (.nop, 0, 0, 0, 0), (.nop, 0, 0, 0, 0), (.iload 5, 2, 5, 0, 0), (.nop, 0, 0, 0, 0), (.ireturn, 1, 0, 0, 0)]
def qX11_copy : List pmE := qX11_copy_0 ++ qX11_copy_1
abbrev mX11_copy : Nat := 183
def qJ6_bitCount_0f7a4 : List pmE := [(.iload_n 0, 1, 0, 0, 0), (.iload_n 0, 1, 0, 0, 0), (.iconst 1, 1, 0, 0, 0), (.iushr, 1, 0, 0, 0), (.ldc_w 265, 3, 1431655765, 0, 647), (.nop, 0, 0, 0, 0), (.nop, 0, 0, 0, 0), (.iand, 1, 0, 0, 0), (.isub, 1, 0, 0, 0), (.istore_n 0, 1, 0, 0, 0), (.iload_n 0, 1, 0, 0, 0), (.ldc_w 266, 3, 858993459, 0, 648), (.nop, 0, 0, 0, 0), (.nop, 0, 0, 0, 0), (.iand, 1, 0, 0, 0), (.iload_n 0, 1, 0, 0, 0), (.iconst 2, 1, 0, 0, 0), (.iushr, 1, 0, 0, 0), (.ldc_w 266, 3, 858993459, 0, 648), (.nop, 0, 0, 0, 0), (.nop, 0, 0, 0, 0), (.iand, 1, 0, 0, 0), (.iadd, 1, 0, 0, 0), (.istore_n 0, 1, 0, 0, 0), (.iload_n 0, 1, 0, 0, 0), (.iload_n 0, 1, 0, 0, 0), (.iconst 4, 1, 0, 0, 0), (.iushr, 1, 0, 0, 0), (.iadd, 1, 0, 0, 0), (.ldc_w 267, 3, 252645135, 0, 649), (.nop, 0, 0, 0, 0), (.nop, 0, 0, 0, 0), (.iand, 1, 0, 0, 0), (.istore_n 0, 1, 0, 0, 0), (.iload_n 0, 1, 0, 0, 0), (.iload_n 0, 1, 0, 0, 0), (.bipush 8, 2, 0, 0, 0), (.nop, 0, 0, 0, 0), (.iushr, 1, 0, 0, 0), (.iadd, 1, 0, 0, 0), (.istore_n 0, 1, 0, 0, 0), (.iload_n 0, 1, 0, 0, 0), (.iload_n 0, 1, 0, 0, 0), (.bipush 16, 2, 0, 0, 0), (.nop, 0, 0, 0, 0), (.iushr, 1, 0, 0, 0), (.iadd, 1, 0, 0, 0), (.istore_n 0, 1, 0, 0, 0), (.iload_n 0, 1, 0, 0, 0), (.bipush 63, 2, 0, 0, 0), (.nop, 0, 0, 0, 0), (.iand, 1, 0, 0, 0), (.ireturn, 1, 0, 0, 0)]
abbrev mJ6_bitCount_0f7a4 : Nat := 184
def qJ9_floorMod_7cf53 : List pmE := [(.iload_n 0, 1, 0, 0, 0), (.iload_n 1, 1, 1, 0, 0), (.irem, 1, 0, 0, 0), (.istore_n 2, 1, 2, 0, 0), (.iload_n 0, 1, 0, 0, 0), (.iload_n 1, 1, 1, 0, 0), (.ixor, 1, 0, 0, 0), (.ifCond .ge 11, 3, 18, 0, 0), (.nop, 0, 0, 0, 0), (.nop, 0, 0, 0, 0), (.iload_n 2, 1, 2, 0, 0), (.ifCond .eq 7, 3, 18, 0, 0), (.nop, 0, 0, 0, 0), (.nop, 0, 0, 0, 0), (.iload_n 2, 1, 2, 0, 0), (.iload_n 1, 1, 1, 0, 0), (.iadd, 1, 0, 0, 0), (.ireturn, 1, 0, 0, 0), (.iload_n 2, 1, 2, 0, 0), (.ireturn, 1, 0, 0, 0)]
abbrev mJ9_floorMod_7cf53 : Nat := 185
def qJ9_max_7cf53 : List pmE := [(.iload_n 0, 1, 0, 0, 0), (.iload_n 1, 1, 1, 0, 0), (.if_icmp .lt 7, 3, 9, 0, 0), (.nop, 0, 0, 0, 0), (.nop, 0, 0, 0, 0), (.iload_n 0, 1, 0, 0, 0), (.goto 4, 3, 10, 0, 0), (.nop, 0, 0, 0, 0), (.nop, 0, 0, 0, 0), (.iload_n 1, 1, 1, 0, 0), (.ireturn, 1, 0, 0, 0)]
abbrev mJ9_max_7cf53 : Nat := 186
def qJ9_min_7cf53 : List pmE := [(.iload_n 0, 1, 0, 0, 0), (.iload_n 1, 1, 1, 0, 0), (.if_icmp .gt 7, 3, 9, 0, 0), (.nop, 0, 0, 0, 0), (.nop, 0, 0, 0, 0), (.iload_n 0, 1, 0, 0, 0), (.goto 4, 3, 10, 0, 0), (.nop, 0, 0, 0, 0), (.nop, 0, 0, 0, 0), (.iload_n 1, 1, 1, 0, 0), (.ireturn, 1, 0, 0, 0)]
abbrev mJ9_min_7cf53 : Nat := 187
def qJ7_fill_d0a16 : List pmE := [(.iconst 0, 1, 0, 0, 0), (.istore_n 3, 1, 3, 0, 0), (.aload_n 0, 1, 0, 0, 0), (.arraylength, 1, 0, 0, 0), (.istore 4, 2, 4, 0, 0), (.nop, 0, 0, 0, 0), (.iload_n 3, 1, 3, 0, 0), (.iload 4, 2, 4, 0, 0), (.nop, 0, 0, 0, 0), (.if_icmp .ge 13, 3, 22, 0, 0), (.nop, 0, 0, 0, 0), (.nop, 0, 0, 0, 0), (.aload_n 0, 1, 0, 0, 0), (.iload_n 3, 1, 3, 0, 0), (.lload_n 1, 1, 1, 0, 0), (.lastore, 1, 0, 0, 0), (.iinc 3 1, 3, 3, 0, 0), (.nop, 0, 0, 0, 0), (.nop, 0, 0, 0, 0), (.goto (-13), 3, 6, 0, 0), (.nop, 0, 0, 0, 0), (.nop, 0, 0, 0, 0), (.return_, 1, 0, 0, 0)]
abbrev mJ7_fill_d0a16 : Nat := 188
def qL_law_0 : List pmE := [(.new 7, 3, 10, 0, 57), (.nop, 0, 0, 0, 0), (.nop, 0, 0, 0, 0), (.dup, 1, 0, 0, 0), (.invokespecial 9, 3, 77, 0, 59), (.nop, 0, 0, 0, 0), (.nop, 0, 0, 0, 0), (.astore_n 1, 1, 1, 0, 0), (.new 10, 3, 11, 0, 812), (.nop, 0, 0, 0, 0), (.nop, 0, 0, 0, 0), (.dup, 1, 0, 0, 0), (.invokespecial 12, 3, 119, 0, 814), (.nop, 0, 0, 0, 0), (.nop, 0, 0, 0, 0), (.astore_n 2, 1, 2, 0, 0), (.iconst 0, 1, 0, 0, 0), (.istore_n 3, 1, 3, 0, 0), (.iload_n 3, 1, 3, 0, 0), (.aload_n 0, 1, 0, 0, 0), (.arraylength, 1, 0, 1, 0), (.bipush 6, 2, 0, 0, 0), (.nop, 0, 0, 0, 0), (.isub, 1, 0, 0, 0), (.if_icmp .gt 1014, 3, 1038, 0, 0), (.nop, 0, 0, 0, 0), (.nop, 0, 0, 0, 0), (.aload_n 0, 1, 0, 0, 0), (.iload_n 3, 1, 3, 0, 0), (.iaload, 1, 0, 1, 0), (.bipush 31, 2, 0, 0, 0), (.nop, 0, 0, 0, 0), (.iand, 1, 0, 0, 0), (.tableswitch 999 0 28 #[131, 154, 167, 180, 213, 256, 289, 312, 345, 368, 391, 414, 437, 450, 463, 496, 519, 542, 555, 578, 601, 645, 658, 671, 734, 787, 830, 853, 936], 131, 0, 0, 0), (.nop, 0, 0, 0, 0), (.nop, 0, 0, 0, 0), (.nop, 0, 0, 0, 0), (.nop, 0, 0, 0, 0), (.nop, 0, 0, 0, 0), (.nop, 0, 0, 0, 0), (.nop, 0, 0, 0, 0), (.nop, 0, 0, 0, 0), (.nop, 0, 0, 0, 0), (.nop, 0, 0, 0, 0), (.nop, 0, 0, 0, 0), (.nop, 0, 0, 0, 0), (.nop, 0, 0, 0, 0), (.nop, 0, 0, 0, 0), (.nop, 0, 0, 0, 0), (.nop, 0, 0, 0, 0), (.nop, 0, 0, 0, 0), (.nop, 0, 0, 0, 0), (.nop, 0, 0, 0, 0), (.nop, 0, 0, 0, 0), (.nop, 0, 0, 0, 0), (.nop, 0, 0, 0, 0), (.nop, 0, 0, 0, 0), (.nop, 0, 0, 0, 0), (.nop, 0, 0, 0, 0), (.nop, 0, 0, 0, 0), (.nop, 0, 0, 0, 0), (.nop, 0, 0, 0, 0), (.nop, 0, 0, 0, 0), (.nop, 0, 0, 0, 0), (.nop, 0, 0, 0, 0), (.nop, 0, 0, 0, 0), (.nop, 0, 0, 0, 0), (.nop, 0, 0, 0, 0), (.nop, 0, 0, 0, 0), (.nop, 0, 0, 0, 0), (.nop, 0, 0, 0, 0), (.nop, 0, 0, 0, 0), (.nop, 0, 0, 0, 0), (.nop, 0, 0, 0, 0), (.nop, 0, 0, 0, 0), (.nop, 0, 0, 0, 0), (.nop, 0, 0, 0, 0), (.nop, 0, 0, 0, 0), (.nop, 0, 0, 0, 0), (.nop, 0, 0, 0, 0), (.nop, 0, 0, 0, 0), (.nop, 0, 0, 0, 0), (.nop, 0, 0, 0, 0), (.nop, 0, 0, 0, 0), (.nop, 0, 0, 0, 0), (.nop, 0, 0, 0, 0), (.nop, 0, 0, 0, 0), (.nop, 0, 0, 0, 0), (.nop, 0, 0, 0, 0), (.nop, 0, 0, 0, 0), (.nop, 0, 0, 0, 0), (.nop, 0, 0, 0, 0), (.nop, 0, 0, 0, 0), (.nop, 0, 0, 0, 0), (.nop, 0, 0, 0, 0), (.nop, 0, 0, 0, 0), (.nop, 0, 0, 0, 0), (.nop, 0, 0, 0, 0), (.nop, 0, 0, 0, 0), (.nop, 0, 0, 0, 0)]
def qL_law_1 : List pmE := [(.nop, 0, 0, 0, 0), (.nop, 0, 0, 0, 0), (.nop, 0, 0, 0, 0), (.nop, 0, 0, 0, 0), (.nop, 0, 0, 0, 0), (.nop, 0, 0, 0, 0), (.nop, 0, 0, 0, 0), (.nop, 0, 0, 0, 0), (.nop, 0, 0, 0, 0), (.nop, 0, 0, 0, 0), (.nop, 0, 0, 0, 0), (.nop, 0, 0, 0, 0), (.nop, 0, 0, 0, 0), (.nop, 0, 0, 0, 0), (.nop, 0, 0, 0, 0), (.nop, 0, 0, 0, 0), (.nop, 0, 0, 0, 0), (.nop, 0, 0, 0, 0), (.nop, 0, 0, 0, 0), (.nop, 0, 0, 0, 0), (.nop, 0, 0, 0, 0), (.nop, 0, 0, 0, 0), (.nop, 0, 0, 0, 0), (.nop, 0, 0, 0, 0), (.nop, 0, 0, 0, 0), (.nop, 0, 0, 0, 0), (.nop, 0, 0, 0, 0), (.nop, 0, 0, 0, 0), (.nop, 0, 0, 0, 0), (.nop, 0, 0, 0, 0), (.nop, 0, 0, 0, 0), (.nop, 0, 0, 0, 0), (.nop, 0, 0, 0, 0), (.nop, 0, 0, 0, 0), (.nop, 0, 0, 0, 0), (.nop, 0, 0, 0, 0), (.nop, 0, 0, 0, 0), (.nop, 0, 0, 0, 0), (.nop, 0, 0, 0, 0), (.nop, 0, 0, 0, 0), (.nop, 0, 0, 0, 0), (.nop, 0, 0, 0, 0), (.nop, 0, 0, 0, 0), (.nop, 0, 0, 0, 0), (.nop, 0, 0, 0, 0), (.nop, 0, 0, 0, 0), (.nop, 0, 0, 0, 0), (.nop, 0, 0, 0, 0), (.nop, 0, 0, 0, 0), (.nop, 0, 0, 0, 0), (.nop, 0, 0, 0, 0), (.nop, 0, 0, 0, 0), (.nop, 0, 0, 0, 0), (.nop, 0, 0, 0, 0), (.nop, 0, 0, 0, 0), (.nop, 0, 0, 0, 0), (.nop, 0, 0, 0, 0), (.nop, 0, 0, 0, 0), (.nop, 0, 0, 0, 0), (.nop, 0, 0, 0, 0), (.nop, 0, 0, 0, 0), (.nop, 0, 0, 0, 0), (.nop, 0, 0, 0, 0), (.nop, 0, 0, 0, 0), (.aload_n 1, 1, 1, 0, 0), (.aload_n 0, 1, 0, 0, 0), (.iload_n 3, 1, 3, 0, 0), (.iconst 1, 1, 0, 0, 0), (.iadd, 1, 0, 0, 0), (.iaload, 1, 0, 1, 0), (.invokevirtual 13, 3, 78, 0, 318), (.nop, 0, 0, 0, 0), (.nop, 0, 0, 0, 0), (.aload_n 2, 1, 2, 0, 0), (.aload_n 0, 1, 0, 0, 0), (.iload_n 3, 1, 3, 0, 0), (.iconst 1, 1, 0, 0, 0), (.iadd, 1, 0, 0, 0), (.iaload, 1, 0, 1, 0), (.invokevirtual 17, 3, 126, 0, 907), (.nop, 0, 0, 0, 0), (.nop, 0, 0, 0, 0), (.if_icmp .eq 850, 3, 1032, 0, 0), (.nop, 0, 0, 0, 0), (.nop, 0, 0, 0, 0), (.iconst 0, 1, 0, 0, 0), (.ireturn, 1, 0, 0, 0), (.aload_n 1, 1, 1, 0, 0), (.invokevirtual 18, 3, 79, 0, 330), (.nop, 0, 0, 0, 0), (.nop, 0, 0, 0, 0), (.aload_n 2, 1, 2, 0, 0), (.invokevirtual 22, 3, 134, 0, 916), (.nop, 0, 0, 0, 0), (.nop, 0, 0, 0, 0), (.if_icmp .eq 837, 3, 1032, 0, 0), (.nop, 0, 0, 0, 0), (.nop, 0, 0, 0, 0), (.iconst 0, 1, 0, 0, 0), (.ireturn, 1, 0, 0, 0)]
def qL_law_2 : List pmE := [(.aload_n 1, 1, 1, 0, 0), (.invokevirtual 23, 3, 80, 0, 449), (.nop, 0, 0, 0, 0), (.nop, 0, 0, 0, 0), (.aload_n 2, 1, 2, 0, 0), (.invokevirtual 26, 3, 135, 0, 958), (.nop, 0, 0, 0, 0), (.nop, 0, 0, 0, 0), (.if_icmp .eq 824, 3, 1032, 0, 0), (.nop, 0, 0, 0, 0), (.nop, 0, 0, 0, 0), (.iconst 0, 1, 0, 0, 0), (.ireturn, 1, 0, 0, 0), (.aload_n 1, 1, 1, 0, 0), (.aload_n 0, 1, 0, 0, 0), (.iload_n 3, 1, 3, 0, 0), (.iconst 1, 1, 0, 0, 0), (.iadd, 1, 0, 0, 0), (.iaload, 1, 0, 1, 0), (.aload_n 0, 1, 0, 0, 0), (.iload_n 3, 1, 3, 0, 0), (.iconst 2, 1, 0, 0, 0), (.iadd, 1, 0, 0, 0), (.iaload, 1, 0, 1, 0), (.invokevirtual 27, 3, 81, 0, 464), (.nop, 0, 0, 0, 0), (.nop, 0, 0, 0, 0), (.aload_n 2, 1, 2, 0, 0), (.aload_n 0, 1, 0, 0, 0), (.iload_n 3, 1, 3, 0, 0), (.iconst 1, 1, 0, 0, 0), (.iadd, 1, 0, 0, 0), (.iaload, 1, 0, 1, 0), (.aload_n 0, 1, 0, 0, 0), (.iload_n 3, 1, 3, 0, 0), (.iconst 2, 1, 0, 0, 0), (.iadd, 1, 0, 0, 0), (.iaload, 1, 0, 1, 0), (.invokevirtual 31, 3, 147, 0, 962), (.nop, 0, 0, 0, 0), (.nop, 0, 0, 0, 0), (.if_icmp .eq 791, 3, 1032, 0, 0), (.nop, 0, 0, 0, 0), (.nop, 0, 0, 0, 0), (.iconst 0, 1, 0, 0, 0), (.ireturn, 1, 0, 0, 0), (.aload_n 1, 1, 1, 0, 0), (.aload_n 0, 1, 0, 0, 0), (.iload_n 3, 1, 3, 0, 0), (.iconst 1, 1, 0, 0, 0), (.iadd, 1, 0, 0, 0), (.iaload, 1, 0, 1, 0), (.aload_n 0, 1, 0, 0, 0), (.iload_n 3, 1, 3, 0, 0), (.iconst 2, 1, 0, 0, 0), (.iadd, 1, 0, 0, 0), (.iaload, 1, 0, 1, 0), (.aload_n 0, 1, 0, 0, 0), (.iload_n 3, 1, 3, 0, 0), (.iconst 3, 1, 0, 0, 0), (.iadd, 1, 0, 0, 0), (.iaload, 1, 0, 1, 0), (.invokevirtual 32, 3, 82, 0, 561), (.nop, 0, 0, 0, 0), (.nop, 0, 0, 0, 0), (.aload_n 2, 1, 2, 0, 0), (.aload_n 0, 1, 0, 0, 0), (.iload_n 3, 1, 3, 0, 0), (.iconst 1, 1, 0, 0, 0), (.iadd, 1, 0, 0, 0), (.iaload, 1, 0, 1, 0), (.aload_n 0, 1, 0, 0, 0), (.iload_n 3, 1, 3, 0, 0), (.iconst 2, 1, 0, 0, 0), (.iadd, 1, 0, 0, 0), (.iaload, 1, 0, 1, 0), (.aload_n 0, 1, 0, 0, 0), (.iload_n 3, 1, 3, 0, 0), (.iconst 3, 1, 0, 0, 0), (.iadd, 1, 0, 0, 0), (.iaload, 1, 0, 1, 0), (.invokevirtual 36, 3, 148, 0, 1008), (.nop, 0, 0, 0, 0), (.nop, 0, 0, 0, 0), (.if_icmp .eq 748, 3, 1032, 0, 0), (.nop, 0, 0, 0, 0), (.nop, 0, 0, 0, 0), (.iconst 0, 1, 0, 0, 0), (.ireturn, 1, 0, 0, 0), (.aload_n 1, 1, 1, 0, 0), (.aload_n 0, 1, 0, 0, 0), (.iload_n 3, 1, 3, 0, 0), (.iconst 1, 1, 0, 0, 0), (.iadd, 1, 0, 0, 0), (.iaload, 1, 0, 1, 0), (.aload_n 0, 1, 0, 0, 0), (.iload_n 3, 1, 3, 0, 0), (.iconst 2, 1, 0, 0, 0), (.iadd, 1, 0, 0, 0), (.iaload, 1, 0, 1, 0)]
def qL_law_3 : List pmE := [(.invokevirtual 37, 3, 83, 0, 567), (.nop, 0, 0, 0, 0), (.nop, 0, 0, 0, 0), (.aload_n 2, 1, 2, 0, 0), (.aload_n 0, 1, 0, 0, 0), (.iload_n 3, 1, 3, 0, 0), (.iconst 1, 1, 0, 0, 0), (.iadd, 1, 0, 0, 0), (.iaload, 1, 0, 1, 0), (.aload_n 0, 1, 0, 0, 0), (.iload_n 3, 1, 3, 0, 0), (.iconst 2, 1, 0, 0, 0), (.iadd, 1, 0, 0, 0), (.iaload, 1, 0, 1, 0), (.invokevirtual 40, 3, 150, 0, 1013), (.nop, 0, 0, 0, 0), (.nop, 0, 0, 0, 0), (.if_icmp .eq 715, 3, 1032, 0, 0), (.nop, 0, 0, 0, 0), (.nop, 0, 0, 0, 0), (.iconst 0, 1, 0, 0, 0), (.ireturn, 1, 0, 0, 0), (.aload_n 1, 1, 1, 0, 0), (.aload_n 0, 1, 0, 0, 0), (.iload_n 3, 1, 3, 0, 0), (.iconst 1, 1, 0, 0, 0), (.iadd, 1, 0, 0, 0), (.iaload, 1, 0, 1, 0), (.invokevirtual 41, 3, 84, 0, 572), (.nop, 0, 0, 0, 0), (.nop, 0, 0, 0, 0), (.aload_n 2, 1, 2, 0, 0), (.aload_n 0, 1, 0, 0, 0), (.iload_n 3, 1, 3, 0, 0), (.iconst 1, 1, 0, 0, 0), (.iadd, 1, 0, 0, 0), (.iaload, 1, 0, 1, 0), (.invokevirtual 44, 3, 152, 0, 1021), (.nop, 0, 0, 0, 0), (.nop, 0, 0, 0, 0), (.if_icmp .eq 692, 3, 1032, 0, 0), (.nop, 0, 0, 0, 0), (.nop, 0, 0, 0, 0), (.iconst 0, 1, 0, 0, 0), (.ireturn, 1, 0, 0, 0), (.aload_n 1, 1, 1, 0, 0), (.aload_n 0, 1, 0, 0, 0), (.iload_n 3, 1, 3, 0, 0), (.iconst 1, 1, 0, 0, 0), (.iadd, 1, 0, 0, 0), (.iaload, 1, 0, 1, 0), (.aload_n 0, 1, 0, 0, 0), (.iload_n 3, 1, 3, 0, 0), (.iconst 2, 1, 0, 0, 0), (.iadd, 1, 0, 0, 0), (.iaload, 1, 0, 1, 0), (.invokevirtual 45, 3, 85, 0, 584), (.nop, 0, 0, 0, 0), (.nop, 0, 0, 0, 0), (.aload_n 2, 1, 2, 0, 0), (.aload_n 0, 1, 0, 0, 0), (.iload_n 3, 1, 3, 0, 0), (.iconst 1, 1, 0, 0, 0), (.iadd, 1, 0, 0, 0), (.iaload, 1, 0, 1, 0), (.aload_n 0, 1, 0, 0, 0), (.iload_n 3, 1, 3, 0, 0), (.iconst 2, 1, 0, 0, 0), (.iadd, 1, 0, 0, 0), (.iaload, 1, 0, 1, 0), (.invokevirtual 48, 3, 154, 0, 1029), (.nop, 0, 0, 0, 0), (.nop, 0, 0, 0, 0), (.if_icmp .eq 659, 3, 1032, 0, 0), (.nop, 0, 0, 0, 0), (.nop, 0, 0, 0, 0), (.iconst 0, 1, 0, 0, 0), (.ireturn, 1, 0, 0, 0), (.aload_n 1, 1, 1, 0, 0), (.aload_n 0, 1, 0, 0, 0), (.iload_n 3, 1, 3, 0, 0), (.iconst 1, 1, 0, 0, 0), (.iadd, 1, 0, 0, 0), (.iaload, 1, 0, 1, 0), (.invokevirtual 49, 3, 86, 0, 615), (.nop, 0, 0, 0, 0), (.nop, 0, 0, 0, 0), (.aload_n 2, 1, 2, 0, 0), (.aload_n 0, 1, 0, 0, 0), (.iload_n 3, 1, 3, 0, 0), (.iconst 1, 1, 0, 0, 0), (.iadd, 1, 0, 0, 0), (.iaload, 1, 0, 1, 0), (.invokevirtual 52, 3, 155, 0, 1037), (.nop, 0, 0, 0, 0), (.nop, 0, 0, 0, 0), (.if_icmp .eq 636, 3, 1032, 0, 0), (.nop, 0, 0, 0, 0), (.nop, 0, 0, 0, 0), (.iconst 0, 1, 0, 0, 0)]
def qL_law_4 : List pmE := [(.ireturn, 1, 0, 0, 0), (.aload_n 1, 1, 1, 0, 0), (.aload_n 0, 1, 0, 0, 0), (.iload_n 3, 1, 3, 0, 0), (.iconst 1, 1, 0, 0, 0), (.iadd, 1, 0, 0, 0), (.iaload, 1, 0, 1, 0), (.invokevirtual 53, 3, 87, 0, 619), (.nop, 0, 0, 0, 0), (.nop, 0, 0, 0, 0), (.aload_n 2, 1, 2, 0, 0), (.aload_n 0, 1, 0, 0, 0), (.iload_n 3, 1, 3, 0, 0), (.iconst 1, 1, 0, 0, 0), (.iadd, 1, 0, 0, 0), (.iaload, 1, 0, 1, 0), (.invokevirtual 56, 3, 157, 0, 1041), (.nop, 0, 0, 0, 0), (.nop, 0, 0, 0, 0), (.if_icmp .eq 613, 3, 1032, 0, 0), (.nop, 0, 0, 0, 0), (.nop, 0, 0, 0, 0), (.iconst 0, 1, 0, 0, 0), (.ireturn, 1, 0, 0, 0), (.aload_n 1, 1, 1, 0, 0), (.aload_n 0, 1, 0, 0, 0), (.iload_n 3, 1, 3, 0, 0), (.iconst 1, 1, 0, 0, 0), (.iadd, 1, 0, 0, 0), (.iaload, 1, 0, 1, 0), (.invokevirtual 57, 3, 88, 0, 633), (.nop, 0, 0, 0, 0), (.nop, 0, 0, 0, 0), (.aload_n 2, 1, 2, 0, 0), (.aload_n 0, 1, 0, 0, 0), (.iload_n 3, 1, 3, 0, 0), (.iconst 1, 1, 0, 0, 0), (.iadd, 1, 0, 0, 0), (.iaload, 1, 0, 1, 0), (.invokevirtual 60, 3, 159, 0, 1053), (.nop, 0, 0, 0, 0), (.nop, 0, 0, 0, 0), (.if_icmp .eq 590, 3, 1032, 0, 0), (.nop, 0, 0, 0, 0), (.nop, 0, 0, 0, 0), (.iconst 0, 1, 0, 0, 0), (.ireturn, 1, 0, 0, 0), (.aload_n 1, 1, 1, 0, 0), (.aload_n 0, 1, 0, 0, 0), (.iload_n 3, 1, 3, 0, 0), (.iconst 1, 1, 0, 0, 0), (.iadd, 1, 0, 0, 0), (.iaload, 1, 0, 1, 0), (.invokevirtual 61, 3, 89, 0, 640), (.nop, 0, 0, 0, 0), (.nop, 0, 0, 0, 0), (.aload_n 2, 1, 2, 0, 0), (.aload_n 0, 1, 0, 0, 0), (.iload_n 3, 1, 3, 0, 0), (.iconst 1, 1, 0, 0, 0), (.iadd, 1, 0, 0, 0), (.iaload, 1, 0, 1, 0), (.invokevirtual 64, 3, 160, 0, 1061), (.nop, 0, 0, 0, 0), (.nop, 0, 0, 0, 0), (.if_icmp .eq 567, 3, 1032, 0, 0), (.nop, 0, 0, 0, 0), (.nop, 0, 0, 0, 0), (.iconst 0, 1, 0, 0, 0), (.ireturn, 1, 0, 0, 0), (.aload_n 1, 1, 1, 0, 0), (.invokevirtual 65, 3, 90, 0, 650), (.nop, 0, 0, 0, 0), (.nop, 0, 0, 0, 0), (.aload_n 2, 1, 2, 0, 0), (.invokevirtual 68, 3, 161, 0, 1068), (.nop, 0, 0, 0, 0), (.nop, 0, 0, 0, 0), (.if_icmp .eq 554, 3, 1032, 0, 0), (.nop, 0, 0, 0, 0), (.nop, 0, 0, 0, 0), (.iconst 0, 1, 0, 0, 0), (.ireturn, 1, 0, 0, 0), (.aload_n 1, 1, 1, 0, 0), (.invokevirtual 69, 3, 91, 0, 654), (.nop, 0, 0, 0, 0), (.nop, 0, 0, 0, 0), (.aload_n 2, 1, 2, 0, 0), (.invokevirtual 72, 3, 162, 0, 1072), (.nop, 0, 0, 0, 0), (.nop, 0, 0, 0, 0), (.if_icmp .eq 541, 3, 1032, 0, 0), (.nop, 0, 0, 0, 0), (.nop, 0, 0, 0, 0), (.iconst 0, 1, 0, 0, 0), (.ireturn, 1, 0, 0, 0), (.aload_n 1, 1, 1, 0, 0), (.aload_n 0, 1, 0, 0, 0), (.iload_n 3, 1, 3, 0, 0), (.iconst 1, 1, 0, 0, 0)]
def qL_law_5 : List pmE := [(.iadd, 1, 0, 0, 0), (.iaload, 1, 0, 1, 0), (.aload_n 0, 1, 0, 0, 0), (.iload_n 3, 1, 3, 0, 0), (.iconst 2, 1, 0, 0, 0), (.iadd, 1, 0, 0, 0), (.iaload, 1, 0, 1, 0), (.invokevirtual 73, 3, 92, 0, 666), (.nop, 0, 0, 0, 0), (.nop, 0, 0, 0, 0), (.aload_n 2, 1, 2, 0, 0), (.aload_n 0, 1, 0, 0, 0), (.iload_n 3, 1, 3, 0, 0), (.iconst 1, 1, 0, 0, 0), (.iadd, 1, 0, 0, 0), (.iaload, 1, 0, 1, 0), (.aload_n 0, 1, 0, 0, 0), (.iload_n 3, 1, 3, 0, 0), (.iconst 2, 1, 0, 0, 0), (.iadd, 1, 0, 0, 0), (.iaload, 1, 0, 1, 0), (.invokevirtual 76, 3, 163, 0, 1076), (.nop, 0, 0, 0, 0), (.nop, 0, 0, 0, 0), (.if_icmp .eq 508, 3, 1032, 0, 0), (.nop, 0, 0, 0, 0), (.nop, 0, 0, 0, 0), (.iconst 0, 1, 0, 0, 0), (.ireturn, 1, 0, 0, 0), (.aload_n 1, 1, 1, 0, 0), (.aload_n 0, 1, 0, 0, 0), (.iload_n 3, 1, 3, 0, 0), (.iconst 1, 1, 0, 0, 0), (.iadd, 1, 0, 0, 0), (.iaload, 1, 0, 1, 0), (.invokevirtual 77, 3, 93, 0, 670), (.nop, 0, 0, 0, 0), (.nop, 0, 0, 0, 0), (.aload_n 2, 1, 2, 0, 0), (.aload_n 0, 1, 0, 0, 0), (.iload_n 3, 1, 3, 0, 0), (.iconst 1, 1, 0, 0, 0), (.iadd, 1, 0, 0, 0), (.iaload, 1, 0, 1, 0), (.invokevirtual 80, 3, 164, 0, 1081), (.nop, 0, 0, 0, 0), (.nop, 0, 0, 0, 0), (.if_icmp .eq 485, 3, 1032, 0, 0), (.nop, 0, 0, 0, 0), (.nop, 0, 0, 0, 0), (.iconst 0, 1, 0, 0, 0), (.ireturn, 1, 0, 0, 0), (.aload_n 1, 1, 1, 0, 0), (.aload_n 0, 1, 0, 0, 0), (.iload_n 3, 1, 3, 0, 0), (.iconst 1, 1, 0, 0, 0), (.iadd, 1, 0, 0, 0), (.iaload, 1, 0, 1, 0), (.invokevirtual 81, 3, 94, 0, 674), (.nop, 0, 0, 0, 0), (.nop, 0, 0, 0, 0), (.aload_n 2, 1, 2, 0, 0), (.aload_n 0, 1, 0, 0, 0), (.iload_n 3, 1, 3, 0, 0), (.iconst 1, 1, 0, 0, 0), (.iadd, 1, 0, 0, 0), (.iaload, 1, 0, 1, 0), (.invokevirtual 84, 3, 165, 0, 1085), (.nop, 0, 0, 0, 0), (.nop, 0, 0, 0, 0), (.if_icmp .eq 462, 3, 1032, 0, 0), (.nop, 0, 0, 0, 0), (.nop, 0, 0, 0, 0), (.iconst 0, 1, 0, 0, 0), (.ireturn, 1, 0, 0, 0), (.aload_n 1, 1, 1, 0, 0), (.invokevirtual 85, 3, 95, 0, 678), (.nop, 0, 0, 0, 0), (.nop, 0, 0, 0, 0), (.aload_n 2, 1, 2, 0, 0), (.invokevirtual 88, 3, 167, 0, 1090), (.nop, 0, 0, 0, 0), (.nop, 0, 0, 0, 0), (.if_icmp .eq 449, 3, 1032, 0, 0), (.nop, 0, 0, 0, 0), (.nop, 0, 0, 0, 0), (.iconst 0, 1, 0, 0, 0), (.ireturn, 1, 0, 0, 0), (.aload_n 1, 1, 1, 0, 0), (.aload_n 0, 1, 0, 0, 0), (.iload_n 3, 1, 3, 0, 0), (.iconst 1, 1, 0, 0, 0), (.iadd, 1, 0, 0, 0), (.iaload, 1, 0, 1, 0), (.invokevirtual 89, 3, 96, 0, 687), (.nop, 0, 0, 0, 0), (.nop, 0, 0, 0, 0), (.aload_n 2, 1, 2, 0, 0), (.aload_n 0, 1, 0, 0, 0), (.iload_n 3, 1, 3, 0, 0)]
def qL_law_6 : List pmE := [(.iconst 1, 1, 0, 0, 0), (.iadd, 1, 0, 0, 0), (.iaload, 1, 0, 1, 0), (.invokevirtual 92, 3, 169, 0, 1098), (.nop, 0, 0, 0, 0), (.nop, 0, 0, 0, 0), (.if_icmp .eq 426, 3, 1032, 0, 0), (.nop, 0, 0, 0, 0), (.nop, 0, 0, 0, 0), (.iconst 0, 1, 0, 0, 0), (.ireturn, 1, 0, 0, 0), (.aload_n 1, 1, 1, 0, 0), (.aload_n 0, 1, 0, 0, 0), (.iload_n 3, 1, 3, 0, 0), (.iconst 1, 1, 0, 0, 0), (.iadd, 1, 0, 0, 0), (.iaload, 1, 0, 1, 0), (.invokevirtual 93, 3, 97, 0, 703), (.nop, 0, 0, 0, 0), (.nop, 0, 0, 0, 0), (.aload_n 2, 1, 2, 0, 0), (.aload_n 0, 1, 0, 0, 0), (.iload_n 3, 1, 3, 0, 0), (.iconst 1, 1, 0, 0, 0), (.iadd, 1, 0, 0, 0), (.iaload, 1, 0, 1, 0), (.invokevirtual 96, 3, 170, 0, 1106), (.nop, 0, 0, 0, 0), (.nop, 0, 0, 0, 0), (.if_icmp .eq 403, 3, 1032, 0, 0), (.nop, 0, 0, 0, 0), (.nop, 0, 0, 0, 0), (.iconst 0, 1, 0, 0, 0), (.ireturn, 1, 0, 0, 0), (.aload_n 1, 1, 1, 0, 0), (.aload_n 0, 1, 0, 0, 0), (.iload_n 3, 1, 3, 0, 0), (.iconst 1, 1, 0, 0, 0), (.iadd, 1, 0, 0, 0), (.iaload, 1, 0, 1, 0), (.aload_n 0, 1, 0, 0, 0), (.iload_n 3, 1, 3, 0, 0), (.iconst 2, 1, 0, 0, 0), (.iadd, 1, 0, 0, 0), (.iaload, 1, 0, 1, 0), (.aload_n 0, 1, 0, 0, 0), (.iload_n 3, 1, 3, 0, 0), (.iconst 3, 1, 0, 0, 0), (.iadd, 1, 0, 0, 0), (.iaload, 1, 0, 1, 0), (.invokevirtual 97, 3, 98, 0, 711), (.nop, 0, 0, 0, 0), (.nop, 0, 0, 0, 0), (.aload_n 2, 1, 2, 0, 0), (.aload_n 0, 1, 0, 0, 0), (.iload_n 3, 1, 3, 0, 0), (.iconst 1, 1, 0, 0, 0), (.iadd, 1, 0, 0, 0), (.iaload, 1, 0, 1, 0), (.aload_n 0, 1, 0, 0, 0), (.iload_n 3, 1, 3, 0, 0), (.iconst 2, 1, 0, 0, 0), (.iadd, 1, 0, 0, 0), (.iaload, 1, 0, 1, 0), (.aload_n 0, 1, 0, 0, 0), (.iload_n 3, 1, 3, 0, 0), (.iconst 3, 1, 0, 0, 0), (.iadd, 1, 0, 0, 0), (.iaload, 1, 0, 1, 0), (.invokevirtual 101, 3, 171, 0, 1110), (.nop, 0, 0, 0, 0), (.nop, 0, 0, 0, 0), (.lcmp, 1, 0, 0, 0), (.ifCond .eq 359, 3, 1032, 0, 0), (.nop, 0, 0, 0, 0), (.nop, 0, 0, 0, 0), (.iconst 0, 1, 0, 0, 0), (.ireturn, 1, 0, 0, 0), (.aload_n 1, 1, 1, 0, 0), (.invokevirtual 102, 3, 99, 0, 733), (.nop, 0, 0, 0, 0), (.nop, 0, 0, 0, 0), (.aload_n 2, 1, 2, 0, 0), (.invokevirtual 105, 3, 172, 0, 1117), (.nop, 0, 0, 0, 0), (.nop, 0, 0, 0, 0), (.if_icmp .eq 346, 3, 1032, 0, 0), (.nop, 0, 0, 0, 0), (.nop, 0, 0, 0, 0), (.iconst 0, 1, 0, 0, 0), (.ireturn, 1, 0, 0, 0), (.aload_n 1, 1, 1, 0, 0), (.invokevirtual 106, 3, 100, 0, 746), (.nop, 0, 0, 0, 0), (.nop, 0, 0, 0, 0), (.aload_n 2, 1, 2, 0, 0), (.invokevirtual 109, 3, 173, 0, 1121), (.nop, 0, 0, 0, 0), (.nop, 0, 0, 0, 0), (.if_icmp .eq 333, 3, 1032, 0, 0)]
def qL_law_7 : List pmE := [(.nop, 0, 0, 0, 0), (.nop, 0, 0, 0, 0), (.iconst 0, 1, 0, 0, 0), (.ireturn, 1, 0, 0, 0), (.aload_n 1, 1, 1, 0, 0), (.aload_n 0, 1, 0, 0, 0), (.iload_n 3, 1, 3, 0, 0), (.iconst 1, 1, 0, 0, 0), (.iadd, 1, 0, 0, 0), (.iaload, 1, 0, 1, 0), (.aload_n 0, 1, 0, 0, 0), (.iload_n 3, 1, 3, 0, 0), (.iconst 2, 1, 0, 0, 0), (.iadd, 1, 0, 0, 0), (.iaload, 1, 0, 1, 0), (.aload_n 0, 1, 0, 0, 0), (.iload_n 3, 1, 3, 0, 0), (.iconst 3, 1, 0, 0, 0), (.iadd, 1, 0, 0, 0), (.iaload, 1, 0, 1, 0), (.aload_n 0, 1, 0, 0, 0), (.iload_n 3, 1, 3, 0, 0), (.iconst 4, 1, 0, 0, 0), (.iadd, 1, 0, 0, 0), (.iaload, 1, 0, 1, 0), (.aload_n 0, 1, 0, 0, 0), (.iload_n 3, 1, 3, 0, 0), (.iconst 5, 1, 0, 0, 0), (.iadd, 1, 0, 0, 0), (.iaload, 1, 0, 1, 0), (.invokevirtual 110, 3, 101, 0, 750), (.nop, 0, 0, 0, 0), (.nop, 0, 0, 0, 0), (.aload_n 2, 1, 2, 0, 0), (.aload_n 0, 1, 0, 0, 0), (.iload_n 3, 1, 3, 0, 0), (.iconst 1, 1, 0, 0, 0), (.iadd, 1, 0, 0, 0), (.iaload, 1, 0, 1, 0), (.aload_n 0, 1, 0, 0, 0), (.iload_n 3, 1, 3, 0, 0), (.iconst 2, 1, 0, 0, 0), (.iadd, 1, 0, 0, 0), (.iaload, 1, 0, 1, 0), (.aload_n 0, 1, 0, 0, 0), (.iload_n 3, 1, 3, 0, 0), (.iconst 3, 1, 0, 0, 0), (.iadd, 1, 0, 0, 0), (.iaload, 1, 0, 1, 0), (.aload_n 0, 1, 0, 0, 0), (.iload_n 3, 1, 3, 0, 0), (.iconst 4, 1, 0, 0, 0), (.iadd, 1, 0, 0, 0), (.iaload, 1, 0, 1, 0), (.aload_n 0, 1, 0, 0, 0), (.iload_n 3, 1, 3, 0, 0), (.iconst 5, 1, 0, 0, 0), (.iadd, 1, 0, 0, 0), (.iaload, 1, 0, 1, 0), (.invokevirtual 114, 3, 178, 0, 1125), (.nop, 0, 0, 0, 0), (.nop, 0, 0, 0, 0), (.if_icmp .eq 270, 3, 1032, 0, 0), (.nop, 0, 0, 0, 0), (.nop, 0, 0, 0, 0), (.iconst 0, 1, 0, 0, 0), (.ireturn, 1, 0, 0, 0), (.aload_n 1, 1, 1, 0, 0), (.aload_n 0, 1, 0, 0, 0), (.iload_n 3, 1, 3, 0, 0), (.iconst 1, 1, 0, 0, 0), (.iadd, 1, 0, 0, 0), (.iaload, 1, 0, 1, 0), (.aload_n 0, 1, 0, 0, 0), (.iload_n 3, 1, 3, 0, 0), (.iconst 2, 1, 0, 0, 0), (.iadd, 1, 0, 0, 0), (.iaload, 1, 0, 1, 0), (.aload_n 0, 1, 0, 0, 0), (.iload_n 3, 1, 3, 0, 0), (.iconst 3, 1, 0, 0, 0), (.iadd, 1, 0, 0, 0), (.iaload, 1, 0, 1, 0), (.aload_n 0, 1, 0, 0, 0), (.iload_n 3, 1, 3, 0, 0), (.iconst 4, 1, 0, 0, 0), (.iadd, 1, 0, 0, 0), (.iaload, 1, 0, 1, 0), (.invokevirtual 115, 3, 102, 0, 775), (.nop, 0, 0, 0, 0), (.nop, 0, 0, 0, 0), (.aload_n 2, 1, 2, 0, 0), (.aload_n 0, 1, 0, 0, 0), (.iload_n 3, 1, 3, 0, 0), (.iconst 1, 1, 0, 0, 0), (.iadd, 1, 0, 0, 0), (.iaload, 1, 0, 1, 0), (.aload_n 0, 1, 0, 0, 0), (.iload_n 3, 1, 3, 0, 0), (.iconst 2, 1, 0, 0, 0)]
def qL_law_8 : List pmE := [(.iadd, 1, 0, 0, 0), (.iaload, 1, 0, 1, 0), (.aload_n 0, 1, 0, 0, 0), (.iload_n 3, 1, 3, 0, 0), (.iconst 3, 1, 0, 0, 0), (.iadd, 1, 0, 0, 0), (.iaload, 1, 0, 1, 0), (.aload_n 0, 1, 0, 0, 0), (.iload_n 3, 1, 3, 0, 0), (.iconst 4, 1, 0, 0, 0), (.iadd, 1, 0, 0, 0), (.iaload, 1, 0, 1, 0), (.invokevirtual 119, 3, 179, 0, 1140), (.nop, 0, 0, 0, 0), (.nop, 0, 0, 0, 0), (.if_icmp .eq 217, 3, 1032, 0, 0), (.nop, 0, 0, 0, 0), (.nop, 0, 0, 0, 0), (.iconst 0, 1, 0, 0, 0), (.ireturn, 1, 0, 0, 0), (.aload_n 1, 1, 1, 0, 0), (.aload_n 0, 1, 0, 0, 0), (.iload_n 3, 1, 3, 0, 0), (.iconst 1, 1, 0, 0, 0), (.iadd, 1, 0, 0, 0), (.iaload, 1, 0, 1, 0), (.aload_n 0, 1, 0, 0, 0), (.iload_n 3, 1, 3, 0, 0), (.iconst 2, 1, 0, 0, 0), (.iadd, 1, 0, 0, 0), (.iaload, 1, 0, 1, 0), (.aload_n 0, 1, 0, 0, 0), (.iload_n 3, 1, 3, 0, 0), (.iconst 3, 1, 0, 0, 0), (.iadd, 1, 0, 0, 0), (.iaload, 1, 0, 1, 0), (.invokevirtual 120, 3, 103, 0, 787), (.nop, 0, 0, 0, 0), (.nop, 0, 0, 0, 0), (.aload_n 2, 1, 2, 0, 0), (.aload_n 0, 1, 0, 0, 0), (.iload_n 3, 1, 3, 0, 0), (.iconst 1, 1, 0, 0, 0), (.iadd, 1, 0, 0, 0), (.iaload, 1, 0, 1, 0), (.aload_n 0, 1, 0, 0, 0), (.iload_n 3, 1, 3, 0, 0), (.iconst 2, 1, 0, 0, 0), (.iadd, 1, 0, 0, 0), (.iaload, 1, 0, 1, 0), (.aload_n 0, 1, 0, 0, 0), (.iload_n 3, 1, 3, 0, 0), (.iconst 3, 1, 0, 0, 0), (.iadd, 1, 0, 0, 0), (.iaload, 1, 0, 1, 0), (.invokevirtual 123, 3, 180, 0, 1144), (.nop, 0, 0, 0, 0), (.nop, 0, 0, 0, 0), (.if_icmp .eq 174, 3, 1032, 0, 0), (.nop, 0, 0, 0, 0), (.nop, 0, 0, 0, 0), (.iconst 0, 1, 0, 0, 0), (.ireturn, 1, 0, 0, 0), (.aload_n 1, 1, 1, 0, 0), (.aload_n 0, 1, 0, 0, 0), (.iload_n 3, 1, 3, 0, 0), (.iconst 1, 1, 0, 0, 0), (.iadd, 1, 0, 0, 0), (.iaload, 1, 0, 1, 0), (.invokevirtual 124, 3, 104, 0, 798), (.nop, 0, 0, 0, 0), (.nop, 0, 0, 0, 0), (.aload_n 2, 1, 2, 0, 0), (.aload_n 0, 1, 0, 0, 0), (.iload_n 3, 1, 3, 0, 0), (.iconst 1, 1, 0, 0, 0), (.iadd, 1, 0, 0, 0), (.iaload, 1, 0, 1, 0), (.invokevirtual 127, 3, 181, 0, 1148), (.nop, 0, 0, 0, 0), (.nop, 0, 0, 0, 0), (.if_icmp .eq 151, 3, 1032, 0, 0), (.nop, 0, 0, 0, 0), (.nop, 0, 0, 0, 0), (.iconst 0, 1, 0, 0, 0), (.ireturn, 1, 0, 0, 0), (.aload_n 1, 1, 1, 0, 0), (.aload_n 0, 1, 0, 0, 0), (.iload_n 3, 1, 3, 0, 0), (.iconst 1, 1, 0, 0, 0), (.iadd, 1, 0, 0, 0), (.iaload, 1, 0, 1, 0), (.aload_n 0, 1, 0, 0, 0), (.iload_n 3, 1, 3, 0, 0), (.iconst 2, 1, 0, 0, 0), (.iadd, 1, 0, 0, 0), (.iaload, 1, 0, 1, 0), (.aload_n 0, 1, 0, 0, 0), (.iload_n 3, 1, 3, 0, 0), (.iconst 3, 1, 0, 0, 0)]
def qL_law_9 : List pmE := [(.iadd, 1, 0, 0, 0), (.iaload, 1, 0, 1, 0), (.aload_n 0, 1, 0, 0, 0), (.iload_n 3, 1, 3, 0, 0), (.iconst 4, 1, 0, 0, 0), (.iadd, 1, 0, 0, 0), (.iaload, 1, 0, 1, 0), (.i2l, 1, 0, 0, 0), (.bipush 32, 2, 0, 0, 0), (.nop, 0, 0, 0, 0), (.lshl, 1, 0, 0, 0), (.aload_n 0, 1, 0, 0, 0), (.iload_n 3, 1, 3, 0, 0), (.iconst 5, 1, 0, 0, 0), (.iadd, 1, 0, 0, 0), (.iaload, 1, 0, 1, 0), (.i2l, 1, 0, 0, 0), (.ldc2_w 128, 3, 4294967295, 0, 1163), (.nop, 0, 0, 0, 0), (.nop, 0, 0, 0, 0), (.land, 1, 0, 0, 0), (.lor, 1, 0, 0, 0), (.invokevirtual 130, 3, 105, 0, 802), (.nop, 0, 0, 0, 0), (.nop, 0, 0, 0, 0), (.aload_n 2, 1, 2, 0, 0), (.aload_n 0, 1, 0, 0, 0), (.iload_n 3, 1, 3, 0, 0), (.iconst 1, 1, 0, 0, 0), (.iadd, 1, 0, 0, 0), (.iaload, 1, 0, 1, 0), (.aload_n 0, 1, 0, 0, 0), (.iload_n 3, 1, 3, 0, 0), (.iconst 2, 1, 0, 0, 0), (.iadd, 1, 0, 0, 0), (.iaload, 1, 0, 1, 0), (.aload_n 0, 1, 0, 0, 0), (.iload_n 3, 1, 3, 0, 0), (.iconst 3, 1, 0, 0, 0), (.iadd, 1, 0, 0, 0), (.iaload, 1, 0, 1, 0), (.aload_n 0, 1, 0, 0, 0), (.iload_n 3, 1, 3, 0, 0), (.iconst 4, 1, 0, 0, 0), (.iadd, 1, 0, 0, 0), (.iaload, 1, 0, 1, 0), (.i2l, 1, 0, 0, 0), (.bipush 32, 2, 0, 0, 0), (.nop, 0, 0, 0, 0), (.lshl, 1, 0, 0, 0), (.aload_n 0, 1, 0, 0, 0), (.iload_n 3, 1, 3, 0, 0), (.iconst 5, 1, 0, 0, 0), (.iadd, 1, 0, 0, 0), (.iaload, 1, 0, 1, 0), (.i2l, 1, 0, 0, 0), (.ldc2_w 128, 3, 4294967295, 0, 1163), (.nop, 0, 0, 0, 0), (.nop, 0, 0, 0, 0), (.land, 1, 0, 0, 0), (.lor, 1, 0, 0, 0), (.invokevirtual 134, 3, 182, 0, 1152), (.nop, 0, 0, 0, 0), (.nop, 0, 0, 0, 0), (.if_icmp .eq 68, 3, 1032, 0, 0), (.nop, 0, 0, 0, 0), (.nop, 0, 0, 0, 0), (.iconst 0, 1, 0, 0, 0), (.ireturn, 1, 0, 0, 0), (.aload_n 1, 1, 1, 0, 0), (.aload_n 0, 1, 0, 0, 0), (.iload_n 3, 1, 3, 0, 0), (.iconst 1, 1, 0, 0, 0), (.iadd, 1, 0, 0, 0), (.iaload, 1, 0, 1, 0), (.aload_n 0, 1, 0, 0, 0), (.iload_n 3, 1, 3, 0, 0), (.iconst 2, 1, 0, 0, 0), (.iadd, 1, 0, 0, 0), (.iaload, 1, 0, 1, 0), (.aload_n 0, 1, 0, 0, 0), (.iload_n 3, 1, 3, 0, 0), (.iconst 3, 1, 0, 0, 0), (.iadd, 1, 0, 0, 0), (.iaload, 1, 0, 1, 0), (.aload_n 0, 1, 0, 0, 0), (.iload_n 3, 1, 3, 0, 0), (.iconst 4, 1, 0, 0, 0), (.iadd, 1, 0, 0, 0), (.iaload, 1, 0, 1, 0), (.aload_n 0, 1, 0, 0, 0), (.iload_n 3, 1, 3, 0, 0), (.iconst 5, 1, 0, 0, 0), (.iadd, 1, 0, 0, 0), (.iaload, 1, 0, 1, 0), (.invokevirtual 135, 3, 106, 0, 806), (.nop, 0, 0, 0, 0), (.nop, 0, 0, 0, 0), (.aload_n 2, 1, 2, 0, 0), (.aload_n 0, 1, 0, 0, 0)]
def qL_law_10 : List pmE := [(.iload_n 3, 1, 3, 0, 0), (.iconst 1, 1, 0, 0, 0), (.iadd, 1, 0, 0, 0), (.iaload, 1, 0, 1, 0), (.aload_n 0, 1, 0, 0, 0), (.iload_n 3, 1, 3, 0, 0), (.iconst 2, 1, 0, 0, 0), (.iadd, 1, 0, 0, 0), (.iaload, 1, 0, 1, 0), (.aload_n 0, 1, 0, 0, 0), (.iload_n 3, 1, 3, 0, 0), (.iconst 3, 1, 0, 0, 0), (.iadd, 1, 0, 0, 0), (.iaload, 1, 0, 1, 0), (.aload_n 0, 1, 0, 0, 0), (.iload_n 3, 1, 3, 0, 0), (.iconst 4, 1, 0, 0, 0), (.iadd, 1, 0, 0, 0), (.iaload, 1, 0, 1, 0), (.aload_n 0, 1, 0, 0, 0), (.iload_n 3, 1, 3, 0, 0), (.iconst 5, 1, 0, 0, 0), (.iadd, 1, 0, 0, 0), (.iaload, 1, 0, 1, 0), (.invokevirtual 138, 3, 183, 0, 1159), (.nop, 0, 0, 0, 0), (.nop, 0, 0, 0, 0), (.if_icmp .eq 5, 3, 1032, 0, 0), (.nop, 0, 0, 0, 0), (.nop, 0, 0, 0, 0), (.iconst 0, 1, 0, 0, 0), (.ireturn, 1, 0, 0, 0), (.iinc 3 6, 3, 3, 0, 0), (.nop, 0, 0, 0, 0), (.nop, 0, 0, 0, 0), (.goto (-1017), 3, 18, 0, 0), (.nop, 0, 0, 0, 0), (.nop, 0, 0, 0, 0), (.iconst 1, 1, 0, 0, 0), (.ireturn, 1, 0, 0, 0)]
def qL_law : List pmE := qL_law_0 ++ qL_law_1 ++ qL_law_2 ++ qL_law_3 ++ qL_law_4 ++ qL_law_5 ++ qL_law_6 ++ qL_law_7 ++ qL_law_8 ++ qL_law_9 ++ qL_law_10
abbrev mL_law : Nat := 189
def pmQ : List (List pmE) := [qX0_init, qX0_size, qX0_has, qX0_all, qX0_get, qX0_clear, qX0_grow, qX0_takeFrom, qX1_init, qX1_size, qX1_clear, qX1_moment, qX1_add, qX1_giveBack, qX1_takeFrom, qX2_init, qX2_size, qX2_clear, qX2_add, qX2_takeFrom, qX3_init, qX3_takeFrom, qX4_init, qX4_size, qX4_most, qX4_get, qX4_set, qX4_addTo, qX4_add, qX4_clear, qX4_fill, qX4_takeFrom, qX4_isSame, qX4_sum, qX5_init, qX5_takeFrom, qX5_given, qX5_stands, qX5_wantsEnd, qX6_init, qX6_begin, qX6_refusal, qX6_holds, qX6_tells, qX6_write, qX6_lowestBits, qX7_init, qX7_begin, qX7_addRule, qX7_remember, qX7_goBack, qX7_takeFrom, qX8_init, qX8_rewind, qX8_next, qX8_takes, qX8_fault, qX8_readLetters, qX8_readRule, qX8_readRules, qX8_kindOf, qX9_init, qX9_prepare, qX9_prepareAs, qX9_putInOrder, qX9_takeKinds, qX9_findStanding, qX9_standing, qX9_go, qX9_lengthBy, qX9_sureOf, qX9_ruleUsed, qX9_firstPossible, qX9_standsInOpen, qX9_give, qX9_leftOf, qX9_lengthGone, qX10_init, qX10_type, qX10_job, qX10_rule, qX10_of, qX10_spelt, qX10_at, qX10_count, qX10_change, qX10_turn, qX10_pass, qX10_pile, qX10_put, qX10_passPile, qX10_undo, qX10_comes, qX10_used, qX10_went, qX10_rest, qX10_sure, qX10_lean, qX10_longOdds, qX10_image, qX10_restore, qX10_came, qX10_film, qX10_sheet, qX10_drop, qX10_item, qX10_copy, qX10_whatComes, qX10_usesOf, qX10_idleRules, qX10_goThrough, qX10_tallyShortOnes, qX10_power, qX10_commonDivisor, qX10_isWithin, qX10_isLaneOfSheet, qX10_isWordLetter, qX10_isLetter, qX10_isOfSort, qX11_init, qX11_in, qX11_has, qX11_bits, qX11_copies, qX11_isSmall, qX11_isLetter, qX11_type, qX11_here, qX11_kindOf, qX11_takes, qX11_takesLetters, qX11_readsRule, qX11_readsJob, qX11_fault, qX11_job, qX11_rule, qX11_kindsAsTold, qX11_hasPhrase, qX11_isSmallAt, qX11_stands, qX11_givenBy, qX11_comesIn, qX11_ruleAt, qX11_goesOver, qX11_comesNow, qX11_becomes, qX11_isRule, qX11_of, qX11_spelt, qX11_isPlace, qX11_at, qX11_idle, qX11_count, qX11_notes, qX11_change, qX11_turn, qX11_passes, qX11_pass, qX11_isOfSort, qX11_pile, qX11_put, qX11_passPile, qX11_undo, qX11_comes, qX11_used, qX11_went, qX11_isSameLine, qX11_rest, qX11_sureOf, qX11_sure, qX11_lean, qX11_longOdds, qX11_image, qX11_restore, qX11_isSheet, qX11_isLane, qX11_finds, qX11_cut, qX11_came, qX11_film, qX11_sheet, qX11_drop, qX11_item, qX11_copy, qJ6_bitCount_0f7a4, qJ9_floorMod_7cf53, qJ9_max_7cf53, qJ9_min_7cf53, qJ7_fill_d0a16, qL_law]
/-- a method: its name, its bytes, its locals, its answer's type, how many values it takes, its class, that class's number, its kind (1 static, 2 a constructor), the room it wants (frames, words) -/
abbrev pmI : Type := MethodName × ByteArray × Nat × Option FieldType × Nat × String × Nat × Nat × Nat × Nat
def pmP : List pmI := [(yX0_init, cX0_init, 2, none, 1, RX0, 0, 2, 3, 62),
  (yX0_size, cX0_size, 1, (some .int), 1, RX0, 0, 0, 0, 0),
  (yX0_has, cX0_has, 2, (some .boolean), 2, RX0, 0, 0, 1, 21),
  (yX0_all, cX0_all, 1, (some .int), 1, RX0, 0, 0, 0, 0),
  (yX0_get, cX0_get, 2, (some (.object "PhraseSwaps$Rule")), 2, RX0, 0, 0, 1, 21),
  (yX0_clear, cX0_clear, 1, none, 1, RX0, 0, 0, 0, 0),
  (yX0_grow, cX0_grow, 1, (some .boolean), 1, RX0, 0, 0, 0, 0),
  (yX0_takeFrom, cX0_takeFrom, 3, none, 2, RX0, 0, 0, 3, 69),
  (yX1_init, cX1_init, 2, none, 1, RX1, 1, 2, 4, 83),
  (yX1_size, cX1_size, 1, (some .int), 1, RX1, 1, 0, 0, 0),
  (yX1_clear, cX1_clear, 1, none, 1, RX1, 1, 0, 0, 0),
  (yX1_moment, cX1_moment, 2, (some (.object "PhraseSwaps$Moment")), 2, RX1, 1, 0, 1, 22),
  (yX1_add, cX1_add, 2, none, 2, RX1, 1, 0, 4, 90),
  (yX1_giveBack, cX1_giveBack, 2, (some .boolean), 2, RX1, 1, 0, 4, 90),
  (yX1_takeFrom, cX1_takeFrom, 3, none, 2, RX1, 1, 0, 4, 90),
  (yX2_init, cX2_init, 2, none, 2, RX2, 2, 2, 2, 42),
  (yX2_size, cX2_size, 1, (some .int), 1, RX2, 2, 0, 1, 20),
  (yX2_clear, cX2_clear, 1, none, 1, RX2, 2, 0, 1, 20),
  (yX2_add, cX2_add, 3, none, 3, RX2, 2, 0, 1, 21),
  (yX2_takeFrom, cX2_takeFrom, 2, none, 2, RX2, 2, 0, 2, 48),
  (yX3_init, cX3_init, 1, none, 1, RX3, 3, 2, 3, 63),
  (yX3_takeFrom, cX3_takeFrom, 2, none, 2, RX3, 3, 0, 3, 69),
  (yX4_init, cX4_init, 2, none, 2, RX4, 4, 2, 1, 21),
  (yX4_size, cX4_size, 1, (some .int), 1, RX4, 4, 0, 0, 0),
  (yX4_most, cX4_most, 1, (some .int), 1, RX4, 4, 0, 0, 0),
  (yX4_get, cX4_get, 2, (some .int), 2, RX4, 4, 0, 0, 0),
  (yX4_set, cX4_set, 3, none, 3, RX4, 4, 0, 0, 0),
  (yX4_addTo, cX4_addTo, 3, none, 3, RX4, 4, 0, 1, 22),
  (yX4_add, cX4_add, 2, (some .boolean), 2, RX4, 4, 0, 0, 0),
  (yX4_clear, cX4_clear, 1, none, 1, RX4, 4, 0, 0, 0),
  (yX4_fill, cX4_fill, 4, none, 3, RX4, 4, 0, 1, 21),
  (yX4_takeFrom, cX4_takeFrom, 3, none, 2, RX4, 4, 0, 1, 26),
  (yX4_isSame, cX4_isSame, 3, (some .boolean), 2, RX4, 4, 0, 1, 21),
  (yX4_sum, cX4_sum, 3, (some .int), 1, RX4, 4, 0, 1, 21),
  (yX5_init, cX5_init, 1, none, 1, RX5, 5, 2, 2, 42),
  (yX5_takeFrom, cX5_takeFrom, 2, none, 2, RX5, 5, 0, 2, 48),
  (yX5_given, cX5_given, 3, (some .int), 3, RX5, 5, 0, 1, 21),
  (yX5_stands, cX5_stands, 9, (some .int), 6, RX5, 5, 0, 1, 21),
  (yX5_wantsEnd, cX5_wantsEnd, 1, (some .boolean), 1, RX5, 5, 1, 0, 0),
  (yX6_init, cX6_init, 1, none, 1, RX6, 6, 2, 1, 20),
  (yX6_begin, cX6_begin, 3, none, 3, RX6, 6, 0, 1, 24),
  (yX6_refusal, cX6_refusal, 4, (some .int), 4, RX6, 6, 0, 1, 22),
  (yX6_holds, cX6_holds, 3, (some .boolean), 3, RX6, 6, 0, 0, 0),
  (yX6_tells, cX6_tells, 5, (some .boolean), 4, RX6, 6, 0, 1, 22),
  (yX6_write, cX6_write, 4, none, 3, RX6, 6, 0, 1, 22),
  (yX6_lowestBits, cX6_lowestBits, 3, (some .long), 2, RX6, 6, 0, 0, 0),
  (yX7_init, cX7_init, 1, none, 1, RX7, 7, 2, 5, 104),
  (yX7_begin, cX7_begin, 4, none, 3, RX7, 7, 0, 4, 91),
  (yX7_addRule, cX7_addRule, 3, (some .boolean), 2, RX7, 7, 0, 3, 69),
  (yX7_remember, cX7_remember, 1, none, 1, RX7, 7, 0, 5, 111),
  (yX7_goBack, cX7_goBack, 1, (some .boolean), 1, RX7, 7, 0, 5, 111),
  (yX7_takeFrom, cX7_takeFrom, 2, none, 2, RX7, 7, 0, 5, 112),
  (yX8_init, cX8_init, 1, none, 1, RX8, 8, 2, 2, 42),
  (yX8_rewind, cX8_rewind, 1, none, 1, RX8, 8, 0, 0, 0),
  (yX8_next, cX8_next, 1, (some .int), 1, RX8, 8, 0, 1, 21),
  (yX8_takes, cX8_takes, 2, (some .boolean), 2, RX8, 8, 0, 2, 41),
  (yX8_fault, cX8_fault, 1, (some .int), 1, RX8, 8, 0, 2, 41),
  (yX8_readLetters, cX8_readLetters, 3, none, 2, RX8, 8, 0, 2, 41),
  (yX8_readRule, cX8_readRule, 3, (some .boolean), 2, RX8, 8, 0, 3, 63),
  (yX8_readRules, cX8_readRules, 3, (some .boolean), 2, RX8, 8, 0, 4, 85),
  (yX8_kindOf, cX8_kindOf, 1, (some .int), 1, RX8, 8, 1, 0, 0),
  (yX9_init, cX9_init, 2, none, 2, RX9, 9, 2, 3, 63),
  (yX9_prepare, cX9_prepare, 2, none, 2, RX9, 9, 0, 3, 73),
  (yX9_prepareAs, cX9_prepareAs, 4, none, 4, RX9, 9, 0, 3, 73),
  (yX9_putInOrder, cX9_putInOrder, 3, none, 1, RX9, 9, 0, 2, 42),
  (yX9_takeKinds, cX9_takeKinds, 2, none, 1, RX9, 9, 0, 2, 42),
  (yX9_findStanding, cX9_findStanding, 5, none, 2, RX9, 9, 0, 2, 49),
  (yX9_standing, cX9_standing, 3, (some .int), 1, RX9, 9, 0, 1, 21),
  (yX9_go, cX9_go, 7, none, 3, RX9, 9, 0, 3, 67),
  (yX9_lengthBy, cX9_lengthBy, 8, (some .int), 3, RX9, 9, 0, 3, 63),
  (yX9_sureOf, cX9_sureOf, 8, (some .int), 4, RX9, 9, 0, 4, 99),
  (yX9_ruleUsed, cX9_ruleUsed, 5, (some .int), 3, RX9, 9, 0, 1, 21),
  (yX9_firstPossible, cX9_firstPossible, 7, (some .int), 5, RX9, 9, 0, 3, 73),
  (yX9_standsInOpen, cX9_standsInOpen, 5, (some .int), 5, RX9, 9, 0, 2, 49),
  (yX9_give, cX9_give, 5, none, 3, RX9, 9, 0, 2, 43),
  (yX9_leftOf, cX9_leftOf, 3, (some .int), 3, RX9, 9, 0, 1, 21),
  (yX9_lengthGone, cX9_lengthGone, 2, (some .int), 2, RX9, 9, 0, 2, 42),
  (yX10_init, cX10_init, 2, none, 1, RX10, 10, 2, 6, 124),
  (yX10_type, cX10_type, 2, (some .int), 2, RX10, 10, 0, 1, 21),
  (yX10_job, cX10_job, 3, (some .int), 1, RX10, 10, 0, 5, 114),
  (yX10_rule, cX10_rule, 4, (some .int), 1, RX10, 10, 0, 4, 91),
  (yX10_of, cX10_of, 4, (some .int), 3, RX10, 10, 0, 6, 135),
  (yX10_spelt, cX10_spelt, 6, (some .int), 4, RX10, 10, 0, 2, 43),
  (yX10_at, cX10_at, 4, (some .int), 3, RX10, 10, 0, 2, 40),
  (yX10_count, cX10_count, 2, (some .int), 2, RX10, 10, 0, 6, 136),
  (yX10_change, cX10_change, 5, (some .int), 3, RX10, 10, 0, 6, 131),
  (yX10_turn, cX10_turn, 2, (some .int), 2, RX10, 10, 0, 6, 131),
  (yX10_pass, cX10_pass, 2, (some .int), 2, RX10, 10, 0, 7, 153),
  (yX10_pile, cX10_pile, 4, (some .int), 2, RX10, 10, 0, 2, 42),
  (yX10_put, cX10_put, 2, (some .int), 2, RX10, 10, 0, 2, 42),
  (yX10_passPile, cX10_passPile, 1, (some .int), 1, RX10, 10, 0, 7, 153),
  (yX10_undo, cX10_undo, 1, (some .int), 1, RX10, 10, 0, 6, 131),
  (yX10_comes, cX10_comes, 4, (some .int), 3, RX10, 10, 0, 5, 114),
  (yX10_used, cX10_used, 2, (some .int), 2, RX10, 10, 0, 5, 114),
  (yX10_went, cX10_went, 4, (some .int), 2, RX10, 10, 0, 5, 114),
  (yX10_rest, cX10_rest, 2, (some .int), 1, RX10, 10, 0, 4, 94),
  (yX10_sure, cX10_sure, 3, (some .int), 2, RX10, 10, 0, 5, 126),
  (yX10_lean, cX10_lean, 8, (some .int), 2, RX10, 10, 0, 4, 94),
  (yX10_longOdds, cX10_longOdds, 12, (some .long), 4, RX10, 10, 0, 5, 115),
  (yX10_image, cX10_image, 1, (some .int), 1, RX10, 10, 0, 6, 133),
  (yX10_restore, cX10_restore, 1, (some .int), 1, RX10, 10, 0, 6, 133),
  (yX10_came, cX10_came, 11, (some .int), 6, RX10, 10, 0, 4, 96),
  (yX10_film, cX10_film, 9, (some .int), 5, RX10, 10, 0, 5, 114),
  (yX10_sheet, cX10_sheet, 4, (some .int), 4, RX10, 10, 0, 2, 46),
  (yX10_drop, cX10_drop, 3, (some .int), 2, RX10, 10, 0, 1, 21),
  (yX10_item, cX10_item, 7, (some .int), 5, RX10, 10, 0, 2, 45),
  (yX10_copy, cX10_copy, 8, (some .int), 6, RX10, 10, 0, 1, 26),
  (yX10_whatComes, cX10_whatComes, 1, (some (.object "PhraseSwaps$Line")), 1, RX10, 10, 0, 4, 94),
  (yX10_usesOf, cX10_usesOf, 2, (some .int), 2, RX10, 10, 0, 5, 114),
  (yX10_idleRules, cX10_idleRules, 3, (some .int), 1, RX10, 10, 0, 5, 114),
  (yX10_goThrough, cX10_goThrough, 3, (some .int), 2, RX10, 10, 0, 6, 131),
  (yX10_tallyShortOnes, cX10_tallyShortOnes, 6, none, 3, RX10, 10, 0, 4, 90),
  (yX10_power, cX10_power, 6, (some .long), 2, RX10, 10, 1, 0, 0),
  (yX10_commonDivisor, cX10_commonDivisor, 11, (some .long), 2, RX10, 10, 1, 0, 0),
  (yX10_isWithin, cX10_isWithin, 2, (some .boolean), 2, RX10, 10, 1, 0, 0),
  (yX10_isLaneOfSheet, cX10_isLaneOfSheet, 2, (some .boolean), 2, RX10, 10, 1, 1, 21),
  (yX10_isWordLetter, cX10_isWordLetter, 1, (some .boolean), 1, RX10, 10, 1, 0, 0),
  (yX10_isLetter, cX10_isLetter, 1, (some .boolean), 1, RX10, 10, 1, 1, 20),
  (yX10_isOfSort, cX10_isOfSort, 2, (some .boolean), 2, RX10, 10, 1, 0, 0),
  (yX11_init, cX11_init, 1, none, 1, RX11, 11, 2, 1, 20),
  (yX11_in, cX11_in, 6, (some .boolean), 3, RX11, 11, 1, 0, 0),
  (yX11_has, cX11_has, 2, (some .boolean), 2, RX11, 11, 1, 0, 0),
  (yX11_bits, cX11_bits, 3, (some .int), 1, RX11, 11, 1, 0, 0),
  (yX11_copies, cX11_copies, 4, none, 3, RX11, 11, 1, 0, 0),
  (yX11_isSmall, cX11_isSmall, 1, (some .boolean), 1, RX11, 11, 1, 1, 25),
  (yX11_isLetter, cX11_isLetter, 1, (some .boolean), 1, RX11, 11, 1, 2, 45),
  (yX11_type, cX11_type, 2, (some .int), 2, RX11, 11, 0, 1, 25),
  (yX11_here, cX11_here, 1, (some .int), 1, RX11, 11, 0, 0, 0),
  (yX11_kindOf, cX11_kindOf, 1, (some .int), 1, RX11, 11, 1, 0, 0),
  (yX11_takes, cX11_takes, 3, (some .boolean), 2, RX11, 11, 0, 1, 20),
  (yX11_takesLetters, cX11_takesLetters, 5, (some .int), 4, RX11, 11, 0, 3, 65),
  (yX11_readsRule, cX11_readsRule, 3, (some .boolean), 1, RX11, 11, 0, 4, 89),
  (yX11_readsJob, cX11_readsJob, 1, (some .boolean), 1, RX11, 11, 0, 5, 111),
  (yX11_fault, cX11_fault, 2, (some .int), 1, RX11, 11, 0, 1, 20),
  (yX11_job, cX11_job, 2, (some .int), 1, RX11, 11, 0, 6, 131),
  (yX11_rule, cX11_rule, 2, (some .int), 1, RX11, 11, 0, 5, 111),
  (yX11_kindsAsTold, cX11_kindsAsTold, 2, none, 1, RX11, 11, 0, 0, 0),
  (yX11_hasPhrase, cX11_hasPhrase, 7, (some .boolean), 4, RX11, 11, 0, 0, 0),
  (yX11_isSmallAt, cX11_isSmallAt, 2, (some .boolean), 2, RX11, 11, 1, 2, 45),
  (yX11_stands, cX11_stands, 4, (some .boolean), 4, RX11, 11, 0, 3, 66),
  (yX11_givenBy, cX11_givenBy, 3, (some .int), 3, RX11, 11, 0, 0, 0),
  (yX11_comesIn, cX11_comesIn, 3, none, 3, RX11, 11, 0, 0, 0),
  (yX11_ruleAt, cX11_ruleAt, 7, (some .int), 4, RX11, 11, 0, 4, 89),
  (yX11_goesOver, cX11_goesOver, 7, (some .int), 3, RX11, 11, 0, 5, 115),
  (yX11_comesNow, cX11_comesNow, 1, (some .int), 1, RX11, 11, 0, 6, 141),
  (yX11_becomes, cX11_becomes, 3, none, 2, RX11, 11, 0, 0, 0),
  (yX11_isRule, cX11_isRule, 2, (some .boolean), 2, RX11, 11, 0, 1, 25),
  (yX11_of, cX11_of, 3, (some .int), 3, RX11, 11, 0, 7, 161),
  (yX11_spelt, cX11_spelt, 4, (some .int), 4, RX11, 11, 0, 2, 46),
  (yX11_isPlace, cX11_isPlace, 2, (some .boolean), 2, RX11, 11, 0, 1, 25),
  (yX11_at, cX11_at, 3, (some .int), 3, RX11, 11, 0, 2, 46),
  (yX11_idle, cX11_idle, 3, (some .int), 1, RX11, 11, 0, 7, 161),
  (yX11_count, cX11_count, 2, (some .int), 2, RX11, 11, 0, 8, 183),
  (yX11_notes, cX11_notes, 2, none, 1, RX11, 11, 0, 0, 0),
  (yX11_change, cX11_change, 4, (some .int), 3, RX11, 11, 0, 3, 65),
  (yX11_turn, cX11_turn, 2, (some .int), 2, RX11, 11, 0, 2, 46),
  (yX11_passes, cX11_passes, 3, (some .int), 2, RX11, 11, 0, 6, 141),
  (yX11_pass, cX11_pass, 2, (some .int), 2, RX11, 11, 0, 7, 163),
  (yX11_isOfSort, cX11_isOfSort, 2, (some .boolean), 2, RX11, 11, 1, 0, 0),
  (yX11_pile, cX11_pile, 4, (some .int), 2, RX11, 11, 0, 1, 25),
  (yX11_put, cX11_put, 2, (some .int), 2, RX11, 11, 0, 2, 46),
  (yX11_passPile, cX11_passPile, 1, (some .int), 1, RX11, 11, 0, 7, 163),
  (yX11_undo, cX11_undo, 2, (some .int), 1, RX11, 11, 0, 0, 0),
  (yX11_comes, cX11_comes, 3, (some .int), 3, RX11, 11, 0, 7, 161),
  (yX11_used, cX11_used, 2, (some .int), 2, RX11, 11, 0, 7, 161),
  (yX11_went, cX11_went, 3, (some .int), 2, RX11, 11, 0, 7, 161),
  (yX11_isSameLine, cX11_isSameLine, 4, (some .boolean), 2, RX11, 11, 0, 0, 0),
  (yX11_rest, cX11_rest, 2, (some .int), 1, RX11, 11, 0, 6, 141),
  (yX11_sureOf, cX11_sureOf, 7, (some .int), 4, RX11, 11, 0, 2, 45),
  (yX11_sure, cX11_sure, 7, (some .int), 2, RX11, 11, 0, 3, 71),
  (yX11_lean, cX11_lean, 5, (some .int), 2, RX11, 11, 0, 6, 141),
  (yX11_longOdds, cX11_longOdds, 14, (some .long), 4, RX11, 11, 0, 6, 141),
  (yX11_image, cX11_image, 1, (some .int), 1, RX11, 11, 0, 1, 23),
  (yX11_restore, cX11_restore, 1, (some .int), 1, RX11, 11, 0, 1, 23),
  (yX11_isSheet, cX11_isSheet, 1, (some .boolean), 1, RX11, 11, 1, 1, 25),
  (yX11_isLane, cX11_isLane, 1, (some .boolean), 1, RX11, 11, 1, 1, 25),
  (yX11_finds, cX11_finds, 5, (some .int), 5, RX11, 11, 0, 0, 0),
  (yX11_cut, cX11_cut, 3, (some .long), 2, RX11, 11, 1, 0, 0),
  (yX11_came, cX11_came, 11, (some .int), 6, RX11, 11, 0, 6, 141),
  (yX11_film, cX11_film, 7, (some .int), 5, RX11, 11, 0, 7, 161),
  (yX11_sheet, cX11_sheet, 5, (some .int), 4, RX11, 11, 0, 2, 45),
  (yX11_drop, cX11_drop, 2, (some .int), 2, RX11, 11, 0, 2, 45),
  (yX11_item, cX11_item, 7, (some .int), 5, RX11, 11, 0, 2, 45),
  (yX11_copy, cX11_copy, 8, (some .int), 6, RX11, 11, 0, 2, 45),
  (yJ6_bitCount_0f7a4, cJ6_bitCount_0f7a4, 1, (some .int), 1, RJ6, 99, 1, 0, 0),
  (yJ9_floorMod_7cf53, cJ9_floorMod_7cf53, 3, (some .int), 2, RJ9, 99, 1, 0, 0),
  (yJ9_max_7cf53, cJ9_max_7cf53, 2, (some .int), 2, RJ9, 99, 1, 0, 0),
  (yJ9_min_7cf53, cJ9_min_7cf53, 2, (some .int), 2, RJ9, 99, 1, 0, 0),
  (yJ7_fill_d0a16, cJ7_fill_d0a16, 5, none, 2, RJ7, 99, 1, 0, 0),
  (yL_law, cL_law, 4, (some .boolean), 1, RL, 99, 1, 9, 204)]
def pmWx : List (Nat × Nat × Nat × Nat) := [(143, 142, 0, 48), (448, 446, 447, 48), (471, 469, 470, 48), (440, 438, 439, 48), (381, 379, 380, 48), (373, 371, 372, 48), (396, 394, 395, 48), (421, 419, 420, 48), (187, 186, 0, 50), (583, 581, 582, 50), (444, 442, 443, 50), (600, 599, 11, 50), (596, 594, 595, 50), (665, 663, 664, 50), (745, 743, 744, 50), (112, 111, 0, 47), (504, 502, 503, 47), (409, 407, 408, 47), (416, 414, 415, 47), (611, 609, 610, 47), (106, 105, 0, 46), (607, 605, 606, 46), (75, 74, 0, 43), (329, 327, 328, 43), (349, 347, 348, 43), (358, 356, 357, 43), (545, 543, 544, 43), (549, 547, 548, 43), (325, 323, 324, 43), (345, 343, 344, 43), (526, 524, 525, 43), (430, 428, 429, 43), (685, 683, 684, 43), (632, 630, 631, 43), (150, 149, 0, 49), (426, 424, 425, 49), (541, 539, 540, 49), (510, 508, 509, 49), (517, 516, 0, 49), (261, 260, 0, 52), (794, 792, 793, 52), (760, 758, 759, 52), (764, 762, 763, 52), (772, 770, 771, 52), (782, 780, 781, 52), (786, 785, 16, 52), (100, 99, 0, 45), (405, 403, 404, 45), (459, 457, 458, 45), (592, 590, 591, 45), (661, 659, 660, 45), (740, 738, 739, 45), (69, 68, 0, 42), (337, 335, 336, 42), (353, 351, 352, 42), (377, 376, 0, 42), (400, 398, 399, 42), (341, 339, 340, 42), (388, 386, 387, 42), (369, 367, 368, 42), (391, 390, 0, 42), (223, 222, 0, 51), (483, 481, 482, 51), (768, 766, 767, 51), (487, 486, 3, 51), (496, 495, 4, 51), (500, 499, 5, 51), (719, 717, 718, 51), (521, 519, 520, 51), (710, 708, 709, 51), (694, 692, 693, 51), (532, 531, 6, 51), (698, 697, 13, 51), (702, 701, 14, 51), (537, 536, 7, 51), (555, 554, 8, 51), (559, 558, 9, 51), (61, 60, 0, 41), (321, 319, 320, 41), (333, 331, 332, 41), (452, 450, 451, 41), (467, 465, 466, 41), (564, 562, 563, 41), (570, 568, 569, 41), (575, 573, 574, 41), (587, 585, 586, 41), (618, 616, 617, 41), (622, 620, 621, 41), (636, 634, 635, 41), (643, 641, 642, 41), (653, 651, 652, 41), (657, 655, 656, 41), (669, 667, 668, 41), (673, 671, 672, 41), (677, 675, 676, 41), (681, 679, 680, 41), (690, 688, 689, 41), (706, 704, 705, 41), (714, 712, 713, 41), (736, 734, 735, 41), (749, 747, 748, 41), (753, 751, 752, 41), (778, 776, 777, 41), (790, 788, 789, 41), (801, 799, 800, 41), (805, 803, 804, 41), (809, 807, 808, 41), (479, 478, 2, 41), (475, 474, 1, 41), (579, 578, 10, 41), (627, 626, 12, 41), (723, 722, 15, 41), (728, 727, 0, 41), (732, 731, 0, 41), (384, 383, 0, 41), (756, 755, 0, 41), (364, 363, 0, 41), (361, 360, 0, 41), (639, 638, 0, 41), (816, 815, 0, 53), (915, 914, 0, 53), (988, 987, 0, 53), (1067, 1066, 0, 53), (957, 956, 0, 53), (937, 936, 0, 53), (934, 933, 0, 53), (910, 908, 909, 53), (931, 930, 19, 53), (950, 949, 0, 53), (943, 942, 20, 53), (927, 926, 18, 53), (947, 946, 21, 53), (923, 922, 17, 53), (954, 953, 22, 53), (919, 917, 918, 53), (961, 959, 960, 53), (977, 976, 25, 53), (996, 995, 29, 53), (999, 998, 0, 53), (992, 991, 28, 53), (1007, 1006, 31, 53), (1003, 1002, 30, 53), (985, 984, 27, 53), (981, 980, 26, 53), (973, 972, 24, 53), (1052, 1051, 36, 53), (969, 968, 23, 53), (965, 963, 964, 53), (1011, 1009, 1010, 53), (1020, 1019, 32, 53), (1016, 1014, 1015, 53), (1028, 1027, 33, 53), (1024, 1022, 1023, 53), (1036, 1035, 34, 53), (1032, 1030, 1031, 53), (1040, 1038, 1039, 53), (1048, 1047, 35, 53), (1044, 1042, 1043, 53), (1060, 1059, 0, 53), (1056, 1054, 1055, 53), (1064, 1062, 1063, 53), (1071, 1069, 1070, 53), (1075, 1073, 1074, 53), (1079, 1077, 1078, 53), (1084, 1082, 1083, 53), (1088, 1086, 1087, 53), (1097, 1096, 37, 53), (1093, 1091, 1092, 53), (1105, 1104, 38, 53), (1101, 1099, 1100, 53), (1109, 1107, 1108, 53), (1113, 1111, 1112, 53), (1120, 1118, 1119, 53), (1124, 1122, 1123, 53), (1131, 1130, 0, 53), (1134, 1133, 0, 53), (1139, 1138, 39, 53), (1158, 1157, 0, 53), (1128, 1126, 1127, 53), (1143, 1141, 1142, 53), (1147, 1145, 1146, 53), (1151, 1149, 1150, 53), (1155, 1153, 1154, 53), (1162, 1160, 1161, 53), (646, 645, 0, 55), (603, 602, 0, 44), (79, 78, 0, 44), (433, 432, 0, 44), (797, 796, 0, 56), (0, 0, 0, 0)]
/-- words of the classes: instantiable, initialized -/
def pmWc : List (Nat × Nat) := [(140, 48), (184, 50), (109, 47), (103, 46), (72, 43), (147, 49), (258, 52), (97, 45), (66, 42), (220, 51), (58, 41), (813, 53)]
/-- arrayClass int, long, boolean; arrayOver Rule, Moment, Sheet; arraycopy native, static, initialized; Object's constructor: instance, code -/
def pmWg : List Nat := [87, 280, 906, 146, 190, 257, 436, 435, 54, 63, 64]
end
section
/-! THE RUN of the pure machine, and the check of its tables -/
def pmCode (mi pc : Nat) : Option pmE := match pmQ[mi]? with
  | some q => q[pc]?
  | none => none
def pmI0 : pmI := (yL_law, cL_law, 0, none, 0, RL, 99, 9, 0, 0)
abbrev pmG (mi : Nat) : pmI := pmP.getD mi pmI0
def pmNa (mi : Nat) : Nat := (pmG mi).2.2.2.2.1
def pmL (mi : Nat) : Nat := (pmG mi).2.2.1
def pmRt (mi : Nat) : Option FieldType := (pmG mi).2.2.2.1
def pmCi (mi : Nat) : Nat := (pmG mi).2.2.2.2.2.2.1
def pmKd (mi : Nat) : Nat := (pmG mi).2.2.2.2.2.2.2.1
def pmOkV : Value → Bool
  | .int _ => true
  | .long _ => true
  | .ref _ => true
  | _ => false
/-- the locals at a method's entry -/
def pmEn (as : List Value) (n : Nat) : List Value :=
  let l := as.flatMap fun v => if pmIsL v then [v, .null] else [v]
  l ++ List.replicate (n - l.length) .null
def pmRecv (kd ci : Nat) (as : List Value) (sh : pmS) : Bool := match kd with
  | 0 => match as with
    | .ref (q + 1) :: _ => match sh[q + 1]? with
      | some (.inr (cj, _)) => cj == ci
      | _ => false
    | _ => false
  | 1 => true
  | 2 => match as with
    | .ref _ :: _ => true
    | _ => false
  | _ => false
/-- what a call takes from the stack -/
def pmArgs (kd mj : Nat) (st : List Value) (sh : pmS) : Option (List Value × List Value) :=
  let k := pmNa mj
  let as := (st.take k).reverse
  if k ≤ st.length ∧ pmCat (st.drop k) ≤ 8 ∧ pmKd mj = kd ∧ pmRecv kd (pmCi mj) as sh = true ∧ as.all pmOkV = true ∧ (as.flatMap fun v => if pmIsL v then [v, .null] else [v]).length ≤ pmL mj then some (as, st.drop k) else none
def pmC0 (cd : ClassFile.Cond) (x : Int32) : Bool := match cd with
  | .eq => decide (x = 0)
  | .ne => decide (¬ x = 0)
  | .lt => decide (x < 0)
  | .ge => decide (0 ≤ x)
  | .gt => decide (0 < x)
  | .le => decide (x ≤ 0)
def pmC2 (cd : ClassFile.Cond) (x y : Int32) : Bool := match cd with
  | .eq => decide (x = y)
  | .ne => decide (¬ x = y)
  | .lt => decide (x < y)
  | .ge => decide (y ≤ x)
  | .gt => decide (y < x)
  | .le => decide (x ≤ y)
def pmTs (pc : Nat) (d lo hi : Int) (offs : Array Int) (x : Int32) : Option Nat :=
  let off : Option Int := if x.toInt < lo ∨ hi < x.toInt then some d else offs[(x.toInt - lo).toNat]?
  off.bind fun o => if 0 ≤ (pc : Int) + o then some ((pc : Int) + o).toNat else none
def pmLk (pc : Nat) (d : Int) (ps : Array (Int × Int)) (x : Int32) : Option Nat :=
  let o := Op.lookupswitch.offset ps.toList d x.toInt
  if 0 ≤ (pc : Int) + o then some ((pc : Int) + o).toNat else none
/-- what a method does next: it answers; it goes on; it calls -/
def pmNx (mi pc : Nat) (ls st : List Value) (sh : pmS) (M : pmM) (N : pmN) : Option (pmR ⊕ ((Nat × pmX) ⊕ (Nat × List Value × List Value))) := match pmCode mi pc with
  | none => none
  | some (i, len, a, b, _) => match i with
    | .ireturn => match st with
      | [.int v] => if pmRt mi = some .int ∨ (pmRt mi = some .boolean ∧ (v = 0 ∨ v = 1)) then some (.inl (some (.int v), sh, M, N)) else none
      | _ => none
    | .lreturn => match st with
      | [.long v] => some (.inl (some (.long v), sh, M, N))
      | _ => none
    | .areturn => match st with
      | [.ref v] => some (.inl (some (.ref v), sh, M, N))
      | _ => none
    | .return_ => match st with
      | [] => some (.inl (none, sh, M, N))
      | _ => none
    | .goto _ => some (.inr (.inl (a, ls, st, sh, M, N)))
    | .ifCond cd _ => match st with
      | .int x :: t => some (.inr (.inl (if pmC0 cd x then a else pc + 3, ls, t, sh, M, N)))
      | _ => none
    | .if_icmp cd _ => match st with
      | .int y :: .int x :: t => some (.inr (.inl (if pmC2 cd x y then a else pc + 3, ls, t, sh, M, N)))
      | _ => none
    | .tableswitch d lo hi offs => match st with
      | .int x :: t => match pmTs pc d lo hi offs x with
        | some q => some (.inr (.inl (q, ls, t, sh, M, N)))
        | none => none
      | _ => none
    | .lookupswitch d ps => match st with
      | .int x :: t => match pmLk pc d ps x with
        | some q => some (.inr (.inl (q, ls, t, sh, M, N)))
        | none => none
      | _ => none
    | .invokevirtual _ => match pmArgs 0 a st sh with
      | some (as, rest) => some (.inr (.inr (a, as, rest)))
      | none => none
    | .invokestatic _ => if b = 1 then (match pmEx i a b ls st sh M N with
        | some x => some (.inr (.inl (pc + len, x)))
        | none => none) else match pmArgs 1 a st sh with
      | some (as, rest) => some (.inr (.inr (a, as, rest)))
      | none => none
    | .invokespecial _ => if b = 1 then (match pmEx i a b ls st sh M N with
        | some x => some (.inr (.inl (pc + len, x)))
        | none => none) else match pmArgs 2 a st sh with
      | some (as, rest) => some (.inr (.inr (a, as, rest)))
      | none => none
    | _ => match pmEx i a b ls st sh M N with
      | some x => some (.inr (.inl (pc + len, x)))
      | none => none
def pr : Nat → Nat → Nat → List Value → List Value → pmS → pmM → pmN → Option pmR
  | 0, _, _, _, _, _, _, _ => none
  | n + 1, mi, pc, ls, st, sh, M, N => match pmNx mi pc ls st sh M N with
    | none => none
    | some (.inl x) => some x
    | some (.inr (.inl (pc', ls', st', sh', M', N'))) => pr n mi pc' ls' st' sh' M' N'
    | some (.inr (.inr (mj, as, rest))) => match pr n mj 0 (pmEn as (pmL mj)) [] sh M N with
      | some (r, sh', M', N') => pr n mi (pc + 3) ls (r.toList ++ rest) sh' M' N'
      | none => none
/-! the check -/
def pmHost : String := "PhraseSwaps"
def ckLw (c : Nat) (w : Cond) : Bool := decide (lw_tbl[c]? = some w)
def ckRoom (mi mj : Nat) : Bool := decide ((pmG mj).2.2.2.2.2.2.2.2.1 + 1 ≤ (pmG mi).2.2.2.2.2.2.2.2.1 ∧ 8 + (pmL mj + 11) + (pmG mj).2.2.2.2.2.2.2.2.2 ≤ (pmG mi).2.2.2.2.2.2.2.2.2 ∧ mj < pmP.length)
def ckFld (own : String) (idx ci j c : Nat) : Bool := match vwCl[ci]? with
  | some (R, T, n) => decide (j < n) && decide ((T j).1 = R) && (ckLw c (.fieldLink own idx R (T j).2.1 (T j).2.2.1) || ckLw c (.fieldLinkNest own idx R (T j).2.1 (T j).2.2.1 pmHost))
  | none => false
def ckPut (own : String) (kd idx a j c : Nat) : Bool := match vwCl[a % 100]? with
  | some (R, T, n) => (if (T j).2.2.2 = true then decide (kd = 2) && decide (R = own) && ckLw c (.fieldLink own idx R (T j).2.1 (T j).2.2.1) else true) &&
      (if a < 100 then decide ((T j).2.2.1 = "I") else if a < 200 then decide ((T j).2.2.1 = "Z") else (match parseFieldDescriptor (T j).2.2.1 with
        | some (.object _) => true
        | some (.array _) => true
        | _ => false))
  | none => false
def ckEl (tg : Nat) : String := match pmEl tg with
  | some ci => (vwCl.getD ci ("", fun _ => ("", "", "", false), 0)).1
  | none => ""
def ckI (mi pc : Nat) (e : pmE) : Bool :=
  let own := (pmG mi).2.2.2.2.2.1
  let a := e.2.2.1
  let b := e.2.2.2.1
  let c := e.2.2.2.2
  match e.1 with
  | .iload k | .lload k | .aload k | .istore k | .lstore k | .astore k => decide (a = k ∧ e.2.1 = 2)
  | .iload_n k | .lload_n k | .aload_n k | .istore_n k | .lstore_n k | .astore_n k => decide (a = (k : Nat) ∧ e.2.1 = 1)
  | .iinc k _ => decide (a = k ∧ e.2.1 = 3)
  | .goto o => decide ((pc : Int) + o = (a : Int) ∧ e.2.1 = 3)
  | .ifCond _ o => decide ((pc : Int) + o = (a : Int) ∧ e.2.1 = 3)
  | .if_icmp _ o => decide ((pc : Int) + o = (a : Int) ∧ e.2.1 = 3)
  | .lookupswitch _ ps => (ps.toList.zip (ps.toList.drop 1)).all (fun (x, next) => x.1 < next.1)
  | .getfield idx => decide (e.2.1 = 3) && ckFld own idx a b c
  | .putfield idx => decide (e.2.1 = 3) && ckFld own idx (a % 100) b c && ckPut own (pmKd mi) idx a b c
  | .new idx => decide (e.2.1 = 3) && (match vwCl[a]? with
    | some (R, _, _) => ckLw c (.classLink own idx R)
    | none => false)
  | .anewarray idx => decide (e.2.1 = 3) && decide (3 ≤ a ∧ a ≤ 5) && ckLw c (.classLink own idx (ckEl a))
  | .newarray _ => decide (e.2.1 = 2)
  | .ldc_w idx => decide (e.2.1 = 3) && ckLw c (.constant own idx (nI a))
  | .ldc2_w idx => decide (e.2.1 = 3) && ckLw c (.constantLong own idx (if b = 0 then lN a else - lN a))
  | .bipush _ => decide (e.2.1 = 2)
  | .sipush _ => decide (e.2.1 = 3)
  | .invokevirtual idx => decide (e.2.1 = 3) && ckLw c (.methodLink own idx (pmG a).1) && ckRoom mi a
  | .invokestatic idx => if b = 1 then decide (e.2.1 = 3) && ckLw c (.methodLink own idx arraycopyName) && decide (1 ≤ (pmG mi).2.2.2.2.2.2.2.2.1 ∧ 26 ≤ (pmG mi).2.2.2.2.2.2.2.2.2) else decide (e.2.1 = 3) && (ckLw c (.methodLink own idx (pmG a).1) || ckLw c (.methodLinkNest own idx (pmG a).1 pmHost)) && ckRoom mi a
  | .invokespecial idx => if b = 1 then decide (e.2.1 = 3) && ckLw c (.methodLink own idx objectInit) && decide (1 ≤ (pmG mi).2.2.2.2.2.2.2.2.1 ∧ 20 ≤ (pmG mi).2.2.2.2.2.2.2.2.2) else decide (e.2.1 = 3) && (ckLw c (.methodLink own idx (pmG a).1) || ckLw c (.methodLinkNest own idx (pmG a).1 pmHost)) && ckRoom mi a
  | .arraylength => decide (e.2.1 = 1) && (decide (b = 1 → mi = mL_law))
  | .iaload => decide (e.2.1 = 1) && (decide (b = 1 → mi = mL_law))
  | .ireturn => decide (e.2.1 = 1)
  | .tableswitch .. => true
  | .lreturn => decide (pmRt mi = some .long ∧ e.2.1 = 1)
  | .areturn => decide (e.2.1 = 1) && (match pmRt mi with
    | some (.object _) => true
    | _ => false)
  | .return_ => decide (pmRt mi = none ∧ e.2.1 = 1)
  | _ => decide (e.2.1 = 1)
def ckE (mi pc : Nat) (e : pmE) : Bool := match e.1 with
  | .nop => true
  | _ => decide (decode (pmG mi).2.1 pc = .ok (e.1, e.2.1)) && ckI mi pc e
def ckQ (mi : Nat) : Nat → List pmE → Bool
  | _, [] => true
  | pc, e :: t => ckE mi pc e && ckQ mi (pc + 1) t
def ckM (mi : Nat) : Bool := match pmQ[mi]? with
  | some q => ckQ mi 0 q
  | none => true
end
section
/-! the tables are checked, a method a row -/
theorem ck_X0_init : ckM 0 = true := by decide +kernel
theorem ck_X0_size : ckM 1 = true := by decide +kernel
theorem ck_X0_has : ckM 2 = true := by decide +kernel
theorem ck_X0_all : ckM 3 = true := by decide +kernel
theorem ck_X0_get : ckM 4 = true := by decide +kernel
theorem ck_X0_clear : ckM 5 = true := by decide +kernel
theorem ck_X0_grow : ckM 6 = true := by decide +kernel
theorem ck_X0_takeFrom : ckM 7 = true := by decide +kernel
theorem ck_X1_init : ckM 8 = true := by decide +kernel
theorem ck_X1_size : ckM 9 = true := by decide +kernel
theorem ck_X1_clear : ckM 10 = true := by decide +kernel
theorem ck_X1_moment : ckM 11 = true := by decide +kernel
theorem ck_X1_add : ckM 12 = true := by decide +kernel
theorem ck_X1_giveBack : ckM 13 = true := by decide +kernel
theorem ck_X1_takeFrom : ckM 14 = true := by decide +kernel
theorem ck_X2_init : ckM 15 = true := by decide +kernel
theorem ck_X2_size : ckM 16 = true := by decide +kernel
theorem ck_X2_clear : ckM 17 = true := by decide +kernel
theorem ck_X2_add : ckM 18 = true := by decide +kernel
theorem ck_X2_takeFrom : ckM 19 = true := by decide +kernel
theorem ck_X3_init : ckM 20 = true := by decide +kernel
theorem ck_X3_takeFrom : ckM 21 = true := by decide +kernel
theorem ck_X4_init : ckM 22 = true := by decide +kernel
theorem ck_X4_size : ckM 23 = true := by decide +kernel
theorem ck_X4_most : ckM 24 = true := by decide +kernel
theorem ck_X4_get : ckM 25 = true := by decide +kernel
theorem ck_X4_set : ckM 26 = true := by decide +kernel
theorem ck_X4_addTo : ckM 27 = true := by decide +kernel
theorem ck_X4_add : ckM 28 = true := by decide +kernel
theorem ck_X4_clear : ckM 29 = true := by decide +kernel
theorem ck_X4_fill : ckM 30 = true := by decide +kernel
theorem ck_X4_takeFrom : ckM 31 = true := by decide +kernel
theorem ck_X4_isSame : ckM 32 = true := by decide +kernel
theorem ck_X4_sum : ckM 33 = true := by decide +kernel
theorem ck_X5_init : ckM 34 = true := by decide +kernel
theorem ck_X5_takeFrom : ckM 35 = true := by decide +kernel
theorem ck_X5_given : ckM 36 = true := by decide +kernel
theorem ck_X5_stands : ckM 37 = true := by decide +kernel
theorem ck_X5_wantsEnd : ckM 38 = true := by decide +kernel
theorem ck_X6_init : ckM 39 = true := by decide +kernel
theorem ck_X6_begin : ckM 40 = true := by decide +kernel
theorem ck_X6_refusal : ckM 41 = true := by decide +kernel
theorem ck_X6_holds : ckM 42 = true := by decide +kernel
theorem ck_X6_tells : ckM 43 = true := by decide +kernel
theorem ck_X6_write : ckM 44 = true := by decide +kernel
theorem ck_X6_lowestBits : ckM 45 = true := by decide +kernel
theorem ck_X7_init : ckM 46 = true := by decide +kernel
theorem ck_X7_begin : ckM 47 = true := by decide +kernel
theorem ck_X7_addRule : ckM 48 = true := by decide +kernel
theorem ck_X7_remember : ckM 49 = true := by decide +kernel
theorem ck_X7_goBack : ckM 50 = true := by decide +kernel
theorem ck_X7_takeFrom : ckM 51 = true := by decide +kernel
theorem ck_X8_init : ckM 52 = true := by decide +kernel
theorem ck_X8_rewind : ckM 53 = true := by decide +kernel
theorem ck_X8_next : ckM 54 = true := by decide +kernel
theorem ck_X8_takes : ckM 55 = true := by decide +kernel
theorem ck_X8_fault : ckM 56 = true := by decide +kernel
theorem ck_X8_readLetters : ckM 57 = true := by decide +kernel
theorem ck_X8_readRule : ckM 58 = true := by decide +kernel
theorem ck_X8_readRules : ckM 59 = true := by decide +kernel
theorem ck_X8_kindOf : ckM 60 = true := by decide +kernel
theorem ck_X9_init : ckM 61 = true := by decide +kernel
theorem ck_X9_prepare : ckM 62 = true := by decide +kernel
theorem ck_X9_prepareAs : ckM 63 = true := by decide +kernel
theorem ck_X9_putInOrder : ckM 64 = true := by decide +kernel
theorem ck_X9_takeKinds : ckM 65 = true := by decide +kernel
theorem ck_X9_findStanding : ckM 66 = true := by decide +kernel
theorem ck_X9_standing : ckM 67 = true := by decide +kernel
theorem ck_X9_go : ckM 68 = true := by decide +kernel
theorem ck_X9_lengthBy : ckM 69 = true := by decide +kernel
theorem ck_X9_sureOf : ckM 70 = true := by decide +kernel
theorem ck_X9_ruleUsed : ckM 71 = true := by decide +kernel
theorem ck_X9_firstPossible : ckM 72 = true := by decide +kernel
theorem ck_X9_standsInOpen : ckM 73 = true := by decide +kernel
theorem ck_X9_give : ckM 74 = true := by decide +kernel
end
section
/-! the tables are checked, a method a row -/
theorem ck_X9_leftOf : ckM 75 = true := by decide +kernel
theorem ck_X9_lengthGone : ckM 76 = true := by decide +kernel
theorem ck_X10_init : ckM 77 = true := by decide +kernel
theorem ck_X10_type : ckM 78 = true := by decide +kernel
theorem ck_X10_job : ckM 79 = true := by decide +kernel
theorem ck_X10_rule : ckM 80 = true := by decide +kernel
theorem ck_X10_of : ckM 81 = true := by decide +kernel
theorem ck_X10_spelt : ckM 82 = true := by decide +kernel
theorem ck_X10_at : ckM 83 = true := by decide +kernel
theorem ck_X10_count : ckM 84 = true := by decide +kernel
theorem ck_X10_change : ckM 85 = true := by decide +kernel
theorem ck_X10_turn : ckM 86 = true := by decide +kernel
theorem ck_X10_pass : ckM 87 = true := by decide +kernel
theorem ck_X10_pile : ckM 88 = true := by decide +kernel
theorem ck_X10_put : ckM 89 = true := by decide +kernel
theorem ck_X10_passPile : ckM 90 = true := by decide +kernel
theorem ck_X10_undo : ckM 91 = true := by decide +kernel
theorem ck_X10_comes : ckM 92 = true := by decide +kernel
theorem ck_X10_used : ckM 93 = true := by decide +kernel
theorem ck_X10_went : ckM 94 = true := by decide +kernel
theorem ck_X10_rest : ckM 95 = true := by decide +kernel
theorem ck_X10_sure : ckM 96 = true := by decide +kernel
theorem ck_X10_lean : ckM 97 = true := by decide +kernel
theorem ck_X10_longOdds : ckM 98 = true := by decide +kernel
theorem ck_X10_image : ckM 99 = true := by decide +kernel
theorem ck_X10_restore : ckM 100 = true := by decide +kernel
theorem ck_X10_came : ckM 101 = true := by decide +kernel
theorem ck_X10_film : ckM 102 = true := by decide +kernel
theorem ck_X10_sheet : ckM 103 = true := by decide +kernel
theorem ck_X10_drop : ckM 104 = true := by decide +kernel
theorem ck_X10_item : ckM 105 = true := by decide +kernel
theorem ck_X10_copy : ckM 106 = true := by decide +kernel
theorem ck_X10_whatComes : ckM 107 = true := by decide +kernel
theorem ck_X10_usesOf : ckM 108 = true := by decide +kernel
theorem ck_X10_idleRules : ckM 109 = true := by decide +kernel
theorem ck_X10_goThrough : ckM 110 = true := by decide +kernel
theorem ck_X10_tallyShortOnes : ckM 111 = true := by decide +kernel
theorem ck_X10_power : ckM 112 = true := by decide +kernel
theorem ck_X10_commonDivisor : ckM 113 = true := by decide +kernel
theorem ck_X10_isWithin : ckM 114 = true := by decide +kernel
theorem ck_X10_isLaneOfSheet : ckM 115 = true := by decide +kernel
theorem ck_X10_isWordLetter : ckM 116 = true := by decide +kernel
theorem ck_X10_isLetter : ckM 117 = true := by decide +kernel
theorem ck_X10_isOfSort : ckM 118 = true := by decide +kernel
theorem ck_X11_init : ckM 119 = true := by decide +kernel
end
section
/-! the tables are checked, a method a row -/
theorem ck_X11_in : ckM 120 = true := by decide +kernel
theorem ck_X11_has : ckM 121 = true := by decide +kernel
theorem ck_X11_bits : ckM 122 = true := by decide +kernel
theorem ck_X11_copies : ckM 123 = true := by decide +kernel
theorem ck_X11_isSmall : ckM 124 = true := by decide +kernel
theorem ck_X11_isLetter : ckM 125 = true := by decide +kernel
theorem ck_X11_type : ckM 126 = true := by decide +kernel
theorem ck_X11_here : ckM 127 = true := by decide +kernel
theorem ck_X11_kindOf : ckM 128 = true := by decide +kernel
theorem ck_X11_takes : ckM 129 = true := by decide +kernel
theorem ck_X11_takesLetters : ckM 130 = true := by decide +kernel
theorem ck_X11_readsRule : ckM 131 = true := by decide +kernel
theorem ck_X11_readsJob : ckM 132 = true := by decide +kernel
theorem ck_X11_fault : ckM 133 = true := by decide +kernel
theorem ck_X11_job : ckM 134 = true := by decide +kernel
theorem ck_X11_rule : ckM 135 = true := by decide +kernel
theorem ck_X11_kindsAsTold : ckM 136 = true := by decide +kernel
theorem ck_X11_hasPhrase : ckM 137 = true := by decide +kernel
theorem ck_X11_isSmallAt : ckM 138 = true := by decide +kernel
theorem ck_X11_stands : ckM 139 = true := by decide +kernel
theorem ck_X11_givenBy : ckM 140 = true := by decide +kernel
theorem ck_X11_comesIn : ckM 141 = true := by decide +kernel
theorem ck_X11_ruleAt : ckM 142 = true := by decide +kernel
theorem ck_X11_goesOver : ckM 143 = true := by decide +kernel
theorem ck_X11_comesNow : ckM 144 = true := by decide +kernel
theorem ck_X11_becomes : ckM 145 = true := by decide +kernel
theorem ck_X11_isRule : ckM 146 = true := by decide +kernel
theorem ck_X11_of : ckM 147 = true := by decide +kernel
theorem ck_X11_spelt : ckM 148 = true := by decide +kernel
theorem ck_X11_isPlace : ckM 149 = true := by decide +kernel
theorem ck_X11_at : ckM 150 = true := by decide +kernel
theorem ck_X11_idle : ckM 151 = true := by decide +kernel
theorem ck_X11_count : ckM 152 = true := by decide +kernel
theorem ck_X11_notes : ckM 153 = true := by decide +kernel
theorem ck_X11_change : ckM 154 = true := by decide +kernel
theorem ck_X11_turn : ckM 155 = true := by decide +kernel
theorem ck_X11_passes : ckM 156 = true := by decide +kernel
theorem ck_X11_pass : ckM 157 = true := by decide +kernel
theorem ck_X11_isOfSort : ckM 158 = true := by decide +kernel
theorem ck_X11_pile : ckM 159 = true := by decide +kernel
theorem ck_X11_put : ckM 160 = true := by decide +kernel
theorem ck_X11_passPile : ckM 161 = true := by decide +kernel
theorem ck_X11_undo : ckM 162 = true := by decide +kernel
theorem ck_X11_comes : ckM 163 = true := by decide +kernel
theorem ck_X11_used : ckM 164 = true := by decide +kernel
end
section
/-! the tables are checked, a method a row -/
theorem ck_X11_went : ckM 165 = true := by decide +kernel
theorem ck_X11_isSameLine : ckM 166 = true := by decide +kernel
theorem ck_X11_rest : ckM 167 = true := by decide +kernel
theorem ck_X11_sureOf : ckM 168 = true := by decide +kernel
theorem ck_X11_sure : ckM 169 = true := by decide +kernel
theorem ck_X11_lean : ckM 170 = true := by decide +kernel
theorem ck_X11_longOdds : ckM 171 = true := by decide +kernel
theorem ck_X11_image : ckM 172 = true := by decide +kernel
theorem ck_X11_restore : ckM 173 = true := by decide +kernel
theorem ck_X11_isSheet : ckM 174 = true := by decide +kernel
theorem ck_X11_isLane : ckM 175 = true := by decide +kernel
theorem ck_X11_finds : ckM 176 = true := by decide +kernel
theorem ck_X11_cut : ckM 177 = true := by decide +kernel
theorem ck_X11_came : ckM 178 = true := by decide +kernel
theorem ck_X11_film : ckM 179 = true := by decide +kernel
theorem ck_X11_sheet : ckM 180 = true := by decide +kernel
theorem ck_X11_drop : ckM 181 = true := by decide +kernel
theorem ck_X11_item : ckM 182 = true := by decide +kernel
theorem ck_X11_copy : ckM 183 = true := by decide +kernel
theorem ck_J6_bitCount_0f7a4 : ckM 184 = true := by decide +kernel
theorem ck_J9_floorMod_7cf53 : ckM 185 = true := by decide +kernel
theorem ck_J9_max_7cf53 : ckM 186 = true := by decide +kernel
theorem ck_J9_min_7cf53 : ckM 187 = true := by decide +kernel
theorem ck_J7_fill_d0a16 : ckM 188 = true := by decide +kernel
end
section
theorem ckQ_app (mi : Nat) : ∀ (a b : List pmE) (pc : Nat), ckQ mi pc a = true → ckQ mi (pc + a.length) b = true → ckQ mi pc (a ++ b) = true
  | [], b, pc, _, h => h
  | x :: t, b, pc, h1, h2 => by
    simp only [ckQ, Bool.and_eq_true, List.cons_append] at h1 ⊢
    refine ⟨h1.1, ckQ_app mi t b (pc + 1) h1.2 ?_⟩
    rw [List.length_cons] at h2
    rw [Nat.add_assoc, Nat.add_comm 1]
    exact h2
theorem ck_L_law_0 : ckQ 189 0 qL_law_0 = true := by decide +kernel
theorem ck_L_law_1 : ckQ 189 100 qL_law_1 = true := by decide +kernel
theorem ck_L_law_2 : ckQ 189 200 qL_law_2 = true := by decide +kernel
theorem ck_L_law_3 : ckQ 189 300 qL_law_3 = true := by decide +kernel
theorem ck_L_law_4 : ckQ 189 400 qL_law_4 = true := by decide +kernel
theorem ck_L_law_5 : ckQ 189 500 qL_law_5 = true := by decide +kernel
theorem ck_L_law_6 : ckQ 189 600 qL_law_6 = true := by decide +kernel
theorem ck_L_law_7 : ckQ 189 700 qL_law_7 = true := by decide +kernel
theorem ck_L_law_8 : ckQ 189 800 qL_law_8 = true := by decide +kernel
theorem ck_L_law_9 : ckQ 189 900 qL_law_9 = true := by decide +kernel
theorem ck_L_law_10 : ckQ 189 1000 qL_law_10 = true := by decide +kernel
theorem len_L_law_0 : qL_law_0.length = 100 := by decide +kernel
theorem len_L_law_1 : qL_law_1.length = 100 := by decide +kernel
theorem len_L_law_2 : qL_law_2.length = 100 := by decide +kernel
theorem len_L_law_3 : qL_law_3.length = 100 := by decide +kernel
theorem len_L_law_4 : qL_law_4.length = 100 := by decide +kernel
theorem len_L_law_5 : qL_law_5.length = 100 := by decide +kernel
theorem len_L_law_6 : qL_law_6.length = 100 := by decide +kernel
theorem len_L_law_7 : qL_law_7.length = 100 := by decide +kernel
theorem len_L_law_8 : qL_law_8.length = 100 := by decide +kernel
theorem len_L_law_9 : qL_law_9.length = 100 := by decide +kernel
theorem len_L_law_10 : qL_law_10.length = 40 := by decide +kernel
theorem cc_L_law_0 : ckQ 189 0 qL_law_0 = true := ck_L_law_0
theorem cc_L_law_1 : ckQ 189 0 (qL_law_0 ++ qL_law_1) = true := ckQ_app 189 _ _ 0 cc_L_law_0 (by simp only [List.length_append, len_L_law_0]; exact ck_L_law_1)
theorem cc_L_law_2 : ckQ 189 0 (qL_law_0 ++ qL_law_1 ++ qL_law_2) = true := ckQ_app 189 _ _ 0 cc_L_law_1 (by simp only [List.length_append, len_L_law_0, len_L_law_1]; exact ck_L_law_2)
theorem cc_L_law_3 : ckQ 189 0 (qL_law_0 ++ qL_law_1 ++ qL_law_2 ++ qL_law_3) = true := ckQ_app 189 _ _ 0 cc_L_law_2 (by simp only [List.length_append, len_L_law_0, len_L_law_1, len_L_law_2]; exact ck_L_law_3)
theorem cc_L_law_4 : ckQ 189 0 (qL_law_0 ++ qL_law_1 ++ qL_law_2 ++ qL_law_3 ++ qL_law_4) = true := ckQ_app 189 _ _ 0 cc_L_law_3 (by simp only [List.length_append, len_L_law_0, len_L_law_1, len_L_law_2, len_L_law_3]; exact ck_L_law_4)
theorem cc_L_law_5 : ckQ 189 0 (qL_law_0 ++ qL_law_1 ++ qL_law_2 ++ qL_law_3 ++ qL_law_4 ++ qL_law_5) = true := ckQ_app 189 _ _ 0 cc_L_law_4 (by simp only [List.length_append, len_L_law_0, len_L_law_1, len_L_law_2, len_L_law_3, len_L_law_4]; exact ck_L_law_5)
theorem cc_L_law_6 : ckQ 189 0 (qL_law_0 ++ qL_law_1 ++ qL_law_2 ++ qL_law_3 ++ qL_law_4 ++ qL_law_5 ++ qL_law_6) = true := ckQ_app 189 _ _ 0 cc_L_law_5 (by simp only [List.length_append, len_L_law_0, len_L_law_1, len_L_law_2, len_L_law_3, len_L_law_4, len_L_law_5]; exact ck_L_law_6)
theorem cc_L_law_7 : ckQ 189 0 (qL_law_0 ++ qL_law_1 ++ qL_law_2 ++ qL_law_3 ++ qL_law_4 ++ qL_law_5 ++ qL_law_6 ++ qL_law_7) = true := ckQ_app 189 _ _ 0 cc_L_law_6 (by simp only [List.length_append, len_L_law_0, len_L_law_1, len_L_law_2, len_L_law_3, len_L_law_4, len_L_law_5, len_L_law_6]; exact ck_L_law_7)
theorem cc_L_law_8 : ckQ 189 0 (qL_law_0 ++ qL_law_1 ++ qL_law_2 ++ qL_law_3 ++ qL_law_4 ++ qL_law_5 ++ qL_law_6 ++ qL_law_7 ++ qL_law_8) = true := ckQ_app 189 _ _ 0 cc_L_law_7 (by simp only [List.length_append, len_L_law_0, len_L_law_1, len_L_law_2, len_L_law_3, len_L_law_4, len_L_law_5, len_L_law_6, len_L_law_7]; exact ck_L_law_8)
theorem cc_L_law_9 : ckQ 189 0 (qL_law_0 ++ qL_law_1 ++ qL_law_2 ++ qL_law_3 ++ qL_law_4 ++ qL_law_5 ++ qL_law_6 ++ qL_law_7 ++ qL_law_8 ++ qL_law_9) = true := ckQ_app 189 _ _ 0 cc_L_law_8 (by simp only [List.length_append, len_L_law_0, len_L_law_1, len_L_law_2, len_L_law_3, len_L_law_4, len_L_law_5, len_L_law_6, len_L_law_7, len_L_law_8]; exact ck_L_law_9)
theorem cc_L_law_10 : ckQ 189 0 (qL_law_0 ++ qL_law_1 ++ qL_law_2 ++ qL_law_3 ++ qL_law_4 ++ qL_law_5 ++ qL_law_6 ++ qL_law_7 ++ qL_law_8 ++ qL_law_9 ++ qL_law_10) = true := ckQ_app 189 _ _ 0 cc_L_law_9 (by simp only [List.length_append, len_L_law_0, len_L_law_1, len_L_law_2, len_L_law_3, len_L_law_4, len_L_law_5, len_L_law_6, len_L_law_7, len_L_law_8, len_L_law_9]; exact ck_L_law_10)
theorem ck_L_law : ckM 189 = true := cc_L_law_10
theorem ckM_all : ∀ mi : Nat, ckM mi = true := by
  intro mi
  match mi with
  | 0 => exact ck_X0_init
  | 1 => exact ck_X0_size
  | 2 => exact ck_X0_has
  | 3 => exact ck_X0_all
  | 4 => exact ck_X0_get
  | 5 => exact ck_X0_clear
  | 6 => exact ck_X0_grow
  | 7 => exact ck_X0_takeFrom
  | 8 => exact ck_X1_init
  | 9 => exact ck_X1_size
  | 10 => exact ck_X1_clear
  | 11 => exact ck_X1_moment
  | 12 => exact ck_X1_add
  | 13 => exact ck_X1_giveBack
  | 14 => exact ck_X1_takeFrom
  | 15 => exact ck_X2_init
  | 16 => exact ck_X2_size
  | 17 => exact ck_X2_clear
  | 18 => exact ck_X2_add
  | 19 => exact ck_X2_takeFrom
  | 20 => exact ck_X3_init
  | 21 => exact ck_X3_takeFrom
  | 22 => exact ck_X4_init
  | 23 => exact ck_X4_size
  | 24 => exact ck_X4_most
  | 25 => exact ck_X4_get
  | 26 => exact ck_X4_set
  | 27 => exact ck_X4_addTo
  | 28 => exact ck_X4_add
  | 29 => exact ck_X4_clear
  | 30 => exact ck_X4_fill
  | 31 => exact ck_X4_takeFrom
  | 32 => exact ck_X4_isSame
  | 33 => exact ck_X4_sum
  | 34 => exact ck_X5_init
  | 35 => exact ck_X5_takeFrom
  | 36 => exact ck_X5_given
  | 37 => exact ck_X5_stands
  | 38 => exact ck_X5_wantsEnd
  | 39 => exact ck_X6_init
  | 40 => exact ck_X6_begin
  | 41 => exact ck_X6_refusal
  | 42 => exact ck_X6_holds
  | 43 => exact ck_X6_tells
  | 44 => exact ck_X6_write
  | 45 => exact ck_X6_lowestBits
  | 46 => exact ck_X7_init
  | 47 => exact ck_X7_begin
  | 48 => exact ck_X7_addRule
  | 49 => exact ck_X7_remember
  | 50 => exact ck_X7_goBack
  | 51 => exact ck_X7_takeFrom
  | 52 => exact ck_X8_init
  | 53 => exact ck_X8_rewind
  | 54 => exact ck_X8_next
  | 55 => exact ck_X8_takes
  | 56 => exact ck_X8_fault
  | 57 => exact ck_X8_readLetters
  | 58 => exact ck_X8_readRule
  | 59 => exact ck_X8_readRules
  | 60 => exact ck_X8_kindOf
  | 61 => exact ck_X9_init
  | 62 => exact ck_X9_prepare
  | 63 => exact ck_X9_prepareAs
  | 64 => exact ck_X9_putInOrder
  | 65 => exact ck_X9_takeKinds
  | 66 => exact ck_X9_findStanding
  | 67 => exact ck_X9_standing
  | 68 => exact ck_X9_go
  | 69 => exact ck_X9_lengthBy
  | 70 => exact ck_X9_sureOf
  | 71 => exact ck_X9_ruleUsed
  | 72 => exact ck_X9_firstPossible
  | 73 => exact ck_X9_standsInOpen
  | 74 => exact ck_X9_give
  | 75 => exact ck_X9_leftOf
  | 76 => exact ck_X9_lengthGone
  | 77 => exact ck_X10_init
  | 78 => exact ck_X10_type
  | 79 => exact ck_X10_job
  | 80 => exact ck_X10_rule
  | 81 => exact ck_X10_of
  | 82 => exact ck_X10_spelt
  | 83 => exact ck_X10_at
  | 84 => exact ck_X10_count
  | 85 => exact ck_X10_change
  | 86 => exact ck_X10_turn
  | 87 => exact ck_X10_pass
  | 88 => exact ck_X10_pile
  | 89 => exact ck_X10_put
  | 90 => exact ck_X10_passPile
  | 91 => exact ck_X10_undo
  | 92 => exact ck_X10_comes
  | 93 => exact ck_X10_used
  | 94 => exact ck_X10_went
  | 95 => exact ck_X10_rest
  | 96 => exact ck_X10_sure
  | 97 => exact ck_X10_lean
  | 98 => exact ck_X10_longOdds
  | 99 => exact ck_X10_image
  | 100 => exact ck_X10_restore
  | 101 => exact ck_X10_came
  | 102 => exact ck_X10_film
  | 103 => exact ck_X10_sheet
  | 104 => exact ck_X10_drop
  | 105 => exact ck_X10_item
  | 106 => exact ck_X10_copy
  | 107 => exact ck_X10_whatComes
  | 108 => exact ck_X10_usesOf
  | 109 => exact ck_X10_idleRules
  | 110 => exact ck_X10_goThrough
  | 111 => exact ck_X10_tallyShortOnes
  | 112 => exact ck_X10_power
  | 113 => exact ck_X10_commonDivisor
  | 114 => exact ck_X10_isWithin
  | 115 => exact ck_X10_isLaneOfSheet
  | 116 => exact ck_X10_isWordLetter
  | 117 => exact ck_X10_isLetter
  | 118 => exact ck_X10_isOfSort
  | 119 => exact ck_X11_init
  | 120 => exact ck_X11_in
  | 121 => exact ck_X11_has
  | 122 => exact ck_X11_bits
  | 123 => exact ck_X11_copies
  | 124 => exact ck_X11_isSmall
  | 125 => exact ck_X11_isLetter
  | 126 => exact ck_X11_type
  | 127 => exact ck_X11_here
  | 128 => exact ck_X11_kindOf
  | 129 => exact ck_X11_takes
  | 130 => exact ck_X11_takesLetters
  | 131 => exact ck_X11_readsRule
  | 132 => exact ck_X11_readsJob
  | 133 => exact ck_X11_fault
  | 134 => exact ck_X11_job
  | 135 => exact ck_X11_rule
  | 136 => exact ck_X11_kindsAsTold
  | 137 => exact ck_X11_hasPhrase
  | 138 => exact ck_X11_isSmallAt
  | 139 => exact ck_X11_stands
  | 140 => exact ck_X11_givenBy
  | 141 => exact ck_X11_comesIn
  | 142 => exact ck_X11_ruleAt
  | 143 => exact ck_X11_goesOver
  | 144 => exact ck_X11_comesNow
  | 145 => exact ck_X11_becomes
  | 146 => exact ck_X11_isRule
  | 147 => exact ck_X11_of
  | 148 => exact ck_X11_spelt
  | 149 => exact ck_X11_isPlace
  | 150 => exact ck_X11_at
  | 151 => exact ck_X11_idle
  | 152 => exact ck_X11_count
  | 153 => exact ck_X11_notes
  | 154 => exact ck_X11_change
  | 155 => exact ck_X11_turn
  | 156 => exact ck_X11_passes
  | 157 => exact ck_X11_pass
  | 158 => exact ck_X11_isOfSort
  | 159 => exact ck_X11_pile
  | 160 => exact ck_X11_put
  | 161 => exact ck_X11_passPile
  | 162 => exact ck_X11_undo
  | 163 => exact ck_X11_comes
  | 164 => exact ck_X11_used
  | 165 => exact ck_X11_went
  | 166 => exact ck_X11_isSameLine
  | 167 => exact ck_X11_rest
  | 168 => exact ck_X11_sureOf
  | 169 => exact ck_X11_sure
  | 170 => exact ck_X11_lean
  | 171 => exact ck_X11_longOdds
  | 172 => exact ck_X11_image
  | 173 => exact ck_X11_restore
  | 174 => exact ck_X11_isSheet
  | 175 => exact ck_X11_isLane
  | 176 => exact ck_X11_finds
  | 177 => exact ck_X11_cut
  | 178 => exact ck_X11_came
  | 179 => exact ck_X11_film
  | 180 => exact ck_X11_sheet
  | 181 => exact ck_X11_drop
  | 182 => exact ck_X11_item
  | 183 => exact ck_X11_copy
  | 184 => exact ck_J6_bitCount_0f7a4
  | 185 => exact ck_J9_floorMod_7cf53
  | 186 => exact ck_J9_max_7cf53
  | 187 => exact ck_J9_min_7cf53
  | 188 => exact ck_J7_fill_d0a16
  | 189 => exact ck_L_law
  | k + 190 => rfl
theorem ckQ_get (mi : Nat) : ∀ (q : List pmE) (pc k : Nat) (e : pmE), ckQ mi pc q = true → q[k]? = some e → ckE mi (pc + k) e = true
  | [], _, _, _, _, h => by simp at h
  | x :: t, pc, 0, e, hc, h => by
    simp only [ckQ, Bool.and_eq_true] at hc
    rw [List.getElem?_cons_zero] at h
    cases h
    exact hc.1
  | x :: t, pc, k + 1, e, hc, h => by
    simp only [ckQ, Bool.and_eq_true] at hc
    rw [List.getElem?_cons_succ] at h
    have := ckQ_get mi t (pc + 1) k e hc.2 h
    rw [Nat.add_assoc, Nat.add_comm 1 k] at this
    exact this
theorem ckE_of {mi pc : Nat} {e : pmE} (h : pmCode mi pc = some e) : ckE mi pc e = true := by
  have hm := ckM_all mi
  unfold pmCode at h
  unfold ckM at hm
  cases hq : pmQ[mi]? with
  | none => rw [hq] at h; cases h
  | some q =>
    rw [hq] at h hm
    have := ckQ_get mi q 0 pc e hm h
    rwa [Nat.zero_add] at this
end
section
/-! the pure cells as a world of the kit -/
def pmAd (b base k : Nat) : Nat := match k with
  | 0 => b
  | k + 1 => base + (k + 1)
def pmCv (ad : Nat → Nat) : Value → Value
  | .ref k => .ref (ad k)
  | v => v
def pmFv (ad : Nat → Nat) (f : Nat → Int32) (j : Nat) : Option (Option Nat) → Value
  | none => .int (f j)
  | some r => va_rf (r.map ad)
def pmFs (ad : Nat → Nat) (f : Nat → Int32) : Nat → List (Option (Option Nat)) → List Value
  | _, [] => []
  | j, x :: t => pmFv ad f j x :: pmFs ad f (j + 1) t
theorem pmFs_get (ad : Nat → Nat) (f : Nat → Int32) : ∀ (sl : List (Option (Option Nat))) (j i : Nat), (pmFs ad f j sl)[i]? = (sl[i]?).map (pmFv ad f (j + i))
  | [], _, _ => by simp [pmFs]
  | x :: t, j, 0 => by simp [pmFs]
  | x :: t, j, i + 1 => by
    rw [pmFs, List.getElem?_cons_succ, List.getElem?_cons_succ, pmFs_get ad f t (j + 1) i]
    rw [show j + 1 + i = j + (i + 1) by omega]
theorem pmFs_len (ad : Nat → Nat) (f : Nat → Int32) : ∀ (sl : List (Option (Option Nat))) (j : Nat), (pmFs ad f j sl).length = sl.length
  | [], _ => rfl
  | x :: t, j => by simp [pmFs, pmFs_len ad f t (j + 1)]
def pmAr (ad : Nat → Nat) (fM : Nat → Int32) (fN : Nat → Int64) (t n : Nat) (rs : List (Option Nat)) : vp_A :=
  (n, if t = 1 then .inr (.inl fN) else if t < 3 then .inl fM else .inr (.inr (.inr (.inr (fun j => (rs.getD j none).map ad)))))
def pmCe (g : Nat → ClassId) (ad : Nat → Nat) (M : pmM) (N : pmN) (k : Nat) : ((Nat × Nat × List (Option Nat)) ⊕ (Nat × List (Option (Option Nat)))) → va_E
  | .inl x => .inl (g x.1, pmAr ad (M k) (N k) x.1 x.2.1 x.2.2)
  | .inr x => .inr (x.1, pmFs ad (M k) 0 x.2)
def pmWs (g : Nat → ClassId) (ad : Nat → Nat) (M : pmM) (N : pmN) : Nat → pmS → va_W
  | _, [] => []
  | k, e :: t => (ad k, pmCe g ad M N k e) :: pmWs g ad M N (k + 1) t
theorem pmWs_get (g : Nat → ClassId) (ad : Nat → Nat) (M : pmM) (N : pmN) : ∀ (sh : pmS) (k i : Nat), (pmWs g ad M N k sh)[i]? = (sh[i]?).map fun e => (ad (k + i), pmCe g ad M N (k + i) e)
  | [], _, _ => by simp [pmWs]
  | x :: t, k, 0 => by simp [pmWs]
  | x :: t, k, i + 1 => by
    rw [pmWs, List.getElem?_cons_succ, List.getElem?_cons_succ, pmWs_get g ad M N t (k + 1) i]
    rw [show k + 1 + i = k + (i + 1) by omega]
theorem pmWs_len (g : Nat → ClassId) (ad : Nat → Nat) (M : pmM) (N : pmN) : ∀ (sh : pmS) (k : Nat), (pmWs g ad M N k sh).length = sh.length
  | [], _ => rfl
  | x :: t, k => by simp [pmWs, pmWs_len g ad M N t (k + 1)]
/-- the world: the cells from 1 on -/
def pmWd (g : Nat → ClassId) (b base : Nat) (sh : pmS) (M : pmM) (N : pmN) : va_W := pmWs g (pmAd b base) M N 1 sh.tail
theorem pmWd_get' (g : Nat → ClassId) (b base : Nat) (sh : pmS) (M : pmM) (N : pmN) (k : Nat) : (pmWd g b base sh M N)[k]? = (sh[k + 1]?).map fun e => (base + (k + 1), pmCe g (pmAd b base) M N (k + 1) e) := by
  unfold pmWd
  rw [pmWs_get, List.getElem?_tail, Nat.add_comm 1 k]
  rfl
theorem pmWd_get {g : Nat → ClassId} {b base : Nat} {sh : pmS} {M : pmM} {N : pmN} {k : Nat} {e : (Nat × Nat × List (Option Nat)) ⊕ (Nat × List (Option (Option Nat)))} (h : sh[k + 1]? = some e) : (pmWd g b base sh M N)[k]? = some (base + (k + 1), pmCe g (pmAd b base) M N (k + 1) e) := by
  rw [pmWd_get', h]; rfl
theorem pmWd_set {g : Nat → ClassId} {b base : Nat} {sh : pmS} {M M' : pmM} {N N' : pmN} {k : Nat} {e0 e : (Nat × Nat × List (Option Nat)) ⊕ (Nat × List (Option (Option Nat)))} (h : sh[k + 1]? = some e0) (hM : ∀ x, x ≠ k + 1 → M' x = M x) (hN : ∀ x, x ≠ k + 1 → N' x = N x) :
    (pmWd g b base sh M N).set k (base + (k + 1), pmCe g (pmAd b base) M' N' (k + 1) e) = pmWd g b base (sh.set (k + 1) e) M' N' := by
  have hl : k < (pmWd g b base sh M N).length := (List.getElem?_eq_some_iff.mp (pmWd_get h)).1
  have hl2 : k + 1 < sh.length := (List.getElem?_eq_some_iff.mp h).1
  apply List.ext_getElem?
  intro i
  rw [pmWd_get']
  by_cases hi : i = k
  · subst hi
    rw [List.getElem?_set_self hl, List.getElem?_set_self hl2]
    rfl
  · rw [List.getElem?_set_ne (Ne.symm hi), pmWd_get', List.getElem?_set_ne (by omega)]
    cases sh[i + 1]? with
    | none => rfl
    | some e1 =>
      have h1 : M' (i + 1) = M (i + 1) := hM _ (by omega)
      have h2 : N' (i + 1) = N (i + 1) := hN _ (by omega)
      cases e1 <;> simp [pmCe, h1, h2]
theorem pmWd_setM {g : Nat → ClassId} {b base : Nat} {sh : pmS} {M M' : pmM} {N N' : pmN} {k : Nat} {e : (Nat × Nat × List (Option Nat)) ⊕ (Nat × List (Option (Option Nat)))} (h : sh[k + 1]? = some e) (hM : ∀ x, x ≠ k + 1 → M' x = M x) (hN : ∀ x, x ≠ k + 1 → N' x = N x) :
    (pmWd g b base sh M N).set k (base + (k + 1), pmCe g (pmAd b base) M' N' (k + 1) e) = pmWd g b base sh M' N' := by
  rw [pmWd_set h hM hN]
  congr 1
  apply List.ext_getElem?
  intro i
  by_cases hi : i = k + 1
  · subst hi
    rw [List.getElem?_set_self (List.getElem?_eq_some_iff.mp h).1, h]
  · rw [List.getElem?_set_ne (Ne.symm hi)]
theorem pmWd_app {g : Nat → ClassId} {b base : Nat} {sh : pmS} {M M' : pmM} {N N' : pmN} {e : (Nat × Nat × List (Option Nat)) ⊕ (Nat × List (Option (Option Nat)))} (h0 : 0 < sh.length) (hM : ∀ x, x ≠ sh.length → M' x = M x) (hN : ∀ x, x ≠ sh.length → N' x = N x) :
    pmWd g b base sh M N ++ [(base + sh.length, pmCe g (pmAd b base) M' N' sh.length e)] = pmWd g b base (sh ++ [e]) M' N' := by
  have hlen : (pmWd g b base sh M N).length + 1 = sh.length := by
    unfold pmWd
    rw [pmWs_len, List.length_tail]
    omega
  apply List.ext_getElem?
  intro i
  rw [pmWd_get']
  by_cases hi : i < (pmWd g b base sh M N).length
  · rw [List.getElem?_append_left hi, pmWd_get', List.getElem?_append_left (by omega)]
    cases sh[i + 1]? with
    | none => rfl
    | some e1 =>
      have h1 : M' (i + 1) = M (i + 1) := hM _ (by omega)
      have h2 : N' (i + 1) = N (i + 1) := hN _ (by omega)
      cases e1 <;> simp [pmCe, h1, h2]
  · rw [List.getElem?_append_right (by omega), List.getElem?_append_right (by omega)]
    by_cases hi2 : i = (pmWd g b base sh M N).length
    · subst hi2
      rw [Nat.sub_self, show (pmWd g b base sh M N).length + 1 - sh.length = 0 by omega, hlen]
      rfl
    · have e1 : ∃ d, i - (pmWd g b base sh M N).length = d + 1 := ⟨i - (pmWd g b base sh M N).length - 1, by omega⟩
      have e2 : ∃ d, i + 1 - sh.length = d + 1 := ⟨i + 1 - sh.length - 1, by omega⟩
      obtain ⟨d1, e1⟩ := e1
      obtain ⟨d2, e2⟩ := e2
      rw [e1, e2]
      simp
theorem pmWd_D {g : Nat → ClassId} {b base : Nat} {sh : pmS} {M : pmM} {N : pmN} : va_D (fun q => base < q) (pmWd g b base sh M N) := by
  refine ⟨fun i j p q hi hj hpq => ?_, fun k q hk => ?_⟩
  · rw [pmWd_get'] at hi hj
    obtain ⟨e1, -, rfl⟩ := Option.map_eq_some_iff.mp hi
    obtain ⟨e2, -, rfl⟩ := Option.map_eq_some_iff.mp hj
    simp only at hpq
    omega
  · rw [pmWd_get'] at hk
    obtain ⟨e1, -, rfl⟩ := Option.map_eq_some_iff.mp hk
    show base < base + (k + 1)
    omega
/-! locals -/
def pmLr (ad : Nat → Nat) (lsA : Array Slot) (nL : Nat) (ls : List Value) : Prop := ls.length = nL ∧ lsA.size = nL ∧ lv_wf lsA ∧ ∀ (i : Nat) (v : Value), ls[i]? = some v → v ≠ .null → lsA[i]? = some (.val (pmCv ad v))
def pmLv (ad : Nat → Nat) : Nat → List Value → List (Nat × Value)
  | _, [] => []
  | i, .null :: t => pmLv ad (i + 1) t
  | i, v :: t => (i, pmCv ad v) :: pmLv ad (i + 1) t
theorem pmLv_mem (ad : Nat → Nat) : ∀ (ls : List Value) (i : Nat) (q : Nat × Value), q ∈ pmLv ad i ls ↔ ∃ (j : Nat) (v : Value), ls[j]? = some v ∧ v ≠ .null ∧ q = (i + j, pmCv ad v)
  | [], i, q => by simp [pmLv]
  | x :: t, i, q => by
    have ih := pmLv_mem ad t (i + 1) q
    have key : (∃ (j : Nat) (v : Value), (x :: t)[j]? = some v ∧ v ≠ .null ∧ q = (i + j, pmCv ad v)) ↔ ((x ≠ .null ∧ q = (i, pmCv ad x)) ∨ ∃ (j : Nat) (v : Value), t[j]? = some v ∧ v ≠ .null ∧ q = (i + 1 + j, pmCv ad v)) := by
      constructor
      · rintro ⟨j, v, h1, h2, h3⟩
        cases j with
        | zero =>
          rw [List.getElem?_cons_zero] at h1
          cases h1
          exact Or.inl ⟨h2, h3⟩
        | succ j =>
          rw [List.getElem?_cons_succ] at h1
          exact Or.inr ⟨j, v, h1, h2, by rw [h3]; congr 1; omega⟩
      · rintro (⟨h1, h2⟩ | ⟨j, v, h1, h2, h3⟩)
        · exact ⟨0, x, rfl, h1, h2⟩
        · exact ⟨j + 1, v, by rw [List.getElem?_cons_succ]; exact h1, h2, by rw [h3]; congr 1; omega⟩
    rw [key, ← ih]
    cases x <;> simp [pmLv]
theorem pmLr_has {ad : Nat → Nat} {lsA : Array Slot} {nL : Nat} {ls : List Value} (h : pmLr ad lsA nL ls) : lv_has lsA nL (pmLv ad 0 ls) := by
  refine ⟨h.2.1, h.2.2.1, fun q hq => ?_⟩
  obtain ⟨j, v, h1, h2, rfl⟩ := (pmLv_mem ad ls 0 q).mp hq
  have := h.2.2.2 j v h1 h2
  simpa using this
theorem pmLr_at {ad : Nat → Nat} {lsA : Array Slot} {nL : Nat} {ls : List Value} (h : pmLr ad lsA nL ls) {i : Nat} {v : Value} (hv : ls[i]? = some v) (hn : v ≠ .null) : lsA[i]? = some (.val (pmCv ad v)) := h.2.2.2 i v hv hn
theorem pmPut_len (ls : List Value) (i : Nat) (v : Value) : (pmPut ls i v).length = ls.length := by
  cases i with
  | zero => simp [pmPut]
  | succ i =>
    unfold pmPut
    rw [List.length_set]
    split <;> simp
theorem pmPut_get {ls : List Value} {i j : Nat} {v w : Value} (h : (pmPut ls i v)[j]? = some w) (hw : w ≠ .null) : (j = i ∧ w = v) ∨ (j ≠ i ∧ ls[j]? = some w ∧ ¬ (j + 1 = i ∧ pmIsL w = true)) := by
  by_cases hj : j = i
  · subst hj
    left
    refine ⟨rfl, ?_⟩
    cases j with
    | zero =>
      simp only [pmPut] at h
      rw [List.getElem?_set] at h
      simp at h
      exact h.2.symm
    | succ j =>
      simp only [pmPut] at h
      rw [List.getElem?_set] at h
      simp at h
      exact h.2.symm
  · right
    refine ⟨hj, ?_⟩
    cases i with
    | zero =>
      simp only [pmPut] at h
      rw [List.getElem?_set_ne (Ne.symm hj)] at h
      exact ⟨h, by omega⟩
    | succ i =>
      simp only [pmPut] at h
      rw [List.getElem?_set_ne (Ne.symm hj)] at h
      by_cases hL : pmIsL (ls.getD i .null) = true
      · rw [if_pos hL] at h
        by_cases hji : j = i
        · subst hji
          rw [List.getElem?_set] at h
          simp at h
          exact absurd h.2.symm hw
        · rw [List.getElem?_set_ne (Ne.symm hji)] at h
          exact ⟨h, by omega⟩
      · rw [if_neg hL] at h
        refine ⟨h, ?_⟩
        rintro ⟨h1, h2⟩
        have hji : j = i := by omega
        subst hji
        rw [List.getD_eq_getElem?_getD, h] at hL
        exact hL h2
theorem pmCv_cat {ad : Nat → Nat} {v : Value} (hv : (pmCv ad v).category = 2) : pmIsL v = true := by
  cases v <;> first | rfl | (simp [pmCv, Value.category] at hv; done)
theorem pmLr_put {ad : Nat → Nat} {lsA : Array Slot} {nL i : Nat} {ls : List Value} {v : Value} (hn : ls.length = nL) (h : lv_has lsA nL ((i, pmCv ad v) :: (pmLv ad 0 ls).filter (fun q => !(q.1 == i) && !(q.1 + 1 == i && q.2.category == 2)))) : pmLr ad lsA nL (pmPut ls i v) := by
  refine ⟨(pmPut_len ls i v).trans hn, h.1, h.2.1, fun j w hj hw => ?_⟩
  rcases pmPut_get hj hw with ⟨rfl, rfl⟩ | ⟨h1, h2, h3⟩
  · exact h.2.2 (j, pmCv ad w) List.mem_cons_self
  · refine h.2.2 (j, pmCv ad w) (List.mem_cons_of_mem _ (List.mem_filter.mpr ⟨(pmLv_mem ad ls 0 _).mpr ⟨j, w, h2, hw, by simp⟩, ?_⟩))
    have h4 : ¬ (j + 1 = i ∧ (pmCv ad w).category = 2) := fun q => h3 ⟨q.1, pmCv_cat q.2⟩
    simp only [Bool.and_eq_true, Bool.not_eq_true', beq_eq_false_iff_ne, ne_eq, Bool.and_eq_false_iff]
    exact ⟨h1, by by_cases q : j + 1 = i; exact Or.inr (fun z => h4 ⟨q, z⟩); exact Or.inl q⟩
theorem pmLr_put2 {ad : Nat → Nat} {lsA : Array Slot} {nL i : Nat} {ls : List Value} {v : Value} (hn : ls.length = nL) (h : lv_has lsA nL ((i, pmCv ad v) :: (pmLv ad 0 ls).filter (fun q => !(q.1 == i) && (!(q.1 == i + 1) && !(q.1 + 1 == i && q.2.category == 2))))) : pmLr ad lsA nL (pmPut2 ls i v) := by
  refine ⟨by unfold pmPut2; rw [List.length_set, pmPut_len]; exact hn, h.1, h.2.1, fun j w hj hw => ?_⟩
  unfold pmPut2 at hj
  have hji : j ≠ i + 1 := by
    intro q
    subst q
    rw [List.getElem?_set] at hj
    simp at hj
    exact hw hj.2.symm
  rw [List.getElem?_set_ne (Ne.symm hji)] at hj
  rcases pmPut_get hj hw with ⟨rfl, rfl⟩ | ⟨h1, h2, h3⟩
  · exact h.2.2 (j, pmCv ad w) List.mem_cons_self
  · refine h.2.2 (j, pmCv ad w) (List.mem_cons_of_mem _ (List.mem_filter.mpr ⟨(pmLv_mem ad ls 0 _).mpr ⟨j, w, h2, hw, by simp⟩, ?_⟩))
    have h4 : ¬ (j + 1 = i ∧ (pmCv ad w).category = 2) := fun q => h3 ⟨q.1, pmCv_cat q.2⟩
    simp only [Bool.and_eq_true, Bool.not_eq_true', beq_eq_false_iff_ne, ne_eq, Bool.and_eq_false_iff]
    exact ⟨h1, hji, by by_cases q : j + 1 = i; exact Or.inr (fun z => h4 ⟨q, z⟩); exact Or.inl q⟩
/-! the tables' words, the classes -/
def pmUse : Cond → Bool
  | .privateMethod _ => false
  | _ => true
def pmTb : List Cond := lw_tbl.filter pmUse
theorem pmTb_of {c : Nat} {w : Cond} (h : ckLw c w = true) (hu : pmUse w = true) : w ∈ pmTb := by
  unfold ckLw at h
  exact List.mem_filter.mpr ⟨List.mem_of_getElem? (of_decide_eq_true h), hu⟩
def pmTy (g : Nat → ClassId) : List (ClassId × FieldType) := [(g 0, .int), (g 1, .long), (g 2, .boolean), (g 3, .object "PhraseSwaps$Rule"), (g 4, .object "PhraseSwaps$Moment"), (g 5, .object "PhraseSwaps$Sheet")]
def pmTo (sh : pmS) : Nat := (sh.map (fun e => match e with
  | .inl x => x.2.1
  | .inr x => x.2.length)).sum
abbrev pmY (mi : Nat) : MethodName := (pmG mi).1
abbrev pmBy (mi : Nat) : ByteArray := (pmG mi).2.1
abbrev pmOwn (mi : Nat) : String := (pmG mi).2.2.2.2.2.1
abbrev pmFr (mi : Nat) : Nat := (pmG mi).2.2.2.2.2.2.2.2.1
abbrev pmGl (mi : Nat) : Nat := (pmG mi).2.2.2.2.2.2.2.2.2
theorem pmU_0 : (wsX00.all fun w => pmTb.contains w) = true := by decide +kernel
theorem pmU_1 : (wsX10.all fun w => pmTb.contains w) = true := by decide +kernel
theorem pmU_2 : (wsX20.all fun w => pmTb.contains w) = true := by decide +kernel
theorem pmU_3 : (wsX30.all fun w => pmTb.contains w) = true := by decide +kernel
theorem pmU_4 : (wsX40.all fun w => pmTb.contains w) = true := by decide +kernel
theorem pmU_5 : (wsX50.all fun w => pmTb.contains w) = true := by decide +kernel
theorem pmU_6 : (wsX60.all fun w => pmTb.contains w) = true := by decide +kernel
theorem pmU_7 : (wsX70.all fun w => pmTb.contains w) = true := by decide +kernel
theorem pmU_8 : (wsX80.all fun w => pmTb.contains w) = true := by decide +kernel
theorem pmU_9 : (wsX90.all fun w => pmTb.contains w) = true := by decide +kernel
theorem pmU_10 : (wsX100.all fun w => pmTb.contains w) = true := by decide +kernel
theorem pmU_11 : (wsX110.all fun w => pmTb.contains w) = true := by decide +kernel
theorem pmU_in {ws : List Cond} (h : (ws.all fun w => pmTb.contains w) = true) : ∀ w ∈ ws, w ∈ pmTb := fun w hw => by
  have := List.all_eq_true.mp h w hw
  simpa using this
/-- what is known of a class by its number -/
def pmCk (ci : Nat) (R : String) (T : u_T) (n : Nat) : Prop := pmNf.getD ci 0 = n ∧ (∀ k, k < n → parseFieldDescriptor (T k).2.2.1 = some ((pmTys.getD ci (fun _ => .int)) k)) ∧ (∀ a, a < n → ∀ b, b < n → a ≠ b → (T a).2.1 ≠ (T b).2.1) ∧ (∀ w ∈ u_ws R T n, w ∈ pmTb) ∧ ckLw (pmWc.getD ci (0, 0)).1 (.instantiable R n) = true ∧ ckLw (pmWc.getD ci (0, 0)).2 (.initialized R) = true
theorem pmCk_of {ci : Nat} {R : String} {T : u_T} {n : Nat} (h : vwCl[ci]? = some (R, T, n)) : pmCk ci R T n := by
  match ci, h with
  | 0, h => cases h; exact ⟨rfl, tyX0_ok, nmX0, pmU_in pmU_0, by decide +kernel, by decide +kernel⟩
  | 1, h => cases h; exact ⟨rfl, tyX1_ok, nmX1, pmU_in pmU_1, by decide +kernel, by decide +kernel⟩
  | 2, h => cases h; exact ⟨rfl, tyX2_ok, nmX2, pmU_in pmU_2, by decide +kernel, by decide +kernel⟩
  | 3, h => cases h; exact ⟨rfl, tyX3_ok, nmX3, pmU_in pmU_3, by decide +kernel, by decide +kernel⟩
  | 4, h => cases h; exact ⟨rfl, tyX4_ok, nmX4, pmU_in pmU_4, by decide +kernel, by decide +kernel⟩
  | 5, h => cases h; exact ⟨rfl, tyX5_ok, nmX5, pmU_in pmU_5, by decide +kernel, by decide +kernel⟩
  | 6, h => cases h; exact ⟨rfl, tyX6_ok, nmX6, pmU_in pmU_6, by decide +kernel, by decide +kernel⟩
  | 7, h => cases h; exact ⟨rfl, tyX7_ok, nmX7, pmU_in pmU_7, by decide +kernel, by decide +kernel⟩
  | 8, h => cases h; exact ⟨rfl, tyX8_ok, nmX8, pmU_in pmU_8, by decide +kernel, by decide +kernel⟩
  | 9, h => cases h; exact ⟨rfl, tyX9_ok, nmX9, pmU_in pmU_9, by decide +kernel, by decide +kernel⟩
  | 10, h => cases h; exact ⟨rfl, tyX10_ok, nmX10, pmU_in pmU_10, by decide +kernel, by decide +kernel⟩
  | 11, h => cases h; exact ⟨rfl, tyX11_ok, nmX11, pmU_in pmU_11, by decide +kernel, by decide +kernel⟩
  | k + 12, h => simp [vwCl] at h
theorem pmWg_ok : ckLw 0 (.selects "PhraseSwaps$Tape" ⟨"PhraseSwaps$Tape", "takes", "(I)Z"⟩ ⟨"PhraseSwaps$Tape", "takes", "(I)Z"⟩) = true := by decide +kernel
theorem ck1 {mi pc len a b c : Nat} {i : Instr} (h : pmCode mi pc = some (i, len, a, b, c)) (hn : i ≠ .nop) : decode (pmBy mi) pc = .ok (i, len) ∧ ckI mi pc (i, len, a, b, c) = true := by
  have hk := ckE_of h
  unfold ckE at hk
  cases i <;> first | exact absurd rfl hn | (simp only [Bool.and_eq_true, decide_eq_true_eq] at hk; exact hk)
end
section
/-! A STEP of the pure machine is a step of the real one -/
/-- what a walk of method mi stands on -/
def pmCx (p : Program) (R : Room) (s : State) (m : MethodId) (args : Array Value) (meth : Method) (c : Code) (mi : Nat) (D : va_G) (g : Nat → ClassId) : Prop :=
  p.tables.exec = Jvm.exec ∧ c.code = pmBy mi ∧ c.maxLocals = pmL mi ∧ s.vm.findClass (pmOwn mi) = some m.cls ∧ (∀ w ∈ pmTb, w.before args s = true) ∧ va_K D vwCl (pmTy g) s ∧ meth.locks = false ∧ meth.sig.returnType = pmRt mi ∧ (pmKd mi = 2 → meth.name = "<init>") ∧ pmFr mi ≤ R.frames ∧ pmGl mi ≤ R.locals
/-- the script, where the law walks -/
def pmXc (s : State) (b base : Nat) (mi : Nat) (sh : pmS) (M : pmM) : Prop := mi = mL_law → ∃ (L : Nat) (rs : List (Option Nat)), sh[0]? = some (.inl (0, L, rs)) ∧ va_X b L (M 0) s s.heap ∧ b < s.heap.size ∧ b ≤ base
def pmW (p : Program) (l : Launch) (e : Env) (R : Room) (s : State) (m : MethodId) (args : Array Value) (below : List Frame) (meth : Method) (c : Code) (Q : State → Prop) (D : va_G) (g : Nat → ClassId) (b base k0 t0 mi pc : Nat) (ls st : List Value) (sh : pmS) (M : pmM) (N : pmN) : Prop :=
  ∀ (H : Heap) (locs : List Loc) (lsA : Array Slot), va_P D vwCl (pmWd g b base sh M N) H → va_S (fun q => base < q) s.heap H locs → pmLr (pmAd b base) lsA (pmL mi) ls → W p l e R s m args below meth c H locs (sh.length - k0) (pmTo sh - t0) Q (F0 m pc lsA (st.map (pmCv (pmAd b base))))
theorem pmSt_ne (M : pmM) (k j : Nat) (v : Int32) : ∀ x, x ≠ k → pmSt M k j v x = M x := fun x h => va_up_ne _ _ h
theorem pmStL_ne (N : pmN) (k j : Nat) (v : Int64) : ∀ x, x ≠ k → pmStL N k j v x = N x := fun x h => va_up_ne _ _ h
theorem pmSt_eq (M : pmM) (k j : Nat) (v : Int32) : pmSt M k j v k = upd (M k) j v := va_up_self _ _ _
theorem pmStL_eq (N : pmN) (k j : Nat) (v : Int64) : pmStL N k j v k = vp_updL (N k) j v := va_up_self _ _ _
theorem pmTo_app (sh : pmS) (x : (Nat × Nat × List (Option Nat)) ⊕ (Nat × List (Option (Option Nat)))) : pmTo (sh ++ [x]) = pmTo sh + (match x with
  | .inl x => x.2.1
  | .inr x => x.2.length) := by
  cases x <;> simp [pmTo]
theorem pmTo_set_aux {α : Type} (f : α → Nat) : ∀ (l : List α) (k : Nat) (x y : α), l[k]? = some x → f y = f x → ((l.set k y).map f).sum = (l.map f).sum
  | [], _, _, _, h, _ => by simp at h
  | z :: t, 0, x, y, h, e => by
    rw [List.getElem?_cons_zero] at h
    cases h
    simp [e]
  | z :: t, k + 1, x, y, h, e => by
    rw [List.getElem?_cons_succ] at h
    rw [List.set_cons_succ, List.map_cons, List.sum_cons, List.map_cons, List.sum_cons, pmTo_set_aux f t k x y h e]
theorem pmFs_st (ad : Nat → Nat) (f : Nat → Int32) (b : Nat) (x : Int32) {sl : List (Option (Option Nat))} (h : sl[b]? = some none) : (pmFs ad f 0 sl).set b (.int x) = pmFs ad (upd f b x) 0 sl := by
  have hb : b < sl.length := (List.getElem?_eq_some_iff.mp h).1
  apply List.ext_getElem?
  intro i
  by_cases hi : i = b
  · subst hi
    rw [List.getElem?_set_self (by rw [pmFs_len]; exact hb), pmFs_get, h]
    simp [pmFv, upd]
  · rw [List.getElem?_set_ne (Ne.symm hi), pmFs_get, pmFs_get]
    cases sl[i]? with
    | none => rfl
    | some q => cases q <;> simp [pmFv, upd, hi]
theorem pmFs_ref (ad : Nat → Nat) (f : Nat → Int32) (b r : Nat) {sl : List (Option (Option Nat))} (hb : b < sl.length) : (pmFs ad f 0 sl).set b (.ref (ad r)) = pmFs ad f 0 (sl.set b (some (some r))) := by
  apply List.ext_getElem?
  intro i
  by_cases hi : i = b
  · subst hi
    rw [List.getElem?_set_self (by rw [pmFs_len]; exact hb), pmFs_get, List.getElem?_set_self hb]
    rfl
  · rw [List.getElem?_set_ne (Ne.symm hi), pmFs_get, pmFs_get, List.getElem?_set_ne (Ne.symm hi)]
theorem ckFld_of {own : String} {idx ci j c : Nat} (h : ckFld own idx ci j c = true) : ∃ (R : String) (T : u_T) (n : Nat), vwCl[ci]? = some (R, T, n) ∧ j < n ∧ (T j).1 = R ∧ (Cond.fieldLink own idx R (T j).2.1 (T j).2.2.1 ∈ pmTb ∨ Cond.fieldLinkNest own idx R (T j).2.1 (T j).2.2.1 pmHost ∈ pmTb) := by
  unfold ckFld at h
  cases hv : vwCl[ci]? with
  | none => rw [hv] at h; cases h
  | some x =>
    obtain ⟨R, T, n⟩ := x
    rw [hv] at h
    simp only [Bool.and_eq_true, Bool.or_eq_true, decide_eq_true_eq] at h
    exact ⟨R, T, n, rfl, h.1.1, h.1.2, h.2.imp (fun q => pmTb_of q rfl) (fun q => pmTb_of q rfl)⟩
theorem pmTy_at (g : Nat → ClassId) : (pmTy g)[0]? = some (g 0, .int) ∧ (pmTy g)[1]? = some (g 1, .long) ∧ (pmTy g)[2]? = some (g 2, .boolean) := ⟨rfl, rfl, rfl⟩
theorem pmTy_el (g : Nat → ClassId) {tg ci : Nat} (h : pmEl tg = some ci) : ∃ r : vw_C, vwCl[ci]? = some r ∧ (pmTy g)[tg]? = some (g tg, .object r.1) ∧ 3 ≤ tg := by
  match tg, h with
  | 3, h => cases h; exact ⟨_, rfl, rfl, by decide⟩
  | 4, h => cases h; exact ⟨_, rfl, rfl, by decide⟩
  | 5, h => cases h; exact ⟨_, rfl, rfl, by decide⟩
  | 0, h => cases h
  | 1, h => cases h
  | 2, h => cases h
  | k + 6, h => cases h
theorem pmTy_tg (g : Nat → ClassId) {tg : Nat} (h1 : 3 ≤ tg) (h2 : tg ≤ 5) : ∃ C : String, (pmTy g)[tg]? = some (g tg, .object C) := by
  rcases (show tg = 3 ∨ tg = 4 ∨ tg = 5 by omega) with rfl | rfl | rfl <;> exact ⟨_, rfl⟩
theorem pmAr_i (ad : Nat → Nat) (fM : Nat → Int32) (fN : Nat → Int64) (n : Nat) (rs : List (Option Nat)) : pmAr ad fM fN 0 n rs = (n, .inl fM) := rfl
theorem pmAr_l (ad : Nat → Nat) (fM : Nat → Int32) (fN : Nat → Int64) (n : Nat) (rs : List (Option Nat)) : pmAr ad fM fN 1 n rs = (n, .inr (.inl fN)) := rfl
theorem pmAr_z (ad : Nat → Nat) (fM : Nat → Int32) (fN : Nat → Int64) (n : Nat) (rs : List (Option Nat)) : pmAr ad fM fN 2 n rs = (n, .inl fM) := rfl
theorem pmAr_q (ad : Nat → Nat) (fM : Nat → Int32) (fN : Nat → Int64) {t : Nat} (h : 3 ≤ t) (n : Nat) (rs : List (Option Nat)) : pmAr ad fM fN t n rs = (n, .inr (.inr (.inr (.inr (fun j => (rs.getD j none).map ad))))) := by
  unfold pmAr
  rw [if_neg (by omega), if_neg (by omega)]
/-- instructions that change neither cells nor shapes -/
def pmA : Instr → Bool
  | .iconst _ | .bipush _ | .sipush _ | .lconst _ | .ldc_w _ | .ldc2_w _ | .iload _ | .lload _ | .aload _ | .iload_n _ | .lload_n _ | .aload_n _ | .istore _ | .lstore _ | .astore _ | .istore_n _ | .lstore_n _ | .astore_n _ | .iinc _ _
  | .iadd | .isub | .imul | .iand | .ior | .ixor | .ishl | .ishr | .iushr | .irem | .ladd | .lmul | .land | .lor | .ldiv | .lrem | .lshl | .lcmp | .i2l | .l2i | .i2b | .i2s | .dup | .dup2 | .pop | .getfield _ => true
  | _ => false
section SND
variable {p : Program} {l : Launch} {e : Env} {R : Room} {s : State} {m : MethodId} {args : Array Value} {below : List Frame} {meth : Method} {c : Code} {Q : State → Prop} {D : va_G} {g : Nat → ClassId} {b base k0 t0 : Nat}
/-- how large the heap is -/
theorem pmW_sz {H : Heap} {locs : List Loc} {cells slots : Nat} {g' : JFrame} (h : H.size ≤ s.heap.size + cells → W p l e R s m args below meth c H locs cells slots Q g') : W p l e R s m args below meth c H locs cells slots Q g' := by
  intro T hT X
  have h3 := X.same.2.2.1
  exact h (by rw [← hT]; exact h3) T hT X
theorem pmSz {sh : pmS} {M : pmM} {N : pmN} {H : Heap} {locs : List Loc} (hP : va_P D vwCl (pmWd g b base sh M N) H) (hS : va_S (fun q => base < q) s.heap H locs) (hk : k0 ≤ sh.length) (h1 : 1 ≤ k0) (hs : s.heap.size = base + k0) (hu : H.size ≤ s.heap.size + (sh.length - k0)) : H.size = base + sh.length := by
  have hlow : base + sh.length ≤ H.size := by
    by_cases hq : sh.length = k0
    · rw [hq, ← hs]; exact hS.1
    · have hx : ∃ x, sh[(sh.length - 2) + 1]? = some x := ⟨_, List.getElem?_eq_getElem (by omega)⟩
      obtain ⟨x, hx⟩ := hx
      have h2 := (hP _ _ (pmWd_get (g := g) (b := b) (base := base) (M := M) (N := N) hx)).lt
      simp only at h2
      omega
  omega
theorem pmCv_c1 {ad : Nat → Nat} {v : Value} (h : v.category = 1) : (pmCv ad v).category = 1 := by
  cases v <;> first | exact h | rfl
set_option maxHeartbeats 4000000 in
/-- the instructions that change the frame alone, and getfield -/
theorem snd_a {i : Instr} {len a bb cw mi pc : Nat} {ls st ls' st' : List Value} {sh sh' : pmS} {M M' : pmM} {N N' : pmN} (hcode : pmCode mi pc = some (i, len, a, bb, cw)) (hex : pmEx i a bb ls st sh M N = some (ls', st', sh', M', N')) (hna : pmA i = true) (C0 : pmCx p R s m args meth c mi D g)
    (kk : pmW p l e R s m args below meth c Q D g b base k0 t0 mi (pc + len) ls' st' sh' M' N') : pmW p l e R s m args below meth c Q D g b base k0 t0 mi pc ls st sh M N := by
  obtain ⟨hx, hb, hml, hown, hts, hK, hlocks, hret, hin2, hfr, hgl⟩ := C0
  intro H locs lsA hP hS hl
  cases i with
  | iconst n =>
    simp only [pmEx] at hex
    simp only [Option.some.injEq, Prod.mk.injEq] at hex
    obtain ⟨rfl, rfl, rfl, rfl, rfl⟩ := hex
    obtain ⟨hd, hi⟩ := ck1 hcode (by intro q; cases q)
    simp only [ckI, Bool.and_eq_true, decide_eq_true_eq] at hi
    obtain rfl := hi
    exact lv_iconst hx hb hd rfl (kk H locs lsA hP hS hl)
  | bipush n =>
    simp only [pmEx] at hex
    simp only [Option.some.injEq, Prod.mk.injEq] at hex
    obtain ⟨rfl, rfl, rfl, rfl, rfl⟩ := hex
    obtain ⟨hd, hi⟩ := ck1 hcode (by intro q; cases q)
    simp only [ckI, Bool.and_eq_true, decide_eq_true_eq] at hi
    obtain rfl := hi
    exact lv_bipush hx hb hd rfl (kk H locs lsA hP hS hl)
  | sipush n =>
    simp only [pmEx] at hex
    simp only [Option.some.injEq, Prod.mk.injEq] at hex
    obtain ⟨rfl, rfl, rfl, rfl, rfl⟩ := hex
    obtain ⟨hd, hi⟩ := ck1 hcode (by intro q; cases q)
    simp only [ckI, Bool.and_eq_true, decide_eq_true_eq] at hi
    obtain rfl := hi
    exact lv_sipush hx hb hd rfl (kk H locs lsA hP hS hl)
  | lconst n =>
    simp only [pmEx] at hex
    simp only [Option.some.injEq, Prod.mk.injEq] at hex
    obtain ⟨rfl, rfl, rfl, rfl, rfl⟩ := hex
    obtain ⟨hd, hi⟩ := ck1 hcode (by intro q; cases q)
    simp only [ckI, Bool.and_eq_true, decide_eq_true_eq] at hi
    obtain rfl := hi
    exact lv_lconst hx hb hd rfl (kk H locs lsA hP hS hl)
  | ldc_w idx =>
    simp only [pmEx] at hex
    simp only [Option.some.injEq, Prod.mk.injEq] at hex
    obtain ⟨rfl, rfl, rfl, rfl, rfl⟩ := hex
    obtain ⟨hd, hi⟩ := ck1 hcode (by intro q; cases q)
    simp only [ckI, Bool.and_eq_true, decide_eq_true_eq] at hi
    obtain rfl := hi.1
    exact lv_ldcw hx hb hown (hts _ (pmTb_of hi.2 rfl)) hd (kk H locs lsA hP hS hl)
  | ldc2_w idx =>
    simp only [pmEx] at hex
    simp only [Option.some.injEq, Prod.mk.injEq] at hex
    obtain ⟨rfl, rfl, rfl, rfl, rfl⟩ := hex
    obtain ⟨hd, hi⟩ := ck1 hcode (by intro q; cases q)
    simp only [ckI, Bool.and_eq_true, decide_eq_true_eq] at hi
    obtain rfl := hi.1
    exact lv_ldc2 hx hb hown (hts _ (pmTb_of hi.2 rfl)) hd (kk H locs lsA hP hS hl)
  | iload k =>
    simp only [pmEx] at hex
    split at hex
    · rename_i x hx1
      simp only [Option.some.injEq, Prod.mk.injEq] at hex
      obtain ⟨rfl, rfl, rfl, rfl, rfl⟩ := hex
      obtain ⟨hd, hi⟩ := ck1 hcode (by intro q; cases q)
      simp only [ckI, Bool.and_eq_true, decide_eq_true_eq] at hi
      obtain ⟨rfl, rfl⟩ := hi
      exact lv_iload hx hb hd (pmLr_at hl hx1 (by intro q; cases q)) (kk H locs lsA hP hS hl)
    · cases hex
  | iload_n k =>
    simp only [pmEx] at hex
    split at hex
    · rename_i x hx1
      simp only [Option.some.injEq, Prod.mk.injEq] at hex
      obtain ⟨rfl, rfl, rfl, rfl, rfl⟩ := hex
      obtain ⟨hd, hi⟩ := ck1 hcode (by intro q; cases q)
      simp only [ckI, Bool.and_eq_true, decide_eq_true_eq] at hi
      obtain ⟨h1, rfl⟩ := hi
      exact lv_iload_n hx hb hd h1.symm (pmLr_at hl hx1 (by intro q; cases q)) (kk H locs lsA hP hS hl)
    · cases hex
  | istore k =>
    simp only [pmEx] at hex
    split at hex
    · split at hex
      · rename_i hlt
        simp only [Option.some.injEq, Prod.mk.injEq] at hex
        obtain ⟨rfl, rfl, rfl, rfl, rfl⟩ := hex
        obtain ⟨hd, hi⟩ := ck1 hcode (by intro q; cases q)
        simp only [ckI, Bool.and_eq_true, decide_eq_true_eq] at hi
        obtain ⟨rfl, rfl⟩ := hi
        exact lv_istore hx hb hd (pmLr_has hl) (by rw [← hl.1]; exact hlt) rfl (fun ls' h' => kk H locs ls' hP hS (pmLr_put hl.1 h'))
      · cases hex
    · cases hex
  | istore_n k =>
    simp only [pmEx] at hex
    split at hex
    · split at hex
      · rename_i hlt
        simp only [Option.some.injEq, Prod.mk.injEq] at hex
        obtain ⟨rfl, rfl, rfl, rfl, rfl⟩ := hex
        obtain ⟨hd, hi⟩ := ck1 hcode (by intro q; cases q)
        simp only [ckI, Bool.and_eq_true, decide_eq_true_eq] at hi
        obtain ⟨h1, rfl⟩ := hi
        exact lv_istore_n hx hb hd h1.symm (pmLr_has hl) (by rw [← hl.1]; exact hlt) rfl (fun ls' h' => kk H locs ls' hP hS (pmLr_put hl.1 h'))
      · cases hex
    · cases hex
  | lload k =>
    simp only [pmEx] at hex
    split at hex
    · rename_i x hx1
      simp only [Option.some.injEq, Prod.mk.injEq] at hex
      obtain ⟨rfl, rfl, rfl, rfl, rfl⟩ := hex
      obtain ⟨hd, hi⟩ := ck1 hcode (by intro q; cases q)
      simp only [ckI, Bool.and_eq_true, decide_eq_true_eq] at hi
      obtain ⟨rfl, rfl⟩ := hi
      exact lv_lload hx hb hd (pmLr_at hl hx1 (by intro q; cases q)) (kk H locs lsA hP hS hl)
    · cases hex
  | lload_n k =>
    simp only [pmEx] at hex
    split at hex
    · rename_i x hx1
      simp only [Option.some.injEq, Prod.mk.injEq] at hex
      obtain ⟨rfl, rfl, rfl, rfl, rfl⟩ := hex
      obtain ⟨hd, hi⟩ := ck1 hcode (by intro q; cases q)
      simp only [ckI, Bool.and_eq_true, decide_eq_true_eq] at hi
      obtain ⟨h1, rfl⟩ := hi
      exact lv_lload_n hx hb hd h1.symm (pmLr_at hl hx1 (by intro q; cases q)) (kk H locs lsA hP hS hl)
    · cases hex
  | lstore k =>
    simp only [pmEx] at hex
    split at hex
    · split at hex
      · rename_i hlt
        simp only [Option.some.injEq, Prod.mk.injEq] at hex
        obtain ⟨rfl, rfl, rfl, rfl, rfl⟩ := hex
        obtain ⟨hd, hi⟩ := ck1 hcode (by intro q; cases q)
        simp only [ckI, Bool.and_eq_true, decide_eq_true_eq] at hi
        obtain ⟨rfl, rfl⟩ := hi
        exact lv_lstore hx hb hd (pmLr_has hl) (by rw [← hl.1]; exact hlt) rfl (fun ls' h' => kk H locs ls' hP hS (pmLr_put2 hl.1 h'))
      · cases hex
    · cases hex
  | lstore_n k =>
    simp only [pmEx] at hex
    split at hex
    · split at hex
      · rename_i hlt
        simp only [Option.some.injEq, Prod.mk.injEq] at hex
        obtain ⟨rfl, rfl, rfl, rfl, rfl⟩ := hex
        obtain ⟨hd, hi⟩ := ck1 hcode (by intro q; cases q)
        simp only [ckI, Bool.and_eq_true, decide_eq_true_eq] at hi
        obtain ⟨h1, rfl⟩ := hi
        exact lv_lstore_n hx hb hd h1.symm (pmLr_has hl) (by rw [← hl.1]; exact hlt) rfl (fun ls' h' => kk H locs ls' hP hS (pmLr_put2 hl.1 h'))
      · cases hex
    · cases hex
  | aload k =>
    simp only [pmEx] at hex
    split at hex
    · rename_i x hx1
      simp only [Option.some.injEq, Prod.mk.injEq] at hex
      obtain ⟨rfl, rfl, rfl, rfl, rfl⟩ := hex
      obtain ⟨hd, hi⟩ := ck1 hcode (by intro q; cases q)
      simp only [ckI, Bool.and_eq_true, decide_eq_true_eq] at hi
      obtain ⟨rfl, rfl⟩ := hi
      exact lv_aload hx hb hd (pmLr_at hl hx1 (by intro q; cases q)) (kk H locs lsA hP hS hl)
    · cases hex
  | aload_n k =>
    simp only [pmEx] at hex
    split at hex
    · rename_i x hx1
      simp only [Option.some.injEq, Prod.mk.injEq] at hex
      obtain ⟨rfl, rfl, rfl, rfl, rfl⟩ := hex
      obtain ⟨hd, hi⟩ := ck1 hcode (by intro q; cases q)
      simp only [ckI, Bool.and_eq_true, decide_eq_true_eq] at hi
      obtain ⟨h1, rfl⟩ := hi
      exact lv_aload_n hx hb hd h1.symm (pmLr_at hl hx1 (by intro q; cases q)) (kk H locs lsA hP hS hl)
    · cases hex
  | astore k =>
    simp only [pmEx] at hex
    split at hex
    · split at hex
      · rename_i hlt
        simp only [Option.some.injEq, Prod.mk.injEq] at hex
        obtain ⟨rfl, rfl, rfl, rfl, rfl⟩ := hex
        obtain ⟨hd, hi⟩ := ck1 hcode (by intro q; cases q)
        simp only [ckI, Bool.and_eq_true, decide_eq_true_eq] at hi
        obtain ⟨rfl, rfl⟩ := hi
        exact lv_astore hx hb hd (pmLr_has hl) (by rw [← hl.1]; exact hlt) rfl (fun ls' h' => kk H locs ls' hP hS (pmLr_put hl.1 h'))
      · cases hex
    · cases hex
  | astore_n k =>
    simp only [pmEx] at hex
    split at hex
    · split at hex
      · rename_i hlt
        simp only [Option.some.injEq, Prod.mk.injEq] at hex
        obtain ⟨rfl, rfl, rfl, rfl, rfl⟩ := hex
        obtain ⟨hd, hi⟩ := ck1 hcode (by intro q; cases q)
        simp only [ckI, Bool.and_eq_true, decide_eq_true_eq] at hi
        obtain ⟨h1, rfl⟩ := hi
        exact lv_astore_n hx hb hd h1.symm (pmLr_has hl) (by rw [← hl.1]; exact hlt) rfl (fun ls' h' => kk H locs ls' hP hS (pmLr_put hl.1 h'))
      · cases hex
    · cases hex
  | iinc k n =>
    simp only [pmEx] at hex
    split at hex
    · rename_i x hx1
      simp only [Option.some.injEq, Prod.mk.injEq] at hex
      obtain ⟨rfl, rfl, rfl, rfl, rfl⟩ := hex
      obtain ⟨hd, hi⟩ := ck1 hcode (by intro q; cases q)
      simp only [ckI, Bool.and_eq_true, decide_eq_true_eq] at hi
      obtain ⟨rfl, rfl⟩ := hi
      obtain ⟨q, hq⟩ := List.getElem?_of_mem ((pmLv_mem (pmAd b base) ls 0 (a, Value.int x)).mpr ⟨a, .int x, hx1, by (intro q; cases q), by simp [pmCv]⟩)
      exact lv_iinc hx hb hd (pmLr_has hl) hq rfl (by rw [← hl.1]; exact (List.getElem?_eq_some_iff.mp hx1).1) rfl (fun ls' h' => kk H locs ls' hP hS (pmLr_put hl.1 h'))
    · cases hex
  | iadd =>
    simp only [pmEx] at hex
    split at hex
    · simp only [Option.some.injEq, Prod.mk.injEq] at hex
      obtain ⟨rfl, rfl, rfl, rfl, rfl⟩ := hex
      obtain ⟨hd, hi⟩ := ck1 hcode (by intro q; cases q)
      simp only [ckI, Bool.and_eq_true, decide_eq_true_eq] at hi
      obtain rfl := hi
      exact lv_iadd hx hb hd (kk H locs lsA hP hS hl)
    · cases hex
  | isub =>
    simp only [pmEx] at hex
    split at hex
    · simp only [Option.some.injEq, Prod.mk.injEq] at hex
      obtain ⟨rfl, rfl, rfl, rfl, rfl⟩ := hex
      obtain ⟨hd, hi⟩ := ck1 hcode (by intro q; cases q)
      simp only [ckI, Bool.and_eq_true, decide_eq_true_eq] at hi
      obtain rfl := hi
      exact lv_isub hx hb hd (kk H locs lsA hP hS hl)
    · cases hex
  | imul =>
    simp only [pmEx] at hex
    split at hex
    · simp only [Option.some.injEq, Prod.mk.injEq] at hex
      obtain ⟨rfl, rfl, rfl, rfl, rfl⟩ := hex
      obtain ⟨hd, hi⟩ := ck1 hcode (by intro q; cases q)
      simp only [ckI, Bool.and_eq_true, decide_eq_true_eq] at hi
      obtain rfl := hi
      exact lv_imul hx hb hd (kk H locs lsA hP hS hl)
    · cases hex
  | iand =>
    simp only [pmEx] at hex
    split at hex
    · simp only [Option.some.injEq, Prod.mk.injEq] at hex
      obtain ⟨rfl, rfl, rfl, rfl, rfl⟩ := hex
      obtain ⟨hd, hi⟩ := ck1 hcode (by intro q; cases q)
      simp only [ckI, Bool.and_eq_true, decide_eq_true_eq] at hi
      obtain rfl := hi
      exact lv_iand hx hb hd (kk H locs lsA hP hS hl)
    · cases hex
  | ior =>
    simp only [pmEx] at hex
    split at hex
    · simp only [Option.some.injEq, Prod.mk.injEq] at hex
      obtain ⟨rfl, rfl, rfl, rfl, rfl⟩ := hex
      obtain ⟨hd, hi⟩ := ck1 hcode (by intro q; cases q)
      simp only [ckI, Bool.and_eq_true, decide_eq_true_eq] at hi
      obtain rfl := hi
      exact lv_ior hx hb hd (kk H locs lsA hP hS hl)
    · cases hex
  | ixor =>
    simp only [pmEx] at hex
    split at hex
    · simp only [Option.some.injEq, Prod.mk.injEq] at hex
      obtain ⟨rfl, rfl, rfl, rfl, rfl⟩ := hex
      obtain ⟨hd, hi⟩ := ck1 hcode (by intro q; cases q)
      simp only [ckI, Bool.and_eq_true, decide_eq_true_eq] at hi
      obtain rfl := hi
      exact lv_ixor hx hb hd (kk H locs lsA hP hS hl)
    · cases hex
  | ishl =>
    simp only [pmEx] at hex
    split at hex
    · simp only [Option.some.injEq, Prod.mk.injEq] at hex
      obtain ⟨rfl, rfl, rfl, rfl, rfl⟩ := hex
      obtain ⟨hd, hi⟩ := ck1 hcode (by intro q; cases q)
      simp only [ckI, Bool.and_eq_true, decide_eq_true_eq] at hi
      obtain rfl := hi
      exact lv_ishl hx hb hd (kk H locs lsA hP hS hl)
    · cases hex
  | ishr =>
    simp only [pmEx] at hex
    split at hex
    · simp only [Option.some.injEq, Prod.mk.injEq] at hex
      obtain ⟨rfl, rfl, rfl, rfl, rfl⟩ := hex
      obtain ⟨hd, hi⟩ := ck1 hcode (by intro q; cases q)
      simp only [ckI, Bool.and_eq_true, decide_eq_true_eq] at hi
      obtain rfl := hi
      exact lv_ishr hx hb hd (kk H locs lsA hP hS hl)
    · cases hex
  | ladd =>
    simp only [pmEx] at hex
    split at hex
    · simp only [Option.some.injEq, Prod.mk.injEq] at hex
      obtain ⟨rfl, rfl, rfl, rfl, rfl⟩ := hex
      obtain ⟨hd, hi⟩ := ck1 hcode (by intro q; cases q)
      simp only [ckI, Bool.and_eq_true, decide_eq_true_eq] at hi
      obtain rfl := hi
      exact lv_ladd hx hb hd (kk H locs lsA hP hS hl)
    · cases hex
  | lmul =>
    simp only [pmEx] at hex
    split at hex
    · simp only [Option.some.injEq, Prod.mk.injEq] at hex
      obtain ⟨rfl, rfl, rfl, rfl, rfl⟩ := hex
      obtain ⟨hd, hi⟩ := ck1 hcode (by intro q; cases q)
      simp only [ckI, Bool.and_eq_true, decide_eq_true_eq] at hi
      obtain rfl := hi
      exact lv_lmul hx hb hd (kk H locs lsA hP hS hl)
    · cases hex
  | land =>
    simp only [pmEx] at hex
    split at hex
    · simp only [Option.some.injEq, Prod.mk.injEq] at hex
      obtain ⟨rfl, rfl, rfl, rfl, rfl⟩ := hex
      obtain ⟨hd, hi⟩ := ck1 hcode (by intro q; cases q)
      simp only [ckI, Bool.and_eq_true, decide_eq_true_eq] at hi
      obtain rfl := hi
      exact lv_land hx hb hd (kk H locs lsA hP hS hl)
    · cases hex
  | lor =>
    simp only [pmEx] at hex
    split at hex
    · simp only [Option.some.injEq, Prod.mk.injEq] at hex
      obtain ⟨rfl, rfl, rfl, rfl, rfl⟩ := hex
      obtain ⟨hd, hi⟩ := ck1 hcode (by intro q; cases q)
      simp only [ckI, Bool.and_eq_true, decide_eq_true_eq] at hi
      obtain rfl := hi
      exact lv_lor hx hb hd (kk H locs lsA hP hS hl)
    · cases hex
  | iushr =>
    simp only [pmEx] at hex
    split at hex
    · simp only [Option.some.injEq, Prod.mk.injEq] at hex
      obtain ⟨rfl, rfl, rfl, rfl, rfl⟩ := hex
      obtain ⟨hd, hi⟩ := ck1 hcode (by intro q; cases q)
      simp only [ckI, Bool.and_eq_true, decide_eq_true_eq] at hi
      obtain rfl := hi
      exact lv_iushr hx hb hd rfl (kk H locs lsA hP hS hl)
    · cases hex
  | lshl =>
    simp only [pmEx] at hex
    split at hex
    · simp only [Option.some.injEq, Prod.mk.injEq] at hex
      obtain ⟨rfl, rfl, rfl, rfl, rfl⟩ := hex
      obtain ⟨hd, hi⟩ := ck1 hcode (by intro q; cases q)
      simp only [ckI, Bool.and_eq_true, decide_eq_true_eq] at hi
      obtain rfl := hi
      exact lv_lshl hx hb hd rfl (kk H locs lsA hP hS hl)
    · cases hex
  | i2l =>
    simp only [pmEx] at hex
    split at hex
    · simp only [Option.some.injEq, Prod.mk.injEq] at hex
      obtain ⟨rfl, rfl, rfl, rfl, rfl⟩ := hex
      obtain ⟨hd, hi⟩ := ck1 hcode (by intro q; cases q)
      simp only [ckI, Bool.and_eq_true, decide_eq_true_eq] at hi
      obtain rfl := hi
      exact lv_i2l hx hb hd rfl (kk H locs lsA hP hS hl)
    · cases hex
  | l2i =>
    simp only [pmEx] at hex
    split at hex
    · simp only [Option.some.injEq, Prod.mk.injEq] at hex
      obtain ⟨rfl, rfl, rfl, rfl, rfl⟩ := hex
      obtain ⟨hd, hi⟩ := ck1 hcode (by intro q; cases q)
      simp only [ckI, Bool.and_eq_true, decide_eq_true_eq] at hi
      obtain rfl := hi
      exact lv_l2i hx hb hd rfl (kk H locs lsA hP hS hl)
    · cases hex
  | i2b =>
    simp only [pmEx] at hex
    split at hex
    · simp only [Option.some.injEq, Prod.mk.injEq] at hex
      obtain ⟨rfl, rfl, rfl, rfl, rfl⟩ := hex
      obtain ⟨hd, hi⟩ := ck1 hcode (by intro q; cases q)
      simp only [ckI, Bool.and_eq_true, decide_eq_true_eq] at hi
      obtain rfl := hi
      exact lv_i2b hx hb hd rfl (kk H locs lsA hP hS hl)
    · cases hex
  | i2s =>
    simp only [pmEx] at hex
    split at hex
    · simp only [Option.some.injEq, Prod.mk.injEq] at hex
      obtain ⟨rfl, rfl, rfl, rfl, rfl⟩ := hex
      obtain ⟨hd, hi⟩ := ck1 hcode (by intro q; cases q)
      simp only [ckI, Bool.and_eq_true, decide_eq_true_eq] at hi
      obtain rfl := hi
      exact lv_i2s hx hb hd rfl (kk H locs lsA hP hS hl)
    · cases hex
  | lcmp =>
    simp only [pmEx] at hex
    split at hex
    · simp only [Option.some.injEq, Prod.mk.injEq] at hex
      obtain ⟨rfl, rfl, rfl, rfl, rfl⟩ := hex
      obtain ⟨hd, hi⟩ := ck1 hcode (by intro q; cases q)
      simp only [ckI, Bool.and_eq_true, decide_eq_true_eq] at hi
      obtain rfl := hi
      exact W.lcmp hx hb hd (kk H locs lsA hP hS hl)
    · cases hex
  | irem =>
    simp only [pmEx] at hex
    split at hex
    · split at hex
      · cases hex
      · rename_i h0
        simp only [Option.some.injEq, Prod.mk.injEq] at hex
        obtain ⟨rfl, rfl, rfl, rfl, rfl⟩ := hex
        obtain ⟨hd, hi⟩ := ck1 hcode (by intro q; cases q)
        simp only [ckI, Bool.and_eq_true, decide_eq_true_eq] at hi
        obtain rfl := hi
        exact lv_irem hx hb hd h0 (kk H locs lsA hP hS hl)
    · cases hex
  | ldiv =>
    simp only [pmEx] at hex
    split at hex
    · split at hex
      · cases hex
      · rename_i h0
        simp only [Option.some.injEq, Prod.mk.injEq] at hex
        obtain ⟨rfl, rfl, rfl, rfl, rfl⟩ := hex
        obtain ⟨hd, hi⟩ := ck1 hcode (by intro q; cases q)
        simp only [ckI, Bool.and_eq_true, decide_eq_true_eq] at hi
        obtain rfl := hi
        exact lv_ldiv hx hb hd h0 (kk H locs lsA hP hS hl)
    · cases hex
  | lrem =>
    simp only [pmEx] at hex
    split at hex
    · split at hex
      · cases hex
      · rename_i h0
        simp only [Option.some.injEq, Prod.mk.injEq] at hex
        obtain ⟨rfl, rfl, rfl, rfl, rfl⟩ := hex
        obtain ⟨hd, hi⟩ := ck1 hcode (by intro q; cases q)
        simp only [ckI, Bool.and_eq_true, decide_eq_true_eq] at hi
        obtain rfl := hi
        exact lv_lrem hx hb hd h0 (kk H locs lsA hP hS hl)
    · cases hex
  | dup =>
    simp only [pmEx] at hex
    split at hex
    · split at hex
      · rename_i h0
        simp only [Option.some.injEq, Prod.mk.injEq] at hex
        obtain ⟨rfl, rfl, rfl, rfl, rfl⟩ := hex
        obtain ⟨hd, hi⟩ := ck1 hcode (by intro q; cases q)
        simp only [ckI, Bool.and_eq_true, decide_eq_true_eq] at hi
        obtain rfl := hi
        exact lv_dup hx hb hd (pmCv_c1 h0) (kk H locs lsA hP hS hl)
      · cases hex
    · cases hex
  | pop =>
    simp only [pmEx] at hex
    split at hex
    · split at hex
      · rename_i h0
        simp only [Option.some.injEq, Prod.mk.injEq] at hex
        obtain ⟨rfl, rfl, rfl, rfl, rfl⟩ := hex
        obtain ⟨hd, hi⟩ := ck1 hcode (by intro q; cases q)
        simp only [ckI, Bool.and_eq_true, decide_eq_true_eq] at hi
        obtain rfl := hi
        exact lv_pop hx hb hd (pmCv_c1 h0) (kk H locs lsA hP hS hl)
      · cases hex
    · cases hex
  | dup2 =>
    simp only [pmEx] at hex
    split at hex
    · split at hex
      · rename_i h0
        simp only [Option.some.injEq, Prod.mk.injEq] at hex
        obtain ⟨rfl, rfl, rfl, rfl, rfl⟩ := hex
        obtain ⟨hd, hi⟩ := ck1 hcode (by intro q; cases q)
        simp only [ckI, Bool.and_eq_true, decide_eq_true_eq] at hi
        obtain rfl := hi
        exact lv_dup2_11 hx hb hd (pmCv_c1 h0.1) (pmCv_c1 h0.2) (kk H locs lsA hP hS hl)
      · cases hex
    · cases hex
  | getfield idx =>
    simp only [pmEx] at hex
    split at hex
    · rename_i k t
      split at hex
      · rename_i ci sl hsh
        split at hex
        · rename_i hci
          subst hci
          obtain ⟨hd, hi⟩ := ck1 hcode (by intro q; cases q)
          simp only [ckI, Bool.and_eq_true, decide_eq_true_eq] at hi
          obtain ⟨rfl, hf⟩ := hi
          obtain ⟨Rn, T, n, hv, hj, hR, hlk⟩ := ckFld_of hf
          obtain ⟨-, -, -, hin, -, -⟩ := pmCk_of hv
          have he : (pmWd g b base sh M N)[k]? = some (base + (k + 1), .inr (ci, pmFs (pmAd b base) (M (k + 1)) 0 sl)) := pmWd_get hsh
          have fin : ∀ v : Value, (pmFs (pmAd b base) (M (k + 1)) 0 sl)[bb]? = some v → W p l e R s m args below meth c H locs (sh.length - k0) (pmTo sh - t0) Q (F0 m (pc + 3) lsA (v :: t.map (pmCv (pmAd b base)))) → W p l e R s m args below meth c H locs (sh.length - k0) (pmTo sh - t0) Q (F0 m pc lsA (.ref (base + (k + 1)) :: t.map (pmCv (pmAd b base)))) := by
            intro v hv2 hW
            rcases hlk with hlk | hlk
            · exact va_get (C := Rn) (T := T) (N := n) hx hb hts hin hown hK hP k he hv bb hj (hts _ hlk) (fun _ h9 => by rw [hR] at h9; exact h9) hv2 hd hW
            · exact va_getN (C := Rn) (T := T) (N := n) hx hb hts hin hown hK hP k he hv bb hj (hts _ hlk) (fun _ h9 => by rw [hR] at h9; exact h9) hv2 hd hW
          split at hex
          · rename_i hs1
            simp only [Option.some.injEq, Prod.mk.injEq] at hex
            obtain ⟨rfl, rfl, rfl, rfl, rfl⟩ := hex
            exact fin _ (by rw [pmFs_get, hs1]; simp [pmFv, pmCv]) (kk H locs lsA hP hS hl)
          · rename_i r hs1
            simp only [Option.some.injEq, Prod.mk.injEq] at hex
            obtain ⟨rfl, rfl, rfl, rfl, rfl⟩ := hex
            exact fin _ (by rw [pmFs_get, hs1]; rfl) (kk H locs lsA hP hS hl)
          · cases hex
        · cases hex
      · cases hex
    · cases hex
  | _ => cases hna

end SND
end
section
/-! THE INSTRUCTIONS THAT LOOK AT CELLS, OR MAKE THEM -/
section SNB
variable {p : Program} {l : Launch} {e : Env} {R : Room} {s : State} {m : MethodId} {args : Array Value} {below : List Frame} {meth : Method} {c : Code} {Q : State → Prop} {D : va_G} {g : Nat → ClassId} {b base k0 t0 : Nat}
theorem pmK_eq {t : Nat} {ty : FieldType} {cA : ClassId} (hK : va_K D vwCl (pmTy g) s) (hK2 : va_K D vwCl (pmTy g ++ [(cA, ty)]) s) (ht : (pmTy g)[t]? = some (g t, ty)) : cA = g t := by
  have h1 := (hK.2 t _ ht).2
  have h2 := (hK2.2 (pmTy g).length (cA, ty) (by rw [List.getElem?_append_right (Nat.le_refl _), Nat.sub_self]; rfl)).2
  cases ty with
  | object C =>
    obtain ⟨_, _, -, -, -, e1⟩ := h1
    obtain ⟨_, _, -, -, -, e2⟩ := h2
    exact Option.some.inj (e2.symm.trans e1)
  | _ => exact Option.some.inj ((show s.vm.findClass _ = some cA from h2).symm.trans h1)
/-- a new cell stands at the next address -/
theorem pmNew_q {sh : pmS} {M : pmM} {N : pmN} {q : Nat} {x : va_E} {H1 : Heap} (hP : va_P D vwCl (pmWd g b base sh M N ++ [(q, x)]) H1) (hD : va_D (fun q => base < q) (pmWd g b base sh M N ++ [(q, x)])) (hs : s.heap.size = base + k0) (hk : k0 ≤ sh.length) (h1 : 1 ≤ k0) (hu : H1.size ≤ s.heap.size + (sh.length - k0 + 1)) : q = base + sh.length := by
  have hlen : (pmWd g b base sh M N).length + 1 = sh.length := by
    unfold pmWd
    rw [pmWs_len, List.length_tail]
    omega
  have hq : (pmWd g b base sh M N ++ [(q, x)])[(pmWd g b base sh M N).length]? = some (q, x) := by
    rw [List.getElem?_append_right (Nat.le_refl _), Nat.sub_self]; rfl
  have h2 := (hP _ _ hq).lt
  have h3 : base < q := hD.2 _ _ hq
  simp only at h2
  by_cases hne : q = base + sh.length
  · exact hne
  · exfalso
    have hx : ∃ y, sh[(q - base - 1) + 1]? = some y := ⟨_, List.getElem?_eq_getElem (by omega)⟩
    obtain ⟨y, hy⟩ := hx
    have hy2 : (pmWd g b base sh M N ++ [(q, x)])[q - base - 1]? = some (base + ((q - base - 1) + 1), pmCe g (pmAd b base) M N ((q - base - 1) + 1) y) := by
      rw [List.getElem?_append_left (by omega)]
      exact pmWd_get hy
    have := hD.1 _ _ _ _ hq hy2 (by simp only; omega)
    omega
theorem pmBl_get (ad : Nat → Nat) {ci n : Nat} (h : pmNf.getD ci 0 = n) {j : Nat} (hj : j < n) : defaultValue ((pmTys.getD ci (fun _ => .int)) j) = vp_V (pmFs ad (fun _ => 0) 0 (pmBl ci)) j ∨ ∃ ty, (pmTys.getD ci (fun _ => .int)) j = ty ∧ (ty = .long ∨ ty = .float ∨ ty = .double) := by
  have hg : (pmBl ci)[j]? = some (match (pmTys.getD ci (fun _ => .int)) j with
    | .object _ => some none
    | .array _ => some none
    | _ => none) := by
    unfold pmBl pmBlank
    rw [h, List.getElem?_map, List.getElem?_range hj]
    rfl
  generalize hty : (pmTys.getD ci (fun _ => FieldType.int)) j = ty at hg ⊢
  cases ty with
  | long => exact Or.inr ⟨_, rfl, Or.inl rfl⟩
  | float => exact Or.inr ⟨_, rfl, Or.inr (Or.inl rfl)⟩
  | double => exact Or.inr ⟨_, rfl, Or.inr (Or.inr rfl)⟩
  | _ => exact Or.inl (by simp [vp_V, pmFs_get, hg, pmFv, defaultValue, va_rf])
theorem pmTys_ok : ∀ ci, ci < 12 → ∀ j, j < pmNf.getD ci 0 → (pmTys.getD ci (fun _ => .int)) j ≠ .long ∧ (pmTys.getD ci (fun _ => .int)) j ≠ .float ∧ (pmTys.getD ci (fun _ => .int)) j ≠ .double := by decide +kernel
theorem pmCl_lt {ci : Nat} {r : vw_C} (h : vwCl[ci]? = some r) : ci < 12 := (List.getElem?_eq_some_iff.mp h).1
theorem pmBl_len {ci n : Nat} (h : pmNf.getD ci 0 = n) : (pmBl ci).length = n := by
  unfold pmBl pmBlank
  rw [h]; simp
theorem pmCat_cv (ad : Nat → Nat) : ∀ t : List Value, ((t.map (pmCv ad)).map fun v => v.category).sum = pmCat t
  | [] => rfl
  | v :: t => by
    have := pmCat_cv ad t
    have e1 : (pmCv ad v).category = v.category := by cases v <;> rfl
    simp only [pmCat, List.map_cons, List.sum_cons] at this ⊢
    rw [e1, this]
theorem pmWg_int : ckLw (pmWg.getD 0 0) (.arrayClass .int) = true := by decide +kernel
theorem pmWg_long : ckLw (pmWg.getD 1 0) (.arrayClass .long) = true := by decide +kernel
theorem pmWg_boolean : ckLw (pmWg.getD 2 0) (.arrayClass .boolean) = true := by decide +kernel
theorem pmWg_3 : ckLw (pmWg.getD 3 0) (.arrayOver (.object (ckEl 3))) = true := by decide +kernel
theorem pmWg_4 : ckLw (pmWg.getD 4 0) (.arrayOver (.object (ckEl 4))) = true := by decide +kernel
theorem pmWg_5 : ckLw (pmWg.getD 5 0) (.arrayOver (.object (ckEl 5))) = true := by decide +kernel
theorem pmWg_6 : ckLw (pmWg.getD 6 0) (.native arraycopyName) = true := by decide +kernel
theorem pmWg_7 : ckLw (pmWg.getD 7 0) (.static arraycopyName) = true := by decide +kernel
theorem pmWg_8 : ckLw (pmWg.getD 8 0) (.initialized "java/lang/System") = true := by decide +kernel
theorem pmWg_9 : ckLw (pmWg.getD 9 0) (.instanceMethod objectInit) = true := by decide +kernel
theorem pmWg_10 : ckLw (pmWg.getD 10 0) (.code objectInit ⟨#[0xb1]⟩ 1 none) = true := by decide +kernel
set_option maxHeartbeats 4000000 in
theorem snd_b {i : Instr} {len a bb cw mi pc : Nat} {ls st ls' st' : List Value} {sh sh' : pmS} {M M' : pmM} {N N' : pmN} (hcode : pmCode mi pc = some (i, len, a, bb, cw)) (hex : pmEx i a bb ls st sh M N = some (ls', st', sh', M', N')) (hna : pmA i = false) (C0 : pmCx p R s m args meth c mi D g)
    (hXc : pmXc s b base mi sh M) (hs : s.heap.size = base + k0) (hk0 : k0 ≤ sh.length) (ht0 : t0 ≤ pmTo sh) (h10 : 1 ≤ k0) (hR1 : sh'.length - k0 ≤ R.cells) (hR2 : pmTo sh' - t0 ≤ R.slots)
    (kk : pmW p l e R s m args below meth c Q D g b base k0 t0 mi (pc + len) ls' st' sh' M' N') : pmW p l e R s m args below meth c Q D g b base k0 t0 mi pc ls st sh M N := by
  obtain ⟨hx, hb, hml, hown, hts, hK, hlocks, hret, hin2, hfr, hgl⟩ := C0
  intro H locs lsA hP hS hl
  cases i with
  | arraylength =>
    simp only [pmEx] at hex
    split at hex
    · rename_i k t
      split at hex
      · rename_i tg n rs hsh
        split at hex
        · rename_i h0
          simp only [Option.some.injEq, Prod.mk.injEq] at hex
          obtain ⟨rfl, rfl, rfl, rfl, rfl⟩ := hex
          obtain ⟨hd, hi⟩ := ck1 hcode (by intro q; cases q)
          simp only [ckI, Bool.and_eq_true, decide_eq_true_eq] at hi
          obtain ⟨rfl, hlw⟩ := hi
          cases k with
          | zero =>
            have hb1 : bb = 1 := by simpa using h0.1
            obtain ⟨L, rs2, hs2, hX, hbl, hbb⟩ := hXc (hlw hb1)
            have he := Option.some.inj (hsh.symm.trans hs2)
            cases he
            exact va_slen hx hb hX hbl (Nat.not_lt.mpr hbb) hS hd (kk H locs lsA hP hS hl)
          | succ k =>
            obtain ⟨ty, hty⟩ : ∃ ty, (pmTy g)[tg]? = some (g tg, ty) := by
              rcases (show tg = 0 ∨ tg = 1 ∨ tg = 2 ∨ tg = 3 ∨ tg = 4 ∨ tg = 5 by omega) with rfl | rfl | rfl | rfl | rfl | rfl <;> exact ⟨_, rfl⟩
            exact va_alen (x := pmAr (pmAd b base) (M (k + 1)) (N (k + 1)) tg n rs) hx hb hK hP k tg (pmWd_get hsh) hty rfl hd (kk H locs lsA hP hS hl)
        · cases hex
      · cases hex
    · cases hex
  | iaload =>
    simp only [pmEx] at hex
    split at hex
    · rename_i j k t
      split at hex
      · rename_i n rs hsh
        split at hex
        · rename_i h0
          simp only [Option.some.injEq, Prod.mk.injEq] at hex
          obtain ⟨rfl, rfl, rfl, rfl, rfl⟩ := hex
          obtain ⟨hd, hi⟩ := ck1 hcode (by intro q; cases q)
          simp only [ckI, Bool.and_eq_true, decide_eq_true_eq] at hi
          obtain ⟨rfl, hlw⟩ := hi
          cases k with
          | zero =>
            have hb1 : bb = 1 := by simpa using h0.1
            obtain ⟨L, rs2, hs2, hX, hbl, hbb⟩ := hXc (hlw hb1)
            have he := Option.some.inj (hsh.symm.trans hs2)
            cases he
            exact va_sld hx hb hX hbl (Nat.not_lt.mpr hbb) hS h0.2 hd (kk H locs lsA hP hS hl)
          | succ k => exact va_iald (f := M (k + 1)) (n := n) hx hb hK hP k 0 (pmWd_get hsh) rfl h0.2 hd (kk H locs lsA hP hS hl)
        · cases hex
      · cases hex
    · cases hex
  | baload =>
    simp only [pmEx] at hex
    split at hex
    · rename_i j k t
      split at hex
      · rename_i n rs hsh
        split at hex
        · rename_i h0
          simp only [Option.some.injEq, Prod.mk.injEq] at hex
          obtain ⟨rfl, rfl, rfl, rfl, rfl⟩ := hex
          obtain ⟨hd, hi⟩ := ck1 hcode (by intro q; cases q)
          simp only [ckI, Bool.and_eq_true, decide_eq_true_eq] at hi
          obtain rfl := hi
          exact va_zald (f := M (k + 1)) (n := n) hx hb hK hP k 2 (pmWd_get hsh) rfl h0 hd (kk H locs lsA hP hS hl)
        · cases hex
      · cases hex
    · cases hex
  | laload =>
    simp only [pmEx] at hex
    split at hex
    · rename_i j k t
      split at hex
      · rename_i n rs hsh
        split at hex
        · rename_i h0
          simp only [Option.some.injEq, Prod.mk.injEq] at hex
          obtain ⟨rfl, rfl, rfl, rfl, rfl⟩ := hex
          obtain ⟨hd, hi⟩ := ck1 hcode (by intro q; cases q)
          simp only [ckI, Bool.and_eq_true, decide_eq_true_eq] at hi
          obtain rfl := hi
          exact va_lald (f := N (k + 1)) (n := n) hx hb hK hP k 1 (pmWd_get hsh) rfl h0 hd (kk H locs lsA hP hS hl)
        · cases hex
      · cases hex
    · cases hex
  | aaload =>
    simp only [pmEx] at hex
    split at hex
    · rename_i j k t
      split at hex
      · rename_i tg n rs hsh
        split at hex
        · rename_i h0
          split at hex
          · rename_i r hr
            simp only [Option.some.injEq, Prod.mk.injEq] at hex
            obtain ⟨rfl, rfl, rfl, rfl, rfl⟩ := hex
            obtain ⟨hd, hi⟩ := ck1 hcode (by intro q; cases q)
            simp only [ckI, Bool.and_eq_true, decide_eq_true_eq] at hi
            obtain rfl := hi
            obtain ⟨C, hC⟩ := pmTy_tg g h0.1 h0.2.1
            refine va_aldq (f := fun j => (rs.getD j none).map (pmAd b base)) (n := n) hx hb hK hP k tg (by rw [pmWd_get hsh]; simp only [pmCe]; rw [pmAr_q _ _ _ h0.1]; rfl) hC h0.2.2 hd ?_
            have e1 : va_rf ((rs.getD j.toNatClampNeg none).map (pmAd b base)) = .ref (pmAd b base r) := by
              rw [List.getD_eq_getElem?_getD, hr]; rfl
            rw [e1]
            exact kk H locs lsA hP hS hl
          · cases hex
        · cases hex
      · cases hex
    · cases hex
  | iastore =>
    simp only [pmEx] at hex
    split at hex
    · rename_i x j k t
      split at hex
      · rename_i n rs hsh
        split at hex
        · rename_i h0
          simp only [Option.some.injEq, Prod.mk.injEq] at hex
          obtain ⟨rfl, rfl, rfl, rfl, rfl⟩ := hex
          obtain ⟨hd, hi⟩ := ck1 hcode (by intro q; cases q)
          simp only [ckI, Bool.and_eq_true, decide_eq_true_eq] at hi
          obtain rfl := hi
          refine va_iast (f := M (k + 1)) (n := n) hx hb hK hP pmWd_D hS k 0 (pmWd_get hsh) rfl h0 hd (fun H1 locs1 hP1 _ hS1 => ?_)
          refine kk H1 locs1 lsA ?_ hS1 hl
          rw [← pmWd_setM hsh (pmSt_ne M (k + 1) j.toNatClampNeg x) (fun _ _ => rfl)]
          simp only [pmCe, pmAr_i, pmSt_eq]
          exact hP1
        · cases hex
      · cases hex
    · cases hex
  | bastore =>
    simp only [pmEx] at hex
    split at hex
    · rename_i x j k t
      split at hex
      · rename_i n rs hsh
        split at hex
        · rename_i h0
          simp only [Option.some.injEq, Prod.mk.injEq] at hex
          obtain ⟨rfl, rfl, rfl, rfl, rfl⟩ := hex
          obtain ⟨hd, hi⟩ := ck1 hcode (by intro q; cases q)
          simp only [ckI, Bool.and_eq_true, decide_eq_true_eq] at hi
          obtain rfl := hi
          have hnar : vp_nar .boolean x = x := by rcases h0.2 with rfl | rfl <;> rfl
          refine va_zast (f := M (k + 1)) (n := n) hx hb hK hP pmWd_D hS k 2 (pmWd_get hsh) rfl h0.1 hd (fun H1 locs1 hP1 _ hS1 => ?_)
          refine kk H1 locs1 lsA ?_ hS1 hl
          rw [hnar] at hP1
          rw [← pmWd_setM hsh (pmSt_ne M (k + 1) j.toNatClampNeg x) (fun _ _ => rfl)]
          simp only [pmCe, pmAr_z, pmSt_eq]
          exact hP1
        · cases hex
      · cases hex
    · cases hex
  | lastore =>
    simp only [pmEx] at hex
    split at hex
    · rename_i x j k t
      split at hex
      · rename_i n rs hsh
        split at hex
        · rename_i h0
          simp only [Option.some.injEq, Prod.mk.injEq] at hex
          obtain ⟨rfl, rfl, rfl, rfl, rfl⟩ := hex
          obtain ⟨hd, hi⟩ := ck1 hcode (by intro q; cases q)
          simp only [ckI, Bool.and_eq_true, decide_eq_true_eq] at hi
          obtain rfl := hi
          refine va_last (f := N (k + 1)) (n := n) hx hb hK hP pmWd_D hS k 1 (pmWd_get hsh) rfl h0 hd (fun H1 locs1 hP1 _ hS1 => ?_)
          refine kk H1 locs1 lsA ?_ hS1 hl
          rw [← pmWd_setM hsh (fun _ _ => rfl) (pmStL_ne N (k + 1) j.toNatClampNeg x)]
          simp only [pmCe, pmAr_l, pmStL_eq]
          exact hP1
        · cases hex
      · cases hex
    · cases hex
  | aastore =>
    simp only [pmEx] at hex
    split at hex
    · rename_i r j k t
      split at hex
      · rename_i tg n rs ci sl hsh hsr
        split at hex
        · rename_i h0
          simp only [Option.some.injEq, Prod.mk.injEq] at hex
          obtain ⟨rfl, rfl, rfl, rfl, rfl⟩ := hex
          obtain ⟨hd, hi⟩ := ck1 hcode (by intro q; cases q)
          simp only [ckI, Bool.and_eq_true, decide_eq_true_eq] at hi
          obtain rfl := hi
          obtain ⟨rc, hrc, hty, h3⟩ := pmTy_el g h0.1
          have hlt : j.toNatClampNeg < rs.length := by rw [h0.2.2]; exact Nat.not_le.mp fun q => h0.2.1 (Or.inr q)
          refine va_astq (f := fun j => (rs.getD j none).map (pmAd b base)) (n := n) (v := base + (r + 1)) (vs := pmFs (pmAd b base) (M (r + 1)) 0 sl) (r := rc) hx hb hK hP pmWd_D hS k tg r ci (by rw [pmWd_get hsh]; simp only [pmCe]; rw [pmAr_q _ _ _ h3]; rfl) hty (pmWd_get hsr) hrc h0.2.1 hd (fun H1 locs1 hP1 _ hS1 => ?_)
          have hlen : (sh.set (k + 1) (.inl (tg, n, rs.set j.toNatClampNeg (some (r + 1))))).length = sh.length := List.length_set
          have hto : pmTo (sh.set (k + 1) (.inl (tg, n, rs.set j.toNatClampNeg (some (r + 1))))) = pmTo sh := pmTo_set_aux _ sh (k + 1) _ _ hsh rfl
          have k2 := kk H1 locs1 lsA ?_ hS1 hl
          · rw [hlen, hto] at k2
            exact k2
          · rw [← pmWd_set (e := .inl (tg, n, rs.set j.toNatClampNeg (some (r + 1)))) hsh (fun _ _ => rfl) (fun _ _ => rfl)]
            simp only [pmCe]
            rw [pmAr_q _ _ _ h3]
            have e1 : (fun i => ((rs.set j.toNatClampNeg (some (r + 1))).getD i none).map (pmAd b base)) = va_up (fun i => (rs.getD i none).map (pmAd b base)) j.toNatClampNeg (some (base + (r + 1))) := by
              funext i
              unfold va_up
              by_cases hij : i = j.toNatClampNeg
              · subst hij
                rw [if_pos rfl, List.getD_eq_getElem?_getD, List.getElem?_set_self hlt]
                rfl
              · rw [if_neg hij, List.getD_eq_getElem?_getD, List.getElem?_set_ne (Ne.symm hij), ← List.getD_eq_getElem?_getD]
            rw [e1]
            exact hP1
        · cases hex
      · cases hex
    · cases hex
  | putfield idx =>
    simp only [pmEx] at hex
    split at hex
    · rename_i x k t
      split at hex
      · rename_i ci sl hsh
        split at hex
        · rename_i h0
          obtain ⟨hci, ha2, hsl, hz⟩ := h0
          subst hci
          simp only [Option.some.injEq, Prod.mk.injEq] at hex
          obtain ⟨rfl, rfl, rfl, rfl, rfl⟩ := hex
          obtain ⟨hd, hi⟩ := ck1 hcode (by intro q; cases q)
          simp only [ckI, Bool.and_eq_true, decide_eq_true_eq] at hi
          obtain ⟨⟨rfl, hf⟩, hp⟩ := hi
          obtain ⟨Rn, T, n, hv, hj, hR, hlk⟩ := ckFld_of hf
          obtain ⟨hnf, hty, hnm, hin, -, -⟩ := pmCk_of hv
          unfold ckPut at hp
          rw [hv] at hp
          simp only [Bool.and_eq_true] at hp
          obtain ⟨hp1, hp2⟩ := hp
          have he : (pmWd g b base sh M N)[k]? = some (base + (k + 1), .inr (a % 100, pmFs (pmAd b base) (M (k + 1)) 0 sl)) := pmWd_get hsh
          have hl9 : bb < (pmFs (pmAd b base) (M (k + 1)) 0 sl).length := by rw [pmFs_len]; exact (List.getElem?_eq_some_iff.mp hsl).1
          obtain ⟨ty, hd9, hn9, hf9⟩ : ∃ ty, parseFieldDescriptor (T bb).2.2.1 = some ty ∧ narrow ty (.int x) = .int x ∧ fits ty (.int x) = true := by
            by_cases ha1 : a < 100
            · rw [if_pos ha1, decide_eq_true_eq] at hp2
              exact ⟨.int, by rw [hp2]; decide, rfl, rfl⟩
            · rw [if_neg ha1, if_pos ha2, decide_eq_true_eq] at hp2
              rcases hz with hz | rfl | rfl
              · exact absurd hz ha1
              · exact ⟨.boolean, by rw [hp2]; decide, rfl, rfl⟩
              · exact ⟨.boolean, by rw [hp2]; decide, rfl, rfl⟩
          have fin : ∀ (H1 : Heap) (locs1 : List Loc), va_P D vwCl ((pmWd g b base sh M N).set k (base + (k + 1), .inr (a % 100, (pmFs (pmAd b base) (M (k + 1)) 0 sl).set bb (.int x)))) H1 → va_S (fun q => base < q) s.heap H1 locs1 → W p l e R s m args below meth c H1 locs1 (sh.length - k0) (pmTo sh - t0) Q (F0 m (pc + 3) lsA (t.map (pmCv (pmAd b base)))) := by
            intro H1 locs1 hP1 hS1
            refine kk H1 locs1 lsA ?_ hS1 hl
            rw [← pmWd_setM hsh (pmSt_ne M (k + 1) bb x) (fun _ _ => rfl)]
            simp only [pmCe, pmSt_eq]
            rw [pmFs_st _ _ _ _ hsl] at hP1
            exact hP1
          by_cases hfin : (T bb).2.2.2 = true
          · rw [if_pos hfin] at hp1
            simp only [Bool.and_eq_true, decide_eq_true_eq] at hp1
            exact va_putF (C := Rn) (T := T) (N := n) hx hb hts hin _ hty hnm hown hK hP pmWd_D hS k he hv bb hj (hts _ (pmTb_of hp1.2 rfl)) (fun _ h9 => by rw [hR] at h9; exact h9) hfin (hin2 hp1.1.1) (by rw [hR]; exact hp1.1.2) hd9 hn9 hf9 hl9 hd (fun H1 locs1 hP1 _ hS1 => fin H1 locs1 hP1 hS1)
          · have hfin : (T bb).2.2.2 = false := by simpa using hfin
            rcases hlk with hlk | hlk
            · exact va_put (C := Rn) (T := T) (N := n) hx hb hts hin _ hty hnm hown hK hP pmWd_D hS k he hv bb hj (hts _ hlk) (fun _ h9 => by rw [hR] at h9; exact h9) hfin hd9 hn9 hf9 hl9 hd (fun H1 locs1 hP1 _ hS1 => fin H1 locs1 hP1 hS1)
            · exact va_putN (C := Rn) (T := T) (N := n) hx hb hts hin _ hty hnm hown hK hP pmWd_D hS k he hv bb hj (hts _ hlk) (fun _ h9 => by rw [hR] at h9; exact h9) hfin hd9 hn9 hf9 hl9 hd (fun H1 locs1 hP1 _ hS1 => fin H1 locs1 hP1 hS1)
        · cases hex
      · cases hex
    · rename_i r k t
      split at hex
      · rename_i ci sl hsh
        split at hex
        · rename_i h0
          obtain ⟨hci, ha2, hsl⟩ := h0
          subst hci
          simp only [Option.some.injEq, Prod.mk.injEq] at hex
          obtain ⟨rfl, rfl, rfl, rfl, rfl⟩ := hex
          obtain ⟨hd, hi⟩ := ck1 hcode (by intro q; cases q)
          simp only [ckI, Bool.and_eq_true, decide_eq_true_eq] at hi
          obtain ⟨⟨rfl, hf⟩, hp⟩ := hi
          obtain ⟨Rn, T, n, hv, hj, hR, hlk⟩ := ckFld_of hf
          obtain ⟨hnf, hty, hnm, hin, -, -⟩ := pmCk_of hv
          unfold ckPut at hp
          rw [hv] at hp
          simp only [Bool.and_eq_true] at hp
          obtain ⟨hp1, hp2⟩ := hp
          have hbl : bb < sl.length := by
            cases hq : sl[bb]? with
            | none => rw [hq] at hsl; cases hsl
            | some q => exact (List.getElem?_eq_some_iff.mp hq).1
          have he : (pmWd g b base sh M N)[k]? = some (base + (k + 1), .inr (a % 100, pmFs (pmAd b base) (M (k + 1)) 0 sl)) := pmWd_get hsh
          have hl9 : bb < (pmFs (pmAd b base) (M (k + 1)) 0 sl).length := by rw [pmFs_len]; exact hbl
          obtain ⟨ty, hd9, hn9, hf9⟩ : ∃ ty, parseFieldDescriptor (T bb).2.2.1 = some ty ∧ narrow ty (.ref (pmAd b base r)) = .ref (pmAd b base r) ∧ fits ty (.ref (pmAd b base r)) = true := by
            rw [if_neg (by omega), if_neg (by omega)] at hp2
            split at hp2
            · rename_i hq; exact ⟨_, hq, rfl, rfl⟩
            · rename_i hq; exact ⟨_, hq, rfl, rfl⟩
            · cases hp2
          have fin : ∀ (H1 : Heap) (locs1 : List Loc), va_P D vwCl ((pmWd g b base sh M N).set k (base + (k + 1), .inr (a % 100, (pmFs (pmAd b base) (M (k + 1)) 0 sl).set bb (.ref (pmAd b base r))))) H1 → va_S (fun q => base < q) s.heap H1 locs1 → W p l e R s m args below meth c H1 locs1 (sh.length - k0) (pmTo sh - t0) Q (F0 m (pc + 3) lsA (t.map (pmCv (pmAd b base)))) := by
            intro H1 locs1 hP1 hS1
            have hlen : (sh.set (k + 1) (.inr (a % 100, sl.set bb (some (some r))))).length = sh.length := List.length_set
            have hto : pmTo (sh.set (k + 1) (.inr (a % 100, sl.set bb (some (some r))))) = pmTo sh := pmTo_set_aux _ sh (k + 1) _ _ hsh (by simp)
            have k2 := kk H1 locs1 lsA ?_ hS1 hl
            · rw [hlen, hto] at k2
              exact k2
            · rw [← pmWd_set (e := .inr (a % 100, sl.set bb (some (some r)))) hsh (fun _ _ => rfl) (fun _ _ => rfl)]
              simp only [pmCe]
              rw [pmFs_ref _ _ _ _ hbl] at hP1
              exact hP1
          by_cases hfin : (T bb).2.2.2 = true
          · rw [if_pos hfin] at hp1
            simp only [Bool.and_eq_true, decide_eq_true_eq] at hp1
            exact va_putF (C := Rn) (T := T) (N := n) hx hb hts hin _ hty hnm hown hK hP pmWd_D hS k he hv bb hj (hts _ (pmTb_of hp1.2 rfl)) (fun _ h9 => by rw [hR] at h9; exact h9) hfin (hin2 hp1.1.1) (by rw [hR]; exact hp1.1.2) hd9 hn9 hf9 hl9 hd (fun H1 locs1 hP1 _ hS1 => fin H1 locs1 hP1 hS1)
          · have hfin : (T bb).2.2.2 = false := by simpa using hfin
            rcases hlk with hlk | hlk
            · exact va_put (C := Rn) (T := T) (N := n) hx hb hts hin _ hty hnm hown hK hP pmWd_D hS k he hv bb hj (hts _ hlk) (fun _ h9 => by rw [hR] at h9; exact h9) hfin hd9 hn9 hf9 hl9 hd (fun H1 locs1 hP1 _ hS1 => fin H1 locs1 hP1 hS1)
            · exact va_putN (C := Rn) (T := T) (N := n) hx hb hts hin _ hty hnm hown hK hP pmWd_D hS k he hv bb hj (hts _ hlk) (fun _ h9 => by rw [hR] at h9; exact h9) hfin hd9 hn9 hf9 hl9 hd (fun H1 locs1 hP1 _ hS1 => fin H1 locs1 hP1 hS1)
        · cases hex
      · cases hex
    · cases hex
  | new idx =>
    simp only [pmEx] at hex
    simp only [Option.some.injEq, Prod.mk.injEq] at hex
    obtain ⟨rfl, rfl, rfl, rfl, rfl⟩ := hex
    obtain ⟨hd, hi⟩ := ck1 hcode (by intro q; cases q)
    simp only [ckI, Bool.and_eq_true, decide_eq_true_eq] at hi
    obtain ⟨rfl, hlk⟩ := hi
    cases hv : vwCl[a]? with
    | none => rw [hv] at hlk; cases hlk
    | some r =>
      obtain ⟨Rn, T, n⟩ := r
      rw [hv] at hlk
      simp only at hlk
      obtain ⟨hnf, hty, hnm, hin, hw1, hw2⟩ := pmCk_of hv
      have hto : pmTo (sh ++ [.inr (a, pmBl a)]) = pmTo sh + n := by rw [pmTo_app]; simp only; rw [pmBl_len hnf]
      have hfs : ∀ j, j < n → defaultValue ((pmTys.getD a (fun _ => .int)) j) = vp_V (pmFs (pmAd b base) (fun _ => 0) 0 (pmBl a)) j := by
        intro j hj
        rcases pmBl_get (pmAd b base) hnf hj with h | ⟨ty, h1, h2⟩
        · exact h
        · have := pmTys_ok a (pmCl_lt hv) j (by rw [hnf]; exact hj)
          rcases h2 with rfl | rfl | rfl
          · exact absurd h1 this.1
          · exact absurd h1 this.2.1
          · exact absurd h1 this.2.2
      rw [List.length_append] at hR1
      simp only [List.length_cons, List.length_nil] at hR1
      rw [hto] at hR2
      refine va_new (C := Rn) (T := T) (N := n) (ci := a) (fs := pmFs (pmAd b base) (fun _ => 0) 0 (pmBl a)) hx hb hts hin _ hty hown (hts _ (pmTb_of hlk rfl)) (hts _ (pmTb_of hw1 rfl)) (hts _ (pmTb_of hw2 rfl)) hK hP pmWd_D hS (fun q hq => by show base < q; omega) hv hfs (by omega) (by omega) hd (fun q H1 hP1 hD1 hS1 => ?_)
      refine pmW_sz (fun hu => ?_)
      have hq : q = base + sh.length := pmNew_q hP1 hD1 hs hk0 h10 hu
      subst hq
      have k2 := kk H1 locs lsA ?_ hS1 hl
      · rw [List.length_append, hto] at k2
        simp only [List.length_cons, List.length_nil] at k2
        rw [show sh.length + (0 + 1) - k0 = sh.length - k0 + 1 by omega, show pmTo sh + n - t0 = pmTo sh - t0 + n by omega] at k2
        have e2 : pmAd b base sh.length = base + sh.length := by
          cases hz : sh.length with
          | zero => omega
          | succ z => rfl
        simp only [List.map_cons, pmCv, e2] at k2
        exact k2
      · rw [← pmWd_app (e := .inr (a, pmBl a)) (M := M) (N := N) (by omega) (fun x hx => va_up_ne _ _ hx) (fun _ _ => rfl)]
        simp only [pmCe, va_up_self]
        exact hP1
  | newarray aty =>
    simp only [pmEx] at hex
    split at hex
    · rename_i n t
      split at hex
      · cases hex
      · rename_i h0
        split at hex
        · simp only [Option.some.injEq, Prod.mk.injEq] at hex
          obtain ⟨rfl, rfl, rfl, rfl, rfl⟩ := hex
          obtain ⟨hd, hi⟩ := ck1 hcode (by intro q; cases q)
          simp only [ckI, Bool.and_eq_true, decide_eq_true_eq] at hi
          obtain rfl := hi
          have hto : pmTo (sh ++ [.inl (0, n.toNatClampNeg, [])]) = pmTo sh + n.toNatClampNeg := by rw [pmTo_app]
          rw [List.length_append] at hR1
          simp only [List.length_cons, List.length_nil] at hR1
          rw [hto] at hR2
          have hbytes : n.toNatClampNeg * componentBytes (FieldType.int) ≤ 536870912 := Nat.le_trans (Nat.mul_le_mul (Nat.not_lt.mp fun q => h0 (Or.inr q)) (show componentBytes (FieldType.int) ≤ 8 by decide)) (by decide)
          refine va_newa (atype := .int) (ty := .int) (a0 := (n.toNatClampNeg, .inl (fun _ => 0))) (N' := n.toNatClampNeg) hx hb (hts _ (pmTb_of pmWg_int rfl)) rfl hK hP pmWd_D hS (fun q hq => by show base < q; omega) (fun cA => rfl) (fun q => h0 (Or.inl q)) rfl hbytes (by omega) (by omega) hd (fun q cA H1 hK1 hP1 hD1 hS1 => ?_)
          have hcA : cA = g 0 := pmK_eq (t := 0) hK hK1 rfl
          subst hcA
          refine pmW_sz (fun hu => ?_)
          have hq : q = base + sh.length := pmNew_q hP1 hD1 hs hk0 h10 hu
          subst hq
          have k2 := kk H1 locs lsA ?_ hS1 hl
          · rw [List.length_append, hto] at k2
            simp only [List.length_cons, List.length_nil] at k2
            rw [show sh.length + (0 + 1) - k0 = sh.length - k0 + 1 by omega, show pmTo sh + n.toNatClampNeg - t0 = pmTo sh - t0 + n.toNatClampNeg by omega] at k2
            have e2 : pmAd b base sh.length = base + sh.length := by
              cases hz : sh.length with
              | zero => omega
              | succ z => rfl
            simp only [List.map_cons, pmCv, e2] at k2
            exact k2
          · rw [← pmWd_app (e := .inl (0, n.toNatClampNeg, [])) (M := M) (N := N) (by omega) (fun x hx => va_up_ne _ _ hx) (fun _ _ => rfl)]
            simp only [pmCe, va_up_self]
            exact hP1
        · simp only [Option.some.injEq, Prod.mk.injEq] at hex
          obtain ⟨rfl, rfl, rfl, rfl, rfl⟩ := hex
          obtain ⟨hd, hi⟩ := ck1 hcode (by intro q; cases q)
          simp only [ckI, Bool.and_eq_true, decide_eq_true_eq] at hi
          obtain rfl := hi
          have hto : pmTo (sh ++ [.inl (1, n.toNatClampNeg, [])]) = pmTo sh + n.toNatClampNeg := by rw [pmTo_app]
          rw [List.length_append] at hR1
          simp only [List.length_cons, List.length_nil] at hR1
          rw [hto] at hR2
          have hbytes : n.toNatClampNeg * componentBytes (FieldType.long) ≤ 536870912 := Nat.le_trans (Nat.mul_le_mul (Nat.not_lt.mp fun q => h0 (Or.inr q)) (show componentBytes (FieldType.long) ≤ 8 by decide)) (by decide)
          refine va_newa (atype := .long) (ty := .long) (a0 := (n.toNatClampNeg, .inr (.inl (fun _ => 0)))) (N' := n.toNatClampNeg) hx hb (hts _ (pmTb_of pmWg_long rfl)) rfl hK hP pmWd_D hS (fun q hq => by show base < q; omega) (fun cA => rfl) (fun q => h0 (Or.inl q)) rfl hbytes (by omega) (by omega) hd (fun q cA H1 hK1 hP1 hD1 hS1 => ?_)
          have hcA : cA = g 1 := pmK_eq (t := 1) hK hK1 rfl
          subst hcA
          refine pmW_sz (fun hu => ?_)
          have hq : q = base + sh.length := pmNew_q hP1 hD1 hs hk0 h10 hu
          subst hq
          have k2 := kk H1 locs lsA ?_ hS1 hl
          · rw [List.length_append, hto] at k2
            simp only [List.length_cons, List.length_nil] at k2
            rw [show sh.length + (0 + 1) - k0 = sh.length - k0 + 1 by omega, show pmTo sh + n.toNatClampNeg - t0 = pmTo sh - t0 + n.toNatClampNeg by omega] at k2
            have e2 : pmAd b base sh.length = base + sh.length := by
              cases hz : sh.length with
              | zero => omega
              | succ z => rfl
            simp only [List.map_cons, pmCv, e2] at k2
            exact k2
          · rw [← pmWd_app (e := .inl (1, n.toNatClampNeg, [])) (M := M) (N := N) (by omega) (fun _ _ => rfl) (fun x hx => va_up_ne _ _ hx)]
            simp only [pmCe, va_up_self]
            exact hP1
        · simp only [Option.some.injEq, Prod.mk.injEq] at hex
          obtain ⟨rfl, rfl, rfl, rfl, rfl⟩ := hex
          obtain ⟨hd, hi⟩ := ck1 hcode (by intro q; cases q)
          simp only [ckI, Bool.and_eq_true, decide_eq_true_eq] at hi
          obtain rfl := hi
          have hto : pmTo (sh ++ [.inl (2, n.toNatClampNeg, [])]) = pmTo sh + n.toNatClampNeg := by rw [pmTo_app]
          rw [List.length_append] at hR1
          simp only [List.length_cons, List.length_nil] at hR1
          rw [hto] at hR2
          have hbytes : n.toNatClampNeg * componentBytes (FieldType.boolean) ≤ 536870912 := Nat.le_trans (Nat.mul_le_mul (Nat.not_lt.mp fun q => h0 (Or.inr q)) (show componentBytes (FieldType.boolean) ≤ 8 by decide)) (by decide)
          refine va_newa (atype := .boolean) (ty := .boolean) (a0 := (n.toNatClampNeg, .inl (fun _ => 0))) (N' := n.toNatClampNeg) hx hb (hts _ (pmTb_of pmWg_boolean rfl)) rfl hK hP pmWd_D hS (fun q hq => by show base < q; omega) (fun cA => rfl) (fun q => h0 (Or.inl q)) rfl hbytes (by omega) (by omega) hd (fun q cA H1 hK1 hP1 hD1 hS1 => ?_)
          have hcA : cA = g 2 := pmK_eq (t := 2) hK hK1 rfl
          subst hcA
          refine pmW_sz (fun hu => ?_)
          have hq : q = base + sh.length := pmNew_q hP1 hD1 hs hk0 h10 hu
          subst hq
          have k2 := kk H1 locs lsA ?_ hS1 hl
          · rw [List.length_append, hto] at k2
            simp only [List.length_cons, List.length_nil] at k2
            rw [show sh.length + (0 + 1) - k0 = sh.length - k0 + 1 by omega, show pmTo sh + n.toNatClampNeg - t0 = pmTo sh - t0 + n.toNatClampNeg by omega] at k2
            have e2 : pmAd b base sh.length = base + sh.length := by
              cases hz : sh.length with
              | zero => omega
              | succ z => rfl
            simp only [List.map_cons, pmCv, e2] at k2
            exact k2
          · rw [← pmWd_app (e := .inl (2, n.toNatClampNeg, [])) (M := M) (N := N) (by omega) (fun x hx => va_up_ne _ _ hx) (fun _ _ => rfl)]
            simp only [pmCe, va_up_self]
            exact hP1
        · cases hex
    · cases hex
  | anewarray idx =>
    simp only [pmEx] at hex
    split at hex
    · rename_i n t
      split at hex
      · cases hex
      · rename_i h0
        simp only [Option.some.injEq, Prod.mk.injEq] at hex
        obtain ⟨rfl, rfl, rfl, rfl, rfl⟩ := hex
        obtain ⟨hd, hi⟩ := ck1 hcode (by intro q; cases q)
        simp only [ckI, Bool.and_eq_true, decide_eq_true_eq] at hi
        obtain ⟨⟨rfl, h35⟩, hlk⟩ := hi
        have hto : pmTo (sh ++ [.inl (a, n.toNatClampNeg, List.replicate n.toNatClampNeg none)]) = pmTo sh + n.toNatClampNeg := by rw [pmTo_app]
        rw [List.length_append] at hR1
        simp only [List.length_cons, List.length_nil] at hR1
        rw [hto] at hR2
        have hover : Cond.arrayOver (.object (ckEl a)) ∈ pmTb := by
          rcases (show a = 3 ∨ a = 4 ∨ a = 5 by omega) with rfl | rfl | rfl
          · exact pmTb_of pmWg_3 rfl
          · exact pmTb_of pmWg_4 rfl
          · exact pmTb_of pmWg_5 rfl
        have hty : (pmTy g)[a]? = some (g a, .object (ckEl a)) := by
          rcases (show a = 3 ∨ a = 4 ∨ a = 5 by omega) with rfl | rfl | rfl <;> rfl
        refine va_newq (C := ckEl a) (N' := n.toNatClampNeg) hx hb hown (hts _ (pmTb_of hlk rfl)) (va_AO.of (hts _ hover)) hK hP pmWd_D hS (fun q hq => by show base < q; omega) (fun q => h0 (Or.inl q)) rfl (Nat.le_trans (Nat.mul_le_mul (Nat.not_lt.mp fun q => h0 (Or.inr q)) (Nat.le_refl 4)) (by decide)) (by omega) (by omega) hd (fun q cA H1 hK1 hP1 hD1 hS1 => ?_)
        have hcA : cA = g a := pmK_eq (t := a) hK hK1 hty
        subst hcA
        refine pmW_sz (fun hu => ?_)
        have hq : q = base + sh.length := pmNew_q hP1 hD1 hs hk0 h10 hu
        subst hq
        have k2 := kk H1 locs lsA ?_ hS1 hl
        · rw [List.length_append, hto] at k2
          simp only [List.length_cons, List.length_nil] at k2
          rw [show sh.length + (0 + 1) - k0 = sh.length - k0 + 1 by omega, show pmTo sh + n.toNatClampNeg - t0 = pmTo sh - t0 + n.toNatClampNeg by omega] at k2
          have e2 : pmAd b base sh.length = base + sh.length := by
            cases hz : sh.length with
            | zero => omega
            | succ z => rfl
          simp only [List.map_cons, pmCv, e2] at k2
          exact k2
        · rw [← pmWd_app (e := .inl (a, n.toNatClampNeg, List.replicate n.toNatClampNeg none)) (M := M) (N := N) (by omega) (fun _ _ => rfl) (fun _ _ => rfl)]
          simp only [pmCe]
          rw [pmAr_q _ _ _ h35.1]
          have e3 : (fun j => ((List.replicate n.toNatClampNeg (none : Option Nat)).getD j none).map (pmAd b base)) = fun _ => none := by
            funext j
            rw [List.getD_eq_getElem?_getD, List.getElem?_replicate]
            by_cases hj : j < n.toNatClampNeg
            · rw [if_pos hj]; rfl
            · rw [if_neg hj]; rfl
          rw [e3]
          exact hP1
    · cases hex
  | invokespecial idx =>
    simp only [pmEx] at hex
    split at hex
    · rename_i r t
      split at hex
      · rename_i h0
        obtain ⟨hb1, hcat⟩ := h0
        subst hb1
        simp only [Option.some.injEq, Prod.mk.injEq] at hex
        obtain ⟨rfl, rfl, rfl, rfl, rfl⟩ := hex
        obtain ⟨hd, hi⟩ := ck1 hcode (by intro q; cases q)
        simp only [ckI, if_pos, Bool.and_eq_true, decide_eq_true_eq] at hi
        obtain ⟨⟨rfl, hlk⟩, hr1, hr2⟩ := hi
        have hr1 : 1 ≤ R.frames := Nat.le_trans hr1 hfr
        have hr2 := Nat.le_trans hr2 hgl
        exact W.objInit hx hb hown (hts _ (pmTb_of hlk rfl)) (hts _ (pmTb_of pmWg_9 rfl)) (hts _ (pmTb_of pmWg_10 rfl)) rfl (by rw [hml]; exact hl.2.1) rfl hd (by omega) (by rw [show 2 * (F0 m pc lsA (.ref (pmAd b base r) :: t.map (pmCv (pmAd b base)))).monitorRoom = 0 from rfl, pmCat_cv]; omega) (kk H locs lsA hP hS hl)
      · cases hex
    · cases hex
  | invokestatic idx =>
    simp only [pmEx] at hex
    split at hex
    · rename_i n dp q sp k t
      split at hex
      · rename_i h0
        have hb1 := h0.1
        subst hb1
        obtain ⟨hd, hi⟩ := ck1 hcode (by intro q; cases q)
        simp only [ckI, if_pos, Bool.and_eq_true, decide_eq_true_eq] at hi
        obtain ⟨⟨rfl, hlk⟩, hr1, hr2⟩ := hi
        have hr1 : 1 ≤ R.frames := Nat.le_trans hr1 hfr
        have hr2 := Nat.le_trans hr2 hgl
        split at hex
        · rename_i n0 rs0 n1 rs1 hs0 hs1
          split at hex
          · rename_i h9
            simp only [Option.some.injEq, Prod.mk.injEq] at hex
            obtain ⟨rfl, rfl, rfl, rfl, rfl⟩ := hex
            exact va_copyi (f := M (k + 1)) (g := M (q + 1)) (n0 := n0) (n1 := n1) hx hb (hml.trans hl.2.1.symm) hown (hts _ (pmTb_of hlk rfl)) (hts _ (pmTb_of pmWg_6 rfl)) (hts _ (pmTb_of pmWg_7 rfl)) (hts _ (pmTb_of pmWg_8 rfl)) hK hP pmWd_D hS k q 0 0 (pmWd_get hs0) (pmWd_get hs1) rfl rfl rfl h0.2.2.2.2 h0.2.2.2.1 h0.2.2.1 h9.1 h9.2 (fun _ _ => rfl) (by omega) (by rw [pmCat_cv, show nativeFrameWords "java/lang/System" "arraycopy" 5 = 7 from by decide]; omega) hd (fun H1 locs1 hP1 _ hS1 => kk H1 locs1 lsA (by
              rw [← pmWd_setM (M := M) (N := N) hs1 (fun x hx => va_up_ne _ _ hx) (fun _ _ => rfl)]
              simp only [pmCe, pmAr_i, va_up_self]
              exact hP1) hS1 hl)
          · cases hex
        · rename_i n0 rs0 n1 rs1 hs0 hs1
          split at hex
          · rename_i h9
            simp only [Option.some.injEq, Prod.mk.injEq] at hex
            obtain ⟨rfl, rfl, rfl, rfl, rfl⟩ := hex
            exact va_copyl (f := N (k + 1)) (g := N (q + 1)) (n0 := n0) (n1 := n1) hx hb (hml.trans hl.2.1.symm) hown (hts _ (pmTb_of hlk rfl)) (hts _ (pmTb_of pmWg_6 rfl)) (hts _ (pmTb_of pmWg_7 rfl)) (hts _ (pmTb_of pmWg_8 rfl)) hK hP pmWd_D hS k q 1 1 (pmWd_get hs0) (pmWd_get hs1) rfl rfl rfl h0.2.2.2.2 h0.2.2.2.1 h0.2.2.1 h9.1 h9.2 (fun _ _ => rfl) (by omega) (by rw [pmCat_cv, show nativeFrameWords "java/lang/System" "arraycopy" 5 = 7 from by decide]; omega) hd (fun H1 locs1 hP1 _ hS1 => kk H1 locs1 lsA (by
              rw [← pmWd_setM (M := M) (N := N) hs1 (fun _ _ => rfl) (fun x hx => va_up_ne _ _ hx)]
              simp only [pmCe, pmAr_l, va_up_self]
              exact hP1) hS1 hl)
          · cases hex
        · cases hex
      · cases hex
    · cases hex
  | _ => first | (cases hna; done) | (simp only [pmEx] at hex; cases hex; done) | (simp [pmEx] at hex; done)
end SNB
end
section
/-! WHAT A RUN KEEPS: it makes cells at the end alone; the script stays -/
def pmKp (sh sh' : pmS) (M M' : pmM) : Prop := sh.length ≤ sh'.length ∧ pmTo sh ≤ pmTo sh' ∧ (0 < sh.length → M' 0 = M 0 ∧ sh'[0]? = sh[0]?)
theorem pmKp.rf {sh : pmS} {M : pmM} : pmKp sh sh M M := ⟨Nat.le_refl _, Nat.le_refl _, fun _ => ⟨rfl, rfl⟩⟩
theorem pmKp.tr {sh sh1 sh2 : pmS} {M M1 M2 : pmM} (h : pmKp sh sh1 M M1) (h2 : pmKp sh1 sh2 M1 M2) : pmKp sh sh2 M M2 :=
  ⟨Nat.le_trans h.1 h2.1, Nat.le_trans h.2.1 h2.2.1, fun q => ⟨(h2.2.2 (Nat.lt_of_lt_of_le q h.1)).1.trans (h.2.2 q).1, (h2.2.2 (Nat.lt_of_lt_of_le q h.1)).2.trans (h.2.2 q).2⟩⟩
theorem pmKp.st {sh : pmS} {M M' : pmM} (h : M' 0 = M 0) : pmKp sh sh M M' := ⟨Nat.le_refl _, Nat.le_refl _, fun _ => ⟨h, rfl⟩⟩
theorem pmKp.app {sh : pmS} {M M' : pmM} {x : (Nat × Nat × List (Option Nat)) ⊕ (Nat × List (Option (Option Nat)))} (h : ∀ y, y ≠ sh.length → M' y = M y) : pmKp sh (sh ++ [x]) M M' :=
  ⟨by simp, by rw [pmTo_app]; omega, fun q => ⟨h 0 (by omega), by rw [List.getElem?_append_left q]⟩⟩
theorem pmKp.set {sh : pmS} {M : pmM} {k : Nat} {x y : (Nat × Nat × List (Option Nat)) ⊕ (Nat × List (Option (Option Nat)))} (h : sh[k + 1]? = some x) (he : pmTo [y] = pmTo [x]) : pmKp sh (sh.set (k + 1) y) M M := by
  refine ⟨by simp, Nat.le_of_eq (pmTo_set_aux _ sh (k + 1) x y h ?_).symm, fun _ => ⟨rfl, by rw [List.getElem?_set_ne (by omega)]⟩⟩
  simpa [pmTo] using he
set_option maxHeartbeats 4000000 in
theorem pmEx_kp {i : Instr} {a b : Nat} {ls st ls' st' : List Value} {sh sh' : pmS} {M M' : pmM} {N N' : pmN} (h : pmEx i a b ls st sh M N = some (ls', st', sh', M', N')) : pmKp sh sh' M M' := by
  cases i <;> simp only [pmEx] at h <;> (repeat' split at h) <;> first
    | (cases h; done)
    | (simp only [Option.some.injEq, Prod.mk.injEq] at h; obtain ⟨rfl, rfl, rfl, rfl, rfl⟩ := h; first
        | exact pmKp.rf
        | exact pmKp.st (va_up_ne _ _ (by omega))
        | exact pmKp.app (fun y hy => va_up_ne _ _ hy)
        | exact pmKp.app (fun y hy => rfl)
        | (exact pmKp.set (by assumption) (by simp [pmTo])))
set_option maxHeartbeats 4000000 in
theorem pmNx_go {mi pc pc' : Nat} {ls st ls' st' : List Value} {sh sh' : pmS} {M M' : pmM} {N N' : pmN} (h : pmNx mi pc ls st sh M N = some (.inr (.inl (pc', ls', st', sh', M', N')))) : pmKp sh sh' M M' := by
  unfold pmNx at h
  split at h
  · cases h
  · rename_i i len a b c hc
    split at h
    all_goals (repeat' split at h)
    all_goals first
      | (cases h; done)
      | (simp only [Option.some.injEq, Sum.inr.injEq, Sum.inl.injEq, Prod.mk.injEq] at h; obtain ⟨rfl, rfl, rfl, rfl, rfl, rfl⟩ := h; exact pmKp.rf)
      | (rename_i x hq; simp only [Option.some.injEq, Sum.inr.injEq, Sum.inl.injEq, Prod.mk.injEq] at h; obtain ⟨rfl, rfl⟩ := h; exact pmEx_kp hq)
theorem pmNx_ret {mi pc : Nat} {ls st : List Value} {sh sh' : pmS} {M M' : pmM} {N N' : pmN} {r : Option Value} (h : pmNx mi pc ls st sh M N = some (.inl (r, sh', M', N'))) : sh' = sh ∧ M' = M ∧ N' = N := by
  unfold pmNx at h
  split at h
  · cases h
  · split at h
    all_goals (repeat' split at h)
    all_goals first
      | (cases h; done)
      | (simp only [Option.some.injEq, Sum.inl.injEq, Prod.mk.injEq] at h; obtain ⟨-, rfl, rfl, rfl⟩ := h; exact ⟨rfl, rfl, rfl⟩)
theorem pr_kp : ∀ (n mi pc : Nat) (ls st : List Value) (sh : pmS) (M : pmM) (N : pmN) (r : Option Value) (sh' : pmS) (M' : pmM) (N' : pmN), pr n mi pc ls st sh M N = some (r, sh', M', N') → pmKp sh sh' M M' := by
  intro n
  induction n with
  | zero => intro mi pc ls st sh M N r sh' M' N' h; cases h
  | succ n ih =>
    intro mi pc ls st sh M N r sh' M' N' h
    rw [pr] at h
    cases hn : pmNx mi pc ls st sh M N with
    | none => rw [hn] at h; cases h
    | some x =>
      rw [hn] at h
      match x, hn, h with
      | .inl x, hn, h =>
        cases h
        obtain ⟨rfl, rfl, rfl⟩ := pmNx_ret hn
        exact pmKp.rf
      | .inr (.inl (pc1, ls1, st1, sh1, M1, N1)), hn, h => exact (pmNx_go hn).tr (ih _ _ _ _ _ _ _ _ _ _ _ h)
      | .inr (.inr (mj, as, rest)), hn, h =>
        simp only at h
        cases hc : pr n mj 0 (pmEn as (pmL mj)) [] sh M N with
        | none => rw [hc] at h; cases h
        | some y =>
          obtain ⟨r1, sh1, M1, N1⟩ := y
          rw [hc] at h
          exact (ih _ _ _ _ _ _ _ _ _ _ _ hc).tr (ih _ _ _ _ _ _ _ _ _ _ _ h)
/-- more fuel, the same answer -/
theorem pr_up : ∀ (n mi pc : Nat) (ls st : List Value) (sh : pmS) (M : pmM) (N : pmN) (x : pmR), pr n mi pc ls st sh M N = some x → pr (n + 1) mi pc ls st sh M N = some x := by
  intro n
  induction n with
  | zero => intro mi pc ls st sh M N x h; cases h
  | succ n ih =>
    intro mi pc ls st sh M N x h
    rw [pr] at h
    rw [pr]
    cases hn : pmNx mi pc ls st sh M N with
    | none => rw [hn] at h; cases h
    | some y =>
      rw [hn] at h
      match y, hn, h with
      | .inl y, hn, h => exact h
      | .inr (.inl (pc1, ls1, st1, sh1, M1, N1)), hn, h => exact ih _ _ _ _ _ _ _ _ h
      | .inr (.inr (mj, as, rest)), hn, h =>
        simp only at h ⊢
        cases hc : pr n mj 0 (pmEn as (pmL mj)) [] sh M N with
        | none => rw [hc] at h; cases h
        | some z =>
          obtain ⟨r1, sh1, M1, N1⟩ := z
          rw [hc] at h
          rw [ih _ _ _ _ _ _ _ _ hc]
          exact ih _ _ _ _ _ _ _ _ h
theorem pr_le {n k mi pc : Nat} {ls st : List Value} {sh : pmS} {M : pmM} {N : pmN} {x : pmR} (h : pr n mi pc ls st sh M N = some x) (hk : n ≤ k) : pr k mi pc ls st sh M N = some x := by
  induction hk with
  | refl => exact h
  | step _ ih => exact pr_up _ _ _ _ _ _ _ _ _ ih
end
section
/-! the methods that are called: their words -/
/-- what is known of a method that is called -/
def ckMt (mi : Nat) : Bool :=
  let y := pmY mi
  let x := pmWx.getD mi (0, 0, 0, 0)
  let ps := (parseMethodDescriptor y.desc).map (fun d => d.parameters.length)
  decide (y.cls ≠ "java/lang/invoke/MethodHandle" ∧ y.cls ≠ "java/lang/invoke/VarHandle") && decide (y.cls = pmOwn mi) && ckLw x.1 (.code y (pmBy mi) (pmL mi) (pmRt mi)) && ckLw x.2.2.2 (.initialized y.cls) &&
  (match pmKd mi with
    | 0 => ckLw x.2.1 (.instanceMethod y) && ckLw x.2.2.1 (.selects y.cls y y) && decide ((vwCl[pmCi mi]?).map (fun r => r.1) = some y.cls) && decide (ps = some (pmNa mi - 1) ∧ 1 ≤ pmNa mi)
    | 1 => ckLw x.2.1 (.static y) && decide (ps = some (pmNa mi))
    | 2 => ckLw x.2.1 (.instanceMethod y) && decide (y.name = "<init>") && decide (pmRt mi = none) && decide (ps = some (pmNa mi - 1) ∧ 1 ≤ pmNa mi)
    | _ => false)
theorem ckMt_0 : ((List.range 21).all fun j => ckMt (0 + j)) = true := by decide +kernel
theorem ckMt_1 : ((List.range 21).all fun j => ckMt (21 + j)) = true := by decide +kernel
theorem ckMt_2 : ((List.range 21).all fun j => ckMt (42 + j)) = true := by decide +kernel
theorem ckMt_3 : ((List.range 21).all fun j => ckMt (63 + j)) = true := by decide +kernel
theorem ckMt_4 : ((List.range 21).all fun j => ckMt (84 + j)) = true := by decide +kernel
theorem ckMt_5 : ((List.range 21).all fun j => ckMt (105 + j)) = true := by decide +kernel
theorem ckMt_6 : ((List.range 21).all fun j => ckMt (126 + j)) = true := by decide +kernel
theorem ckMt_7 : ((List.range 21).all fun j => ckMt (147 + j)) = true := by decide +kernel
theorem ckMt_8 : ((List.range 21).all fun j => ckMt (168 + j)) = true := by decide +kernel
theorem ckMt_all : ∀ mj, mj < 189 → ckMt mj = true := by
  intro mj h
  have hd : mj = 21 * (mj / 21) + mj % 21 := by omega
  have hq : mj / 21 < 9 := by omega
  have hr : mj % 21 < 21 := by omega
  generalize mj / 21 = q at hd hq
  generalize mj % 21 = r at hd hr
  subst hd
  match q, hq with
  | 0, _ => exact List.all_eq_true.mp ckMt_0 r (List.mem_range.mpr hr)
  | 1, _ => exact List.all_eq_true.mp ckMt_1 r (List.mem_range.mpr hr)
  | 2, _ => exact List.all_eq_true.mp ckMt_2 r (List.mem_range.mpr hr)
  | 3, _ => exact List.all_eq_true.mp ckMt_3 r (List.mem_range.mpr hr)
  | 4, _ => exact List.all_eq_true.mp ckMt_4 r (List.mem_range.mpr hr)
  | 5, _ => exact List.all_eq_true.mp ckMt_5 r (List.mem_range.mpr hr)
  | 6, _ => exact List.all_eq_true.mp ckMt_6 r (List.mem_range.mpr hr)
  | 7, _ => exact List.all_eq_true.mp ckMt_7 r (List.mem_range.mpr hr)
  | 8, _ => exact List.all_eq_true.mp ckMt_8 r (List.mem_range.mpr hr)
theorem pf_floorMod : plainFor yJ9_floorMod_7cf53 = true := by decide +kernel
theorem pf_max : plainFor yJ9_max_7cf53 = true := by decide +kernel
theorem pf_min : plainFor yJ9_min_7cf53 = true := by decide +kernel
theorem pf_rest : ((List.range 189).all fun j => j == 185 || j == 186 || j == 187 || plainName (pmY j).cls) = true := by decide +kernel
theorem pf_all (mj : Nat) (h : mj < 189) : plainFor (pmY mj) = true := by
  have h1 := List.all_eq_true.mp pf_rest mj (List.mem_range.mpr h)
  by_cases h5 : mj = 185
  · subst h5; exact pf_floorMod
  by_cases h6 : mj = 186
  · subst h6; exact pf_max
  by_cases h7 : mj = 187
  · subst h7; exact pf_min
  simp [h5, h6, h7] at h1
  exact plainFor_of_name h1
end
section
/-! A RUN of the pure machine is a walk of the real one -/
def pmNk : Cond → Bool
  | .fieldLinkNest .. => true
  | .methodLinkNest .. => true
  | .arrayOver (.object _) => true
  | _ => false
theorem pmTb_kinds : (pmTb.all fun w => goodWord w || pmNk w) = true := by decide +kernel
def pmGd : List Cond := pmTb.filter goodWord
/-- the words that a resolving keeps, but by a road of their own -/
def pmNg (U : State) : Prop := ∀ w ∈ pmTb, goodWord w = false → w.before #[] U = true
theorem pmNk_of {w : Cond} (hw : w ∈ pmTb) (hg : goodWord w = false) : pmNk w = true := by
  have hk := List.all_eq_true.mp pmTb_kinds w hw
  rw [hg, Bool.false_or] at hk
  exact hk
theorem pmNg_warm {s U : State} (hW : s.WarmedH U.vm) (h : pmNg s) : pmNg U := by
  intro w hw hg
  have hk := pmNk_of hw hg
  have h1 := h w hw hg
  cases w <;> first
    | (simp [pmNk] at hk; done)
    | exact va_Nw.warmF hW h1
    | exact va_Nw.warmM hW h1
    | (rename_i ty; cases ty <;> first | (simp [pmNk] at hk; done) | exact va_AO.moved hW.alike h1)
theorem pmNg_same {u U : State} (hv : u.vm = U.vm) (h : pmNg u) : pmNg U := by
  intro w hw hg
  have hk := pmNk_of hw hg
  have h1 := h w hw hg
  cases w <;> first
    | (simp [pmNk] at hk; done)
    | exact va_Nw.same rfl hv h1
    | (rename_i ty; cases ty <;> first | (simp [pmNk] at hk; done) | exact va_AO.moved (by rw [hv]; exact Vm.Alike.refl _) h1)
theorem pmTb_all {s : State} {args : Array Value} (hG : ∀ w ∈ pmGd, w.before args s = true) (hN : pmNg s) : ∀ w ∈ pmTb, w.before args s = true := by
  intro w hw
  by_cases hg : goodWord w = true
  · exact hG w (List.mem_filter.mpr ⟨hw, hg⟩)
  · have hg : goodWord w = false := by simpa using hg
    have hk := pmNk_of hw hg
    have h1 := hN w hw hg
    cases w <;> first
      | (simp [pmNk] at hk; done)
      | exact va_Nw.use rfl h1
      | exact h1
def pmWl (mi : Nat) : List Cond := Cond.code (pmY mi) (pmBy mi) (pmL mi) (pmRt mi) :: pmGd
def pmPc (D : va_G) (g : Nat → ClassId) (b base : Nat) (as : List Value) (sh : pmS) (M : pmM) (N : pmN) : Array Value → State → Prop :=
  va_Pc (as.map (pmCv (pmAd b base))) (fun U => U.heap.size = base + sh.length ∧ va_P D vwCl (pmWd g b base sh M N) U.heap ∧ va_K D vwCl (pmTy g) U ∧ pmNg U)
def pmQc (D : va_G) (g : Nat → ClassId) (b base : Nat) (r : Option Value) (sh : pmS) (M : pmM) (N : pmN) : Array Value → State → Outcome → State → Prop :=
  fun _ st oc t => oc = .returned (r.map (pmCv (pmAd b base))) ∧ va_P D vwCl (pmWd g b base sh M N) t.heap ∧ va_F (fun q => base < q) st t
def pmRm (mi mc ms : Nat) : Room := { frames := pmFr mi, cells := mc, slots := ms, locals := pmGl mi }
def pmMet (l : Launch) (D : va_G) (g : Nat → ClassId) (b base mi : Nat) (as : List Value) (sh : pmS) (M : pmM) (N : pmN) (r : Option Value) (sh' : pmS) (M' : pmM) (N' : pmN) : Prop :=
  Met l (pmY mi) (pmWl mi) (pmRm mi (sh'.length - sh.length) (pmTo sh' - pmTo sh)) (pmPc D g b base as sh M N) (pmQc D g b base r sh' M' N') (sh'.length - sh.length) (pmTo sh' - pmTo sh) (fun q => base < q)
theorem pmFr_le : ∀ mi, mi < 190 → pmFr mi ≤ 9 := by decide +kernel
theorem pmFr_out {mi : Nat} (h : 190 ≤ mi) : pmFr mi = 0 := by
  have : pmP[mi]? = none := List.getElem?_eq_none (by rw [show pmP.length = 190 from by decide +kernel]; exact h)
  simp [pmFr, pmG, List.getD_eq_getElem?_getD, this, pmI0]
theorem ckRoom_of {mi mj : Nat} (h : ckRoom mi mj = true) : pmFr mj + 1 ≤ pmFr mi ∧ 8 + (pmL mj + 11) + pmGl mj ≤ pmGl mi ∧ ckMt mj = true ∧ mj < 189 := by
  unfold ckRoom at h
  have h := of_decide_eq_true h
  have hlt : mj < 189 := ?_
  · exact ⟨h.1, h.2.1, ckMt_all mj hlt, hlt⟩
  have h1 : mj < 190 := by have := h.2.2; rwa [show pmP.length = 190 from by decide +kernel] at this
  have h2 : pmFr mi ≤ 9 := by
    by_cases q : mi < 190
    · exact pmFr_le mi q
    · rw [pmFr_out (by omega)]; omega
  have h3 : pmFr mj + 1 ≤ pmFr mi := h.1
  by_cases q : mj = 189
  · subst q
    have : pmFr 189 = 9 := by decide +kernel
    omega
  · omega
/-- a method's answer, at its return instruction -/
def pmRetAt (mi pc : Nat) (r : Option Value) : Prop :=
  (∃ v, r = some (.int v) ∧ decode (pmBy mi) pc = .ok (.ireturn, 1) ∧ (pmRt mi = some .int ∨ (pmRt mi = some .boolean ∧ (v = 0 ∨ v = 1)))) ∨
  (∃ v, r = some (.long v) ∧ decode (pmBy mi) pc = .ok (.lreturn, 1) ∧ pmRt mi = some .long) ∨
  (∃ v C, r = some (.ref v) ∧ decode (pmBy mi) pc = .ok (.areturn, 1) ∧ pmRt mi = some (.object C)) ∨
  (r = none ∧ decode (pmBy mi) pc = .ok (.return_, 1) ∧ pmRt mi = none)
theorem pmEn_len {as : List Value} {n : Nat} (h : (as.flatMap fun v => if pmIsL v then [v, .null] else [v]).length ≤ n) : (pmEn as n).length = n := by
  unfold pmEn
  simp only [List.length_append, List.length_replicate]
  omega
theorem pmEn_aux (ad : Nat → Nat) : ∀ (as : List Value) (i j : Nat) (v : Value), as.all pmOkV = true → (as.flatMap fun v => if pmIsL v then [v, .null] else [v])[j]? = some v → v ≠ .null → (i + j, pmCv ad v) ∈ lv_args i (as.map (pmCv ad))
  | [], i, j, v, _, h, _ => by simp at h
  | x :: t, i, j, v, hok, h, hv => by
    simp only [List.all_cons, Bool.and_eq_true] at hok
    simp only [List.flatMap_cons] at h
    simp only [List.map_cons, lv_args]
    cases x with
    | long z =>
      simp only [show pmIsL (Value.long z) = true from rfl, if_true, List.cons_append, List.nil_append] at h
      match j, h with
      | 0, h => cases h; exact List.mem_cons_self
      | 1, h =>
        simp at h
        exact absurd h.symm hv
      | j + 2, h =>
        have := pmEn_aux ad t (i + 2) j v hok.2 (by simpa using h) hv
        refine List.mem_cons_of_mem _ ?_
        simp only [pmCv, Value.category, if_true]
        rw [show i + (j + 2) = i + 2 + j by omega]
        exact this
    | int z =>
      simp only [show pmIsL (Value.int z) = false from rfl, Bool.false_eq_true, if_false, List.cons_append, List.nil_append] at h
      match j, h with
      | 0, h => simp at h; subst h; exact List.mem_cons_self
      | j + 1, h =>
        have := pmEn_aux ad t (i + 1) j v hok.2 (by simpa using h) hv
        refine List.mem_cons_of_mem _ ?_
        simp only [pmCv, Value.category]
        rw [show i + (j + 1) = i + 1 + j by omega]
        exact this
    | ref z =>
      simp only [show pmIsL (Value.ref z) = false from rfl, Bool.false_eq_true, if_false, List.cons_append, List.nil_append] at h
      match j, h with
      | 0, h => simp at h; subst h; exact List.mem_cons_self
      | j + 1, h =>
        have := pmEn_aux ad t (i + 1) j v hok.2 (by simpa using h) hv
        refine List.mem_cons_of_mem _ ?_
        simp only [pmCv, Value.category]
        rw [show i + (j + 1) = i + 1 + j by omega]
        exact this
    | _ => simp [pmOkV] at hok
theorem pmEn_sl (ad : Nat → Nat) : ∀ (as : List Value), as.all pmOkV = true → (lg_sl (as.map (pmCv ad))).length = (as.flatMap fun v => if pmIsL v then [v, .null] else [v]).length
  | [], _ => rfl
  | x :: t, hok => by
    simp only [List.all_cons, Bool.and_eq_true] at hok
    have ih := pmEn_sl ad t hok.2
    simp only [lg_sl] at ih
    simp only [lg_sl, List.map_cons, List.flatMap_cons, List.length_append, ih]
    cases x <;> first | rfl | (simp [pmOkV] at hok; done)
theorem pmEn_lr {ad : Nat → Nat} {as : List Value} {n : Nat} (hok : as.all pmOkV = true) (h : (as.flatMap fun v => if pmIsL v then [v, .null] else [v]).length ≤ n) : pmLr ad (lg_sl (as.map (pmCv ad)) ++ List.replicate (n - (lg_sl (as.map (pmCv ad))).length) Slot.unset).toArray n (pmEn as n) := by
  have he := lv_entry (as.map (pmCv ad)) (n := n) (by rw [pmEn_sl ad as hok]; exact h)
  refine ⟨pmEn_len h, he.1, he.2.1, fun i v hi hv => ?_⟩
  have : (0 + i, pmCv ad v) ∈ lv_args 0 (as.map (pmCv ad)) := by
    refine pmEn_aux ad as 0 i v hok ?_ hv
    unfold pmEn at hi
    simp only at hi
    by_cases hlt : i < (as.flatMap fun v => if pmIsL v then [v, .null] else [v]).length
    · rwa [List.getElem?_append_left hlt] at hi
    · rw [List.getElem?_append_right (by omega), List.getElem?_replicate] at hi
      split at hi
      · cases hi; exact absurd rfl hv
      · cases hi
  have := he.2.2 _ this
  simpa using this
end
section
section SNM
variable {p : Program} {l : Launch} {e : Env} {R : Room} {s : State} {m : MethodId} {args : Array Value} {below : List Frame} {meth : Method} {c : Code} {Q : State → Prop} {D : va_G} {g : Nat → ClassId} {b base k0 t0 : Nat}
theorem pmPc_blind {as : List Value} {sh : pmS} {M : pmM} {N : pmN} : FrameBlind (pmPc D g b base as sh M N) := by
  intro a U g2 mk h
  obtain ⟨h1, h2, h3, h4, h5⟩ := h
  exact ⟨h1, h2, h3, va_K.moved (u := U) (U := U.calling g2 mk a) (Vm.Alike.refl U.vm) h4, pmNg_same (u := U) (U := U.calling g2 mk a) rfl h5⟩
theorem pmGd_in {mj : Nat} (h : ckLw (pmWx.getD mj (0, 0, 0, 0)).1 (.code (pmY mj) (pmBy mj) (pmL mj) (pmRt mj)) = true) : GoodIn pmTb (pmWl mj) := by
  intro w hw
  rcases List.mem_cons.mp hw with rfl | hw
  · exact ⟨pmTb_of h rfl, Or.inl rfl⟩
  · obtain ⟨h1, h2⟩ := List.mem_filter.mp hw
    exact ⟨h1, good_of_word h2⟩
theorem pmArgs_of {kd mj : Nat} {st as rest : List Value} {sh : pmS} (h : pmArgs kd mj st sh = some (as, rest)) : st = as.reverse ++ rest ∧ as.length = pmNa mj ∧ pmCat rest ≤ 8 ∧ pmKd mj = kd ∧ pmRecv kd (pmCi mj) as sh = true ∧ as.all pmOkV = true ∧ (as.flatMap fun v => if pmIsL v then [v, .null] else [v]).length ≤ pmL mj := by
  unfold pmArgs at h
  simp only at h
  split at h
  · rename_i h0
    simp only [Option.some.injEq, Prod.mk.injEq] at h
    obtain ⟨rfl, rfl⟩ := h
    refine ⟨?_, ?_, h0.2⟩
    · rw [List.reverse_reverse, List.take_append_drop]
    · rw [List.length_reverse, List.length_take]
      omega
  · cases h
/-- behind a call -/
theorem snd_back {pc mi : Nat} {ls rest : List Value} {sh sh1 : pmS} {M1 : pmM} {N1 : pmN} {r : Option Value} {H : Heap} {locs : List Loc} {lsA : Array Slot} {stk : List Value} {a0 : Array Value}
    (hrun : va_Run p l e R s m args below meth c H locs (sh.length - k0) (pmTo sh - t0) (sh1.length - sh.length) (pmTo sh1 - pmTo sh) (F0 m pc lsA stk) (rest.map (pmCv (pmAd b base))) (pmQc D g b base r sh1 M1 N1 a0) (fun q => base < q))
    (hS : va_S (fun q => base < q) s.heap H locs) (hl : pmLr (pmAd b base) lsA (pmL mi) ls) (hk0 : k0 ≤ sh.length) (ht0 : t0 ≤ pmTo sh) (hm1 : sh.length ≤ sh1.length) (hm2 : pmTo sh ≤ pmTo sh1)
    (kk : pmW p l e R s m args below meth c Q D g b base k0 t0 mi (pc + 3) ls (r.toList ++ rest) sh1 M1 N1) : W p l e R s m args below meth c H locs (sh.length - k0) (pmTo sh - t0) Q (F0 m pc lsA stk) := by
  intro T hT X
  obtain ⟨v, st₀, t, T', L, h0, X', hL, e1, e2, ⟨hv, hP1, hz, hk⟩, st⟩ := hrun T hT X
  cases hv
  rw [h0] at hz hk
  have hS1 : va_S (fun q => base < q) s.heap T'.heap (locs ++ L) := by
    refine ⟨Nat.le_trans hS.1 (by rw [e1]; exact hz), fun q h1 h2 => ?_, fun q hq => ?_⟩
    · rw [e1, hk q (Nat.lt_of_lt_of_le h1 hS.1) h2]
      exact hS.2.1 q h1 h2
    · rcases List.mem_append.mp hq with h | h
      · exact hS.2.2 q h
      · exact hL q h
  have kW := kk T'.heap (locs ++ L) lsA (by rw [e1]; exact hP1) hS1 hl
  rw [show sh1.length - k0 = sh.length - k0 + (sh1.length - sh.length) by omega, show pmTo sh1 - t0 = pmTo sh - t0 + (pmTo sh1 - pmTo sh) by omega] at kW
  obtain ⟨t2, a1, b1⟩ := kW T' rfl X'
  have e3 : (r.toList ++ rest).map (pmCv (pmAd b base)) = (r.map (pmCv (pmAd b base))).toList ++ rest.map (pmCv (pmAd b base)) := by
    cases r <;> simp
  rw [e3] at a1
  exact ⟨t2, st t2 a1, b1⟩
theorem pmPc_at {H : Heap} {as : List Value} {sh : pmS} {M : pmM} {N : pmN} (hsz : H.size = base + sh.length) (hP : va_P D vwCl (pmWd g b base sh M N) H) (hK : va_K D vwCl (pmTy g) s) (hN : pmNg s) : ∀ U : State, U.heap = H → s.WarmedH U.vm → pmPc D g b base as sh M N (as.map (pmCv (pmAd b base))).toArray U :=
  fun U hU hW => ⟨rfl, by rw [hU]; exact hsz, by rw [hU]; exact hP, va_K.moved hW.alike hK, pmNg_warm hW hN⟩
set_option maxHeartbeats 4000000 in
theorem snd_call {mi mj pc : Nat} {ls st as rest : List Value} {sh sh1 : pmS} {M M1 : pmM} {N N1 : pmN} {r : Option Value} (hnx : pmNx mi pc ls st sh M N = some (.inr (.inr (mj, as, rest))))
    (hM : ckMt mj = true → mj < 189 → as.all pmOkV = true → (as.flatMap fun v => if pmIsL v then [v, .null] else [v]).length ≤ pmL mj → pmMet l D g b base mj as sh M N r sh1 M1 N1) (C0 : pmCx p R s m args meth c mi D g) (hN : pmNg s)
    (hs : s.heap.size = base + k0) (hk0 : k0 ≤ sh.length) (ht0 : t0 ≤ pmTo sh) (h10 : 1 ≤ k0) (hm1 : sh.length ≤ sh1.length) (hm2 : pmTo sh ≤ pmTo sh1) (hR1 : sh1.length - k0 ≤ R.cells) (hR2 : pmTo sh1 - t0 ≤ R.slots)
    (kk : pmW p l e R s m args below meth c Q D g b base k0 t0 mi (pc + 3) ls (r.toList ++ rest) sh1 M1 N1) : pmW p l e R s m args below meth c Q D g b base k0 t0 mi pc ls st sh M N := by
  obtain ⟨hx, hb, hml, hown, hts, hK, hlocks, hret, hin2, hfr, hgl⟩ := C0
  intro H locs lsA hP hS hl
  refine pmW_sz (fun hu => ?_)
  have hsz := pmSz hP hS hk0 h10 hs hu
  have hrR : sh.length - k0 + (sh1.length - sh.length) ≤ R.cells ∧ pmTo sh - t0 + (pmTo sh1 - pmTo sh) ≤ R.slots := ⟨by omega, by omega⟩
  unfold pmNx at hnx
  split at hnx
  · cases hnx
  · rename_i i len a bb cw hcode
    split at hnx
    all_goals first
      | (repeat' split at hnx
         all_goals first
           | (cases hnx; done)
           | (simp only [Option.some.injEq, Sum.inr.injEq, reduceCtorEq] at hnx; done))
      | skip
    · -- virtual
      rename_i idx
      split at hnx
      · rename_i as1 rest1 hargs
        simp only [Option.some.injEq, Sum.inr.injEq, Prod.mk.injEq] at hnx
        obtain ⟨rfl, rfl, rfl⟩ := hnx
        obtain ⟨rfl, hlen, hcat, hkd, hrec, hok, hfit⟩ := pmArgs_of hargs
        obtain ⟨hd, hi⟩ := ck1 hcode (by intro q; cases q)
        simp only [ckI, Bool.and_eq_true, decide_eq_true_eq] at hi
        obtain ⟨⟨rfl, hlk⟩, hroom⟩ := hi
        obtain ⟨hr1, hr2, hmt, hj⟩ := ckRoom_of hroom
        have hMet := hM hmt hj hok hfit
        unfold ckMt at hmt
        rw [hkd] at hmt
        simp only [Bool.and_eq_true, decide_eq_true_eq] at hmt
        obtain ⟨⟨⟨⟨hmh, hcls⟩, hcw⟩, hini⟩, ⟨⟨hins, hsel⟩, hvc⟩, hps, hna⟩ := hmt
        simp only [pmRecv] at hrec
        split at hrec
        · rename_i q as'
          split at hrec
          · rename_i cj sl hsh
            have hcj : cj = pmCi a := by simpa using hrec
            subst hcj
            obtain ⟨rc, hrc, hrn⟩ := Option.map_eq_some_iff.mp hvc
            have hG := pmGd_in hcw
            have hT : GoodIn pmTb (wsV (pmOwn mi) idx (pmY a).cls (pmY a) (pmWl a)) := by
              intro w hw
              unfold wsV at hw
              rcases List.mem_append.mp hw with hw | hw
              · simp only [List.mem_cons, List.not_mem_nil, or_false] at hw
                rcases hw with rfl | rfl | rfl | rfl
                · exact ⟨pmTb_of hlk rfl, Or.inl rfl⟩
                · exact ⟨pmTb_of hins rfl, Or.inl rfl⟩
                · exact ⟨pmTb_of hsel rfl, Or.inl rfl⟩
                · exact ⟨pmTb_of hini rfl, Or.inl rfl⟩
              · exact hG w hw
            have hrecv := va_recv (q := rc) hK hP hrc (pmWd_get (g := g) (b := b) (base := base) (M := M) (N := N) hsh)
            rw [hrn] at hrecv
            refine snd_back (va_runV (C := (pmY a).cls) (As := as'.map (pmCv (pmAd b base))) (b := base + (q + 1)) (n := pmNa a - 1) ⟨hx, hb, hml, hown, hts⟩ hMet (cwV (pmNa a - 1) hts hT rfl rfl rfl ⟨rfl, hmh.1, hmh.2, hps⟩ ⟨Nat.le_trans hr1 hfr, Nat.le_trans hr2 hgl⟩) ⟨pmPc_blind, hrecv, pmPc_at hsz hP hK hN⟩ rfl ?_ hl.2.1 ?_ (lv_room ?_) hd hrR) hS hl hk0 ht0 hm1 hm2 kk
            · rw [List.length_map]; simp only [List.length_cons] at hlen; omega
            · simp [pmCv, pmAd]
            · rw [pmCat_cv]; exact hcat
          · cases hrec
        · cases hrec
      · cases hnx
    · -- static
      rename_i idx
      split at hnx
      · split at hnx
        · simp only [Option.some.injEq, Sum.inr.injEq, reduceCtorEq] at hnx
        · cases hnx
      · rename_i hb1
        split at hnx
        · rename_i as1 rest1 hargs
          simp only [Option.some.injEq, Sum.inr.injEq, Prod.mk.injEq] at hnx
          obtain ⟨rfl, rfl, rfl⟩ := hnx
          obtain ⟨rfl, hlen, hcat, hkd, hrec, hok, hfit⟩ := pmArgs_of hargs
          obtain ⟨hd, hi⟩ := ck1 hcode (by intro q; cases q)
          simp only [ckI, if_neg hb1, Bool.and_eq_true, Bool.or_eq_true, decide_eq_true_eq] at hi
          obtain ⟨⟨rfl, hlk⟩, hroom⟩ := hi
          obtain ⟨hr1, hr2, hmt, hj⟩ := ckRoom_of hroom
          have hMet := hM hmt hj hok hfit
          unfold ckMt at hmt
          rw [hkd] at hmt
          simp only [Bool.and_eq_true, decide_eq_true_eq] at hmt
          obtain ⟨⟨⟨⟨hmh, hcls⟩, hcw⟩, hini⟩, hsta, hps⟩ := hmt
          have hG := pmGd_in hcw
          rcases hlk with hlk | hlk
          · have hT : GoodIn pmTb (va_wsS (pmOwn mi) idx (pmY a) (pmWl a)) := by
              intro w hw
              unfold va_wsS at hw
              rcases List.mem_append.mp hw with hw | hw
              · simp only [List.mem_cons, List.not_mem_nil, or_false] at hw
                rcases hw with rfl | rfl | rfl
                · exact ⟨pmTb_of hlk rfl, Or.inl rfl⟩
                · exact ⟨pmTb_of hsta rfl, Or.inl rfl⟩
                · exact ⟨pmTb_of hini rfl, Or.inl rfl⟩
              · exact hG w hw
            refine snd_back (va_runS (As := as1.map (pmCv (pmAd b base))) (n := pmNa a) ⟨hx, hb, hml, hown, hts⟩ hMet (va_cwS (pmNa a) hts hT rfl rfl rfl ⟨hmh.1, hmh.2, hps⟩ ⟨Nat.le_trans hr1 hfr, Nat.le_trans hr2 hgl⟩) ⟨pmPc_blind, pmPc_at hsz hP hK hN⟩ rfl ?_ hl.2.1 ?_ (lv_room ?_) hd hrR) hS hl hk0 ht0 hm1 hm2 kk
            · rw [List.length_map]; exact hlen
            · simp
            · rw [pmCat_cv]; exact hcat
          · refine snd_back (va_runSN (As := as1.map (pmCv (pmAd b base))) (n := pmNa a) ⟨hx, hb, hml, hown, hts⟩ hMet ⟨va_cnB (pmNa a) hts hG rfl rfl rfl (va_Nw.of rfl (hts _ (pmTb_of hlk rfl))) (hts _ (pmTb_of hini rfl)) ⟨hmh.1, hmh.2, hps⟩ ⟨Nat.le_trans hr1 hfr, Nat.le_trans hr2 hgl⟩, hts _ (pmTb_of hsta rfl), trivial⟩ ⟨pmPc_blind, pmPc_at hsz hP hK hN⟩ rfl ?_ hl.2.1 ?_ (lv_room ?_) hd hrR) hS hl hk0 ht0 hm1 hm2 kk
            · rw [List.length_map]; exact hlen
            · simp
            · rw [pmCat_cv]; exact hcat
        · cases hnx
    · -- a constructor
      rename_i idx
      split at hnx
      · split at hnx
        · simp only [Option.some.injEq, Sum.inr.injEq, reduceCtorEq] at hnx
        · cases hnx
      · rename_i hb1
        split at hnx
        · rename_i as1 rest1 hargs
          simp only [Option.some.injEq, Sum.inr.injEq, Prod.mk.injEq] at hnx
          obtain ⟨rfl, rfl, rfl⟩ := hnx
          obtain ⟨rfl, hlen, hcat, hkd, hrec, hok, hfit⟩ := pmArgs_of hargs
          obtain ⟨hd, hi⟩ := ck1 hcode (by intro q; cases q)
          simp only [ckI, if_neg hb1, Bool.and_eq_true, Bool.or_eq_true, decide_eq_true_eq] at hi
          obtain ⟨⟨rfl, hlk⟩, hroom⟩ := hi
          obtain ⟨hr1, hr2, hmt, hj⟩ := ckRoom_of hroom
          have hMet := hM hmt hj hok hfit
          unfold ckMt at hmt
          rw [hkd] at hmt
          simp only [Bool.and_eq_true, decide_eq_true_eq] at hmt
          obtain ⟨⟨⟨⟨hmh, hcls⟩, hcw⟩, hini⟩, ⟨⟨hins, hnam⟩, hrt⟩, hps, hna⟩ := hmt
          have hG := pmGd_in hcw
          simp only [pmRecv] at hrec
          split at hrec
          · rename_i q as'
            have hw : pmWl a = Cond.code (pmY a) (pmBy a) (pmL a) none :: pmGd := by unfold pmWl; rw [hrt]
            rcases hlk with hlk | hlk
            · refine snd_back (va_runI (As := as'.map (pmCv (pmAd b base))) (b := pmAd b base q) (n := pmNa a - 1) ⟨hx, hb, hml, hown, hts⟩ hMet (cwI (pmNa a - 1) hts hG hw rfl rfl (hts _ (pmTb_of hini rfl)) (hts _ (pmTb_of hlk rfl)) (hts _ (pmTb_of hins rfl)) hnam ⟨hmh.1, hmh.2, hps⟩ ⟨Nat.le_trans hr1 hfr, Nat.le_trans hr2 hgl⟩) ⟨pmPc_blind, pmPc_at hsz hP hK hN⟩ rfl ?_ hl.2.1 ?_ (lv_room ?_) hd hrR) hS hl hk0 ht0 hm1 hm2 kk
              · rw [List.length_map]; simp only [List.length_cons] at hlen; omega
              · simp [pmCv]
              · rw [pmCat_cv]; exact hcat
            · refine snd_back (va_runIN (As := as'.map (pmCv (pmAd b base))) (b := pmAd b base q) (n := pmNa a - 1) ⟨hx, hb, hml, hown, hts⟩ hMet ⟨va_cnB (pmNa a - 1) hts hG hw rfl rfl (va_Nw.of rfl (hts _ (pmTb_of hlk rfl))) (hts _ (pmTb_of hini rfl)) ⟨hmh.1, hmh.2, hps⟩ ⟨Nat.le_trans hr1 hfr, Nat.le_trans hr2 hgl⟩, hnam, hts _ (pmTb_of hins rfl)⟩ ⟨pmPc_blind, pmPc_at hsz hP hK hN⟩ rfl ?_ hl.2.1 ?_ (lv_room ?_) hd hrR) hS hl hk0 ht0 hm1 hm2 kk
              · rw [List.length_map]; simp only [List.length_cons] at hlen; omega
              · simp [pmCv]
              · rw [pmCat_cv]; exact hcat
          · cases hrec
        · cases hnx
end SNM
end
section
section SNW
variable {p : Program} {l : Launch} {e : Env} {R : Room} {s : State} {m : MethodId} {args : Array Value} {below : List Frame} {meth : Method} {c : Code} {Q : State → Prop} {D : va_G} {g : Nat → ClassId} {b base k0 t0 : Nat}
theorem pmTs_of {pc : Nat} {d lo hi : Int} {offs : Array Int} {x : Int32} {q : Nat} (h : pmTs pc d lo hi offs x = some q) : ((x.toInt < lo ∨ hi < x.toInt) ∧ (pc : Int) + d = (q : Int)) ∨ (¬ x.toInt < lo ∧ ¬ hi < x.toInt ∧ ∃ o, offs[(x.toInt - lo).toNat]? = some o ∧ (pc : Int) + o = (q : Int)) := by
  unfold pmTs at h
  simp only at h
  by_cases h1 : x.toInt < lo ∨ hi < x.toInt
  · rw [if_pos h1] at h
    simp only [Option.bind_some] at h
    split at h
    · rename_i h2
      cases h
      exact Or.inl ⟨h1, by omega⟩
    · cases h
  · rw [if_neg h1] at h
    cases ho : offs[(x.toInt - lo).toNat]? with
    | none => rw [ho] at h; cases h
    | some o =>
      rw [ho] at h
      simp only [Option.bind_some] at h
      split at h
      · rename_i h2
        cases h
        exact Or.inr ⟨fun q => h1 (Or.inl q), fun q => h1 (Or.inr q), o, rfl, by omega⟩
      · cases h
set_option maxHeartbeats 4000000 in
theorem snd_go {mi pc pc' : Nat} {ls st ls' st' : List Value} {sh sh' : pmS} {M M' : pmM} {N N' : pmN} (hnx : pmNx mi pc ls st sh M N = some (.inr (.inl (pc', ls', st', sh', M', N')))) (C0 : pmCx p R s m args meth c mi D g)
    (hXc : pmXc s b base mi sh M) (hs : s.heap.size = base + k0) (hk0 : k0 ≤ sh.length) (ht0 : t0 ≤ pmTo sh) (h10 : 1 ≤ k0) (hR1 : sh'.length - k0 ≤ R.cells) (hR2 : pmTo sh' - t0 ≤ R.slots)
    (kk : pmW p l e R s m args below meth c Q D g b base k0 t0 mi pc' ls' st' sh' M' N') : pmW p l e R s m args below meth c Q D g b base k0 t0 mi pc ls st sh M N := by
  have ex : ∀ {i : Instr} {len a bb cw : Nat}, pmCode mi pc = some (i, len, a, bb, cw) → pmEx i a bb ls st sh M N = some (ls', st', sh', M', N') → pc' = pc + len → pmW p l e R s m args below meth c Q D g b base k0 t0 mi pc ls st sh M N := by
    intro i len a bb cw hcode hex hpc
    subst hpc
    cases hA : pmA i with
    | true => exact snd_a hcode hex hA C0 kk
    | false => exact snd_b hcode hex hA C0 hXc hs hk0 ht0 h10 hR1 hR2 kk
  unfold pmNx at hnx
  split at hnx
  · cases hnx
  · rename_i i len a bb cw hcode
    split at hnx
    · repeat' split at hnx
      all_goals first | (cases hnx; done) | (simp only [Option.some.injEq, reduceCtorEq] at hnx; done)
    · repeat' split at hnx
      all_goals first | (cases hnx; done) | (simp only [Option.some.injEq, reduceCtorEq] at hnx; done)
    · repeat' split at hnx
      all_goals first | (cases hnx; done) | (simp only [Option.some.injEq, reduceCtorEq] at hnx; done)
    · repeat' split at hnx
      all_goals first | (cases hnx; done) | (simp only [Option.some.injEq, reduceCtorEq] at hnx; done)
    · -- goto
      simp only [Option.some.injEq, Sum.inr.injEq, Sum.inl.injEq, Prod.mk.injEq] at hnx
      obtain ⟨rfl, rfl, rfl, rfl, rfl, rfl⟩ := hnx
      obtain ⟨hd, hi⟩ := ck1 hcode (by intro q; cases q)
      simp only [ckI, decide_eq_true_eq] at hi
      obtain ⟨h1, rfl⟩ := hi
      obtain ⟨hx, hb, -⟩ := C0
      intro H locs lsA hP hS hl
      exact lv_goto hx hb hd h1 (kk H locs lsA hP hS hl)
    · -- if
      rename_i cd off
      split at hnx
      · rename_i x t
        simp only [Option.some.injEq, Sum.inr.injEq, Sum.inl.injEq, Prod.mk.injEq] at hnx
        obtain ⟨rfl, rfl, rfl, rfl, rfl, rfl⟩ := hnx
        obtain ⟨hd, hi⟩ := ck1 hcode (by intro q; cases q)
        simp only [ckI, decide_eq_true_eq] at hi
        obtain ⟨h1, rfl⟩ := hi
        obtain ⟨hx, hb, -⟩ := C0
        intro H locs lsA hP hS hl
        have k2 := kk H locs lsA hP hS hl
        cases cd with
        | eq => exact lv_if_eq hx hb hd h1 (fun hc => by rw [if_pos (by simp [pmC0, hc])] at k2; exact k2) (fun hc => by rw [if_neg (by simp [pmC0, hc])] at k2; exact k2)
        | ne => exact lv_if_ne hx hb hd h1 (fun hc => by rw [if_pos (by simp [pmC0, hc])] at k2; exact k2) (fun hc => by rw [if_neg (by simp [pmC0, hc])] at k2; exact k2)
        | lt => exact lv_if_lt hx hb hd h1 (fun hc => by simp only [pmC0, pmC2, hc, not_false_eq_true, decide_true, if_true] at k2; exact k2) (fun hc => by simp only [pmC0, pmC2, hc, decide_false, Bool.false_eq_true, if_false] at k2; exact k2)
        | ge => exact lv_if_ge hx hb hd h1 (fun hc => by simp only [pmC0, pmC2, hc, not_false_eq_true, decide_true, if_true] at k2; exact k2) (fun hc => by simp only [pmC0, pmC2, hc, decide_false, Bool.false_eq_true, if_false] at k2; exact k2)
        | gt => exact lv_if_gt hx hb hd h1 (fun hc => by simp only [pmC0, pmC2, hc, not_false_eq_true, decide_true, if_true] at k2; exact k2) (fun hc => by simp only [pmC0, pmC2, hc, decide_false, Bool.false_eq_true, if_false] at k2; exact k2)
        | le => exact lv_if_le hx hb hd h1 (fun hc => by simp only [pmC0, pmC2, hc, not_false_eq_true, decide_true, if_true] at k2; exact k2) (fun hc => by simp only [pmC0, pmC2, hc, decide_false, Bool.false_eq_true, if_false] at k2; exact k2)
      · cases hnx
    · -- if_icmp
      rename_i cd off
      split at hnx
      · rename_i y x t
        simp only [Option.some.injEq, Sum.inr.injEq, Sum.inl.injEq, Prod.mk.injEq] at hnx
        obtain ⟨rfl, rfl, rfl, rfl, rfl, rfl⟩ := hnx
        obtain ⟨hd, hi⟩ := ck1 hcode (by intro q; cases q)
        simp only [ckI, decide_eq_true_eq] at hi
        obtain ⟨h1, rfl⟩ := hi
        obtain ⟨hx, hb, -⟩ := C0
        intro H locs lsA hP hS hl
        have k2 := kk H locs lsA hP hS hl
        cases cd with
        | eq => exact lv_icmp_eq hx hb hd h1 (fun hc => by simp only [pmC0, pmC2, hc, not_false_eq_true, decide_true, if_true] at k2; exact k2) (fun hc => by simp only [pmC0, pmC2, hc, decide_false, Bool.false_eq_true, if_false] at k2; exact k2)
        | ne => exact lv_icmp_ne hx hb hd h1 (fun hc => by simp only [pmC0, pmC2, hc, not_false_eq_true, decide_true, if_true] at k2; exact k2) (fun hc => by simp only [pmC0, pmC2, hc, not_true_eq_false, decide_false, Bool.false_eq_true, if_false] at k2; exact k2)
        | lt => exact lv_icmp_lt hx hb hd h1 (fun hc => by simp only [pmC0, pmC2, hc, not_false_eq_true, decide_true, if_true] at k2; exact k2) (fun hc => by simp only [pmC0, pmC2, hc, decide_false, Bool.false_eq_true, if_false] at k2; exact k2)
        | ge => exact lv_icmp_ge hx hb hd h1 (fun hc => by simp only [pmC0, pmC2, hc, not_false_eq_true, decide_true, if_true] at k2; exact k2) (fun hc => by simp only [pmC0, pmC2, hc, decide_false, Bool.false_eq_true, if_false] at k2; exact k2)
        | gt => exact lv_icmp_gt hx hb hd h1 (fun hc => by simp only [pmC0, pmC2, hc, not_false_eq_true, decide_true, if_true] at k2; exact k2) (fun hc => by simp only [pmC0, pmC2, hc, decide_false, Bool.false_eq_true, if_false] at k2; exact k2)
        | le => exact lv_icmp_le hx hb hd h1 (fun hc => by simp only [pmC0, pmC2, hc, not_false_eq_true, decide_true, if_true] at k2; exact k2) (fun hc => by simp only [pmC0, pmC2, hc, decide_false, Bool.false_eq_true, if_false] at k2; exact k2)
      · cases hnx
    · -- tableswitch
      rename_i d lo hi offs
      split at hnx
      · rename_i x t
        split at hnx
        · rename_i q hq
          simp only [Option.some.injEq, Sum.inr.injEq, Sum.inl.injEq, Prod.mk.injEq] at hnx
          obtain ⟨rfl, rfl, rfl, rfl, rfl, rfl⟩ := hnx
          obtain ⟨hd, -⟩ := ck1 hcode (by intro q; cases q)
          obtain ⟨hx, hb, -⟩ := C0
          intro H locs lsA hP hS hl
          rcases pmTs_of hq with ⟨h1, h2⟩ | ⟨h1, h2, o, h3, h4⟩
          · exact lv_tableOut hx hb hd h1 h2 (kk H locs lsA hP hS hl)
          · exact lv_tableIn hx hb hd h1 h2 h3 h4 (kk H locs lsA hP hS hl)
        · cases hnx
      · cases hnx
    · -- lookupswitch
      rename_i d ps
      split at hnx
      · rename_i x t
        split at hnx
        · rename_i q hq
          simp only [Option.some.injEq, Sum.inr.injEq, Sum.inl.injEq, Prod.mk.injEq] at hnx
          obtain ⟨rfl, rfl, rfl, rfl, rfl, rfl⟩ := hnx
          obtain ⟨hd, hi⟩ := ck1 hcode (by intro q; cases q)
          simp only [ckI] at hi
          obtain ⟨hx, hb, -⟩ := C0
          intro H locs lsA hP hS hl
          unfold pmLk at hq
          simp only at hq
          split at hq
          · cases hq
            exact lv_lookup hx hb hd hi rfl (by omega) (kk H locs lsA hP hS hl)
          · cases hq
        · cases hnx
      · cases hnx
    · -- virtual
      split at hnx
      · simp only [Option.some.injEq, Sum.inr.injEq, reduceCtorEq] at hnx
      · cases hnx
    · split at hnx
      · split at hnx
        · rename_i x hq
          simp only [Option.some.injEq, Sum.inr.injEq, Sum.inl.injEq, Prod.mk.injEq] at hnx
          obtain ⟨h1, rfl⟩ := hnx
          exact ex hcode hq h1.symm
        · cases hnx
      · split at hnx
        · simp only [Option.some.injEq, Sum.inr.injEq, reduceCtorEq] at hnx
        · cases hnx
    · split at hnx
      · split at hnx
        · rename_i x hq
          simp only [Option.some.injEq, Sum.inr.injEq, Sum.inl.injEq, Prod.mk.injEq] at hnx
          obtain ⟨h1, rfl⟩ := hnx
          exact ex hcode hq h1.symm
        · cases hnx
      · split at hnx
        · simp only [Option.some.injEq, Sum.inr.injEq, reduceCtorEq] at hnx
        · cases hnx
    · split at hnx
      · rename_i x hq
        simp only [Option.some.injEq, Sum.inr.injEq, Sum.inl.injEq, Prod.mk.injEq] at hnx
        obtain ⟨h1, rfl⟩ := hnx
        exact ex hcode hq h1.symm
      · cases hnx
set_option maxHeartbeats 4000000 in
theorem pmNx_at {mi pc : Nat} {ls st : List Value} {sh sh' : pmS} {M M' : pmM} {N N' : pmN} {r : Option Value} (hnx : pmNx mi pc ls st sh M N = some (.inl (r, sh', M', N'))) : st = r.toList ∧ pmRetAt mi pc r := by
  unfold pmNx at hnx
  split at hnx
  · cases hnx
  · rename_i i len a bb cw hcode
    split at hnx
    · split at hnx
      · split at hnx
        · rename_i h0
          simp only [Option.some.injEq, Sum.inl.injEq, Prod.mk.injEq] at hnx
          obtain ⟨rfl, -⟩ := hnx
          obtain ⟨hd, hi⟩ := ck1 hcode (by intro q; cases q)
          simp only [ckI, decide_eq_true_eq] at hi
          subst hi
          exact ⟨rfl, Or.inl ⟨_, rfl, hd, h0⟩⟩
        · cases hnx
      · cases hnx
    · split at hnx
      · simp only [Option.some.injEq, Sum.inl.injEq, Prod.mk.injEq] at hnx
        obtain ⟨rfl, -⟩ := hnx
        obtain ⟨hd, hi⟩ := ck1 hcode (by intro q; cases q)
        simp only [ckI, decide_eq_true_eq] at hi
        obtain ⟨h1, rfl⟩ := hi
        exact ⟨rfl, Or.inr (Or.inl ⟨_, rfl, hd, h1⟩)⟩
      · cases hnx
    · split at hnx
      · simp only [Option.some.injEq, Sum.inl.injEq, Prod.mk.injEq] at hnx
        obtain ⟨rfl, -⟩ := hnx
        obtain ⟨hd, hi⟩ := ck1 hcode (by intro q; cases q)
        simp only [ckI, Bool.and_eq_true, decide_eq_true_eq] at hi
        obtain ⟨rfl, h1⟩ := hi
        split at h1
        · rename_i C hC
          exact ⟨rfl, Or.inr (Or.inr (Or.inl ⟨_, C, rfl, hd, hC⟩))⟩
        · cases h1
      · cases hnx
    · split at hnx
      · simp only [Option.some.injEq, Sum.inl.injEq, Prod.mk.injEq] at hnx
        obtain ⟨rfl, -⟩ := hnx
        obtain ⟨hd, hi⟩ := ck1 hcode (by intro q; cases q)
        simp only [ckI, decide_eq_true_eq] at hi
        obtain ⟨h1, rfl⟩ := hi
        exact ⟨rfl, Or.inr (Or.inr (Or.inr ⟨rfl, hd, h1⟩))⟩
      · cases hnx
    all_goals (repeat' split at hnx)
    all_goals first | (cases hnx; done) | (simp only [Option.some.injEq, reduceCtorEq] at hnx; done)
end SNW
/-- all that a run with this fuel gives -/
def pmOk (l : Launch) (D : va_G) (g : Nat → ClassId) (b base n : Nat) : Prop := ∀ (mi pc : Nat) (ls st : List Value) (sh : pmS) (M : pmM) (N : pmN) (r : Option Value) (sh' : pmS) (M' : pmM) (N' : pmN), pr n mi pc ls st sh M N = some (r, sh', M', N') →
  ∀ (p : Program) (e : Env) (R : Room) (s : State) (m : MethodId) (args : Array Value) (below : List Frame) (meth : Method) (c : Code) (Q : State → Prop) (k0 t0 : Nat), pmCx p R s m args meth c mi D g → pmNg s → pmXc s b base mi sh M → s.heap.size = base + k0 → k0 ≤ sh.length → t0 ≤ pmTo sh → 1 ≤ k0 → sh'.length - k0 ≤ R.cells → pmTo sh' - t0 ≤ R.slots →
  (∀ (pc' : Nat) (ls' : List Value), pmRetAt mi pc' r → pmW p l e R s m args below meth c Q D g b base k0 t0 mi pc' ls' r.toList sh' M' N') → pmW p l e R s m args below meth c Q D g b base k0 t0 mi pc ls st sh M N
theorem snd_met {l : Launch} {D : va_G} {g : Nat → ClassId} {b base n : Nat} (ih : pmOk l D g b base n) {mj : Nat} {as : List Value} {sh : pmS} {M : pmM} {N : pmN} {r : Option Value} {sh' : pmS} {M' : pmM} {N' : pmN} (h : pr n mj 0 (pmEn as (pmL mj)) [] sh M N = some (r, sh', M', N')) (h1 : 1 ≤ sh.length) (hmt : ckMt mj = true) (hj : mj < 189) (hok : as.all pmOkV = true) (hfit : (as.flatMap fun v => if pmIsL v then [v, .null] else [v]).length ≤ pmL mj) : pmMet l D g b base mj as sh M N r sh' M' N' := by
  refine va_MetF (cc := pmBy mj) (maxL := pmL mj) (ret := pmRt mj) (pf_all mj hj) rfl ?_
  intro p e s m args below meth c s₁ B hml hv
  obtain ⟨rfl, hsz, hP, hK, hN⟩ := hv
  have hts := atoms_spec (ws := pmWl mj) B.pre
  unfold ckMt at hmt
  simp only [Bool.and_eq_true, decide_eq_true_eq] at hmt
  obtain ⟨⟨⟨⟨hmh, hcls⟩, hcw⟩, hini⟩, hkd⟩ := hmt
  have hown : s.vm.findClass (pmOwn mj) = some m.cls := by rw [← hcls]; exact findClass_of_methodNamed B.named
  have C0 : pmCx p (headSpec (pmWl mj) (pmRm mj (sh'.length - sh.length) (pmTo sh' - pmTo sh))).room s m (as.map (pmCv (pmAd b base))).toArray meth c mj D g := by
    refine ⟨B.exec, B.bytes, hml, hown, pmTb_all (fun w hw => hts w (List.mem_cons_of_mem _ hw)) hN, hK, B.notSynchronized, B.returns, fun q => ?_, Nat.le_refl _, Nat.le_refl _⟩
    rw [q] at hkd
    simp only [Bool.and_eq_true, decide_eq_true_eq] at hkd
    rw [← hkd.1.1.2]
    exact (name_of_methodNamed B.named B.method).1
  rw [lg_entry_eq]
  have key := ih mj 0 (pmEn as (pmL mj)) [] sh M N r sh' M' N' h p e _ s m _ below meth c (MQ below (pmQc D g b base r sh' M' N') (as.map (pmCv (pmAd b base))).toArray s (sh'.length - sh.length) (pmTo sh' - pmTo sh) (fun q => base < q)) sh.length (pmTo sh) C0 hN (fun q => by rw [q] at hj; exact absurd hj (by decide)) hsz (Nat.le_refl _) (Nat.le_refl _) h1 (Nat.le_refl _) (Nat.le_refl _) ?_
  · have k2 := key s.heap [] _ hP va_S.rf (pmEn_lr hok hfit)
    rw [Nat.sub_self, Nat.sub_self] at k2
    exact k2
  · intro pc' ls' hr H locs lsA hP' hS' hl'
    have hq : ∀ t : State, t.heap = H → s.WarmedH t.vm → pmQc D g b base r sh' M' N' (as.map (pmCv (pmAd b base))).toArray s (.returned (r.map (pmCv (pmAd b base)))) t := fun t ht _ => ⟨rfl, by rw [ht]; exact hP', hS'.F ht⟩
    have hlocks := B.notSynchronized
    rcases hr with ⟨v, rfl, hd, hrt⟩ | ⟨v, rfl, hd, hrt⟩ | ⟨v, C, rfl, hd, hrt⟩ | ⟨rfl, hd, hrt⟩
    · rcases hrt with hrt | ⟨hrt, hz⟩
      · exact W.zret (ty := .int) B.exec B.bytes (B.returns.trans hrt) rfl hq hS'.2.2 hd hlocks
      · exact W.zret (ty := .boolean) B.exec B.bytes (B.returns.trans hrt) (by rcases hz with rfl | rfl <;> rfl) hq hS'.2.2 hd hlocks
    · exact W.lret B.exec B.bytes (B.returns.trans hrt) hq hS'.2.2 hd hlocks
    · exact W.aret (rt := .object C) B.exec B.bytes (B.returns.trans hrt) (Or.inl ⟨C, rfl⟩) (Or.inr ⟨_, rfl⟩) hq hS'.2.2 hd hlocks
    · exact W.vret B.exec B.bytes (B.returns.trans hrt) hq hS'.2.2 hd hlocks
theorem pmXc_kp {s : State} {b base mi : Nat} {sh sh' : pmS} {M M' : pmM} (h : pmXc s b base mi sh M) (hk : pmKp sh sh' M M') (h1 : 1 ≤ sh.length) : pmXc s b base mi sh' M' := by
  intro q
  obtain ⟨L, rs, e1, e2, e3⟩ := h q
  obtain ⟨f1, f2⟩ := hk.2.2 h1
  exact ⟨L, rs, f2.trans e1, by rw [f1]; exact e2, e3⟩
/-- SOUNDNESS: what the pure machine runs to, the real one comes to -/
theorem snd_main (l : Launch) (D : va_G) (g : Nat → ClassId) (b base : Nat) : ∀ n, pmOk l D g b base n := by
  intro n
  induction n with
  | zero => intro mi pc ls st sh M N r sh' M' N' h; cases h
  | succ n ih =>
    intro mi pc ls st sh M N r sh' M' N' h p e R s m args below meth c Q k0 t0 C0 hN hXc hs hk0 ht0 h10 hR1 hR2 fin
    rw [pr] at h
    cases hn : pmNx mi pc ls st sh M N with
    | none => rw [hn] at h; cases h
    | some x =>
      rw [hn] at h
      match x, hn, h with
      | .inl x, hn, h =>
        cases h
        obtain ⟨rfl, hr⟩ := pmNx_at hn
        obtain ⟨rfl, rfl, rfl⟩ := pmNx_ret hn
        exact fin pc ls hr
      | .inr (.inl (pc1, ls1, st1, sh1, M1, N1)), hn, h =>
        have k1 := pmNx_go hn
        have k2 := pr_kp _ _ _ _ _ _ _ _ _ _ _ _ h
        refine snd_go hn C0 hXc hs hk0 ht0 h10 (by have := k2.1; omega) (by have := k2.2.1; omega) ?_
        exact ih _ _ _ _ _ _ _ _ _ _ _ h p e R s m args below meth c Q k0 t0 C0 hN (pmXc_kp hXc k1 (by omega)) hs (Nat.le_trans hk0 k1.1) (Nat.le_trans ht0 k1.2.1) h10 hR1 hR2 fin
      | .inr (.inr (mj, as, rest)), hn, h =>
        simp only at h
        cases hc : pr n mj 0 (pmEn as (pmL mj)) [] sh M N with
        | none => rw [hc] at h; cases h
        | some y =>
          obtain ⟨r1, sh1, M1, N1⟩ := y
          rw [hc] at h
          have k1 := pr_kp _ _ _ _ _ _ _ _ _ _ _ _ hc
          have k2 := pr_kp _ _ _ _ _ _ _ _ _ _ _ _ h
          refine snd_call hn (fun hmt hj hok hfit => snd_met ih hc (by omega) hmt hj hok hfit) C0 hN hs hk0 ht0 h10 k1.1 k1.2.1 (by have := k2.1; omega) (by have := k2.2.1; omega) ?_
          exact ih _ _ _ _ _ _ _ _ _ _ _ h p e R s m args below meth c Q k0 t0 C0 hN (pmXc_kp hXc k1 (by omega)) hs (Nat.le_trans hk0 k1.1) (Nat.le_trans ht0 k1.2.1) h10 hR1 hR2 fin
end
section
/-! PW: from here the method comes to its answer, with Q -/
abbrev pmPost : Type := Option Value → pmS → pmM → pmN → Prop
def PW (mi pc : Nat) (ls st : List Value) (sh : pmS) (M : pmM) (N : pmN) (Q : pmPost) : Prop := ∃ (n : Nat) (r : Option Value) (sh' : pmS) (M' : pmM) (N' : pmN), pr n mi pc ls st sh M N = some (r, sh', M', N') ∧ Q r sh' M' N'
/-- cells by their kinds -/
def pmOb (sh : pmS) (k ci : Nat) (sl : List (Option (Option Nat))) : Prop := 0 < k ∧ sh[k]? = some (.inr (ci, sl))
def pmAy (sh : pmS) (k t n : Nat) (rs : List (Option Nat)) : Prop := 0 < k ∧ sh[k]? = some (.inl (t, n, rs)) ∧ n ≤ 1000
theorem vp_nj {x : Int32} {j n : Nat} (hx : x = nI j) (hj : j < n) (hn : n ≤ 1000) : ¬ (x < 0 ∨ n ≤ x.toNatClampNeg) ∧ x.toNatClampNeg = j := by
  subst hx
  have h1 : (nI j).toNatClampNeg = j := nI_clamp (by omega)
  refine ⟨?_, h1⟩
  rw [h1]
  rintro (h | h)
  · exact nI_pos (by omega) h
  · omega
section PWR
variable {mi pc len a b c : Nat} {ls st : List Value} {sh : pmS} {M : pmM} {N : pmN} {Q : pmPost}
theorem pw_go {pc' : Nat} {ls' st' : List Value} {sh' : pmS} {M' : pmM} {N' : pmN} (h : pmNx mi pc ls st sh M N = some (.inr (.inl (pc', ls', st', sh', M', N')))) (k : PW mi pc' ls' st' sh' M' N' Q) : PW mi pc ls st sh M N Q := by
  obtain ⟨n, r, s1, M1, N1, h1, h2⟩ := k
  exact ⟨n + 1, r, s1, M1, N1, by rw [pr, h]; exact h1, h2⟩
theorem pw_rt {r : Option Value} (h : pmNx mi pc ls st sh M N = some (.inl (r, sh, M, N))) (k : Q r sh M N) : PW mi pc ls st sh M N Q := ⟨1, r, sh, M, N, by rw [pr, h], k⟩
theorem pw_cl {mj : Nat} {as rest : List Value} (h : pmNx mi pc ls st sh M N = some (.inr (.inr (mj, as, rest)))) (k : PW mj 0 (pmEn as (pmL mj)) [] sh M N (fun r sh' M' N' => PW mi (pc + 3) ls (r.toList ++ rest) sh' M' N' Q)) : PW mi pc ls st sh M N Q := by
  obtain ⟨n, r, s1, M1, N1, h1, n2, r2, s2, M2, N2, h2, h3⟩ := k
  refine ⟨max n n2 + 1, r2, s2, M2, N2, ?_, h3⟩
  rw [pr, h]
  simp only
  rw [pr_le h1 (Nat.le_max_left n n2)]
  exact pr_le h2 (Nat.le_max_right n n2)
theorem pw_mono {Q' : pmPost} (h : PW mi pc ls st sh M N Q) (hq : ∀ r sh' M' N', Q r sh' M' N' → Q' r sh' M' N') : PW mi pc ls st sh M N Q' := by
  obtain ⟨n, r, s1, M1, N1, h1, h2⟩ := h
  exact ⟨n, r, s1, M1, N1, h1, hq _ _ _ _ h2⟩
theorem pw_ex {i : Instr} {ls' st' : List Value} {sh' : pmS} {M' : pmM} {N' : pmN} (h : pmCode mi pc = some (i, len, a, b, c)) (hA : pmA i = true) (hx : pmEx i a b ls st sh M N = some (ls', st', sh', M', N')) (q : Nat) (hp : pc + len = q) (k : PW mi q ls' st' sh' M' N' Q) : PW mi pc ls st sh M N Q := by
  subst hp
  refine pw_go ?_ k
  unfold pmNx
  rw [h]
  cases i <;> first | (cases hA; done) | (simp only [hx])
/-- the instructions that are neither calls nor jumps -/
def pmB : Instr → Bool
  | .putfield _ | .new _ | .newarray _ | .anewarray _ | .arraylength | .iaload | .baload | .laload | .aaload | .iastore | .bastore | .lastore | .aastore => true
  | _ => false
theorem pw_ey {i : Instr} {ls' st' : List Value} {sh' : pmS} {M' : pmM} {N' : pmN} (h : pmCode mi pc = some (i, len, a, b, c)) (hA : pmB i = true) (hx : pmEx i a b ls st sh M N = some (ls', st', sh', M', N')) (q : Nat) (hp : pc + len = q) (k : PW mi q ls' st' sh' M' N' Q) : PW mi pc ls st sh M N Q := by
  subst hp
  refine pw_go ?_ k
  unfold pmNx
  rw [h]
  cases i <;> first | (cases hA; done) | (simp only [hx])
theorem pw_iconst {n : Int} (v : Int32) (q : Nat) (h : pmCode mi pc = some (.iconst n, len, a, b, c)) (hp : pc + len = q) (hv : Int32.ofInt n = v) (k : PW mi q ls (.int v :: st) sh M N Q) : PW mi pc (ls) (st) sh M N Q := pw_ex h rfl (by subst hv; rfl) q hp k
theorem pw_bipush {n : Int} (v : Int32) (q : Nat) (h : pmCode mi pc = some (.bipush n, len, a, b, c)) (hp : pc + len = q) (hv : (Int8.ofInt n).toInt32 = v) (k : PW mi q ls (.int v :: st) sh M N Q) : PW mi pc (ls) (st) sh M N Q := pw_ex h rfl (by subst hv; rfl) q hp k
theorem pw_sipush {n : Int} (v : Int32) (q : Nat) (h : pmCode mi pc = some (.sipush n, len, a, b, c)) (hp : pc + len = q) (hv : (Int16.ofInt n).toInt32 = v) (k : PW mi q ls (.int v :: st) sh M N Q) : PW mi pc (ls) (st) sh M N Q := pw_ex h rfl (by subst hv; rfl) q hp k
theorem pw_ldc_w {x : Nat} (q : Nat) (h : pmCode mi pc = some (.ldc_w x, len, a, b, c)) (hp : pc + len = q)  (k : PW mi q ls (.int (nI a) :: st) sh M N Q) : PW mi pc (ls) (st) sh M N Q := pw_ex h rfl (rfl) q hp k
theorem pw_lconst {n : Fin 2} (v : Int64) (q : Nat) (h : pmCode mi pc = some (.lconst n, len, a, b, c)) (hp : pc + len = q) (hv : Int64.ofNat (n : Nat) = v) (k : PW mi q ls (.long v :: st) sh M N Q) : PW mi pc (ls) (st) sh M N Q := pw_ex h rfl (by subst hv; rfl) q hp k
theorem pw_ldc2_w {x : Nat} (v : Int64) (q : Nat) (h : pmCode mi pc = some (.ldc2_w x, len, a, b, c)) (hp : pc + len = q) (hv : (if b = 0 then lN a else - lN a) = v) (k : PW mi q ls (.long v :: st) sh M N Q) : PW mi pc (ls) (st) sh M N Q := pw_ex h rfl (by subst hv; rfl) q hp k
theorem pw_iload {x : Nat} {v : Int32} (q : Nat) (h : pmCode mi pc = some (.iload x, len, a, b, c)) (hp : pc + len = q) (hl : ls[a]? = some (.int v)) (k : PW mi q ls (.int v :: st) sh M N Q) : PW mi pc (ls) (st) sh M N Q := pw_ex h rfl (by simp only [pmEx, hl]) q hp k
theorem pw_iload_n {x : Fin 4} {v : Int32} (q : Nat) (h : pmCode mi pc = some (.iload_n x, len, a, b, c)) (hp : pc + len = q) (hl : ls[a]? = some (.int v)) (k : PW mi q ls (.int v :: st) sh M N Q) : PW mi pc (ls) (st) sh M N Q := pw_ex h rfl (by simp only [pmEx, hl]) q hp k
theorem pw_istore0 {x : Fin 4} {v : Int32} {z : Value} {t : List Value} (q : Nat) (h : pmCode mi pc = some (.istore_n x, len, 0, b, c)) (hp : pc + len = q)  (k : PW mi q (.int v :: t) (st) sh M N Q) : PW mi pc (z :: t) (.int v :: st) sh M N Q := pw_ex h rfl (by simp [pmEx, pmPut]) q hp k
theorem pw_istore1 {x : Fin 4} {v : Int32} {y0 z : Value} {t : List Value} (q : Nat) (h : pmCode mi pc = some (.istore_n x, len, 1, b, c)) (hp : pc + len = q) (hL : pmIsL y0 = false) (k : PW mi q (y0 :: .int v :: t) (st) sh M N Q) : PW mi pc (y0 :: z :: t) (.int v :: st) sh M N Q := pw_ex h rfl (by simp [pmEx, pmPut, hL]) q hp k
theorem pw_istore2 {x : Fin 4} {v : Int32} {y0 y1 z : Value} {t : List Value} (q : Nat) (h : pmCode mi pc = some (.istore_n x, len, 2, b, c)) (hp : pc + len = q) (hL : pmIsL y1 = false) (k : PW mi q (y0 :: y1 :: .int v :: t) (st) sh M N Q) : PW mi pc (y0 :: y1 :: z :: t) (.int v :: st) sh M N Q := pw_ex h rfl (by simp [pmEx, pmPut, hL]) q hp k
theorem pw_istore3 {x : Fin 4} {v : Int32} {y0 y1 y2 z : Value} {t : List Value} (q : Nat) (h : pmCode mi pc = some (.istore_n x, len, 3, b, c)) (hp : pc + len = q) (hL : pmIsL y2 = false) (k : PW mi q (y0 :: y1 :: y2 :: .int v :: t) (st) sh M N Q) : PW mi pc (y0 :: y1 :: y2 :: z :: t) (.int v :: st) sh M N Q := pw_ex h rfl (by simp [pmEx, pmPut, hL]) q hp k
theorem pw_istore4 {x : Nat} {v : Int32} {y0 y1 y2 y3 z : Value} {t : List Value} (q : Nat) (h : pmCode mi pc = some (.istore x, len, 4, b, c)) (hp : pc + len = q) (hL : pmIsL y3 = false) (k : PW mi q (y0 :: y1 :: y2 :: y3 :: .int v :: t) (st) sh M N Q) : PW mi pc (y0 :: y1 :: y2 :: y3 :: z :: t) (.int v :: st) sh M N Q := pw_ex h rfl (by simp [pmEx, pmPut, hL]) q hp k
theorem pw_istore5 {x : Nat} {v : Int32} {y0 y1 y2 y3 y4 z : Value} {t : List Value} (q : Nat) (h : pmCode mi pc = some (.istore x, len, 5, b, c)) (hp : pc + len = q) (hL : pmIsL y4 = false) (k : PW mi q (y0 :: y1 :: y2 :: y3 :: y4 :: .int v :: t) (st) sh M N Q) : PW mi pc (y0 :: y1 :: y2 :: y3 :: y4 :: z :: t) (.int v :: st) sh M N Q := pw_ex h rfl (by simp [pmEx, pmPut, hL]) q hp k
theorem pw_istore6 {x : Nat} {v : Int32} {y0 y1 y2 y3 y4 y5 z : Value} {t : List Value} (q : Nat) (h : pmCode mi pc = some (.istore x, len, 6, b, c)) (hp : pc + len = q) (hL : pmIsL y5 = false) (k : PW mi q (y0 :: y1 :: y2 :: y3 :: y4 :: y5 :: .int v :: t) (st) sh M N Q) : PW mi pc (y0 :: y1 :: y2 :: y3 :: y4 :: y5 :: z :: t) (.int v :: st) sh M N Q := pw_ex h rfl (by simp [pmEx, pmPut, hL]) q hp k
theorem pw_istore7 {x : Nat} {v : Int32} {y0 y1 y2 y3 y4 y5 y6 z : Value} {t : List Value} (q : Nat) (h : pmCode mi pc = some (.istore x, len, 7, b, c)) (hp : pc + len = q) (hL : pmIsL y6 = false) (k : PW mi q (y0 :: y1 :: y2 :: y3 :: y4 :: y5 :: y6 :: .int v :: t) (st) sh M N Q) : PW mi pc (y0 :: y1 :: y2 :: y3 :: y4 :: y5 :: y6 :: z :: t) (.int v :: st) sh M N Q := pw_ex h rfl (by simp [pmEx, pmPut, hL]) q hp k
theorem pw_istore8 {x : Nat} {v : Int32} {y0 y1 y2 y3 y4 y5 y6 y7 z : Value} {t : List Value} (q : Nat) (h : pmCode mi pc = some (.istore x, len, 8, b, c)) (hp : pc + len = q) (hL : pmIsL y7 = false) (k : PW mi q (y0 :: y1 :: y2 :: y3 :: y4 :: y5 :: y6 :: y7 :: .int v :: t) (st) sh M N Q) : PW mi pc (y0 :: y1 :: y2 :: y3 :: y4 :: y5 :: y6 :: y7 :: z :: t) (.int v :: st) sh M N Q := pw_ex h rfl (by simp [pmEx, pmPut, hL]) q hp k
theorem pw_istore9 {x : Nat} {v : Int32} {y0 y1 y2 y3 y4 y5 y6 y7 y8 z : Value} {t : List Value} (q : Nat) (h : pmCode mi pc = some (.istore x, len, 9, b, c)) (hp : pc + len = q) (hL : pmIsL y8 = false) (k : PW mi q (y0 :: y1 :: y2 :: y3 :: y4 :: y5 :: y6 :: y7 :: y8 :: .int v :: t) (st) sh M N Q) : PW mi pc (y0 :: y1 :: y2 :: y3 :: y4 :: y5 :: y6 :: y7 :: y8 :: z :: t) (.int v :: st) sh M N Q := pw_ex h rfl (by simp [pmEx, pmPut, hL]) q hp k
theorem pw_istore10 {x : Nat} {v : Int32} {y0 y1 y2 y3 y4 y5 y6 y7 y8 y9 z : Value} {t : List Value} (q : Nat) (h : pmCode mi pc = some (.istore x, len, 10, b, c)) (hp : pc + len = q) (hL : pmIsL y9 = false) (k : PW mi q (y0 :: y1 :: y2 :: y3 :: y4 :: y5 :: y6 :: y7 :: y8 :: y9 :: .int v :: t) (st) sh M N Q) : PW mi pc (y0 :: y1 :: y2 :: y3 :: y4 :: y5 :: y6 :: y7 :: y8 :: y9 :: z :: t) (.int v :: st) sh M N Q := pw_ex h rfl (by simp [pmEx, pmPut, hL]) q hp k
theorem pw_istore11 {x : Nat} {v : Int32} {y0 y1 y2 y3 y4 y5 y6 y7 y8 y9 y10 z : Value} {t : List Value} (q : Nat) (h : pmCode mi pc = some (.istore x, len, 11, b, c)) (hp : pc + len = q) (hL : pmIsL y10 = false) (k : PW mi q (y0 :: y1 :: y2 :: y3 :: y4 :: y5 :: y6 :: y7 :: y8 :: y9 :: y10 :: .int v :: t) (st) sh M N Q) : PW mi pc (y0 :: y1 :: y2 :: y3 :: y4 :: y5 :: y6 :: y7 :: y8 :: y9 :: y10 :: z :: t) (.int v :: st) sh M N Q := pw_ex h rfl (by simp [pmEx, pmPut, hL]) q hp k
theorem pw_istore12 {x : Nat} {v : Int32} {y0 y1 y2 y3 y4 y5 y6 y7 y8 y9 y10 y11 z : Value} {t : List Value} (q : Nat) (h : pmCode mi pc = some (.istore x, len, 12, b, c)) (hp : pc + len = q) (hL : pmIsL y11 = false) (k : PW mi q (y0 :: y1 :: y2 :: y3 :: y4 :: y5 :: y6 :: y7 :: y8 :: y9 :: y10 :: y11 :: .int v :: t) (st) sh M N Q) : PW mi pc (y0 :: y1 :: y2 :: y3 :: y4 :: y5 :: y6 :: y7 :: y8 :: y9 :: y10 :: y11 :: z :: t) (.int v :: st) sh M N Q := pw_ex h rfl (by simp [pmEx, pmPut, hL]) q hp k
theorem pw_istore13 {x : Nat} {v : Int32} {y0 y1 y2 y3 y4 y5 y6 y7 y8 y9 y10 y11 y12 z : Value} {t : List Value} (q : Nat) (h : pmCode mi pc = some (.istore x, len, 13, b, c)) (hp : pc + len = q) (hL : pmIsL y12 = false) (k : PW mi q (y0 :: y1 :: y2 :: y3 :: y4 :: y5 :: y6 :: y7 :: y8 :: y9 :: y10 :: y11 :: y12 :: .int v :: t) (st) sh M N Q) : PW mi pc (y0 :: y1 :: y2 :: y3 :: y4 :: y5 :: y6 :: y7 :: y8 :: y9 :: y10 :: y11 :: y12 :: z :: t) (.int v :: st) sh M N Q := pw_ex h rfl (by simp [pmEx, pmPut, hL]) q hp k
theorem pw_lload {x : Nat} {v : Int64} (q : Nat) (h : pmCode mi pc = some (.lload x, len, a, b, c)) (hp : pc + len = q) (hl : ls[a]? = some (.long v)) (k : PW mi q ls (.long v :: st) sh M N Q) : PW mi pc (ls) (st) sh M N Q := pw_ex h rfl (by simp only [pmEx, hl]) q hp k
theorem pw_lload_n {x : Fin 4} {v : Int64} (q : Nat) (h : pmCode mi pc = some (.lload_n x, len, a, b, c)) (hp : pc + len = q) (hl : ls[a]? = some (.long v)) (k : PW mi q ls (.long v :: st) sh M N Q) : PW mi pc (ls) (st) sh M N Q := pw_ex h rfl (by simp only [pmEx, hl]) q hp k
theorem pw_lstore0 {x : Fin 4} {v : Int64} {z z2 : Value} {t : List Value} (q : Nat) (h : pmCode mi pc = some (.lstore_n x, len, 0, b, c)) (hp : pc + len = q)  (k : PW mi q (.long v :: .null :: t) (st) sh M N Q) : PW mi pc (z :: z2 :: t) (.long v :: st) sh M N Q := pw_ex h rfl (by simp [pmEx, pmPut2, pmPut]) q hp k
theorem pw_lstore1 {x : Fin 4} {v : Int64} {y0 z z2 : Value} {t : List Value} (q : Nat) (h : pmCode mi pc = some (.lstore_n x, len, 1, b, c)) (hp : pc + len = q) (hL : pmIsL y0 = false) (k : PW mi q (y0 :: .long v :: .null :: t) (st) sh M N Q) : PW mi pc (y0 :: z :: z2 :: t) (.long v :: st) sh M N Q := pw_ex h rfl (by simp [pmEx, pmPut2, pmPut, hL]) q hp k
theorem pw_lstore2 {x : Fin 4} {v : Int64} {y0 y1 z z2 : Value} {t : List Value} (q : Nat) (h : pmCode mi pc = some (.lstore_n x, len, 2, b, c)) (hp : pc + len = q) (hL : pmIsL y1 = false) (k : PW mi q (y0 :: y1 :: .long v :: .null :: t) (st) sh M N Q) : PW mi pc (y0 :: y1 :: z :: z2 :: t) (.long v :: st) sh M N Q := pw_ex h rfl (by simp [pmEx, pmPut2, pmPut, hL]) q hp k
theorem pw_lstore3 {x : Fin 4} {v : Int64} {y0 y1 y2 z z2 : Value} {t : List Value} (q : Nat) (h : pmCode mi pc = some (.lstore_n x, len, 3, b, c)) (hp : pc + len = q) (hL : pmIsL y2 = false) (k : PW mi q (y0 :: y1 :: y2 :: .long v :: .null :: t) (st) sh M N Q) : PW mi pc (y0 :: y1 :: y2 :: z :: z2 :: t) (.long v :: st) sh M N Q := pw_ex h rfl (by simp [pmEx, pmPut2, pmPut, hL]) q hp k
theorem pw_lstore4 {x : Nat} {v : Int64} {y0 y1 y2 y3 z z2 : Value} {t : List Value} (q : Nat) (h : pmCode mi pc = some (.lstore x, len, 4, b, c)) (hp : pc + len = q) (hL : pmIsL y3 = false) (k : PW mi q (y0 :: y1 :: y2 :: y3 :: .long v :: .null :: t) (st) sh M N Q) : PW mi pc (y0 :: y1 :: y2 :: y3 :: z :: z2 :: t) (.long v :: st) sh M N Q := pw_ex h rfl (by simp [pmEx, pmPut2, pmPut, hL]) q hp k
theorem pw_lstore5 {x : Nat} {v : Int64} {y0 y1 y2 y3 y4 z z2 : Value} {t : List Value} (q : Nat) (h : pmCode mi pc = some (.lstore x, len, 5, b, c)) (hp : pc + len = q) (hL : pmIsL y4 = false) (k : PW mi q (y0 :: y1 :: y2 :: y3 :: y4 :: .long v :: .null :: t) (st) sh M N Q) : PW mi pc (y0 :: y1 :: y2 :: y3 :: y4 :: z :: z2 :: t) (.long v :: st) sh M N Q := pw_ex h rfl (by simp [pmEx, pmPut2, pmPut, hL]) q hp k
theorem pw_lstore6 {x : Nat} {v : Int64} {y0 y1 y2 y3 y4 y5 z z2 : Value} {t : List Value} (q : Nat) (h : pmCode mi pc = some (.lstore x, len, 6, b, c)) (hp : pc + len = q) (hL : pmIsL y5 = false) (k : PW mi q (y0 :: y1 :: y2 :: y3 :: y4 :: y5 :: .long v :: .null :: t) (st) sh M N Q) : PW mi pc (y0 :: y1 :: y2 :: y3 :: y4 :: y5 :: z :: z2 :: t) (.long v :: st) sh M N Q := pw_ex h rfl (by simp [pmEx, pmPut2, pmPut, hL]) q hp k
theorem pw_lstore7 {x : Nat} {v : Int64} {y0 y1 y2 y3 y4 y5 y6 z z2 : Value} {t : List Value} (q : Nat) (h : pmCode mi pc = some (.lstore x, len, 7, b, c)) (hp : pc + len = q) (hL : pmIsL y6 = false) (k : PW mi q (y0 :: y1 :: y2 :: y3 :: y4 :: y5 :: y6 :: .long v :: .null :: t) (st) sh M N Q) : PW mi pc (y0 :: y1 :: y2 :: y3 :: y4 :: y5 :: y6 :: z :: z2 :: t) (.long v :: st) sh M N Q := pw_ex h rfl (by simp [pmEx, pmPut2, pmPut, hL]) q hp k
theorem pw_lstore8 {x : Nat} {v : Int64} {y0 y1 y2 y3 y4 y5 y6 y7 z z2 : Value} {t : List Value} (q : Nat) (h : pmCode mi pc = some (.lstore x, len, 8, b, c)) (hp : pc + len = q) (hL : pmIsL y7 = false) (k : PW mi q (y0 :: y1 :: y2 :: y3 :: y4 :: y5 :: y6 :: y7 :: .long v :: .null :: t) (st) sh M N Q) : PW mi pc (y0 :: y1 :: y2 :: y3 :: y4 :: y5 :: y6 :: y7 :: z :: z2 :: t) (.long v :: st) sh M N Q := pw_ex h rfl (by simp [pmEx, pmPut2, pmPut, hL]) q hp k
theorem pw_lstore9 {x : Nat} {v : Int64} {y0 y1 y2 y3 y4 y5 y6 y7 y8 z z2 : Value} {t : List Value} (q : Nat) (h : pmCode mi pc = some (.lstore x, len, 9, b, c)) (hp : pc + len = q) (hL : pmIsL y8 = false) (k : PW mi q (y0 :: y1 :: y2 :: y3 :: y4 :: y5 :: y6 :: y7 :: y8 :: .long v :: .null :: t) (st) sh M N Q) : PW mi pc (y0 :: y1 :: y2 :: y3 :: y4 :: y5 :: y6 :: y7 :: y8 :: z :: z2 :: t) (.long v :: st) sh M N Q := pw_ex h rfl (by simp [pmEx, pmPut2, pmPut, hL]) q hp k
theorem pw_lstore10 {x : Nat} {v : Int64} {y0 y1 y2 y3 y4 y5 y6 y7 y8 y9 z z2 : Value} {t : List Value} (q : Nat) (h : pmCode mi pc = some (.lstore x, len, 10, b, c)) (hp : pc + len = q) (hL : pmIsL y9 = false) (k : PW mi q (y0 :: y1 :: y2 :: y3 :: y4 :: y5 :: y6 :: y7 :: y8 :: y9 :: .long v :: .null :: t) (st) sh M N Q) : PW mi pc (y0 :: y1 :: y2 :: y3 :: y4 :: y5 :: y6 :: y7 :: y8 :: y9 :: z :: z2 :: t) (.long v :: st) sh M N Q := pw_ex h rfl (by simp [pmEx, pmPut2, pmPut, hL]) q hp k
theorem pw_aload {x : Nat} {v : Nat} (q : Nat) (h : pmCode mi pc = some (.aload x, len, a, b, c)) (hp : pc + len = q) (hl : ls[a]? = some (.ref v)) (k : PW mi q ls (.ref v :: st) sh M N Q) : PW mi pc (ls) (st) sh M N Q := pw_ex h rfl (by simp only [pmEx, hl]) q hp k
theorem pw_aload_n {x : Fin 4} {v : Nat} (q : Nat) (h : pmCode mi pc = some (.aload_n x, len, a, b, c)) (hp : pc + len = q) (hl : ls[a]? = some (.ref v)) (k : PW mi q ls (.ref v :: st) sh M N Q) : PW mi pc (ls) (st) sh M N Q := pw_ex h rfl (by simp only [pmEx, hl]) q hp k
theorem pw_astore0 {x : Fin 4} {v : Nat} {z : Value} {t : List Value} (q : Nat) (h : pmCode mi pc = some (.astore_n x, len, 0, b, c)) (hp : pc + len = q)  (k : PW mi q (.ref v :: t) (st) sh M N Q) : PW mi pc (z :: t) (.ref v :: st) sh M N Q := pw_ex h rfl (by simp [pmEx, pmPut]) q hp k
theorem pw_astore1 {x : Fin 4} {v : Nat} {y0 z : Value} {t : List Value} (q : Nat) (h : pmCode mi pc = some (.astore_n x, len, 1, b, c)) (hp : pc + len = q) (hL : pmIsL y0 = false) (k : PW mi q (y0 :: .ref v :: t) (st) sh M N Q) : PW mi pc (y0 :: z :: t) (.ref v :: st) sh M N Q := pw_ex h rfl (by simp [pmEx, pmPut, hL]) q hp k
theorem pw_astore2 {x : Fin 4} {v : Nat} {y0 y1 z : Value} {t : List Value} (q : Nat) (h : pmCode mi pc = some (.astore_n x, len, 2, b, c)) (hp : pc + len = q) (hL : pmIsL y1 = false) (k : PW mi q (y0 :: y1 :: .ref v :: t) (st) sh M N Q) : PW mi pc (y0 :: y1 :: z :: t) (.ref v :: st) sh M N Q := pw_ex h rfl (by simp [pmEx, pmPut, hL]) q hp k
theorem pw_astore3 {x : Fin 4} {v : Nat} {y0 y1 y2 z : Value} {t : List Value} (q : Nat) (h : pmCode mi pc = some (.astore_n x, len, 3, b, c)) (hp : pc + len = q) (hL : pmIsL y2 = false) (k : PW mi q (y0 :: y1 :: y2 :: .ref v :: t) (st) sh M N Q) : PW mi pc (y0 :: y1 :: y2 :: z :: t) (.ref v :: st) sh M N Q := pw_ex h rfl (by simp [pmEx, pmPut, hL]) q hp k
theorem pw_astore4 {x : Nat} {v : Nat} {y0 y1 y2 y3 z : Value} {t : List Value} (q : Nat) (h : pmCode mi pc = some (.astore x, len, 4, b, c)) (hp : pc + len = q) (hL : pmIsL y3 = false) (k : PW mi q (y0 :: y1 :: y2 :: y3 :: .ref v :: t) (st) sh M N Q) : PW mi pc (y0 :: y1 :: y2 :: y3 :: z :: t) (.ref v :: st) sh M N Q := pw_ex h rfl (by simp [pmEx, pmPut, hL]) q hp k
theorem pw_astore5 {x : Nat} {v : Nat} {y0 y1 y2 y3 y4 z : Value} {t : List Value} (q : Nat) (h : pmCode mi pc = some (.astore x, len, 5, b, c)) (hp : pc + len = q) (hL : pmIsL y4 = false) (k : PW mi q (y0 :: y1 :: y2 :: y3 :: y4 :: .ref v :: t) (st) sh M N Q) : PW mi pc (y0 :: y1 :: y2 :: y3 :: y4 :: z :: t) (.ref v :: st) sh M N Q := pw_ex h rfl (by simp [pmEx, pmPut, hL]) q hp k
theorem pw_astore6 {x : Nat} {v : Nat} {y0 y1 y2 y3 y4 y5 z : Value} {t : List Value} (q : Nat) (h : pmCode mi pc = some (.astore x, len, 6, b, c)) (hp : pc + len = q) (hL : pmIsL y5 = false) (k : PW mi q (y0 :: y1 :: y2 :: y3 :: y4 :: y5 :: .ref v :: t) (st) sh M N Q) : PW mi pc (y0 :: y1 :: y2 :: y3 :: y4 :: y5 :: z :: t) (.ref v :: st) sh M N Q := pw_ex h rfl (by simp [pmEx, pmPut, hL]) q hp k
theorem pw_astore7 {x : Nat} {v : Nat} {y0 y1 y2 y3 y4 y5 y6 z : Value} {t : List Value} (q : Nat) (h : pmCode mi pc = some (.astore x, len, 7, b, c)) (hp : pc + len = q) (hL : pmIsL y6 = false) (k : PW mi q (y0 :: y1 :: y2 :: y3 :: y4 :: y5 :: y6 :: .ref v :: t) (st) sh M N Q) : PW mi pc (y0 :: y1 :: y2 :: y3 :: y4 :: y5 :: y6 :: z :: t) (.ref v :: st) sh M N Q := pw_ex h rfl (by simp [pmEx, pmPut, hL]) q hp k
theorem pw_astore8 {x : Nat} {v : Nat} {y0 y1 y2 y3 y4 y5 y6 y7 z : Value} {t : List Value} (q : Nat) (h : pmCode mi pc = some (.astore x, len, 8, b, c)) (hp : pc + len = q) (hL : pmIsL y7 = false) (k : PW mi q (y0 :: y1 :: y2 :: y3 :: y4 :: y5 :: y6 :: y7 :: .ref v :: t) (st) sh M N Q) : PW mi pc (y0 :: y1 :: y2 :: y3 :: y4 :: y5 :: y6 :: y7 :: z :: t) (.ref v :: st) sh M N Q := pw_ex h rfl (by simp [pmEx, pmPut, hL]) q hp k
theorem pw_astore9 {x : Nat} {v : Nat} {y0 y1 y2 y3 y4 y5 y6 y7 y8 z : Value} {t : List Value} (q : Nat) (h : pmCode mi pc = some (.astore x, len, 9, b, c)) (hp : pc + len = q) (hL : pmIsL y8 = false) (k : PW mi q (y0 :: y1 :: y2 :: y3 :: y4 :: y5 :: y6 :: y7 :: y8 :: .ref v :: t) (st) sh M N Q) : PW mi pc (y0 :: y1 :: y2 :: y3 :: y4 :: y5 :: y6 :: y7 :: y8 :: z :: t) (.ref v :: st) sh M N Q := pw_ex h rfl (by simp [pmEx, pmPut, hL]) q hp k
theorem pw_iinc0 {x : Nat} {n : Int} {v : Int32} {t : List Value} (w : Int32) (q : Nat) (h : pmCode mi pc = some (.iinc x n, len, 0, b, c)) (hp : pc + len = q) (hv : v + Int32.ofInt n = w) (k : PW mi q (.int w :: t) (st) sh M N Q) : PW mi pc (.int v :: t) (st) sh M N Q := pw_ex h rfl (by subst hv; simp [pmEx, pmPut]) q hp k
theorem pw_iinc1 {x : Nat} {n : Int} {v : Int32} {y0 : Value} {t : List Value} (w : Int32) (q : Nat) (h : pmCode mi pc = some (.iinc x n, len, 1, b, c)) (hp : pc + len = q) (hL : pmIsL y0 = false) (hv : v + Int32.ofInt n = w) (k : PW mi q (y0 :: .int w :: t) (st) sh M N Q) : PW mi pc (y0 :: .int v :: t) (st) sh M N Q := pw_ex h rfl (by subst hv; simp [pmEx, pmPut, hL]) q hp k
theorem pw_iinc2 {x : Nat} {n : Int} {v : Int32} {y0 y1 : Value} {t : List Value} (w : Int32) (q : Nat) (h : pmCode mi pc = some (.iinc x n, len, 2, b, c)) (hp : pc + len = q) (hL : pmIsL y1 = false) (hv : v + Int32.ofInt n = w) (k : PW mi q (y0 :: y1 :: .int w :: t) (st) sh M N Q) : PW mi pc (y0 :: y1 :: .int v :: t) (st) sh M N Q := pw_ex h rfl (by subst hv; simp [pmEx, pmPut, hL]) q hp k
theorem pw_iinc3 {x : Nat} {n : Int} {v : Int32} {y0 y1 y2 : Value} {t : List Value} (w : Int32) (q : Nat) (h : pmCode mi pc = some (.iinc x n, len, 3, b, c)) (hp : pc + len = q) (hL : pmIsL y2 = false) (hv : v + Int32.ofInt n = w) (k : PW mi q (y0 :: y1 :: y2 :: .int w :: t) (st) sh M N Q) : PW mi pc (y0 :: y1 :: y2 :: .int v :: t) (st) sh M N Q := pw_ex h rfl (by subst hv; simp [pmEx, pmPut, hL]) q hp k
theorem pw_iinc4 {x : Nat} {n : Int} {v : Int32} {y0 y1 y2 y3 : Value} {t : List Value} (w : Int32) (q : Nat) (h : pmCode mi pc = some (.iinc x n, len, 4, b, c)) (hp : pc + len = q) (hL : pmIsL y3 = false) (hv : v + Int32.ofInt n = w) (k : PW mi q (y0 :: y1 :: y2 :: y3 :: .int w :: t) (st) sh M N Q) : PW mi pc (y0 :: y1 :: y2 :: y3 :: .int v :: t) (st) sh M N Q := pw_ex h rfl (by subst hv; simp [pmEx, pmPut, hL]) q hp k
theorem pw_iinc5 {x : Nat} {n : Int} {v : Int32} {y0 y1 y2 y3 y4 : Value} {t : List Value} (w : Int32) (q : Nat) (h : pmCode mi pc = some (.iinc x n, len, 5, b, c)) (hp : pc + len = q) (hL : pmIsL y4 = false) (hv : v + Int32.ofInt n = w) (k : PW mi q (y0 :: y1 :: y2 :: y3 :: y4 :: .int w :: t) (st) sh M N Q) : PW mi pc (y0 :: y1 :: y2 :: y3 :: y4 :: .int v :: t) (st) sh M N Q := pw_ex h rfl (by subst hv; simp [pmEx, pmPut, hL]) q hp k
theorem pw_iinc6 {x : Nat} {n : Int} {v : Int32} {y0 y1 y2 y3 y4 y5 : Value} {t : List Value} (w : Int32) (q : Nat) (h : pmCode mi pc = some (.iinc x n, len, 6, b, c)) (hp : pc + len = q) (hL : pmIsL y5 = false) (hv : v + Int32.ofInt n = w) (k : PW mi q (y0 :: y1 :: y2 :: y3 :: y4 :: y5 :: .int w :: t) (st) sh M N Q) : PW mi pc (y0 :: y1 :: y2 :: y3 :: y4 :: y5 :: .int v :: t) (st) sh M N Q := pw_ex h rfl (by subst hv; simp [pmEx, pmPut, hL]) q hp k
theorem pw_iinc7 {x : Nat} {n : Int} {v : Int32} {y0 y1 y2 y3 y4 y5 y6 : Value} {t : List Value} (w : Int32) (q : Nat) (h : pmCode mi pc = some (.iinc x n, len, 7, b, c)) (hp : pc + len = q) (hL : pmIsL y6 = false) (hv : v + Int32.ofInt n = w) (k : PW mi q (y0 :: y1 :: y2 :: y3 :: y4 :: y5 :: y6 :: .int w :: t) (st) sh M N Q) : PW mi pc (y0 :: y1 :: y2 :: y3 :: y4 :: y5 :: y6 :: .int v :: t) (st) sh M N Q := pw_ex h rfl (by subst hv; simp [pmEx, pmPut, hL]) q hp k
theorem pw_iinc8 {x : Nat} {n : Int} {v : Int32} {y0 y1 y2 y3 y4 y5 y6 y7 : Value} {t : List Value} (w : Int32) (q : Nat) (h : pmCode mi pc = some (.iinc x n, len, 8, b, c)) (hp : pc + len = q) (hL : pmIsL y7 = false) (hv : v + Int32.ofInt n = w) (k : PW mi q (y0 :: y1 :: y2 :: y3 :: y4 :: y5 :: y6 :: y7 :: .int w :: t) (st) sh M N Q) : PW mi pc (y0 :: y1 :: y2 :: y3 :: y4 :: y5 :: y6 :: y7 :: .int v :: t) (st) sh M N Q := pw_ex h rfl (by subst hv; simp [pmEx, pmPut, hL]) q hp k
theorem pw_iinc9 {x : Nat} {n : Int} {v : Int32} {y0 y1 y2 y3 y4 y5 y6 y7 y8 : Value} {t : List Value} (w : Int32) (q : Nat) (h : pmCode mi pc = some (.iinc x n, len, 9, b, c)) (hp : pc + len = q) (hL : pmIsL y8 = false) (hv : v + Int32.ofInt n = w) (k : PW mi q (y0 :: y1 :: y2 :: y3 :: y4 :: y5 :: y6 :: y7 :: y8 :: .int w :: t) (st) sh M N Q) : PW mi pc (y0 :: y1 :: y2 :: y3 :: y4 :: y5 :: y6 :: y7 :: y8 :: .int v :: t) (st) sh M N Q := pw_ex h rfl (by subst hv; simp [pmEx, pmPut, hL]) q hp k
theorem pw_iinc10 {x : Nat} {n : Int} {v : Int32} {y0 y1 y2 y3 y4 y5 y6 y7 y8 y9 : Value} {t : List Value} (w : Int32) (q : Nat) (h : pmCode mi pc = some (.iinc x n, len, 10, b, c)) (hp : pc + len = q) (hL : pmIsL y9 = false) (hv : v + Int32.ofInt n = w) (k : PW mi q (y0 :: y1 :: y2 :: y3 :: y4 :: y5 :: y6 :: y7 :: y8 :: y9 :: .int w :: t) (st) sh M N Q) : PW mi pc (y0 :: y1 :: y2 :: y3 :: y4 :: y5 :: y6 :: y7 :: y8 :: y9 :: .int v :: t) (st) sh M N Q := pw_ex h rfl (by subst hv; simp [pmEx, pmPut, hL]) q hp k
theorem pw_iinc11 {x : Nat} {n : Int} {v : Int32} {y0 y1 y2 y3 y4 y5 y6 y7 y8 y9 y10 : Value} {t : List Value} (w : Int32) (q : Nat) (h : pmCode mi pc = some (.iinc x n, len, 11, b, c)) (hp : pc + len = q) (hL : pmIsL y10 = false) (hv : v + Int32.ofInt n = w) (k : PW mi q (y0 :: y1 :: y2 :: y3 :: y4 :: y5 :: y6 :: y7 :: y8 :: y9 :: y10 :: .int w :: t) (st) sh M N Q) : PW mi pc (y0 :: y1 :: y2 :: y3 :: y4 :: y5 :: y6 :: y7 :: y8 :: y9 :: y10 :: .int v :: t) (st) sh M N Q := pw_ex h rfl (by subst hv; simp [pmEx, pmPut, hL]) q hp k
theorem pw_iinc12 {x : Nat} {n : Int} {v : Int32} {y0 y1 y2 y3 y4 y5 y6 y7 y8 y9 y10 y11 : Value} {t : List Value} (w : Int32) (q : Nat) (h : pmCode mi pc = some (.iinc x n, len, 12, b, c)) (hp : pc + len = q) (hL : pmIsL y11 = false) (hv : v + Int32.ofInt n = w) (k : PW mi q (y0 :: y1 :: y2 :: y3 :: y4 :: y5 :: y6 :: y7 :: y8 :: y9 :: y10 :: y11 :: .int w :: t) (st) sh M N Q) : PW mi pc (y0 :: y1 :: y2 :: y3 :: y4 :: y5 :: y6 :: y7 :: y8 :: y9 :: y10 :: y11 :: .int v :: t) (st) sh M N Q := pw_ex h rfl (by subst hv; simp [pmEx, pmPut, hL]) q hp k
theorem pw_iinc13 {x : Nat} {n : Int} {v : Int32} {y0 y1 y2 y3 y4 y5 y6 y7 y8 y9 y10 y11 y12 : Value} {t : List Value} (w : Int32) (q : Nat) (h : pmCode mi pc = some (.iinc x n, len, 13, b, c)) (hp : pc + len = q) (hL : pmIsL y12 = false) (hv : v + Int32.ofInt n = w) (k : PW mi q (y0 :: y1 :: y2 :: y3 :: y4 :: y5 :: y6 :: y7 :: y8 :: y9 :: y10 :: y11 :: y12 :: .int w :: t) (st) sh M N Q) : PW mi pc (y0 :: y1 :: y2 :: y3 :: y4 :: y5 :: y6 :: y7 :: y8 :: y9 :: y10 :: y11 :: y12 :: .int v :: t) (st) sh M N Q := pw_ex h rfl (by subst hv; simp [pmEx, pmPut, hL]) q hp k
theorem pw_iadd {x y : Int32} {t : List Value} (q : Nat) (h : pmCode mi pc = some (.iadd, len, a, b, c)) (hp : pc + len = q)  (k : PW mi q ls (.int (x + y) :: t) sh M N Q) : PW mi pc (ls) (.int y :: .int x :: t) sh M N Q := pw_ex h rfl (rfl) q hp k
theorem pw_isub {x y : Int32} {t : List Value} (q : Nat) (h : pmCode mi pc = some (.isub, len, a, b, c)) (hp : pc + len = q)  (k : PW mi q ls (.int (x - y) :: t) sh M N Q) : PW mi pc (ls) (.int y :: .int x :: t) sh M N Q := pw_ex h rfl (rfl) q hp k
theorem pw_imul {x y : Int32} {t : List Value} (q : Nat) (h : pmCode mi pc = some (.imul, len, a, b, c)) (hp : pc + len = q)  (k : PW mi q ls (.int (x * y) :: t) sh M N Q) : PW mi pc (ls) (.int y :: .int x :: t) sh M N Q := pw_ex h rfl (rfl) q hp k
theorem pw_iand {x y : Int32} {t : List Value} (q : Nat) (h : pmCode mi pc = some (.iand, len, a, b, c)) (hp : pc + len = q)  (k : PW mi q ls (.int (x &&& y) :: t) sh M N Q) : PW mi pc (ls) (.int y :: .int x :: t) sh M N Q := pw_ex h rfl (rfl) q hp k
theorem pw_ior {x y : Int32} {t : List Value} (q : Nat) (h : pmCode mi pc = some (.ior, len, a, b, c)) (hp : pc + len = q)  (k : PW mi q ls (.int (x ||| y) :: t) sh M N Q) : PW mi pc (ls) (.int y :: .int x :: t) sh M N Q := pw_ex h rfl (rfl) q hp k
theorem pw_ixor {x y : Int32} {t : List Value} (q : Nat) (h : pmCode mi pc = some (.ixor, len, a, b, c)) (hp : pc + len = q)  (k : PW mi q ls (.int (x ^^^ y) :: t) sh M N Q) : PW mi pc (ls) (.int y :: .int x :: t) sh M N Q := pw_ex h rfl (rfl) q hp k
theorem pw_ishl {x y : Int32} {t : List Value} (q : Nat) (h : pmCode mi pc = some (.ishl, len, a, b, c)) (hp : pc + len = q)  (k : PW mi q ls (.int (x <<< (y &&& 31)) :: t) sh M N Q) : PW mi pc (ls) (.int y :: .int x :: t) sh M N Q := pw_ex h rfl (rfl) q hp k
theorem pw_ishr {x y : Int32} {t : List Value} (q : Nat) (h : pmCode mi pc = some (.ishr, len, a, b, c)) (hp : pc + len = q)  (k : PW mi q ls (.int (x >>> (y &&& 31)) :: t) sh M N Q) : PW mi pc (ls) (.int y :: .int x :: t) sh M N Q := pw_ex h rfl (rfl) q hp k
theorem pw_iushr {x y : Int32} {t : List Value} (q : Nat) (h : pmCode mi pc = some (.iushr, len, a, b, c)) (hp : pc + len = q)  (k : PW mi q ls (.int ((x.toUInt32 >>> (y.toUInt32 &&& Int32.toUInt32 31)).toInt32) :: t) sh M N Q) : PW mi pc (ls) (.int y :: .int x :: t) sh M N Q := pw_ex h rfl (rfl) q hp k
theorem pw_ladd {x y : Int64} {t : List Value} (q : Nat) (h : pmCode mi pc = some (.ladd, len, a, b, c)) (hp : pc + len = q)  (k : PW mi q ls (.long (x + y) :: t) sh M N Q) : PW mi pc (ls) (.long y :: .long x :: t) sh M N Q := pw_ex h rfl (rfl) q hp k
theorem pw_lmul {x y : Int64} {t : List Value} (q : Nat) (h : pmCode mi pc = some (.lmul, len, a, b, c)) (hp : pc + len = q)  (k : PW mi q ls (.long (x * y) :: t) sh M N Q) : PW mi pc (ls) (.long y :: .long x :: t) sh M N Q := pw_ex h rfl (rfl) q hp k
theorem pw_land {x y : Int64} {t : List Value} (q : Nat) (h : pmCode mi pc = some (.land, len, a, b, c)) (hp : pc + len = q)  (k : PW mi q ls (.long (x &&& y) :: t) sh M N Q) : PW mi pc (ls) (.long y :: .long x :: t) sh M N Q := pw_ex h rfl (rfl) q hp k
theorem pw_lor {x y : Int64} {t : List Value} (q : Nat) (h : pmCode mi pc = some (.lor, len, a, b, c)) (hp : pc + len = q)  (k : PW mi q ls (.long (x ||| y) :: t) sh M N Q) : PW mi pc (ls) (.long y :: .long x :: t) sh M N Q := pw_ex h rfl (rfl) q hp k
theorem pw_irem {x y : Int32} {t : List Value} (q : Nat) (h : pmCode mi pc = some (.irem, len, a, b, c)) (hp : pc + len = q) (h0 : ¬ y = 0) (k : PW mi q ls (.int (x - x / y * y) :: t) sh M N Q) : PW mi pc (ls) (.int y :: .int x :: t) sh M N Q := pw_ex h rfl (by simp only [pmEx, if_neg h0]) q hp k
theorem pw_ldiv {x y : Int64} {t : List Value} (q : Nat) (h : pmCode mi pc = some (.ldiv, len, a, b, c)) (hp : pc + len = q) (h0 : ¬ y = 0) (k : PW mi q ls (.long (x / y) :: t) sh M N Q) : PW mi pc (ls) (.long y :: .long x :: t) sh M N Q := pw_ex h rfl (by simp only [pmEx, if_neg h0]) q hp k
theorem pw_lrem {x y : Int64} {t : List Value} (q : Nat) (h : pmCode mi pc = some (.lrem, len, a, b, c)) (hp : pc + len = q) (h0 : ¬ y = 0) (k : PW mi q ls (.long (x - x / y * y) :: t) sh M N Q) : PW mi pc (ls) (.long y :: .long x :: t) sh M N Q := pw_ex h rfl (by simp only [pmEx, if_neg h0]) q hp k
theorem pw_lshl {x : Int64} {y : Int32} {t : List Value} (q : Nat) (h : pmCode mi pc = some (.lshl, len, a, b, c)) (hp : pc + len = q)  (k : PW mi q ls (.long (x <<< (y.toInt64 &&& 63)) :: t) sh M N Q) : PW mi pc (ls) (.int y :: .long x :: t) sh M N Q := pw_ex h rfl (rfl) q hp k
theorem pw_lcmp {x y : Int64} {t : List Value} (q : Nat) (h : pmCode mi pc = some (.lcmp, len, a, b, c)) (hp : pc + len = q)  (k : PW mi q ls (.int (lg_cmp x y) :: t) sh M N Q) : PW mi pc (ls) (.long y :: .long x :: t) sh M N Q := pw_ex h rfl (rfl) q hp k
theorem pw_i2l {x : Int32} {t : List Value} (q : Nat) (h : pmCode mi pc = some (.i2l, len, a, b, c)) (hp : pc + len = q)  (k : PW mi q ls (.long x.toInt64 :: t) sh M N Q) : PW mi pc (ls) (.int x :: t) sh M N Q := pw_ex h rfl (rfl) q hp k
theorem pw_l2i {x : Int64} {t : List Value} (q : Nat) (h : pmCode mi pc = some (.l2i, len, a, b, c)) (hp : pc + len = q)  (k : PW mi q ls (.int x.toInt32 :: t) sh M N Q) : PW mi pc (ls) (.long x :: t) sh M N Q := pw_ex h rfl (rfl) q hp k
theorem pw_i2b {x : Int32} {t : List Value} (q : Nat) (h : pmCode mi pc = some (.i2b, len, a, b, c)) (hp : pc + len = q)  (k : PW mi q ls (.int x.toInt8.toInt32 :: t) sh M N Q) : PW mi pc (ls) (.int x :: t) sh M N Q := pw_ex h rfl (rfl) q hp k
theorem pw_i2s {x : Int32} {t : List Value} (q : Nat) (h : pmCode mi pc = some (.i2s, len, a, b, c)) (hp : pc + len = q)  (k : PW mi q ls (.int x.toInt16.toInt32 :: t) sh M N Q) : PW mi pc (ls) (.int x :: t) sh M N Q := pw_ex h rfl (rfl) q hp k
theorem pw_dup {v : Value} {t : List Value} (q : Nat) (h : pmCode mi pc = some (.dup, len, a, b, c)) (hp : pc + len = q) (hc : v.category = 1) (k : PW mi q ls (v :: v :: t) sh M N Q) : PW mi pc (ls) (v :: t) sh M N Q := pw_ex h rfl (by simp only [pmEx, if_pos hc]) q hp k
theorem pw_pop {v : Value} {t : List Value} (q : Nat) (h : pmCode mi pc = some (.pop, len, a, b, c)) (hp : pc + len = q) (hc : v.category = 1) (k : PW mi q ls (t) sh M N Q) : PW mi pc (ls) (v :: t) sh M N Q := pw_ex h rfl (by simp only [pmEx, if_pos hc]) q hp k
theorem pw_dup2 {v w : Value} {t : List Value} (q : Nat) (h : pmCode mi pc = some (.dup2, len, a, b, c)) (hp : pc + len = q) (hc : v.category = 1 ∧ w.category = 1) (k : PW mi q ls (v :: w :: v :: w :: t) sh M N Q) : PW mi pc (ls) (v :: w :: t) sh M N Q := pw_ex h rfl (by simp only [pmEx, if_pos hc]) q hp k
theorem pw_getI {x ci j k : Nat} {sl : List (Option (Option Nat))} {t : List Value} (q : Nat) (h : pmCode mi pc = some (.getfield x, len, ci, j, c)) (hp : pc + len = q) (ho : pmOb sh k ci sl) (hj : sl[j]? = some none) (kk : PW mi q ls (.int (M k j) :: t) sh M N Q) : PW mi pc ls (.ref k :: t) sh M N Q := by
  obtain ⟨h0, h1⟩ := ho
  obtain ⟨k, rfl⟩ : ∃ z, k = z + 1 := ⟨k - 1, by omega⟩
  exact pw_ex h rfl (by simp only [pmEx, h1, if_true, hj]) q hp kk
theorem pw_getR {x ci j k r : Nat} {sl : List (Option (Option Nat))} {t : List Value} (q : Nat) (h : pmCode mi pc = some (.getfield x, len, ci, j, c)) (hp : pc + len = q) (ho : pmOb sh k ci sl) (hj : sl[j]? = some (some (some r))) (kk : PW mi q ls (.ref r :: t) sh M N Q) : PW mi pc ls (.ref k :: t) sh M N Q := by
  obtain ⟨h0, h1⟩ := ho
  obtain ⟨k, rfl⟩ : ∃ z, k = z + 1 := ⟨k - 1, by omega⟩
  exact pw_ex h rfl (by simp only [pmEx, h1, if_true, hj]) q hp kk
theorem pw_putI {x ci j k : Nat} {v : Int32} {sl : List (Option (Option Nat))} {t : List Value} (q : Nat) (h : pmCode mi pc = some (.putfield x, len, ci, j, c)) (hp : pc + len = q) (ho : pmOb sh k ci sl) (hj : sl[j]? = some none) (hc : ci < 100) (kk : PW mi q ls t sh (pmSt M k j v) N Q) : PW mi pc ls (.int v :: .ref k :: t) sh M N Q := by
  obtain ⟨h0, h1⟩ := ho
  obtain ⟨k, rfl⟩ : ∃ z, k = z + 1 := ⟨k - 1, by omega⟩
  exact pw_ey h rfl (by simp only [pmEx, h1]; rw [if_pos ⟨(Nat.mod_eq_of_lt hc).symm, by omega, hj, Or.inl hc⟩]) q hp kk
theorem pw_putZ {x ci j k : Nat} {v : Int32} {sl : List (Option (Option Nat))} {t : List Value} (q : Nat) (h : pmCode mi pc = some (.putfield x, len, ci + 100, j, c)) (hp : pc + len = q) (ho : pmOb sh k ci sl) (hj : sl[j]? = some none) (hc : ci < 100) (hv : v = 0 ∨ v = 1) (kk : PW mi q ls t sh (pmSt M k j v) N Q) : PW mi pc ls (.int v :: .ref k :: t) sh M N Q := by
  obtain ⟨h0, h1⟩ := ho
  obtain ⟨k, rfl⟩ : ∃ z, k = z + 1 := ⟨k - 1, by omega⟩
  exact pw_ey h rfl (by simp only [pmEx, h1]; rw [if_pos ⟨by omega, by omega, hj, Or.inr hv⟩]) q hp kk
theorem pw_putR {x ci j k r : Nat} {sl : List (Option (Option Nat))} {t : List Value} (q : Nat) (h : pmCode mi pc = some (.putfield x, len, ci + 200, j, c)) (hp : pc + len = q) (ho : pmOb sh k ci sl) (hj : (sl[j]?).map Option.isSome = some true) (hc : ci < 100) (kk : PW mi q ls t (sh.set k (.inr (ci, sl.set j (some (some r))))) M N Q) : PW mi pc ls (.ref r :: .ref k :: t) sh M N Q := by
  obtain ⟨h0, h1⟩ := ho
  obtain ⟨k, rfl⟩ : ∃ z, k = z + 1 := ⟨k - 1, by omega⟩
  exact pw_ey h rfl (by simp only [pmEx, h1]; rw [if_pos ⟨by omega, by omega, hj⟩]) q hp kk
theorem pw_new {x : Nat} (q : Nat) (h : pmCode mi pc = some (.new x, len, a, b, c)) (hp : pc + len = q) (hM : M sh.length = fun _ => 0) (kk : PW mi q ls (.ref sh.length :: st) (sh ++ [.inr (a, pmBl a)]) M N Q) : PW mi pc ls st sh M N Q := by
  have e : va_up M sh.length (fun _ => 0) = M := by
    funext y
    by_cases hy : y = sh.length
    · subst hy; rw [va_up_self, hM]
    · rw [va_up_ne _ _ hy]
  exact pw_ey h rfl (by simp only [pmEx, e]) q hp kk
theorem pw_newI {n : Int32} (k : Nat) {t : List Value} (q : Nat) (h : pmCode mi pc = some (.newarray .int, len, a, b, c)) (hp : pc + len = q) (hn : n = nI k) (hk : k ≤ 1000) (hM : M sh.length = fun _ => 0) (kk : PW mi q ls (.ref sh.length :: t) (sh ++ [.inl (0, k, [])]) M N Q) : PW mi pc ls (.int n :: t) sh M N Q := by
  have e : va_up M sh.length (fun _ => 0) = M := by
    funext y
    by_cases hy : y = sh.length
    · subst hy; rw [va_up_self, hM]
    · rw [va_up_ne _ _ hy]
  subst hn
  have h1 : (nI k).toNatClampNeg = k := nI_clamp (by omega)
  exact pw_ey h rfl (by simp only [pmEx, h1]; rw [if_neg (fun z => z.elim (nI_pos (by omega)) (by omega)), e]) q hp kk
theorem pw_newZ {n : Int32} (k : Nat) {t : List Value} (q : Nat) (h : pmCode mi pc = some (.newarray .boolean, len, a, b, c)) (hp : pc + len = q) (hn : n = nI k) (hk : k ≤ 1000) (hM : M sh.length = fun _ => 0) (kk : PW mi q ls (.ref sh.length :: t) (sh ++ [.inl (2, k, [])]) M N Q) : PW mi pc ls (.int n :: t) sh M N Q := by
  have e : va_up M sh.length (fun _ => 0) = M := by
    funext y
    by_cases hy : y = sh.length
    · subst hy; rw [va_up_self, hM]
    · rw [va_up_ne _ _ hy]
  subst hn
  have h1 : (nI k).toNatClampNeg = k := nI_clamp (by omega)
  exact pw_ey h rfl (by simp only [pmEx, h1]; rw [if_neg (fun z => z.elim (nI_pos (by omega)) (by omega)), e]) q hp kk
theorem pw_newL {n : Int32} (k : Nat) {t : List Value} (q : Nat) (h : pmCode mi pc = some (.newarray .long, len, a, b, c)) (hp : pc + len = q) (hn : n = nI k) (hk : k ≤ 1000) (hM : N sh.length = fun _ => 0) (kk : PW mi q ls (.ref sh.length :: t) (sh ++ [.inl (1, k, [])]) M N Q) : PW mi pc ls (.int n :: t) sh M N Q := by
  have e : va_up N sh.length (fun _ => 0) = N := by
    funext y
    by_cases hy : y = sh.length
    · subst hy; rw [va_up_self, hM]
    · rw [va_up_ne _ _ hy]
  subst hn
  have h1 : (nI k).toNatClampNeg = k := nI_clamp (by omega)
  exact pw_ey h rfl (by simp only [pmEx, h1]; rw [if_neg (fun z => z.elim (nI_pos (by omega)) (by omega)), e]) q hp kk
theorem pw_newQ {x : Nat} {n : Int32} (k : Nat) {t : List Value} (q : Nat) (h : pmCode mi pc = some (.anewarray x, len, a, b, c)) (hp : pc + len = q) (hn : n = nI k) (hk : k ≤ 1000) (kk : PW mi q ls (.ref sh.length :: t) (sh ++ [.inl (a, k, List.replicate k none)]) M N Q) : PW mi pc ls (.int n :: t) sh M N Q := by
  subst hn
  have h1 : (nI k).toNatClampNeg = k := nI_clamp (by omega)
  exact pw_ey h rfl (by simp only [pmEx, h1]; rw [if_neg (fun z => z.elim (nI_pos (by omega)) (by omega))]) q hp kk
theorem pw_alen {k n tg : Nat} {rs : List (Option Nat)} {t : List Value} (q : Nat) (h : pmCode mi pc = some (.arraylength, len, a, 0, c)) (hp : pc + len = q) (ha : pmAy sh k tg n rs) (ht : tg ≤ 5) (kk : PW mi q ls (.int (nI n) :: t) sh M N Q) : PW mi pc ls (.ref k :: t) sh M N Q := by
  obtain ⟨h0, h1, -⟩ := ha
  have hk : (k == 0) = false := by simp; omega
  exact pw_ey h rfl (by simp only [pmEx, h1, hk]; rw [if_pos ⟨rfl, ht⟩]) q hp kk
theorem pw_slen {n : Nat} {rs : List (Option Nat)} {t : List Value} (q : Nat) (h : pmCode mi pc = some (.arraylength, len, a, 1, c)) (hp : pc + len = q) (hs : sh[0]? = some (.inl (0, n, rs))) (kk : PW mi q ls (.int (nI n) :: t) sh M N Q) : PW mi pc ls (.ref 0 :: t) sh M N Q :=
  pw_ey h rfl (by simp only [pmEx, hs]; rw [if_pos ⟨rfl, by decide⟩]) q hp kk
theorem pw_sld {n : Nat} {rs : List (Option Nat)} {x : Int32} (j : Nat) {t : List Value} (q : Nat) (h : pmCode mi pc = some (.iaload, len, a, 1, c)) (hp : pc + len = q) (hs : sh[0]? = some (.inl (0, n, rs))) (hx : x = nI j) (hj : j < n) (hn : n < 2 ^ 31) (kk : PW mi q ls (.int (M 0 j) :: t) sh M N Q) : PW mi pc ls (.int x :: .ref 0 :: t) sh M N Q := by
  subst hx
  have h1 : (nI j).toNatClampNeg = j := nI_clamp (by omega)
  exact pw_ey h rfl (by simp only [pmEx, hs, h1]; rw [if_pos ⟨rfl, fun z => z.elim (nI_pos (by omega)) (by omega)⟩]) q hp kk
theorem pw_iald {k n : Nat} {rs : List (Option Nat)} {x : Int32} (j : Nat) {t : List Value} (q : Nat) (h : pmCode mi pc = some (.iaload, len, a, 0, c)) (hp : pc + len = q) (ha : pmAy sh k 0 n rs) (hx : x = nI j) (hj : j < n) (kk : PW mi q ls (.int (M k j) :: t) sh M N Q) : PW mi pc ls (.int x :: .ref k :: t) sh M N Q := by
  obtain ⟨h0, h1, h2⟩ := ha
  have hk : (k == 0) = false := by simp; omega
  obtain ⟨e1, e2⟩ := vp_nj hx hj h2
  exact pw_ey h rfl (by simp only [pmEx, h1, hk]; rw [if_pos ⟨rfl, e1⟩, e2]) q hp kk
theorem pw_zald {k n : Nat} {rs : List (Option Nat)} {x : Int32} (j : Nat) {t : List Value} (q : Nat) (h : pmCode mi pc = some (.baload, len, a, b, c)) (hp : pc + len = q) (ha : pmAy sh k 2 n rs) (hx : x = nI j) (hj : j < n) (kk : PW mi q ls (.int (M k j) :: t) sh M N Q) : PW mi pc ls (.int x :: .ref k :: t) sh M N Q := by
  obtain ⟨h0, h1, h2⟩ := ha
  obtain ⟨k, rfl⟩ : ∃ z, k = z + 1 := ⟨k - 1, by omega⟩
  obtain ⟨e1, e2⟩ := vp_nj hx hj h2
  exact pw_ey h rfl (by simp only [pmEx, h1]; rw [if_pos e1, e2]) q hp kk
theorem pw_lald {k n : Nat} {rs : List (Option Nat)} {x : Int32} (j : Nat) {t : List Value} (q : Nat) (h : pmCode mi pc = some (.laload, len, a, b, c)) (hp : pc + len = q) (ha : pmAy sh k 1 n rs) (hx : x = nI j) (hj : j < n) (kk : PW mi q ls (.long (N k j) :: t) sh M N Q) : PW mi pc ls (.int x :: .ref k :: t) sh M N Q := by
  obtain ⟨h0, h1, h2⟩ := ha
  obtain ⟨k, rfl⟩ : ∃ z, k = z + 1 := ⟨k - 1, by omega⟩
  obtain ⟨e1, e2⟩ := vp_nj hx hj h2
  exact pw_ey h rfl (by simp only [pmEx, h1]; rw [if_pos e1, e2]) q hp kk
theorem pw_aald {k n tg r : Nat} {rs : List (Option Nat)} {x : Int32} (j : Nat) {t : List Value} (q : Nat) (h : pmCode mi pc = some (.aaload, len, a, b, c)) (hp : pc + len = q) (ha : pmAy sh k tg n rs) (ht : 3 ≤ tg ∧ tg ≤ 5) (hx : x = nI j) (hj : j < n) (hr : rs[j]? = some (some r)) (kk : PW mi q ls (.ref r :: t) sh M N Q) : PW mi pc ls (.int x :: .ref k :: t) sh M N Q := by
  obtain ⟨h0, h1, h2⟩ := ha
  obtain ⟨k, rfl⟩ : ∃ z, k = z + 1 := ⟨k - 1, by omega⟩
  obtain ⟨e1, e2⟩ := vp_nj hx hj h2
  exact pw_ey h rfl (by simp only [pmEx, h1]; rw [if_pos ⟨ht.1, ht.2, e1⟩, e2, hr]) q hp kk
theorem pw_iast {k n : Nat} {rs : List (Option Nat)} {x v : Int32} (j : Nat) {t : List Value} (q : Nat) (h : pmCode mi pc = some (.iastore, len, a, b, c)) (hp : pc + len = q) (ha : pmAy sh k 0 n rs) (hx : x = nI j) (hj : j < n) (kk : PW mi q ls t sh (pmSt M k j v) N Q) : PW mi pc ls (.int v :: .int x :: .ref k :: t) sh M N Q := by
  obtain ⟨h0, h1, h2⟩ := ha
  obtain ⟨k, rfl⟩ : ∃ z, k = z + 1 := ⟨k - 1, by omega⟩
  obtain ⟨e1, e2⟩ := vp_nj hx hj h2
  exact pw_ey h rfl (by simp only [pmEx, h1]; rw [if_pos e1, e2]) q hp kk
theorem pw_zast {k n : Nat} {rs : List (Option Nat)} {x v : Int32} (j : Nat) {t : List Value} (q : Nat) (h : pmCode mi pc = some (.bastore, len, a, b, c)) (hp : pc + len = q) (ha : pmAy sh k 2 n rs) (hx : x = nI j) (hj : j < n) (hv : v = 0 ∨ v = 1) (kk : PW mi q ls t sh (pmSt M k j v) N Q) : PW mi pc ls (.int v :: .int x :: .ref k :: t) sh M N Q := by
  obtain ⟨h0, h1, h2⟩ := ha
  obtain ⟨k, rfl⟩ : ∃ z, k = z + 1 := ⟨k - 1, by omega⟩
  obtain ⟨e1, e2⟩ := vp_nj hx hj h2
  exact pw_ey h rfl (by simp only [pmEx, h1]; rw [if_pos ⟨e1, hv⟩, e2]) q hp kk
theorem pw_last {k n : Nat} {rs : List (Option Nat)} {x : Int32} {v : Int64} (j : Nat) {t : List Value} (q : Nat) (h : pmCode mi pc = some (.lastore, len, a, b, c)) (hp : pc + len = q) (ha : pmAy sh k 1 n rs) (hx : x = nI j) (hj : j < n) (kk : PW mi q ls t sh M (pmStL N k j v) Q) : PW mi pc ls (.long v :: .int x :: .ref k :: t) sh M N Q := by
  obtain ⟨h0, h1, h2⟩ := ha
  obtain ⟨k, rfl⟩ : ∃ z, k = z + 1 := ⟨k - 1, by omega⟩
  obtain ⟨e1, e2⟩ := vp_nj hx hj h2
  exact pw_ey h rfl (by simp only [pmEx, h1]; rw [if_pos e1, e2]) q hp kk
theorem pw_aast {k n tg r ci : Nat} {rs : List (Option Nat)} {sl : List (Option (Option Nat))} {x : Int32} (j : Nat) {t : List Value} (q : Nat) (h : pmCode mi pc = some (.aastore, len, a, b, c)) (hp : pc + len = q) (ha : pmAy sh k tg n rs) (hr : pmOb sh r ci sl) (ht : pmEl tg = some ci) (hx : x = nI j) (hj : j < n) (hl : rs.length = n) (kk : PW mi q ls t (sh.set k (.inl (tg, n, rs.set j (some r)))) M N Q) : PW mi pc ls (.ref r :: .int x :: .ref k :: t) sh M N Q := by
  obtain ⟨h0, h1, h2⟩ := ha
  obtain ⟨g0, g1⟩ := hr
  obtain ⟨k, rfl⟩ : ∃ z, k = z + 1 := ⟨k - 1, by omega⟩
  obtain ⟨r, rfl⟩ : ∃ z, r = z + 1 := ⟨r - 1, by omega⟩
  obtain ⟨e1, e2⟩ := vp_nj hx hj h2
  exact pw_ey h rfl (by simp only [pmEx, h1, g1]; rw [if_pos ⟨ht, e1, hl⟩, e2]) q hp kk
theorem pw_objInit {x k : Nat} {t : List Value} (q : Nat) (h : pmCode mi pc = some (.invokespecial x, len, a, 1, c)) (hp : pc + len = q) (hc : pmCat t ≤ 8) (kk : PW mi q ls t sh M N Q) : PW mi pc ls (.ref k :: t) sh M N Q := by
  subst hp
  refine pw_go ?_ kk
  unfold pmNx
  rw [h]
  simp only [if_true, pmEx]
  rw [if_pos ⟨trivial, hc⟩]
theorem pw_copyI {x k k2 n0 n1 : Nat} {rs0 rs1 : List (Option Nat)} {sp dp n : Int32} (i j m : Nat) {t : List Value} (q : Nat) (h : pmCode mi pc = some (.invokestatic x, len, a, 1, c)) (hp : pc + len = q) (ha : pmAy sh k 0 n0 rs0) (hb : pmAy sh k2 0 n1 rs1) (h1 : sp = nI i) (h2 : dp = nI j) (h3 : n = nI m) (h4 : i + m ≤ n0) (h5 : j + m ≤ n1) (hc : pmCat t ≤ 8) (kk : PW mi q ls t sh (va_up M k2 (va_cpy (M k) (M k2) i j m)) N Q) : PW mi pc ls (.int n :: .int dp :: .ref k2 :: .int sp :: .ref k :: t) sh M N Q := by
  obtain ⟨a0, a1, a2⟩ := ha
  obtain ⟨b0, b1, b2⟩ := hb
  obtain ⟨k, rfl⟩ : ∃ z, k = z + 1 := ⟨k - 1, by omega⟩
  obtain ⟨k2, rfl⟩ : ∃ z, k2 = z + 1 := ⟨k2 - 1, by omega⟩
  subst h1; subst h2; subst h3; subst hp
  have e1 : (nI i).toNatClampNeg = i := nI_clamp (by omega)
  have e2 : (nI j).toNatClampNeg = j := nI_clamp (by omega)
  have e3 : (nI m).toNatClampNeg = m := nI_clamp (by omega)
  refine pw_go ?_ kk
  unfold pmNx
  rw [h]
  simp only [if_true, pmEx]
  rw [if_pos ⟨trivial, hc, nI_pos (by omega), nI_pos (by omega), nI_pos (by omega)⟩, a1, b1, e1, e2, e3]
  simp only
  rw [if_pos ⟨h4, h5⟩]
theorem pw_copyL {x k k2 n0 n1 : Nat} {rs0 rs1 : List (Option Nat)} {sp dp n : Int32} (i j m : Nat) {t : List Value} (q : Nat) (h : pmCode mi pc = some (.invokestatic x, len, a, 1, c)) (hp : pc + len = q) (ha : pmAy sh k 1 n0 rs0) (hb : pmAy sh k2 1 n1 rs1) (h1 : sp = nI i) (h2 : dp = nI j) (h3 : n = nI m) (h4 : i + m ≤ n0) (h5 : j + m ≤ n1) (hc : pmCat t ≤ 8) (kk : PW mi q ls t sh M (va_up N k2 (va_cpy (N k) (N k2) i j m)) Q) : PW mi pc ls (.int n :: .int dp :: .ref k2 :: .int sp :: .ref k :: t) sh M N Q := by
  obtain ⟨a0, a1, a2⟩ := ha
  obtain ⟨b0, b1, b2⟩ := hb
  obtain ⟨k, rfl⟩ : ∃ z, k = z + 1 := ⟨k - 1, by omega⟩
  obtain ⟨k2, rfl⟩ : ∃ z, k2 = z + 1 := ⟨k2 - 1, by omega⟩
  subst h1; subst h2; subst h3; subst hp
  have e1 : (nI i).toNatClampNeg = i := nI_clamp (by omega)
  have e2 : (nI j).toNatClampNeg = j := nI_clamp (by omega)
  have e3 : (nI m).toNatClampNeg = m := nI_clamp (by omega)
  refine pw_go ?_ kk
  unfold pmNx
  rw [h]
  simp only [if_true, pmEx]
  rw [if_pos ⟨trivial, hc, nI_pos (by omega), nI_pos (by omega), nI_pos (by omega)⟩, a1, b1, e1, e2, e3]
  simp only
  rw [if_pos ⟨h4, h5⟩]
theorem pw_goto {x : Int} (h : pmCode mi pc = some (.goto x, len, a, b, c)) (q : Nat) (hp : a = q) (k : PW mi q ls st sh M N Q) : PW mi pc ls st sh M N Q := by
  subst hp
  exact pw_go (by unfold pmNx; rw [h]) k
theorem pw_if_eq {y : Int} {x : Int32} {t : List Value} (q q2 : Nat) (h : pmCode mi pc = some (.ifCond .eq y, len, a, b, c)) (hp : a = q) (hp2 : pc + 3 = q2) (kt : x = 0 → PW mi q ls t sh M N Q) (kf : ¬ (x = 0) → PW mi q2 ls t sh M N Q) : PW mi pc ls (.int x :: t) sh M N Q := by
  subst hp; subst hp2
  by_cases hc : x = 0
  · exact pw_go (by unfold pmNx; rw [h]; show some (Sum.inr (Sum.inl ((if pmC0 .eq x = true then a else pc + 3), _, _, _, _, _))) = _; rw [if_pos (show pmC0 .eq x = true from decide_eq_true hc)]) (kt hc)
  · exact pw_go (by unfold pmNx; rw [h]; show some (Sum.inr (Sum.inl ((if pmC0 .eq x = true then a else pc + 3), _, _, _, _, _))) = _; rw [if_neg (show ¬ pmC0 .eq x = true from fun z => hc (of_decide_eq_true z))]) (kf hc)
theorem pw_if_ne {y : Int} {x : Int32} {t : List Value} (q q2 : Nat) (h : pmCode mi pc = some (.ifCond .ne y, len, a, b, c)) (hp : a = q) (hp2 : pc + 3 = q2) (kt : ¬ x = 0 → PW mi q ls t sh M N Q) (kf : ¬ (¬ x = 0) → PW mi q2 ls t sh M N Q) : PW mi pc ls (.int x :: t) sh M N Q := by
  subst hp; subst hp2
  by_cases hc : ¬ x = 0
  · exact pw_go (by unfold pmNx; rw [h]; show some (Sum.inr (Sum.inl ((if pmC0 .ne x = true then a else pc + 3), _, _, _, _, _))) = _; rw [if_pos (show pmC0 .ne x = true from decide_eq_true hc)]) (kt hc)
  · exact pw_go (by unfold pmNx; rw [h]; show some (Sum.inr (Sum.inl ((if pmC0 .ne x = true then a else pc + 3), _, _, _, _, _))) = _; rw [if_neg (show ¬ pmC0 .ne x = true from fun z => hc (of_decide_eq_true z))]) (kf hc)
theorem pw_if_lt {y : Int} {x : Int32} {t : List Value} (q q2 : Nat) (h : pmCode mi pc = some (.ifCond .lt y, len, a, b, c)) (hp : a = q) (hp2 : pc + 3 = q2) (kt : x < 0 → PW mi q ls t sh M N Q) (kf : ¬ (x < 0) → PW mi q2 ls t sh M N Q) : PW mi pc ls (.int x :: t) sh M N Q := by
  subst hp; subst hp2
  by_cases hc : x < 0
  · exact pw_go (by unfold pmNx; rw [h]; show some (Sum.inr (Sum.inl ((if pmC0 .lt x = true then a else pc + 3), _, _, _, _, _))) = _; rw [if_pos (show pmC0 .lt x = true from decide_eq_true hc)]) (kt hc)
  · exact pw_go (by unfold pmNx; rw [h]; show some (Sum.inr (Sum.inl ((if pmC0 .lt x = true then a else pc + 3), _, _, _, _, _))) = _; rw [if_neg (show ¬ pmC0 .lt x = true from fun z => hc (of_decide_eq_true z))]) (kf hc)
theorem pw_if_ge {y : Int} {x : Int32} {t : List Value} (q q2 : Nat) (h : pmCode mi pc = some (.ifCond .ge y, len, a, b, c)) (hp : a = q) (hp2 : pc + 3 = q2) (kt : 0 ≤ x → PW mi q ls t sh M N Q) (kf : ¬ (0 ≤ x) → PW mi q2 ls t sh M N Q) : PW mi pc ls (.int x :: t) sh M N Q := by
  subst hp; subst hp2
  by_cases hc : 0 ≤ x
  · exact pw_go (by unfold pmNx; rw [h]; show some (Sum.inr (Sum.inl ((if pmC0 .ge x = true then a else pc + 3), _, _, _, _, _))) = _; rw [if_pos (show pmC0 .ge x = true from decide_eq_true hc)]) (kt hc)
  · exact pw_go (by unfold pmNx; rw [h]; show some (Sum.inr (Sum.inl ((if pmC0 .ge x = true then a else pc + 3), _, _, _, _, _))) = _; rw [if_neg (show ¬ pmC0 .ge x = true from fun z => hc (of_decide_eq_true z))]) (kf hc)
theorem pw_if_gt {y : Int} {x : Int32} {t : List Value} (q q2 : Nat) (h : pmCode mi pc = some (.ifCond .gt y, len, a, b, c)) (hp : a = q) (hp2 : pc + 3 = q2) (kt : 0 < x → PW mi q ls t sh M N Q) (kf : ¬ (0 < x) → PW mi q2 ls t sh M N Q) : PW mi pc ls (.int x :: t) sh M N Q := by
  subst hp; subst hp2
  by_cases hc : 0 < x
  · exact pw_go (by unfold pmNx; rw [h]; show some (Sum.inr (Sum.inl ((if pmC0 .gt x = true then a else pc + 3), _, _, _, _, _))) = _; rw [if_pos (show pmC0 .gt x = true from decide_eq_true hc)]) (kt hc)
  · exact pw_go (by unfold pmNx; rw [h]; show some (Sum.inr (Sum.inl ((if pmC0 .gt x = true then a else pc + 3), _, _, _, _, _))) = _; rw [if_neg (show ¬ pmC0 .gt x = true from fun z => hc (of_decide_eq_true z))]) (kf hc)
theorem pw_if_le {y : Int} {x : Int32} {t : List Value} (q q2 : Nat) (h : pmCode mi pc = some (.ifCond .le y, len, a, b, c)) (hp : a = q) (hp2 : pc + 3 = q2) (kt : x ≤ 0 → PW mi q ls t sh M N Q) (kf : ¬ (x ≤ 0) → PW mi q2 ls t sh M N Q) : PW mi pc ls (.int x :: t) sh M N Q := by
  subst hp; subst hp2
  by_cases hc : x ≤ 0
  · exact pw_go (by unfold pmNx; rw [h]; show some (Sum.inr (Sum.inl ((if pmC0 .le x = true then a else pc + 3), _, _, _, _, _))) = _; rw [if_pos (show pmC0 .le x = true from decide_eq_true hc)]) (kt hc)
  · exact pw_go (by unfold pmNx; rw [h]; show some (Sum.inr (Sum.inl ((if pmC0 .le x = true then a else pc + 3), _, _, _, _, _))) = _; rw [if_neg (show ¬ pmC0 .le x = true from fun z => hc (of_decide_eq_true z))]) (kf hc)
theorem pw_icmp_eq {z : Int} {x y : Int32} {t : List Value} (q q2 : Nat) (h : pmCode mi pc = some (.if_icmp .eq z, len, a, b, c)) (hp : a = q) (hp2 : pc + 3 = q2) (kt : x = y → PW mi q ls t sh M N Q) (kf : ¬ (x = y) → PW mi q2 ls t sh M N Q) : PW mi pc ls (.int y :: .int x :: t) sh M N Q := by
  subst hp; subst hp2
  by_cases hc : x = y
  · exact pw_go (by unfold pmNx; rw [h]; show some (Sum.inr (Sum.inl ((if pmC2 .eq x y = true then a else pc + 3), _, _, _, _, _))) = _; rw [if_pos (show pmC2 .eq x y = true from decide_eq_true hc)]) (kt hc)
  · exact pw_go (by unfold pmNx; rw [h]; show some (Sum.inr (Sum.inl ((if pmC2 .eq x y = true then a else pc + 3), _, _, _, _, _))) = _; rw [if_neg (show ¬ pmC2 .eq x y = true from fun z => hc (of_decide_eq_true z))]) (kf hc)
theorem pw_icmp_ne {z : Int} {x y : Int32} {t : List Value} (q q2 : Nat) (h : pmCode mi pc = some (.if_icmp .ne z, len, a, b, c)) (hp : a = q) (hp2 : pc + 3 = q2) (kt : ¬ x = y → PW mi q ls t sh M N Q) (kf : ¬ (¬ x = y) → PW mi q2 ls t sh M N Q) : PW mi pc ls (.int y :: .int x :: t) sh M N Q := by
  subst hp; subst hp2
  by_cases hc : ¬ x = y
  · exact pw_go (by unfold pmNx; rw [h]; show some (Sum.inr (Sum.inl ((if pmC2 .ne x y = true then a else pc + 3), _, _, _, _, _))) = _; rw [if_pos (show pmC2 .ne x y = true from decide_eq_true hc)]) (kt hc)
  · exact pw_go (by unfold pmNx; rw [h]; show some (Sum.inr (Sum.inl ((if pmC2 .ne x y = true then a else pc + 3), _, _, _, _, _))) = _; rw [if_neg (show ¬ pmC2 .ne x y = true from fun z => hc (of_decide_eq_true z))]) (kf hc)
theorem pw_icmp_lt {z : Int} {x y : Int32} {t : List Value} (q q2 : Nat) (h : pmCode mi pc = some (.if_icmp .lt z, len, a, b, c)) (hp : a = q) (hp2 : pc + 3 = q2) (kt : x < y → PW mi q ls t sh M N Q) (kf : ¬ (x < y) → PW mi q2 ls t sh M N Q) : PW mi pc ls (.int y :: .int x :: t) sh M N Q := by
  subst hp; subst hp2
  by_cases hc : x < y
  · exact pw_go (by unfold pmNx; rw [h]; show some (Sum.inr (Sum.inl ((if pmC2 .lt x y = true then a else pc + 3), _, _, _, _, _))) = _; rw [if_pos (show pmC2 .lt x y = true from decide_eq_true hc)]) (kt hc)
  · exact pw_go (by unfold pmNx; rw [h]; show some (Sum.inr (Sum.inl ((if pmC2 .lt x y = true then a else pc + 3), _, _, _, _, _))) = _; rw [if_neg (show ¬ pmC2 .lt x y = true from fun z => hc (of_decide_eq_true z))]) (kf hc)
theorem pw_icmp_ge {z : Int} {x y : Int32} {t : List Value} (q q2 : Nat) (h : pmCode mi pc = some (.if_icmp .ge z, len, a, b, c)) (hp : a = q) (hp2 : pc + 3 = q2) (kt : y ≤ x → PW mi q ls t sh M N Q) (kf : ¬ (y ≤ x) → PW mi q2 ls t sh M N Q) : PW mi pc ls (.int y :: .int x :: t) sh M N Q := by
  subst hp; subst hp2
  by_cases hc : y ≤ x
  · exact pw_go (by unfold pmNx; rw [h]; show some (Sum.inr (Sum.inl ((if pmC2 .ge x y = true then a else pc + 3), _, _, _, _, _))) = _; rw [if_pos (show pmC2 .ge x y = true from decide_eq_true hc)]) (kt hc)
  · exact pw_go (by unfold pmNx; rw [h]; show some (Sum.inr (Sum.inl ((if pmC2 .ge x y = true then a else pc + 3), _, _, _, _, _))) = _; rw [if_neg (show ¬ pmC2 .ge x y = true from fun z => hc (of_decide_eq_true z))]) (kf hc)
theorem pw_icmp_gt {z : Int} {x y : Int32} {t : List Value} (q q2 : Nat) (h : pmCode mi pc = some (.if_icmp .gt z, len, a, b, c)) (hp : a = q) (hp2 : pc + 3 = q2) (kt : y < x → PW mi q ls t sh M N Q) (kf : ¬ (y < x) → PW mi q2 ls t sh M N Q) : PW mi pc ls (.int y :: .int x :: t) sh M N Q := by
  subst hp; subst hp2
  by_cases hc : y < x
  · exact pw_go (by unfold pmNx; rw [h]; show some (Sum.inr (Sum.inl ((if pmC2 .gt x y = true then a else pc + 3), _, _, _, _, _))) = _; rw [if_pos (show pmC2 .gt x y = true from decide_eq_true hc)]) (kt hc)
  · exact pw_go (by unfold pmNx; rw [h]; show some (Sum.inr (Sum.inl ((if pmC2 .gt x y = true then a else pc + 3), _, _, _, _, _))) = _; rw [if_neg (show ¬ pmC2 .gt x y = true from fun z => hc (of_decide_eq_true z))]) (kf hc)
theorem pw_icmp_le {z : Int} {x y : Int32} {t : List Value} (q q2 : Nat) (h : pmCode mi pc = some (.if_icmp .le z, len, a, b, c)) (hp : a = q) (hp2 : pc + 3 = q2) (kt : x ≤ y → PW mi q ls t sh M N Q) (kf : ¬ (x ≤ y) → PW mi q2 ls t sh M N Q) : PW mi pc ls (.int y :: .int x :: t) sh M N Q := by
  subst hp; subst hp2
  by_cases hc : x ≤ y
  · exact pw_go (by unfold pmNx; rw [h]; show some (Sum.inr (Sum.inl ((if pmC2 .le x y = true then a else pc + 3), _, _, _, _, _))) = _; rw [if_pos (show pmC2 .le x y = true from decide_eq_true hc)]) (kt hc)
  · exact pw_go (by unfold pmNx; rw [h]; show some (Sum.inr (Sum.inl ((if pmC2 .le x y = true then a else pc + 3), _, _, _, _, _))) = _; rw [if_neg (show ¬ pmC2 .le x y = true from fun z => hc (of_decide_eq_true z))]) (kf hc)
theorem pw_tsw {d lo hi : Int} {offs : Array Int} {x : Int32} {t : List Value} (q : Nat) (h : pmCode mi pc = some (.tableswitch d lo hi offs, len, a, b, c)) (hq : pmTs pc d lo hi offs x = some q) (k : PW mi q ls t sh M N Q) : PW mi pc ls (.int x :: t) sh M N Q := by
  refine pw_go ?_ k
  unfold pmNx
  rw [h]
  simp only [hq]
theorem pw_lsw {d : Int} {ps : Array (Int × Int)} {x : Int32} {t : List Value} (q : Nat) (h : pmCode mi pc = some (.lookupswitch d ps, len, a, b, c)) (hq : pmLk pc d ps x = some q) (k : PW mi q ls t sh M N Q) : PW mi pc ls (.int x :: t) sh M N Q := by
  refine pw_go ?_ k
  unfold pmNx
  rw [h]
  simp only [hq]
theorem pw_iret {v : Int32} (h : pmCode mi pc = some (.ireturn, len, a, b, c)) (hr : pmRt mi = some .int) (k : Q (some (.int v)) sh M N) : PW mi pc ls [.int v] sh M N Q :=
  pw_rt (by unfold pmNx; rw [h]; simp only; rw [if_pos (Or.inl hr)]) k
theorem pw_zret {v : Int32} (h : pmCode mi pc = some (.ireturn, len, a, b, c)) (hr : pmRt mi = some .boolean) (hv : v = 0 ∨ v = 1) (k : Q (some (.int v)) sh M N) : PW mi pc ls [.int v] sh M N Q :=
  pw_rt (by unfold pmNx; rw [h]; simp only; rw [if_pos (Or.inr ⟨hr, hv⟩)]) k
theorem pw_lret {v : Int64} (h : pmCode mi pc = some (.lreturn, len, a, b, c)) (k : Q (some (.long v)) sh M N) : PW mi pc ls [.long v] sh M N Q :=
  pw_rt (by unfold pmNx; rw [h]) k
theorem pw_aret {v : Nat} (h : pmCode mi pc = some (.areturn, len, a, b, c)) (k : Q (some (.ref v)) sh M N) : PW mi pc ls [.ref v] sh M N Q :=
  pw_rt (by unfold pmNx; rw [h]) k
theorem pw_vret (h : pmCode mi pc = some (.return_, len, a, b, c)) (k : Q none sh M N) : PW mi pc ls [] sh M N Q :=
  pw_rt (by unfold pmNx; rw [h]) k
theorem pw_callV {x k sz : Nat} {sl : List (Option (Option Nat))} {as rest : List Value} (q : Nat) (h : pmCode mi pc = some (.invokevirtual x, len, a, b, c)) (hp : pc + 3 = q) (hs : st = as.reverse ++ (.ref k :: rest)) (ho : pmOb sh k (pmCi a) sl) (hn : as.length + 1 = pmNa a) (hc : pmCat rest ≤ 8) (hk : pmKd a = 0) (hv : as.all pmOkV = true) (hf : ((Value.ref k :: as).flatMap fun v => if pmIsL v then [v, .null] else [v]).length = sz) (hz : sz ≤ pmL a) (kk : PW a 0 (pmEn (.ref k :: as) (pmL a)) [] sh M N (fun r sh' M' N' => PW mi q ls (r.toList ++ rest) sh' M' N' Q)) : PW mi pc ls st sh M N Q := by
  subst hp
  obtain ⟨h0, h1⟩ := ho
  obtain ⟨k, rfl⟩ : ∃ z, k = z + 1 := ⟨k - 1, by omega⟩
  refine pw_cl (as := .ref (k + 1) :: as) (rest := rest) ?_ kk
  have e1 : st = (Value.ref (k + 1) :: as).reverse ++ rest := by rw [hs]; simp
  have e3 : (Value.ref (k + 1) :: as).reverse.length = pmNa a := by rw [List.length_reverse, List.length_cons]; exact hn
  have e2 : pmArgs 0 a st sh = some (.ref (k + 1) :: as, rest) := by
    unfold pmArgs
    simp only
    rw [e1, ← e3, List.take_left, List.drop_left, List.reverse_reverse]
    rw [if_pos ⟨by rw [List.length_append]; omega, hc, hk, by simp only [pmRecv, h1]; simp, by simpa [pmOkV] using hv, by rw [hf]; exact hz⟩]
  unfold pmNx
  rw [h]
  simp only [e2]
theorem pw_callS {x sz : Nat} {as rest : List Value} (q : Nat) (h : pmCode mi pc = some (.invokestatic x, len, a, 0, c)) (hp : pc + 3 = q) (hs : st = as.reverse ++ rest) (hn : as.length = pmNa a) (hc : pmCat rest ≤ 8) (hk : pmKd a = 1) (hv : as.all pmOkV = true) (hf : (as.flatMap fun v => if pmIsL v then [v, .null] else [v]).length = sz) (hz : sz ≤ pmL a) (kk : PW a 0 (pmEn as (pmL a)) [] sh M N (fun r sh' M' N' => PW mi q ls (r.toList ++ rest) sh' M' N' Q)) : PW mi pc ls st sh M N Q := by
  subst hp
  refine pw_cl (as := as) (rest := rest) ?_ kk
  have e3 : as.reverse.length = pmNa a := by rw [List.length_reverse]; exact hn
  have e2 : pmArgs 1 a st sh = some (as, rest) := by
    unfold pmArgs
    simp only
    rw [hs, ← e3, List.take_left, List.drop_left, List.reverse_reverse]
    rw [if_pos ⟨by rw [List.length_append]; omega, hc, hk, rfl, hv, by rw [hf]; exact hz⟩]
  unfold pmNx
  rw [h]
  simp only [e2]
  rfl
theorem pw_callI {x k sz : Nat} {as rest : List Value} (q : Nat) (h : pmCode mi pc = some (.invokespecial x, len, a, 0, c)) (hp : pc + 3 = q) (hs : st = as.reverse ++ (.ref k :: rest)) (hn : as.length + 1 = pmNa a) (hc : pmCat rest ≤ 8) (hk : pmKd a = 2) (hv : as.all pmOkV = true) (hf : ((Value.ref k :: as).flatMap fun v => if pmIsL v then [v, .null] else [v]).length = sz) (hz : sz ≤ pmL a) (kk : PW a 0 (pmEn (.ref k :: as) (pmL a)) [] sh M N (fun r sh' M' N' => PW mi q ls (r.toList ++ rest) sh' M' N' Q)) : PW mi pc ls st sh M N Q := by
  subst hp
  refine pw_cl (as := .ref k :: as) (rest := rest) ?_ kk
  have e1 : st = (Value.ref k :: as).reverse ++ rest := by rw [hs]; simp
  have e3 : (Value.ref k :: as).reverse.length = pmNa a := by rw [List.length_reverse, List.length_cons]; exact hn
  have e2 : pmArgs 2 a st sh = some (.ref k :: as, rest) := by
    unfold pmArgs
    simp only
    rw [e1, ← e3, List.take_left, List.drop_left, List.reverse_reverse]
    rw [if_pos ⟨by rw [List.length_append]; omega, hc, hk, rfl, by simpa [pmOkV] using hv, by rw [hf]; exact hz⟩]
  unfold pmNx
  rw [h]
  simp only [e2]
  rfl
end PWR
end
section
/-! rules by arity; numbers nI; jumps that are known -/
section PWC
variable {mi pc len a b c : Nat} {ls st : List Value} {sh : pmS} {M : pmM} {N : pmN} {Q : pmPost}
theorem pw_cV0 {x k : Nat} {sl : List (Option (Option Nat))} {rest : List Value} (q : Nat) (h : pmCode mi pc = some (.invokevirtual x, len, a, b, c)) (hp : pc + 3 = q) (ho : pmOb sh k (pmCi a) sl) (hn : 1 = pmNa a) (hc : pmCat rest ≤ 8) (hk : pmKd a = 0) (hv : (true) = true) (hz : ([Value.ref k].flatMap fun v => if pmIsL v then [v, .null] else [v]).length ≤ pmL a) (kk : PW a 0 (pmEn [Value.ref k] (pmL a)) [] sh M N (fun r sh' M' N' => PW mi q ls (r.toList ++ rest) sh' M' N' Q)) : PW mi pc ls (.ref k :: rest) sh M N Q := pw_callV (as := []) (rest := rest) q h hp rfl ho hn hc hk (rfl) rfl hz kk
theorem pw_cV1 {x k : Nat} {sl : List (Option (Option Nat))} {v1 : Value} {rest : List Value} (q : Nat) (h : pmCode mi pc = some (.invokevirtual x, len, a, b, c)) (hp : pc + 3 = q) (ho : pmOb sh k (pmCi a) sl) (hn : 2 = pmNa a) (hc : pmCat rest ≤ 8) (hk : pmKd a = 0) (hv : (pmOkV v1) = true) (hz : ([Value.ref k, v1].flatMap fun v => if pmIsL v then [v, .null] else [v]).length ≤ pmL a) (kk : PW a 0 (pmEn [Value.ref k, v1] (pmL a)) [] sh M N (fun r sh' M' N' => PW mi q ls (r.toList ++ rest) sh' M' N' Q)) : PW mi pc ls (v1 :: .ref k :: rest) sh M N Q := pw_callV (as := [v1]) (rest := rest) q h hp rfl ho hn hc hk (by simpa [List.all_cons, Bool.and_assoc] using hv) rfl hz kk
theorem pw_cV2 {x k : Nat} {sl : List (Option (Option Nat))} {v1 v2 : Value} {rest : List Value} (q : Nat) (h : pmCode mi pc = some (.invokevirtual x, len, a, b, c)) (hp : pc + 3 = q) (ho : pmOb sh k (pmCi a) sl) (hn : 3 = pmNa a) (hc : pmCat rest ≤ 8) (hk : pmKd a = 0) (hv : (pmOkV v1 && pmOkV v2) = true) (hz : ([Value.ref k, v1, v2].flatMap fun v => if pmIsL v then [v, .null] else [v]).length ≤ pmL a) (kk : PW a 0 (pmEn [Value.ref k, v1, v2] (pmL a)) [] sh M N (fun r sh' M' N' => PW mi q ls (r.toList ++ rest) sh' M' N' Q)) : PW mi pc ls (v2 :: v1 :: .ref k :: rest) sh M N Q := pw_callV (as := [v1, v2]) (rest := rest) q h hp rfl ho hn hc hk (by simpa [List.all_cons, Bool.and_assoc] using hv) rfl hz kk
theorem pw_cV3 {x k : Nat} {sl : List (Option (Option Nat))} {v1 v2 v3 : Value} {rest : List Value} (q : Nat) (h : pmCode mi pc = some (.invokevirtual x, len, a, b, c)) (hp : pc + 3 = q) (ho : pmOb sh k (pmCi a) sl) (hn : 4 = pmNa a) (hc : pmCat rest ≤ 8) (hk : pmKd a = 0) (hv : (pmOkV v1 && pmOkV v2 && pmOkV v3) = true) (hz : ([Value.ref k, v1, v2, v3].flatMap fun v => if pmIsL v then [v, .null] else [v]).length ≤ pmL a) (kk : PW a 0 (pmEn [Value.ref k, v1, v2, v3] (pmL a)) [] sh M N (fun r sh' M' N' => PW mi q ls (r.toList ++ rest) sh' M' N' Q)) : PW mi pc ls (v3 :: v2 :: v1 :: .ref k :: rest) sh M N Q := pw_callV (as := [v1, v2, v3]) (rest := rest) q h hp rfl ho hn hc hk (by simpa [List.all_cons, Bool.and_assoc] using hv) rfl hz kk
theorem pw_cV4 {x k : Nat} {sl : List (Option (Option Nat))} {v1 v2 v3 v4 : Value} {rest : List Value} (q : Nat) (h : pmCode mi pc = some (.invokevirtual x, len, a, b, c)) (hp : pc + 3 = q) (ho : pmOb sh k (pmCi a) sl) (hn : 5 = pmNa a) (hc : pmCat rest ≤ 8) (hk : pmKd a = 0) (hv : (pmOkV v1 && pmOkV v2 && pmOkV v3 && pmOkV v4) = true) (hz : ([Value.ref k, v1, v2, v3, v4].flatMap fun v => if pmIsL v then [v, .null] else [v]).length ≤ pmL a) (kk : PW a 0 (pmEn [Value.ref k, v1, v2, v3, v4] (pmL a)) [] sh M N (fun r sh' M' N' => PW mi q ls (r.toList ++ rest) sh' M' N' Q)) : PW mi pc ls (v4 :: v3 :: v2 :: v1 :: .ref k :: rest) sh M N Q := pw_callV (as := [v1, v2, v3, v4]) (rest := rest) q h hp rfl ho hn hc hk (by simpa [List.all_cons, Bool.and_assoc] using hv) rfl hz kk
theorem pw_cV5 {x k : Nat} {sl : List (Option (Option Nat))} {v1 v2 v3 v4 v5 : Value} {rest : List Value} (q : Nat) (h : pmCode mi pc = some (.invokevirtual x, len, a, b, c)) (hp : pc + 3 = q) (ho : pmOb sh k (pmCi a) sl) (hn : 6 = pmNa a) (hc : pmCat rest ≤ 8) (hk : pmKd a = 0) (hv : (pmOkV v1 && pmOkV v2 && pmOkV v3 && pmOkV v4 && pmOkV v5) = true) (hz : ([Value.ref k, v1, v2, v3, v4, v5].flatMap fun v => if pmIsL v then [v, .null] else [v]).length ≤ pmL a) (kk : PW a 0 (pmEn [Value.ref k, v1, v2, v3, v4, v5] (pmL a)) [] sh M N (fun r sh' M' N' => PW mi q ls (r.toList ++ rest) sh' M' N' Q)) : PW mi pc ls (v5 :: v4 :: v3 :: v2 :: v1 :: .ref k :: rest) sh M N Q := pw_callV (as := [v1, v2, v3, v4, v5]) (rest := rest) q h hp rfl ho hn hc hk (by simpa [List.all_cons, Bool.and_assoc] using hv) rfl hz kk
theorem pw_cV6 {x k : Nat} {sl : List (Option (Option Nat))} {v1 v2 v3 v4 v5 v6 : Value} {rest : List Value} (q : Nat) (h : pmCode mi pc = some (.invokevirtual x, len, a, b, c)) (hp : pc + 3 = q) (ho : pmOb sh k (pmCi a) sl) (hn : 7 = pmNa a) (hc : pmCat rest ≤ 8) (hk : pmKd a = 0) (hv : (pmOkV v1 && pmOkV v2 && pmOkV v3 && pmOkV v4 && pmOkV v5 && pmOkV v6) = true) (hz : ([Value.ref k, v1, v2, v3, v4, v5, v6].flatMap fun v => if pmIsL v then [v, .null] else [v]).length ≤ pmL a) (kk : PW a 0 (pmEn [Value.ref k, v1, v2, v3, v4, v5, v6] (pmL a)) [] sh M N (fun r sh' M' N' => PW mi q ls (r.toList ++ rest) sh' M' N' Q)) : PW mi pc ls (v6 :: v5 :: v4 :: v3 :: v2 :: v1 :: .ref k :: rest) sh M N Q := pw_callV (as := [v1, v2, v3, v4, v5, v6]) (rest := rest) q h hp rfl ho hn hc hk (by simpa [List.all_cons, Bool.and_assoc] using hv) rfl hz kk
theorem pw_cS0 {x : Nat} {rest : List Value} (q : Nat) (h : pmCode mi pc = some (.invokestatic x, len, a, 0, c)) (hp : pc + 3 = q) (hn : 0 = pmNa a) (hc : pmCat rest ≤ 8) (hk : pmKd a = 1) (hv : (true) = true) (hz : ([].flatMap fun v => if pmIsL v then [v, .null] else [v]).length ≤ pmL a) (kk : PW a 0 (pmEn [] (pmL a)) [] sh M N (fun r sh' M' N' => PW mi q ls (r.toList ++ rest) sh' M' N' Q)) : PW mi pc ls (rest) sh M N Q := pw_callS (as := []) (rest := rest) q h hp rfl hn hc hk (rfl) rfl hz kk
theorem pw_cS1 {x : Nat} {v1 : Value} {rest : List Value} (q : Nat) (h : pmCode mi pc = some (.invokestatic x, len, a, 0, c)) (hp : pc + 3 = q) (hn : 1 = pmNa a) (hc : pmCat rest ≤ 8) (hk : pmKd a = 1) (hv : (pmOkV v1) = true) (hz : ([v1].flatMap fun v => if pmIsL v then [v, .null] else [v]).length ≤ pmL a) (kk : PW a 0 (pmEn [v1] (pmL a)) [] sh M N (fun r sh' M' N' => PW mi q ls (r.toList ++ rest) sh' M' N' Q)) : PW mi pc ls (v1 :: rest) sh M N Q := pw_callS (as := [v1]) (rest := rest) q h hp rfl hn hc hk (by simpa [List.all_cons, Bool.and_assoc] using hv) rfl hz kk
theorem pw_cS2 {x : Nat} {v1 v2 : Value} {rest : List Value} (q : Nat) (h : pmCode mi pc = some (.invokestatic x, len, a, 0, c)) (hp : pc + 3 = q) (hn : 2 = pmNa a) (hc : pmCat rest ≤ 8) (hk : pmKd a = 1) (hv : (pmOkV v1 && pmOkV v2) = true) (hz : ([v1, v2].flatMap fun v => if pmIsL v then [v, .null] else [v]).length ≤ pmL a) (kk : PW a 0 (pmEn [v1, v2] (pmL a)) [] sh M N (fun r sh' M' N' => PW mi q ls (r.toList ++ rest) sh' M' N' Q)) : PW mi pc ls (v2 :: v1 :: rest) sh M N Q := pw_callS (as := [v1, v2]) (rest := rest) q h hp rfl hn hc hk (by simpa [List.all_cons, Bool.and_assoc] using hv) rfl hz kk
theorem pw_cS3 {x : Nat} {v1 v2 v3 : Value} {rest : List Value} (q : Nat) (h : pmCode mi pc = some (.invokestatic x, len, a, 0, c)) (hp : pc + 3 = q) (hn : 3 = pmNa a) (hc : pmCat rest ≤ 8) (hk : pmKd a = 1) (hv : (pmOkV v1 && pmOkV v2 && pmOkV v3) = true) (hz : ([v1, v2, v3].flatMap fun v => if pmIsL v then [v, .null] else [v]).length ≤ pmL a) (kk : PW a 0 (pmEn [v1, v2, v3] (pmL a)) [] sh M N (fun r sh' M' N' => PW mi q ls (r.toList ++ rest) sh' M' N' Q)) : PW mi pc ls (v3 :: v2 :: v1 :: rest) sh M N Q := pw_callS (as := [v1, v2, v3]) (rest := rest) q h hp rfl hn hc hk (by simpa [List.all_cons, Bool.and_assoc] using hv) rfl hz kk
theorem pw_cS4 {x : Nat} {v1 v2 v3 v4 : Value} {rest : List Value} (q : Nat) (h : pmCode mi pc = some (.invokestatic x, len, a, 0, c)) (hp : pc + 3 = q) (hn : 4 = pmNa a) (hc : pmCat rest ≤ 8) (hk : pmKd a = 1) (hv : (pmOkV v1 && pmOkV v2 && pmOkV v3 && pmOkV v4) = true) (hz : ([v1, v2, v3, v4].flatMap fun v => if pmIsL v then [v, .null] else [v]).length ≤ pmL a) (kk : PW a 0 (pmEn [v1, v2, v3, v4] (pmL a)) [] sh M N (fun r sh' M' N' => PW mi q ls (r.toList ++ rest) sh' M' N' Q)) : PW mi pc ls (v4 :: v3 :: v2 :: v1 :: rest) sh M N Q := pw_callS (as := [v1, v2, v3, v4]) (rest := rest) q h hp rfl hn hc hk (by simpa [List.all_cons, Bool.and_assoc] using hv) rfl hz kk
theorem pw_cS5 {x : Nat} {v1 v2 v3 v4 v5 : Value} {rest : List Value} (q : Nat) (h : pmCode mi pc = some (.invokestatic x, len, a, 0, c)) (hp : pc + 3 = q) (hn : 5 = pmNa a) (hc : pmCat rest ≤ 8) (hk : pmKd a = 1) (hv : (pmOkV v1 && pmOkV v2 && pmOkV v3 && pmOkV v4 && pmOkV v5) = true) (hz : ([v1, v2, v3, v4, v5].flatMap fun v => if pmIsL v then [v, .null] else [v]).length ≤ pmL a) (kk : PW a 0 (pmEn [v1, v2, v3, v4, v5] (pmL a)) [] sh M N (fun r sh' M' N' => PW mi q ls (r.toList ++ rest) sh' M' N' Q)) : PW mi pc ls (v5 :: v4 :: v3 :: v2 :: v1 :: rest) sh M N Q := pw_callS (as := [v1, v2, v3, v4, v5]) (rest := rest) q h hp rfl hn hc hk (by simpa [List.all_cons, Bool.and_assoc] using hv) rfl hz kk
theorem pw_cS6 {x : Nat} {v1 v2 v3 v4 v5 v6 : Value} {rest : List Value} (q : Nat) (h : pmCode mi pc = some (.invokestatic x, len, a, 0, c)) (hp : pc + 3 = q) (hn : 6 = pmNa a) (hc : pmCat rest ≤ 8) (hk : pmKd a = 1) (hv : (pmOkV v1 && pmOkV v2 && pmOkV v3 && pmOkV v4 && pmOkV v5 && pmOkV v6) = true) (hz : ([v1, v2, v3, v4, v5, v6].flatMap fun v => if pmIsL v then [v, .null] else [v]).length ≤ pmL a) (kk : PW a 0 (pmEn [v1, v2, v3, v4, v5, v6] (pmL a)) [] sh M N (fun r sh' M' N' => PW mi q ls (r.toList ++ rest) sh' M' N' Q)) : PW mi pc ls (v6 :: v5 :: v4 :: v3 :: v2 :: v1 :: rest) sh M N Q := pw_callS (as := [v1, v2, v3, v4, v5, v6]) (rest := rest) q h hp rfl hn hc hk (by simpa [List.all_cons, Bool.and_assoc] using hv) rfl hz kk
theorem pw_cI0 {x k : Nat} {rest : List Value} (q : Nat) (h : pmCode mi pc = some (.invokespecial x, len, a, 0, c)) (hp : pc + 3 = q) (hn : 1 = pmNa a) (hc : pmCat rest ≤ 8) (hk : pmKd a = 2) (hv : (true) = true) (hz : ([Value.ref k].flatMap fun v => if pmIsL v then [v, .null] else [v]).length ≤ pmL a) (kk : PW a 0 (pmEn [Value.ref k] (pmL a)) [] sh M N (fun r sh' M' N' => PW mi q ls (r.toList ++ rest) sh' M' N' Q)) : PW mi pc ls (.ref k :: rest) sh M N Q := pw_callI (as := []) (rest := rest) q h hp rfl hn hc hk (rfl) rfl hz kk
theorem pw_cI1 {x k : Nat} {v1 : Value} {rest : List Value} (q : Nat) (h : pmCode mi pc = some (.invokespecial x, len, a, 0, c)) (hp : pc + 3 = q) (hn : 2 = pmNa a) (hc : pmCat rest ≤ 8) (hk : pmKd a = 2) (hv : (pmOkV v1) = true) (hz : ([Value.ref k, v1].flatMap fun v => if pmIsL v then [v, .null] else [v]).length ≤ pmL a) (kk : PW a 0 (pmEn [Value.ref k, v1] (pmL a)) [] sh M N (fun r sh' M' N' => PW mi q ls (r.toList ++ rest) sh' M' N' Q)) : PW mi pc ls (v1 :: .ref k :: rest) sh M N Q := pw_callI (as := [v1]) (rest := rest) q h hp rfl hn hc hk (by simpa [List.all_cons, Bool.and_assoc] using hv) rfl hz kk
theorem pw_cI2 {x k : Nat} {v1 v2 : Value} {rest : List Value} (q : Nat) (h : pmCode mi pc = some (.invokespecial x, len, a, 0, c)) (hp : pc + 3 = q) (hn : 3 = pmNa a) (hc : pmCat rest ≤ 8) (hk : pmKd a = 2) (hv : (pmOkV v1 && pmOkV v2) = true) (hz : ([Value.ref k, v1, v2].flatMap fun v => if pmIsL v then [v, .null] else [v]).length ≤ pmL a) (kk : PW a 0 (pmEn [Value.ref k, v1, v2] (pmL a)) [] sh M N (fun r sh' M' N' => PW mi q ls (r.toList ++ rest) sh' M' N' Q)) : PW mi pc ls (v2 :: v1 :: .ref k :: rest) sh M N Q := pw_callI (as := [v1, v2]) (rest := rest) q h hp rfl hn hc hk (by simpa [List.all_cons, Bool.and_assoc] using hv) rfl hz kk
theorem pw_cI3 {x k : Nat} {v1 v2 v3 : Value} {rest : List Value} (q : Nat) (h : pmCode mi pc = some (.invokespecial x, len, a, 0, c)) (hp : pc + 3 = q) (hn : 4 = pmNa a) (hc : pmCat rest ≤ 8) (hk : pmKd a = 2) (hv : (pmOkV v1 && pmOkV v2 && pmOkV v3) = true) (hz : ([Value.ref k, v1, v2, v3].flatMap fun v => if pmIsL v then [v, .null] else [v]).length ≤ pmL a) (kk : PW a 0 (pmEn [Value.ref k, v1, v2, v3] (pmL a)) [] sh M N (fun r sh' M' N' => PW mi q ls (r.toList ++ rest) sh' M' N' Q)) : PW mi pc ls (v3 :: v2 :: v1 :: .ref k :: rest) sh M N Q := pw_callI (as := [v1, v2, v3]) (rest := rest) q h hp rfl hn hc hk (by simpa [List.all_cons, Bool.and_assoc] using hv) rfl hz kk
theorem pw_cI4 {x k : Nat} {v1 v2 v3 v4 : Value} {rest : List Value} (q : Nat) (h : pmCode mi pc = some (.invokespecial x, len, a, 0, c)) (hp : pc + 3 = q) (hn : 5 = pmNa a) (hc : pmCat rest ≤ 8) (hk : pmKd a = 2) (hv : (pmOkV v1 && pmOkV v2 && pmOkV v3 && pmOkV v4) = true) (hz : ([Value.ref k, v1, v2, v3, v4].flatMap fun v => if pmIsL v then [v, .null] else [v]).length ≤ pmL a) (kk : PW a 0 (pmEn [Value.ref k, v1, v2, v3, v4] (pmL a)) [] sh M N (fun r sh' M' N' => PW mi q ls (r.toList ++ rest) sh' M' N' Q)) : PW mi pc ls (v4 :: v3 :: v2 :: v1 :: .ref k :: rest) sh M N Q := pw_callI (as := [v1, v2, v3, v4]) (rest := rest) q h hp rfl hn hc hk (by simpa [List.all_cons, Bool.and_assoc] using hv) rfl hz kk
theorem pw_cI5 {x k : Nat} {v1 v2 v3 v4 v5 : Value} {rest : List Value} (q : Nat) (h : pmCode mi pc = some (.invokespecial x, len, a, 0, c)) (hp : pc + 3 = q) (hn : 6 = pmNa a) (hc : pmCat rest ≤ 8) (hk : pmKd a = 2) (hv : (pmOkV v1 && pmOkV v2 && pmOkV v3 && pmOkV v4 && pmOkV v5) = true) (hz : ([Value.ref k, v1, v2, v3, v4, v5].flatMap fun v => if pmIsL v then [v, .null] else [v]).length ≤ pmL a) (kk : PW a 0 (pmEn [Value.ref k, v1, v2, v3, v4, v5] (pmL a)) [] sh M N (fun r sh' M' N' => PW mi q ls (r.toList ++ rest) sh' M' N' Q)) : PW mi pc ls (v5 :: v4 :: v3 :: v2 :: v1 :: .ref k :: rest) sh M N Q := pw_callI (as := [v1, v2, v3, v4, v5]) (rest := rest) q h hp rfl hn hc hk (by simpa [List.all_cons, Bool.and_assoc] using hv) rfl hz kk
theorem pw_cI6 {x k : Nat} {v1 v2 v3 v4 v5 v6 : Value} {rest : List Value} (q : Nat) (h : pmCode mi pc = some (.invokespecial x, len, a, 0, c)) (hp : pc + 3 = q) (hn : 7 = pmNa a) (hc : pmCat rest ≤ 8) (hk : pmKd a = 2) (hv : (pmOkV v1 && pmOkV v2 && pmOkV v3 && pmOkV v4 && pmOkV v5 && pmOkV v6) = true) (hz : ([Value.ref k, v1, v2, v3, v4, v5, v6].flatMap fun v => if pmIsL v then [v, .null] else [v]).length ≤ pmL a) (kk : PW a 0 (pmEn [Value.ref k, v1, v2, v3, v4, v5, v6] (pmL a)) [] sh M N (fun r sh' M' N' => PW mi q ls (r.toList ++ rest) sh' M' N' Q)) : PW mi pc ls (v6 :: v5 :: v4 :: v3 :: v2 :: v1 :: .ref k :: rest) sh M N Q := pw_callI (as := [v1, v2, v3, v4, v5, v6]) (rest := rest) q h hp rfl hn hc hk (by simpa [List.all_cons, Bool.and_assoc] using hv) rfl hz kk
theorem pw_pI {q : Nat} {v : Int32} {t : List Value} (k : PW mi q ls (.int v :: t) sh M N Q) : PW mi q ls ((some (Value.int v)).toList ++ t) sh M N Q := k
theorem pw_pJ {q : Nat} {v : Int64} {t : List Value} (k : PW mi q ls (.long v :: t) sh M N Q) : PW mi q ls ((some (Value.long v)).toList ++ t) sh M N Q := k
theorem pw_pR {q : Nat} {v : Nat} {t : List Value} (k : PW mi q ls (.ref v :: t) sh M N Q) : PW mi q ls ((some (Value.ref v)).toList ++ t) sh M N Q := k
theorem pw_pV {q : Nat} {t : List Value} (k : PW mi q ls t sh M N Q) : PW mi q ls ((none : Option Value).toList ++ t) sh M N Q := k
theorem pw_iaddN {u v : Int32} {x y : Nat} {t : List Value} (q : Nat) (h : pmCode mi pc = some (.iadd, len, a, b, c)) (hp : pc + len = q) (hu : u = nI x) (hv : v = nI y) (k : PW mi q ls (.int (nI (x + y)) :: t) sh M N Q) : PW mi pc ls (.int v :: .int u :: t) sh M N Q := by
  subst hu; subst hv
  rw [← nI_add] at k
  exact pw_iadd q h hp k
theorem pw_imulN {u v : Int32} {x y : Nat} {t : List Value} (q : Nat) (h : pmCode mi pc = some (.imul, len, a, b, c)) (hp : pc + len = q) (hu : u = nI x) (hv : v = nI y) (k : PW mi q ls (.int (nI (x * y)) :: t) sh M N Q) : PW mi pc ls (.int v :: .int u :: t) sh M N Q := by
  subst hu; subst hv
  rw [← pk_mul] at k
  exact pw_imul q h hp k
theorem pw_isubN {u v : Int32} {x y : Nat} {t : List Value} (q : Nat) (h : pmCode mi pc = some (.isub, len, a, b, c)) (hp : pc + len = q) (hu : u = nI x) (hv : v = nI y) (hxy : y ≤ x) (k : PW mi q ls (.int (nI (x - y)) :: t) sh M N Q) : PW mi pc ls (.int v :: .int u :: t) sh M N Q := by
  subst hu; subst hv
  rw [← pk_sub hxy] at k
  exact pw_isub q h hp k
theorem pw_iincN0 {x v : Nat} {u : Int32} {t : List Value} (q : Nat) (h : pmCode mi pc = some (.iinc x 1, len, 0, b, c)) (hp : pc + len = q) (hv : u = nI v) (k : PW mi q (.int (nI (v + 1)) :: t) st sh M N Q) : PW mi pc (.int u :: t) st sh M N Q := pw_iinc0 (w := nI (v + 1)) q h hp (by rw [hv, nI_succ]; rfl) k
theorem pw_iincN1 {x v : Nat} {u : Int32} {y0 : Value} {t : List Value} (q : Nat) (h : pmCode mi pc = some (.iinc x 1, len, 1, b, c)) (hp : pc + len = q) (hL : pmIsL y0 = false) (hv : u = nI v) (k : PW mi q (y0 :: .int (nI (v + 1)) :: t) st sh M N Q) : PW mi pc (y0 :: .int u :: t) st sh M N Q := pw_iinc1 (w := nI (v + 1)) q h hp hL (by rw [hv, nI_succ]; rfl) k
theorem pw_iincN2 {x v : Nat} {u : Int32} {y0 y1 : Value} {t : List Value} (q : Nat) (h : pmCode mi pc = some (.iinc x 1, len, 2, b, c)) (hp : pc + len = q) (hL : pmIsL y1 = false) (hv : u = nI v) (k : PW mi q (y0 :: y1 :: .int (nI (v + 1)) :: t) st sh M N Q) : PW mi pc (y0 :: y1 :: .int u :: t) st sh M N Q := pw_iinc2 (w := nI (v + 1)) q h hp hL (by rw [hv, nI_succ]; rfl) k
theorem pw_iincN3 {x v : Nat} {u : Int32} {y0 y1 y2 : Value} {t : List Value} (q : Nat) (h : pmCode mi pc = some (.iinc x 1, len, 3, b, c)) (hp : pc + len = q) (hL : pmIsL y2 = false) (hv : u = nI v) (k : PW mi q (y0 :: y1 :: y2 :: .int (nI (v + 1)) :: t) st sh M N Q) : PW mi pc (y0 :: y1 :: y2 :: .int u :: t) st sh M N Q := pw_iinc3 (w := nI (v + 1)) q h hp hL (by rw [hv, nI_succ]; rfl) k
theorem pw_iincN4 {x v : Nat} {u : Int32} {y0 y1 y2 y3 : Value} {t : List Value} (q : Nat) (h : pmCode mi pc = some (.iinc x 1, len, 4, b, c)) (hp : pc + len = q) (hL : pmIsL y3 = false) (hv : u = nI v) (k : PW mi q (y0 :: y1 :: y2 :: y3 :: .int (nI (v + 1)) :: t) st sh M N Q) : PW mi pc (y0 :: y1 :: y2 :: y3 :: .int u :: t) st sh M N Q := pw_iinc4 (w := nI (v + 1)) q h hp hL (by rw [hv, nI_succ]; rfl) k
theorem pw_iincN5 {x v : Nat} {u : Int32} {y0 y1 y2 y3 y4 : Value} {t : List Value} (q : Nat) (h : pmCode mi pc = some (.iinc x 1, len, 5, b, c)) (hp : pc + len = q) (hL : pmIsL y4 = false) (hv : u = nI v) (k : PW mi q (y0 :: y1 :: y2 :: y3 :: y4 :: .int (nI (v + 1)) :: t) st sh M N Q) : PW mi pc (y0 :: y1 :: y2 :: y3 :: y4 :: .int u :: t) st sh M N Q := pw_iinc5 (w := nI (v + 1)) q h hp hL (by rw [hv, nI_succ]; rfl) k
theorem pw_iincN6 {x v : Nat} {u : Int32} {y0 y1 y2 y3 y4 y5 : Value} {t : List Value} (q : Nat) (h : pmCode mi pc = some (.iinc x 1, len, 6, b, c)) (hp : pc + len = q) (hL : pmIsL y5 = false) (hv : u = nI v) (k : PW mi q (y0 :: y1 :: y2 :: y3 :: y4 :: y5 :: .int (nI (v + 1)) :: t) st sh M N Q) : PW mi pc (y0 :: y1 :: y2 :: y3 :: y4 :: y5 :: .int u :: t) st sh M N Q := pw_iinc6 (w := nI (v + 1)) q h hp hL (by rw [hv, nI_succ]; rfl) k
theorem pw_iincN7 {x v : Nat} {u : Int32} {y0 y1 y2 y3 y4 y5 y6 : Value} {t : List Value} (q : Nat) (h : pmCode mi pc = some (.iinc x 1, len, 7, b, c)) (hp : pc + len = q) (hL : pmIsL y6 = false) (hv : u = nI v) (k : PW mi q (y0 :: y1 :: y2 :: y3 :: y4 :: y5 :: y6 :: .int (nI (v + 1)) :: t) st sh M N Q) : PW mi pc (y0 :: y1 :: y2 :: y3 :: y4 :: y5 :: y6 :: .int u :: t) st sh M N Q := pw_iinc7 (w := nI (v + 1)) q h hp hL (by rw [hv, nI_succ]; rfl) k
theorem pw_iincN8 {x v : Nat} {u : Int32} {y0 y1 y2 y3 y4 y5 y6 y7 : Value} {t : List Value} (q : Nat) (h : pmCode mi pc = some (.iinc x 1, len, 8, b, c)) (hp : pc + len = q) (hL : pmIsL y7 = false) (hv : u = nI v) (k : PW mi q (y0 :: y1 :: y2 :: y3 :: y4 :: y5 :: y6 :: y7 :: .int (nI (v + 1)) :: t) st sh M N Q) : PW mi pc (y0 :: y1 :: y2 :: y3 :: y4 :: y5 :: y6 :: y7 :: .int u :: t) st sh M N Q := pw_iinc8 (w := nI (v + 1)) q h hp hL (by rw [hv, nI_succ]; rfl) k
theorem pw_iincN9 {x v : Nat} {u : Int32} {y0 y1 y2 y3 y4 y5 y6 y7 y8 : Value} {t : List Value} (q : Nat) (h : pmCode mi pc = some (.iinc x 1, len, 9, b, c)) (hp : pc + len = q) (hL : pmIsL y8 = false) (hv : u = nI v) (k : PW mi q (y0 :: y1 :: y2 :: y3 :: y4 :: y5 :: y6 :: y7 :: y8 :: .int (nI (v + 1)) :: t) st sh M N Q) : PW mi pc (y0 :: y1 :: y2 :: y3 :: y4 :: y5 :: y6 :: y7 :: y8 :: .int u :: t) st sh M N Q := pw_iinc9 (w := nI (v + 1)) q h hp hL (by rw [hv, nI_succ]; rfl) k
theorem pw_iincN10 {x v : Nat} {u : Int32} {y0 y1 y2 y3 y4 y5 y6 y7 y8 y9 : Value} {t : List Value} (q : Nat) (h : pmCode mi pc = some (.iinc x 1, len, 10, b, c)) (hp : pc + len = q) (hL : pmIsL y9 = false) (hv : u = nI v) (k : PW mi q (y0 :: y1 :: y2 :: y3 :: y4 :: y5 :: y6 :: y7 :: y8 :: y9 :: .int (nI (v + 1)) :: t) st sh M N Q) : PW mi pc (y0 :: y1 :: y2 :: y3 :: y4 :: y5 :: y6 :: y7 :: y8 :: y9 :: .int u :: t) st sh M N Q := pw_iinc10 (w := nI (v + 1)) q h hp hL (by rw [hv, nI_succ]; rfl) k
theorem pw_iincN11 {x v : Nat} {u : Int32} {y0 y1 y2 y3 y4 y5 y6 y7 y8 y9 y10 : Value} {t : List Value} (q : Nat) (h : pmCode mi pc = some (.iinc x 1, len, 11, b, c)) (hp : pc + len = q) (hL : pmIsL y10 = false) (hv : u = nI v) (k : PW mi q (y0 :: y1 :: y2 :: y3 :: y4 :: y5 :: y6 :: y7 :: y8 :: y9 :: y10 :: .int (nI (v + 1)) :: t) st sh M N Q) : PW mi pc (y0 :: y1 :: y2 :: y3 :: y4 :: y5 :: y6 :: y7 :: y8 :: y9 :: y10 :: .int u :: t) st sh M N Q := pw_iinc11 (w := nI (v + 1)) q h hp hL (by rw [hv, nI_succ]; rfl) k
theorem pw_iincN12 {x v : Nat} {u : Int32} {y0 y1 y2 y3 y4 y5 y6 y7 y8 y9 y10 y11 : Value} {t : List Value} (q : Nat) (h : pmCode mi pc = some (.iinc x 1, len, 12, b, c)) (hp : pc + len = q) (hL : pmIsL y11 = false) (hv : u = nI v) (k : PW mi q (y0 :: y1 :: y2 :: y3 :: y4 :: y5 :: y6 :: y7 :: y8 :: y9 :: y10 :: y11 :: .int (nI (v + 1)) :: t) st sh M N Q) : PW mi pc (y0 :: y1 :: y2 :: y3 :: y4 :: y5 :: y6 :: y7 :: y8 :: y9 :: y10 :: y11 :: .int u :: t) st sh M N Q := pw_iinc12 (w := nI (v + 1)) q h hp hL (by rw [hv, nI_succ]; rfl) k
theorem pw_iincN13 {x v : Nat} {u : Int32} {y0 y1 y2 y3 y4 y5 y6 y7 y8 y9 y10 y11 y12 : Value} {t : List Value} (q : Nat) (h : pmCode mi pc = some (.iinc x 1, len, 13, b, c)) (hp : pc + len = q) (hL : pmIsL y12 = false) (hv : u = nI v) (k : PW mi q (y0 :: y1 :: y2 :: y3 :: y4 :: y5 :: y6 :: y7 :: y8 :: y9 :: y10 :: y11 :: y12 :: .int (nI (v + 1)) :: t) st sh M N Q) : PW mi pc (y0 :: y1 :: y2 :: y3 :: y4 :: y5 :: y6 :: y7 :: y8 :: y9 :: y10 :: y11 :: y12 :: .int u :: t) st sh M N Q := pw_iinc13 (w := nI (v + 1)) q h hp hL (by rw [hv, nI_succ]; rfl) k
theorem pw_if_eq_t {z : Int} {x : Int32} {t : List Value} (q : Nat) (h : pmCode mi pc = some (.ifCond .eq z, len, a, b, c)) (hp : a = q) (hc : x = 0) (k : PW mi q ls t sh M N Q) : PW mi pc ls (.int x :: t) sh M N Q := pw_if_eq q (pc + 3) h hp rfl (fun _ => k) (fun n => absurd hc n)
theorem pw_if_eq_f {z : Int} {x : Int32} {t : List Value} (q : Nat) (h : pmCode mi pc = some (.ifCond .eq z, len, a, b, c)) (hp : pc + 3 = q) (hc : ¬ (x = 0)) (k : PW mi q ls t sh M N Q) : PW mi pc ls (.int x :: t) sh M N Q := pw_if_eq a q h rfl hp (fun n => absurd n hc) (fun _ => k)
theorem pw_if_ne_t {z : Int} {x : Int32} {t : List Value} (q : Nat) (h : pmCode mi pc = some (.ifCond .ne z, len, a, b, c)) (hp : a = q) (hc : ¬ x = 0) (k : PW mi q ls t sh M N Q) : PW mi pc ls (.int x :: t) sh M N Q := pw_if_ne q (pc + 3) h hp rfl (fun _ => k) (fun n => absurd hc n)
theorem pw_if_ne_f {z : Int} {x : Int32} {t : List Value} (q : Nat) (h : pmCode mi pc = some (.ifCond .ne z, len, a, b, c)) (hp : pc + 3 = q) (hc : ¬ (¬ x = 0)) (k : PW mi q ls t sh M N Q) : PW mi pc ls (.int x :: t) sh M N Q := pw_if_ne a q h rfl hp (fun n => absurd n hc) (fun _ => k)
theorem pw_if_lt_t {z : Int} {x : Int32} {t : List Value} (q : Nat) (h : pmCode mi pc = some (.ifCond .lt z, len, a, b, c)) (hp : a = q) (hc : x < 0) (k : PW mi q ls t sh M N Q) : PW mi pc ls (.int x :: t) sh M N Q := pw_if_lt q (pc + 3) h hp rfl (fun _ => k) (fun n => absurd hc n)
theorem pw_if_lt_f {z : Int} {x : Int32} {t : List Value} (q : Nat) (h : pmCode mi pc = some (.ifCond .lt z, len, a, b, c)) (hp : pc + 3 = q) (hc : ¬ (x < 0)) (k : PW mi q ls t sh M N Q) : PW mi pc ls (.int x :: t) sh M N Q := pw_if_lt a q h rfl hp (fun n => absurd n hc) (fun _ => k)
theorem pw_if_ge_t {z : Int} {x : Int32} {t : List Value} (q : Nat) (h : pmCode mi pc = some (.ifCond .ge z, len, a, b, c)) (hp : a = q) (hc : 0 ≤ x) (k : PW mi q ls t sh M N Q) : PW mi pc ls (.int x :: t) sh M N Q := pw_if_ge q (pc + 3) h hp rfl (fun _ => k) (fun n => absurd hc n)
theorem pw_if_ge_f {z : Int} {x : Int32} {t : List Value} (q : Nat) (h : pmCode mi pc = some (.ifCond .ge z, len, a, b, c)) (hp : pc + 3 = q) (hc : ¬ (0 ≤ x)) (k : PW mi q ls t sh M N Q) : PW mi pc ls (.int x :: t) sh M N Q := pw_if_ge a q h rfl hp (fun n => absurd n hc) (fun _ => k)
theorem pw_if_gt_t {z : Int} {x : Int32} {t : List Value} (q : Nat) (h : pmCode mi pc = some (.ifCond .gt z, len, a, b, c)) (hp : a = q) (hc : 0 < x) (k : PW mi q ls t sh M N Q) : PW mi pc ls (.int x :: t) sh M N Q := pw_if_gt q (pc + 3) h hp rfl (fun _ => k) (fun n => absurd hc n)
theorem pw_if_gt_f {z : Int} {x : Int32} {t : List Value} (q : Nat) (h : pmCode mi pc = some (.ifCond .gt z, len, a, b, c)) (hp : pc + 3 = q) (hc : ¬ (0 < x)) (k : PW mi q ls t sh M N Q) : PW mi pc ls (.int x :: t) sh M N Q := pw_if_gt a q h rfl hp (fun n => absurd n hc) (fun _ => k)
theorem pw_if_le_t {z : Int} {x : Int32} {t : List Value} (q : Nat) (h : pmCode mi pc = some (.ifCond .le z, len, a, b, c)) (hp : a = q) (hc : x ≤ 0) (k : PW mi q ls t sh M N Q) : PW mi pc ls (.int x :: t) sh M N Q := pw_if_le q (pc + 3) h hp rfl (fun _ => k) (fun n => absurd hc n)
theorem pw_if_le_f {z : Int} {x : Int32} {t : List Value} (q : Nat) (h : pmCode mi pc = some (.ifCond .le z, len, a, b, c)) (hp : pc + 3 = q) (hc : ¬ (x ≤ 0)) (k : PW mi q ls t sh M N Q) : PW mi pc ls (.int x :: t) sh M N Q := pw_if_le a q h rfl hp (fun n => absurd n hc) (fun _ => k)
theorem pw_icmp_eq_t {z : Int} {x y : Int32} {t : List Value} (q : Nat) (h : pmCode mi pc = some (.if_icmp .eq z, len, a, b, c)) (hp : a = q) (hc : x = y) (k : PW mi q ls t sh M N Q) : PW mi pc ls (.int y :: .int x :: t) sh M N Q := pw_icmp_eq q (pc + 3) h hp rfl (fun _ => k) (fun n => absurd hc n)
theorem pw_icmp_eq_f {z : Int} {x y : Int32} {t : List Value} (q : Nat) (h : pmCode mi pc = some (.if_icmp .eq z, len, a, b, c)) (hp : pc + 3 = q) (hc : ¬ (x = y)) (k : PW mi q ls t sh M N Q) : PW mi pc ls (.int y :: .int x :: t) sh M N Q := pw_icmp_eq a q h rfl hp (fun n => absurd n hc) (fun _ => k)
theorem pw_icmp_ne_t {z : Int} {x y : Int32} {t : List Value} (q : Nat) (h : pmCode mi pc = some (.if_icmp .ne z, len, a, b, c)) (hp : a = q) (hc : ¬ x = y) (k : PW mi q ls t sh M N Q) : PW mi pc ls (.int y :: .int x :: t) sh M N Q := pw_icmp_ne q (pc + 3) h hp rfl (fun _ => k) (fun n => absurd hc n)
theorem pw_icmp_ne_f {z : Int} {x y : Int32} {t : List Value} (q : Nat) (h : pmCode mi pc = some (.if_icmp .ne z, len, a, b, c)) (hp : pc + 3 = q) (hc : ¬ (¬ x = y)) (k : PW mi q ls t sh M N Q) : PW mi pc ls (.int y :: .int x :: t) sh M N Q := pw_icmp_ne a q h rfl hp (fun n => absurd n hc) (fun _ => k)
theorem pw_icmp_lt_t {z : Int} {x y : Int32} {t : List Value} (q : Nat) (h : pmCode mi pc = some (.if_icmp .lt z, len, a, b, c)) (hp : a = q) (hc : x < y) (k : PW mi q ls t sh M N Q) : PW mi pc ls (.int y :: .int x :: t) sh M N Q := pw_icmp_lt q (pc + 3) h hp rfl (fun _ => k) (fun n => absurd hc n)
theorem pw_icmp_lt_f {z : Int} {x y : Int32} {t : List Value} (q : Nat) (h : pmCode mi pc = some (.if_icmp .lt z, len, a, b, c)) (hp : pc + 3 = q) (hc : ¬ (x < y)) (k : PW mi q ls t sh M N Q) : PW mi pc ls (.int y :: .int x :: t) sh M N Q := pw_icmp_lt a q h rfl hp (fun n => absurd n hc) (fun _ => k)
theorem pw_icmp_ge_t {z : Int} {x y : Int32} {t : List Value} (q : Nat) (h : pmCode mi pc = some (.if_icmp .ge z, len, a, b, c)) (hp : a = q) (hc : y ≤ x) (k : PW mi q ls t sh M N Q) : PW mi pc ls (.int y :: .int x :: t) sh M N Q := pw_icmp_ge q (pc + 3) h hp rfl (fun _ => k) (fun n => absurd hc n)
theorem pw_icmp_ge_f {z : Int} {x y : Int32} {t : List Value} (q : Nat) (h : pmCode mi pc = some (.if_icmp .ge z, len, a, b, c)) (hp : pc + 3 = q) (hc : ¬ (y ≤ x)) (k : PW mi q ls t sh M N Q) : PW mi pc ls (.int y :: .int x :: t) sh M N Q := pw_icmp_ge a q h rfl hp (fun n => absurd n hc) (fun _ => k)
theorem pw_icmp_gt_t {z : Int} {x y : Int32} {t : List Value} (q : Nat) (h : pmCode mi pc = some (.if_icmp .gt z, len, a, b, c)) (hp : a = q) (hc : y < x) (k : PW mi q ls t sh M N Q) : PW mi pc ls (.int y :: .int x :: t) sh M N Q := pw_icmp_gt q (pc + 3) h hp rfl (fun _ => k) (fun n => absurd hc n)
theorem pw_icmp_gt_f {z : Int} {x y : Int32} {t : List Value} (q : Nat) (h : pmCode mi pc = some (.if_icmp .gt z, len, a, b, c)) (hp : pc + 3 = q) (hc : ¬ (y < x)) (k : PW mi q ls t sh M N Q) : PW mi pc ls (.int y :: .int x :: t) sh M N Q := pw_icmp_gt a q h rfl hp (fun n => absurd n hc) (fun _ => k)
theorem pw_icmp_le_t {z : Int} {x y : Int32} {t : List Value} (q : Nat) (h : pmCode mi pc = some (.if_icmp .le z, len, a, b, c)) (hp : a = q) (hc : x ≤ y) (k : PW mi q ls t sh M N Q) : PW mi pc ls (.int y :: .int x :: t) sh M N Q := pw_icmp_le q (pc + 3) h hp rfl (fun _ => k) (fun n => absurd hc n)
theorem pw_icmp_le_f {z : Int} {x y : Int32} {t : List Value} (q : Nat) (h : pmCode mi pc = some (.if_icmp .le z, len, a, b, c)) (hp : pc + 3 = q) (hc : ¬ (x ≤ y)) (k : PW mi q ls t sh M N Q) : PW mi pc ls (.int y :: .int x :: t) sh M N Q := pw_icmp_le a q h rfl hp (fun n => absurd n hc) (fun _ => k)
end PWC
end
section
/-! MEMORY: rows, frames -/
theorem st_same (M : pmM) (k j : Nat) (v : Int32) : pmSt M k j v k j = v := by simp [pmSt, va_up, upd]
theorem st_row (M : pmM) (k j : Nat) (v : Int32) {i : Nat} (h : i ≠ j) : pmSt M k j v k i = M k i := by simp [pmSt, va_up, upd, h]
theorem st_ne (M : pmM) (k j : Nat) (v : Int32) {x : Nat} (h : x ≠ k) : pmSt M k j v x = M x := va_up_ne _ _ h
/-- outside a .. b nothing has changed -/
def fr (a b : Nat) (M M' : pmM) : Prop := ∀ x, (x < a ∨ b ≤ x) → M' x = M x
theorem fr.rf {a b : Nat} {M : pmM} : fr a b M M := fun _ _ => rfl
theorem fr.tr {a b : Nat} {M M1 M2 : pmM} (h : fr a b M M1) (h2 : fr a b M1 M2) : fr a b M M2 := fun x hx => (h2 x hx).trans (h x hx)
theorem fr.wk {a b c d : Nat} {M M1 : pmM} (h : fr a b M M1) (h1 : c ≤ a) (h2 : b ≤ d) : fr c d M M1 := fun x hx => h x (by omega)
theorem fr.at {a b : Nat} {M M1 : pmM} (h : fr a b M M1) {x : Nat} (hx : x < a ∨ b ≤ x) : M1 x = M x := h x hx
theorem fr_st {a b k : Nat} (M : pmM) (j : Nat) (v : Int32) (h1 : a ≤ k) (h2 : k < b) : fr a b M (pmSt M k j v) := fun x hx => st_ne M k j v (by omega)
/-- a Row: the object at k, its array at k + 1, of n places -/
def isRow (sh : pmS) (k n : Nat) : Prop := pmOb sh k 4 [some (some (k + 1)), none] ∧ pmAy sh (k + 1) 0 n []
/-- what a row holds -/
def rowIs (M : pmM) (k : Nat) (xs : List Int32) : Prop := M k 1 = nI xs.length ∧ ∀ i, i < xs.length → M (k + 1) i = xs.getD i 0
theorem rowIs.mv {M M' : pmM} {k a b : Nat} {xs : List Int32} (h : rowIs M k xs) (hf : fr a b M M') (hk : k + 1 < a ∨ b ≤ k) : rowIs M' k xs := by
  refine ⟨?_, fun i hi => ?_⟩
  · rw [hf k (by omega)]; exact h.1
  · rw [hf (k + 1) (by omega)]; exact h.2 i hi
theorem rowIs.eq {M M' : pmM} {k : Nat} {xs : List Int32} (h : rowIs M k xs) (h1 : M' k = M k) (h2 : M' (k + 1) = M (k + 1)) : rowIs M' k xs := ⟨by rw [h1]; exact h.1, fun i hi => by rw [h2]; exact h.2 i hi⟩
def gI (xs : List Int32) (i : Int32) : Int32 := if i < 0 then 0 else xs.getD i.toNatClampNeg 0
theorem gI_n {xs : List Int32} {j : Nat} (h : j < 2 ^ 31) : gI xs (nI j) = xs.getD j 0 := by
  unfold gI
  rw [if_neg (nI_pos h), nI_clamp h]
theorem gI_neg {xs : List Int32} {i : Int32} (h : i < 0) : gI xs i = 0 := by
  unfold gI; rw [if_pos h]
theorem getD_out {xs : List Int32} {j : Nat} (h : xs.length ≤ j) : xs.getD j 0 = 0 := by
  rw [List.getD_eq_getElem?_getD, List.getElem?_eq_none h]; rfl
theorem getD_app {xs : List Int32} {v : Int32} {i : Nat} : (xs ++ [v]).getD i 0 = if i < xs.length then xs.getD i 0 else if i = xs.length then v else 0 := by
  simp only [List.getD_eq_getElem?_getD]
  by_cases h : i < xs.length
  · rw [if_pos h, List.getElem?_append_left h]
  · rw [if_neg h]
    by_cases h2 : i = xs.length
    · subst h2; simp
    · rw [if_neg h2, List.getElem?_eq_none (by simp; omega)]; rfl
theorem getD_set {xs : List Int32} {v : Int32} {i j : Nat} (hj : j < xs.length) : (xs.set j v).getD i 0 = if i = j then v else xs.getD i 0 := by
  simp only [List.getD_eq_getElem?_getD]
  by_cases h : i = j
  · subst h; rw [if_pos rfl, List.getElem?_set_self hj]; rfl
  · rw [if_neg h, List.getElem?_set_ne (Ne.symm h)]
/-- an int is below 0, or the number of a natural one -/
theorem i_cases (x : Int32) : x < 0 ∨ ∃ j : Nat, j < 2 ^ 31 ∧ x = nI j := by
  by_cases h : x < 0
  · exact Or.inl h
  · exact Or.inr (nI_of h)
end
section
/-! ROW -/
section ROW
variable {sh : pmS} {M : pmM} {N : pmN} {Q : pmPost} {k n : Nat} {xs : List Int32}
theorem c_Row_size (hr : isRow sh k n) (hx : rowIs M k xs) (kk : Q (some (.int (nI xs.length))) sh M N) : PW mX4_size 0 [.ref k] [] sh M N Q := by
  obtain ⟨h1, h2⟩ := hr
  refine pw_aload_n 1 rfl rfl rfl ?_
  refine pw_getI 4 rfl rfl (by first | assumption | exact ⟨by decide, rfl⟩) rfl ?_
  rw [hx.1]
  exact pw_iret rfl rfl (kk)
theorem c_Row_most (hr : isRow sh k n) (kk : Q (some (.int (nI n))) sh M N) : PW mX4_most 0 [.ref k] [] sh M N Q := by
  obtain ⟨h1, h2⟩ := hr
  refine pw_aload_n 1 rfl rfl rfl ?_
  refine pw_getR 4 rfl rfl (by first | assumption | exact ⟨by decide, rfl⟩) rfl ?_
  refine pw_alen 5 rfl rfl (by first | assumption | exact ⟨by decide, rfl, by decide⟩) (by decide) ?_
  exact pw_iret rfl rfl (kk)
theorem c_Row_get (hr : isRow sh k n) (hx : rowIs M k xs) (hl : xs.length ≤ n) (i : Int32) (kk : Q (some (.int (gI xs i))) sh M N) : PW mX4_get 0 [.ref k, .int i] [] sh M N Q := by
  obtain ⟨h1, h2⟩ := hr
  have hn : n ≤ 1000 := h2.2.2
  have out : gI xs i = 0 → PW mX4_get 30 [.ref k, .int i] [] sh M N Q := by
    intro e
    rw [e] at kk
    refine pw_iconst (v := nI 0) 31 rfl rfl (by decide) ?_
    exact pw_iret rfl rfl (kk)
  refine pw_iload_n 1 rfl rfl rfl ?_
  refine pw_if_lt 30 4 rfl rfl rfl (fun h => ?_) (fun h => ?_)
  · exact out (gI_neg h)
  · obtain ⟨j, hj, rfl⟩ := nI_of h
    rw [gI_n hj] at kk out
    refine pw_iload_n 5 rfl rfl rfl ?_
    refine pw_aload_n 6 rfl rfl rfl ?_
    refine pw_getR 9 rfl rfl (by first | assumption | exact ⟨by decide, rfl⟩) rfl ?_
    refine pw_alen 10 rfl rfl (by first | assumption | exact ⟨by decide, rfl, by decide⟩) (by decide) ?_
    refine pw_icmp_ge 30 13 rfl rfl rfl (fun h => ?_) (fun h => ?_)
    · exact out (getD_out (by have := (nI_leI (by omega) hj).mp h; omega))
    · refine pw_iload_n 14 rfl rfl rfl ?_
      refine pw_aload_n 15 rfl rfl rfl ?_
      refine pw_getI 18 rfl rfl (by first | assumption | exact ⟨by decide, rfl⟩) rfl ?_
      rw [hx.1]
      refine pw_icmp_ge 30 21 rfl rfl rfl (fun h3 => ?_) (fun h3 => ?_)
      · exact out (getD_out (by have := (nI_leI (by omega) hj).mp h3; omega))
      · have hlt : j < xs.length := by
          rcases Nat.lt_or_ge j xs.length with q | q
          · exact q
          · exact absurd ((nI_leI (by omega) hj).mpr q) h3
        have hlt2 : j < n := by omega
        refine pw_aload_n 22 rfl rfl rfl ?_
        refine pw_getR 25 rfl rfl (by first | assumption | exact ⟨by decide, rfl⟩) rfl ?_
        refine pw_iload_n 26 rfl rfl rfl ?_
        refine pw_iald _ 27 rfl rfl (by first | assumption | exact ⟨by decide, rfl, by decide⟩) (by with_reducible rfl) (by first | assumption | omega) ?_
        refine pw_goto rfl 31 rfl ?_
        rw [hx.2 j hlt]
        exact pw_iret rfl rfl (kk)
theorem c_Row_set (hr : isRow sh k n) (hx : rowIs M k xs) (hl : xs.length ≤ n) {j : Nat} (hj : j < xs.length) (v : Int32) (kk : ∀ M', fr (k + 1) (k + 2) M M' → rowIs M' k (xs.set j v) → Q none sh M' N) : PW mX4_set 0 [.ref k, .int (nI j), .int v] [] sh M N Q := by
  obtain ⟨h1, h2⟩ := hr
  have hn : n ≤ 1000 := h2.2.2
  refine pw_iload_n 1 rfl rfl rfl ?_
  refine pw_if_lt_f 4 rfl rfl (nI_pos (by omega)) ?_
  refine pw_iload_n 5 rfl rfl rfl ?_
  refine pw_aload_n 6 rfl rfl rfl ?_
  refine pw_getR 9 rfl rfl (by first | assumption | exact ⟨by decide, rfl⟩) rfl ?_
  refine pw_alen 10 rfl rfl (by first | assumption | exact ⟨by decide, rfl, by decide⟩) (by decide) ?_
  refine pw_icmp_ge_f 13 rfl rfl (fun q => by have := (nI_leI (by omega) (by omega)).mp q; omega) ?_
  refine pw_iload_n 14 rfl rfl rfl ?_
  refine pw_aload_n 15 rfl rfl rfl ?_
  refine pw_getI 18 rfl rfl (by first | assumption | exact ⟨by decide, rfl⟩) rfl ?_
  rw [hx.1]
  refine pw_icmp_ge_f 21 rfl rfl (fun q => by have := (nI_leI (by omega) (by omega)).mp q; omega) ?_
  have hj2 : j < n := by omega
  refine pw_aload_n 22 rfl rfl rfl ?_
  refine pw_getR 25 rfl rfl (by first | assumption | exact ⟨by decide, rfl⟩) rfl ?_
  refine pw_iload_n 26 rfl rfl rfl ?_
  refine pw_iload_n 27 rfl rfl rfl ?_
  refine pw_iast _ 28 rfl rfl (by first | assumption | exact ⟨by decide, rfl, by decide⟩) (by with_reducible rfl) (by first | assumption | omega) ?_
  refine pw_vret rfl (kk _ (fr_st M j v (by omega) (by omega)) ⟨?_, fun i hi => ?_⟩)
  · rw [st_ne M _ _ _ (by omega), List.length_set]; exact hx.1
  · rw [List.length_set] at hi
    rw [getD_set hj]
    by_cases q : i = j
    · subst q; rw [if_pos rfl, st_same]
    · rw [if_neg q, st_row _ _ _ _ q]; exact hx.2 i hi
theorem c_Row_clear (hr : isRow sh k n) (kk : ∀ M', fr k (k + 1) M M' → rowIs M' k [] → Q none sh M' N) : PW mX4_clear 0 [.ref k] [] sh M N Q := by
  obtain ⟨h1, h2⟩ := hr
  refine pw_aload_n 1 rfl rfl rfl ?_
  refine pw_iconst (v := nI 0) 2 rfl rfl (by decide) ?_
  refine pw_putI 5 rfl rfl (by first | assumption | exact ⟨by decide, rfl⟩) rfl (by decide) ?_
  exact pw_vret rfl (kk _ (fr_st M 1 _ (by omega) (by omega)) ⟨st_same _ _ _ _, fun i hi => absurd hi (Nat.not_lt_zero i)⟩)
theorem c_Row_add (hr : isRow sh k n) (hx : rowIs M k xs) (hl : xs.length < n) (v : Int32) (kk : ∀ M', fr k (k + 2) M M' → rowIs M' k (xs ++ [v]) → Q (some (.int (nI 1))) sh M' N) : PW mX4_add 0 [.ref k, .int v] [] sh M N Q := by
  obtain ⟨h1, h2⟩ := hr
  have hn : n ≤ 1000 := h2.2.2
  refine pw_aload_n 1 rfl rfl rfl ?_
  refine pw_getI 4 rfl rfl (by first | assumption | exact ⟨by decide, rfl⟩) rfl ?_
  rw [hx.1]
  refine pw_if_lt_f 7 rfl rfl (nI_pos (by omega)) ?_
  refine pw_aload_n 8 rfl rfl rfl ?_
  refine pw_getI 11 rfl rfl (by first | assumption | exact ⟨by decide, rfl⟩) rfl ?_
  refine pw_aload_n 12 rfl rfl rfl ?_
  refine pw_getR 15 rfl rfl (by first | assumption | exact ⟨by decide, rfl⟩) rfl ?_
  refine pw_alen 16 rfl rfl (by first | assumption | exact ⟨by decide, rfl, by decide⟩) (by decide) ?_
  rw [hx.1]
  refine pw_icmp_lt_t 21 rfl rfl ((nI_ltI (by omega) (by omega)).mpr hl) ?_
  refine pw_aload_n 22 rfl rfl rfl ?_
  refine pw_getR 25 rfl rfl (by first | assumption | exact ⟨by decide, rfl⟩) rfl ?_
  refine pw_aload_n 26 rfl rfl rfl ?_
  refine pw_getI 29 rfl rfl (by first | assumption | exact ⟨by decide, rfl⟩) rfl ?_
  refine pw_iload_n 30 rfl rfl rfl ?_
  rw [hx.1]
  refine pw_iast _ 31 rfl rfl (by first | assumption | exact ⟨by decide, rfl, by decide⟩) (by with_reducible rfl) (by first | assumption | omega) ?_
  refine pw_aload_n 32 rfl rfl rfl ?_
  refine pw_dup 33 rfl rfl rfl ?_
  refine pw_getI 36 rfl rfl (by first | assumption | exact ⟨by decide, rfl⟩) rfl ?_
  refine pw_iconst (v := nI 1) 37 rfl rfl (by decide) ?_
  first | refine pw_iaddN 38 rfl rfl (by with_reducible rfl) (by with_reducible rfl) ?_ | refine pw_iadd 38 rfl rfl ?_
  refine pw_putI 41 rfl rfl (by first | assumption | exact ⟨by decide, rfl⟩) rfl (by decide) ?_
  refine pw_iconst (v := nI 1) 42 rfl rfl (by decide) ?_
  have e1 : pmSt M (k + 1) xs.length v k 1 = nI xs.length := by rw [st_ne _ _ _ _ (by omega)]; exact hx.1
  rw [e1, nI_add]
  refine pw_zret rfl rfl (Or.inr rfl) (kk _ (fun x h => ?_) ⟨?_, fun i hi => ?_⟩)
  · rw [st_ne _ _ _ _ (by omega), st_ne _ _ _ _ (by omega)]
  · rw [st_same, List.length_append]; rfl
  · rw [st_ne _ _ _ _ (by omega), getD_app]
    rw [List.length_append, List.length_cons, List.length_nil] at hi
    by_cases q : i < xs.length
    · rw [if_pos q, st_row _ _ _ _ (by omega)]; exact hx.2 i q
    · have : i = xs.length := by omega
      subst this
      rw [if_neg q, if_pos rfl, st_same]
theorem c_Row_addFull (hr : isRow sh k n) (hx : rowIs M k xs) (hl : xs.length = n) (v : Int32) (kk : Q (some (.int (nI 0))) sh M N) : PW mX4_add 0 [.ref k, .int v] [] sh M N Q := by
  obtain ⟨h1, h2⟩ := hr
  have hn : n ≤ 1000 := h2.2.2
  refine pw_aload_n 1 rfl rfl rfl ?_
  refine pw_getI 4 rfl rfl (by first | assumption | exact ⟨by decide, rfl⟩) rfl ?_
  rw [hx.1]
  refine pw_if_lt_f 7 rfl rfl (nI_pos (by omega)) ?_
  refine pw_aload_n 8 rfl rfl rfl ?_
  refine pw_getI 11 rfl rfl (by first | assumption | exact ⟨by decide, rfl⟩) rfl ?_
  refine pw_aload_n 12 rfl rfl rfl ?_
  refine pw_getR 15 rfl rfl (by first | assumption | exact ⟨by decide, rfl⟩) rfl ?_
  refine pw_alen 16 rfl rfl (by first | assumption | exact ⟨by decide, rfl, by decide⟩) (by decide) ?_
  rw [hx.1]
  refine pw_icmp_lt_f 19 rfl rfl (nI_nlt (by omega) (by omega)) ?_
  refine pw_iconst (v := nI 0) 20 rfl rfl (by decide) ?_
  exact pw_zret rfl rfl (by first | exact Or.inl rfl | exact Or.inr rfl | assumption) (kk)
end ROW
end
section
/-! the JDK's, Row's rest, Line, Moment -/
section LIN
variable {sh : pmS} {M : pmM} {N : pmN} {Q : pmPost} {k n : Nat} {xs : List Int32}
theorem c_min {x y : Nat} (hx : x < 2 ^ 31) (hy : y < 2 ^ 31) (kk : Q (some (.int (nI (min x y)))) sh M N) : PW mJ9_min_7cf53 0 [.int (nI x), .int (nI y)] [] sh M N Q := by
  refine pw_iload_n 1 rfl rfl rfl ?_
  refine pw_iload_n 2 rfl rfl rfl ?_
  refine pw_icmp_gt 9 5 rfl rfl rfl (fun h => ?_) (fun h => ?_)
  · have := (nI_ltI hy hx).mp h
    rw [Nat.min_eq_right (by omega)] at kk
    refine pw_iload_n 10 rfl rfl rfl ?_
    exact pw_iret rfl rfl (kk)
  · have : ¬ y < x := fun q => h ((nI_ltI hy hx).mpr q)
    rw [Nat.min_eq_left (by omega)] at kk
    refine pw_iload_n 6 rfl rfl rfl ?_
    refine pw_goto rfl 10 rfl ?_
    exact pw_iret rfl rfl (kk)
theorem c_max {x y : Nat} (hx : x < 2 ^ 31) (hy : y < 2 ^ 31) (kk : Q (some (.int (nI (max x y)))) sh M N) : PW mJ9_max_7cf53 0 [.int (nI x), .int (nI y)] [] sh M N Q := by
  refine pw_iload_n 1 rfl rfl rfl ?_
  refine pw_iload_n 2 rfl rfl rfl ?_
  refine pw_icmp_lt 9 5 rfl rfl rfl (fun h => ?_) (fun h => ?_)
  · have := (nI_ltI hx hy).mp h
    rw [Nat.max_eq_right (by omega)] at kk
    refine pw_iload_n 10 rfl rfl rfl ?_
    exact pw_iret rfl rfl (kk)
  · have : ¬ x < y := fun q => h ((nI_ltI hx hy).mpr q)
    rw [Nat.max_eq_left (by omega)] at kk
    refine pw_iload_n 6 rfl rfl rfl ?_
    refine pw_goto rfl 10 rfl ?_
    exact pw_iret rfl rfl (kk)
theorem c_Row_takeFrom {k2 n2 : Nat} (hr : isRow sh k n) (hr2 : isRow sh k2 n2) (hx : rowIs M k2 xs) (hl : xs.length ≤ n) (hl2 : xs.length ≤ n2) (kk : ∀ M', fr k (k + 2) M M' → rowIs M' k xs → Q none sh M' N) : PW mX4_takeFrom 0 [.ref k, .ref k2, .null] [] sh M N Q := by
  obtain ⟨h1, h2⟩ := hr
  obtain ⟨g1, g2⟩ := hr2
  have hn : n ≤ 1000 := h2.2.2
  have hn2 : n2 ≤ 1000 := g2.2.2
  refine pw_aload_n 1 rfl rfl rfl ?_
  refine pw_getI 4 rfl rfl (by first | assumption | exact ⟨by decide, rfl⟩) rfl ?_
  refine pw_aload_n 5 rfl rfl rfl ?_
  refine pw_getR 8 rfl rfl (by first | assumption | exact ⟨by decide, rfl⟩) rfl ?_
  refine pw_alen 9 rfl rfl (by first | assumption | exact ⟨by decide, rfl, by decide⟩) (by decide) ?_
  refine pw_aload_n 10 rfl rfl rfl ?_
  refine pw_getR 13 rfl rfl (by first | assumption | exact ⟨by decide, rfl⟩) rfl ?_
  refine pw_alen 14 rfl rfl (by first | assumption | exact ⟨by decide, rfl, by decide⟩) (by decide) ?_
  rw [hx.1]
  refine pw_cS2 17 rfl rfl rfl (Nat.le_of_ble_eq_true rfl) rfl rfl (Nat.le_of_ble_eq_true rfl) (c_min (by omega) (by omega) ?_)
  refine pw_pI ?_
  skip
  refine pw_cS2 20 rfl rfl rfl (Nat.le_of_ble_eq_true rfl) rfl rfl (Nat.le_of_ble_eq_true rfl) (c_min (by omega) (by omega) ?_)
  refine pw_pI ?_
  rw [show min xs.length (min n2 n) = xs.length by omega]
  refine pw_istore2 21 rfl rfl rfl ?_
  refine pw_iload_n 22 rfl rfl rfl ?_
  refine pw_if_lt_f 25 rfl rfl (nI_pos (by omega)) ?_
  refine pw_aload_n 26 rfl rfl rfl ?_
  refine pw_getR 29 rfl rfl (by first | assumption | exact ⟨by decide, rfl⟩) rfl ?_
  refine pw_iconst (v := nI 0) 30 rfl rfl (by decide) ?_
  refine pw_aload_n 31 rfl rfl rfl ?_
  refine pw_getR 34 rfl rfl (by first | assumption | exact ⟨by decide, rfl⟩) rfl ?_
  refine pw_iconst (v := nI 0) 35 rfl rfl (by decide) ?_
  refine pw_iload_n 36 rfl rfl rfl ?_
  refine pw_copyI 0 0 xs.length 39 rfl rfl g2 h2 rfl rfl rfl (by omega) (by omega) (Nat.le_of_ble_eq_true rfl) ?_
  refine pw_aload_n 40 rfl rfl rfl ?_
  refine pw_iload_n 41 rfl rfl rfl ?_
  refine pw_putI 44 rfl rfl (by first | assumption | exact ⟨by decide, rfl⟩) rfl (by decide) ?_
  refine pw_vret rfl (kk _ (fun x h => ?_) ⟨?_, fun i hi => ?_⟩)
  · rw [st_ne _ _ _ _ (by omega), va_up_ne _ _ (by omega)]
  · rw [st_same]
  · rw [st_ne _ _ _ _ (by omega), va_up_self, pk_cpy_in (by omega) (by omega)]
    rw [show 0 + (i - 0) = i by omega]
    exact hx.2 i hi
theorem c_Row_addTo (hr : isRow sh k n) (hx : rowIs M k xs) (hl : xs.length ≤ n) {j : Nat} (hj : j < xs.length) (v : Int32) (kk : ∀ M', fr (k + 1) (k + 2) M M' → rowIs M' k (xs.set j (xs.getD j 0 + v)) → Q none sh M' N) : PW mX4_addTo 0 [.ref k, .int (nI j), .int v] [] sh M N Q := by
  have hr0 := hr
  obtain ⟨h1, h2⟩ := hr
  have hn : n ≤ 1000 := h2.2.2
  refine pw_aload_n 1 rfl rfl rfl ?_
  refine pw_iload_n 2 rfl rfl rfl ?_
  refine pw_aload_n 3 rfl rfl rfl ?_
  refine pw_iload_n 4 rfl rfl rfl ?_
  refine pw_cV1 7 rfl rfl (by first | assumption | exact ⟨by decide, rfl⟩) rfl (Nat.le_of_ble_eq_true rfl) rfl rfl (Nat.le_of_ble_eq_true rfl) (c_Row_get hr0 hx hl (nI j) ?_)
  rw [gI_n (by omega)]
  refine pw_pI ?_
  refine pw_iload_n 8 rfl rfl rfl ?_
  first | refine pw_iaddN 9 rfl rfl (by with_reducible rfl) (by with_reducible rfl) ?_ | refine pw_iadd 9 rfl rfl ?_
  refine pw_cV2 12 rfl rfl (by first | assumption | exact ⟨by decide, rfl⟩) rfl (Nat.le_of_ble_eq_true rfl) rfl rfl (Nat.le_of_ble_eq_true rfl) (c_Row_set hr0 hx hl hj _ (fun M' f r => ?_))
  refine pw_pV ?_
  skip
  exact pw_vret rfl (kk M' f r)
theorem fill_loop {v : Int32} {m : Nat} (hr : isRow sh k n) (hm : m ≤ n) (kk : ∀ M', fr k (k + 2) M M' → rowIs M' k (List.replicate m v) → Q none sh M' N) :
    ∀ (d i : Nat) (M1 : pmM), i + d = m → fr k (k + 2) M M1 → rowIs M1 k (List.replicate i v) → PW mX4_fill 6 [.ref k, .int (nI m), .int v, .int (nI i)] [] sh M1 N Q := by
  have hr0 := hr
  obtain ⟨h1, h2⟩ := hr
  have hn : n ≤ 1000 := h2.2.2
  intro d
  induction d with
  | zero =>
    intro i M1 hi hf hx
    have : i = m := by omega
    subst this
    refine pw_iload_n 7 rfl rfl rfl ?_
    refine pw_iload_n 8 rfl rfl rfl ?_
    refine pw_icmp_ge_t 23 rfl rfl (nI_le (Nat.le_refl _) (by omega)) ?_
    skip
    exact pw_vret rfl (kk M1 hf hx)
  | succ d ih =>
    intro i M1 hi hf hx
    refine pw_iload_n 7 rfl rfl rfl ?_
    refine pw_iload_n 8 rfl rfl rfl ?_
    refine pw_icmp_ge_f 11 rfl rfl (nI_ge (by omega) (by omega)) ?_
    refine pw_aload_n 12 rfl rfl rfl ?_
    refine pw_iload_n 13 rfl rfl rfl ?_
    refine pw_cV1 16 rfl rfl (by first | assumption | exact ⟨by decide, rfl⟩) rfl (Nat.le_of_ble_eq_true rfl) rfl rfl (Nat.le_of_ble_eq_true rfl) (c_Row_add hr0 hx (by simp; omega) v (fun M' f r => ?_))
    refine pw_pI ?_
    refine pw_pop 17 rfl rfl rfl ?_
    first | refine pw_iincN3 20 rfl rfl rfl (by with_reducible rfl) ?_ | refine pw_iinc3 (w := _) 20 rfl rfl rfl rfl ?_
    refine pw_goto rfl 6 rfl ?_
    refine ih (i + 1) M' (by omega) (hf.tr f) ?_
    rw [List.replicate_succ']
    exact r
theorem c_Row_fill {v : Int32} {m : Nat} (hr : isRow sh k n) (hm : m ≤ n) (kk : ∀ M', fr k (k + 2) M M' → rowIs M' k (List.replicate m v) → Q none sh M' N) : PW mX4_fill 0 [.ref k, .int (nI m), .int v, .null] [] sh M N Q := by
  have hr0 := hr
  obtain ⟨h1, h2⟩ := hr
  refine pw_aload_n 1 rfl rfl rfl ?_
  refine pw_cV0 4 rfl rfl (by first | assumption | exact ⟨by decide, rfl⟩) rfl (Nat.le_of_ble_eq_true rfl) rfl rfl (Nat.le_of_ble_eq_true rfl) (c_Row_clear hr0 (fun M' f r => ?_))
  refine pw_pV ?_
  refine pw_iconst (v := nI 0) 5 rfl rfl (by decide) ?_
  refine pw_istore3 6 rfl rfl rfl ?_
  exact fill_loop hr0 hm kk m 0 M' (by omega) (f.wk (by omega) (by omega)) r
/-- the sum of a row -/
def sumI : List Int32 → Int32
  | [] => 0
  | x :: t => x + sumI t
theorem sum_loop (hr : isRow sh k n) (hx : rowIs M k xs) (hl : xs.length ≤ n) (s : Int32) (kk : Q (some (.int s)) sh M N) :
    ∀ (d i : Nat) (a : Int32), i + d = xs.length → a + sumI (xs.drop i) = s → PW mX4_sum 4 [.ref k, .int a, .int (nI i)] [] sh M N Q := by
  have hr0 := hr
  obtain ⟨h1, h2⟩ := hr
  have hn : n ≤ 1000 := h2.2.2
  intro d
  induction d with
  | zero =>
    intro i a hi ha
    refine pw_iload_n 5 rfl rfl rfl ?_
    refine pw_aload_n 6 rfl rfl rfl ?_
    refine pw_getI 9 rfl rfl (by first | assumption | exact ⟨by decide, rfl⟩) rfl ?_
    rw [hx.1]
    refine pw_icmp_ge_t 26 rfl rfl (nI_le (by omega) (by omega)) ?_
    rw [List.drop_eq_nil_of_le (by omega)] at ha
    have ha : a = s := by rw [← ha]; simp [sumI]
    subst ha
    refine pw_iload_n 27 rfl rfl rfl ?_
    exact pw_iret rfl rfl (kk)
  | succ d ih =>
    intro i a hi ha
    refine pw_iload_n 5 rfl rfl rfl ?_
    refine pw_aload_n 6 rfl rfl rfl ?_
    refine pw_getI 9 rfl rfl (by first | assumption | exact ⟨by decide, rfl⟩) rfl ?_
    rw [hx.1]
    refine pw_icmp_ge_f 12 rfl rfl (nI_ge (by omega) (by omega)) ?_
    refine pw_iload_n 13 rfl rfl rfl ?_
    refine pw_aload_n 14 rfl rfl rfl ?_
    refine pw_iload_n 15 rfl rfl rfl ?_
    refine pw_cV1 18 rfl rfl (by first | assumption | exact ⟨by decide, rfl⟩) rfl (Nat.le_of_ble_eq_true rfl) rfl rfl (Nat.le_of_ble_eq_true rfl) (c_Row_get hr0 hx hl (nI i) ?_)
    rw [gI_n (by omega)]
    refine pw_pI ?_
    first | refine pw_iaddN 19 rfl rfl (by with_reducible rfl) (by with_reducible rfl) ?_ | refine pw_iadd 19 rfl rfl ?_
    refine pw_istore1 20 rfl rfl rfl ?_
    first | refine pw_iincN2 23 rfl rfl rfl (by with_reducible rfl) ?_ | refine pw_iinc2 (w := _) 23 rfl rfl rfl rfl ?_
    refine pw_goto rfl 4 rfl ?_
    refine ih (i + 1) _ (by omega) ?_
    have hlt : i < xs.length := by omega
    rw [← ha, List.drop_eq_getElem_cons hlt, sumI, List.getD_eq_getElem?_getD, List.getElem?_eq_getElem hlt]
    simp [Int32.add_assoc]
theorem c_Row_sum (hr : isRow sh k n) (hx : rowIs M k xs) (hl : xs.length ≤ n) (kk : Q (some (.int (sumI xs))) sh M N) : PW mX4_sum 0 [.ref k, .null, .null] [] sh M N Q := by
  refine pw_iconst (v := nI 0) 1 rfl rfl (by decide) ?_
  refine pw_istore1 2 rfl rfl rfl ?_
  refine pw_iconst (v := nI 0) 3 rfl rfl (by decide) ?_
  refine pw_istore2 4 rfl rfl rfl ?_
  exact sum_loop hr hx hl (sumI xs) kk xs.length 0 (nI 0) (by omega) (by rw [List.drop_zero, nI_0, Int32.zero_add])
theorem same_loop {k2 n2 : Nat} {ys : List Int32} (hr : isRow sh k n) (hx : rowIs M k xs) (hl : xs.length ≤ n) (hr2 : isRow sh k2 n2) (hy : rowIs M k2 ys) (hl2 : ys.length ≤ n2) (he : xs.length = ys.length) (kk : Q (some (.int (if xs = ys then nI 1 else nI 0))) sh M N) :
    ∀ (d i : Nat), i + d = xs.length → (∀ j, j < i → xs.getD j 0 = ys.getD j 0) → PW mX4_isSame 15 [.ref k, .ref k2, .int (nI i)] [] sh M N Q := by
  have hr0 := hr
  have hr02 := hr2
  obtain ⟨h1, h2⟩ := hr
  obtain ⟨g1, g2⟩ := hr2
  have hn : n ≤ 1000 := h2.2.2
  intro d
  induction d with
  | zero =>
    intro i hi ha
    refine pw_iload_n 16 rfl rfl rfl ?_
    refine pw_aload_n 17 rfl rfl rfl ?_
    refine pw_getI 20 rfl rfl (by first | assumption | exact ⟨by decide, rfl⟩) rfl ?_
    rw [hx.1]
    refine pw_icmp_ge_t 44 rfl rfl (nI_le (by omega) (by omega)) ?_
    have e : xs = ys := by
      apply List.ext_getElem he
      intro j h1 h2
      have := ha j (by omega)
      simpa [List.getD_eq_getElem?_getD, List.getElem?_eq_getElem h1, List.getElem?_eq_getElem h2] using this
    rw [if_pos e] at kk
    refine pw_iconst (v := nI 1) 45 rfl rfl (by decide) ?_
    exact pw_zret rfl rfl (by first | exact Or.inl rfl | exact Or.inr rfl | assumption) (kk)
  | succ d ih =>
    intro i hi ha
    refine pw_iload_n 16 rfl rfl rfl ?_
    refine pw_aload_n 17 rfl rfl rfl ?_
    refine pw_getI 20 rfl rfl (by first | assumption | exact ⟨by decide, rfl⟩) rfl ?_
    rw [hx.1]
    refine pw_icmp_ge_f 23 rfl rfl (nI_ge (by omega) (by omega)) ?_
    refine pw_aload_n 24 rfl rfl rfl ?_
    refine pw_iload_n 25 rfl rfl rfl ?_
    refine pw_cV1 28 rfl rfl (by first | assumption | exact ⟨by decide, rfl⟩) rfl (Nat.le_of_ble_eq_true rfl) rfl rfl (Nat.le_of_ble_eq_true rfl) (c_Row_get hr0 hx hl (nI i) ?_)
    rw [gI_n (by omega)]
    refine pw_pI ?_
    refine pw_aload_n 29 rfl rfl rfl ?_
    refine pw_iload_n 30 rfl rfl rfl ?_
    refine pw_cV1 33 rfl rfl (by first | assumption | exact ⟨by decide, rfl⟩) rfl (Nat.le_of_ble_eq_true rfl) rfl rfl (Nat.le_of_ble_eq_true rfl) (c_Row_get hr02 hy hl2 (nI i) ?_)
    rw [gI_n (by omega)]
    refine pw_pI ?_
    skip
    refine pw_icmp_eq 38 36 rfl rfl rfl (fun h => ?_) (fun h => ?_)
    · first | refine pw_iincN2 41 rfl rfl rfl (by with_reducible rfl) ?_ | refine pw_iinc2 (w := _) 41 rfl rfl rfl rfl ?_
      refine pw_goto rfl 15 rfl ?_
      refine ih (i + 1) (by omega) (fun j hj => ?_)
      by_cases q : j = i
      · subst q; exact h
      · exact ha j (by omega)
    · rw [if_neg (fun q => h (by rw [q]))] at kk
      refine pw_iconst (v := nI 0) 37 rfl rfl (by decide) ?_
      exact pw_zret rfl rfl (by first | exact Or.inl rfl | exact Or.inr rfl | assumption) (kk)
theorem c_Row_isSame {k2 n2 : Nat} {ys : List Int32} (hr : isRow sh k n) (hx : rowIs M k xs) (hl : xs.length ≤ n) (hr2 : isRow sh k2 n2) (hy : rowIs M k2 ys) (hl2 : ys.length ≤ n2) (kk : Q (some (.int (if xs = ys then nI 1 else nI 0))) sh M N) : PW mX4_isSame 0 [.ref k, .ref k2, .null] [] sh M N Q := by
  have hr0 := hr
  have hr02 := hr2
  obtain ⟨h1, h2⟩ := hr
  obtain ⟨g1, g2⟩ := hr2
  have hn : n ≤ 1000 := h2.2.2
  have hn2 : n2 ≤ 1000 := g2.2.2
  refine pw_aload_n 1 rfl rfl rfl ?_
  refine pw_getI 4 rfl rfl (by first | assumption | exact ⟨by decide, rfl⟩) rfl ?_
  refine pw_aload_n 5 rfl rfl rfl ?_
  refine pw_cV0 8 rfl rfl (by first | assumption | exact ⟨by decide, rfl⟩) rfl (Nat.le_of_ble_eq_true rfl) rfl rfl (Nat.le_of_ble_eq_true rfl) (c_Row_size hr02 hy ?_)
  refine pw_pI ?_
  rw [hx.1]
  skip
  refine pw_icmp_eq 13 11 rfl rfl rfl (fun h => ?_) (fun h => ?_)
  · have he : xs.length = ys.length := (nI_eq (by omega) (by omega)).mp h
    refine pw_iconst (v := nI 0) 14 rfl rfl (by decide) ?_
    refine pw_istore2 15 rfl rfl rfl ?_
    exact same_loop hr0 hx hl hr02 hy hl2 he kk xs.length 0 (by omega) (fun j hj => absurd hj (Nat.not_lt_zero j))
  · rw [if_neg (fun q => h (by rw [q]))] at kk
    refine pw_iconst (v := nI 0) 12 rfl rfl (by decide) ?_
    exact pw_zret rfl rfl (by first | exact Or.inl rfl | exact Or.inr rfl | assumption) (kk)
/-- a Line: its two rows at k + 1 and k + 3 -/
def isLine (sh : pmS) (k n : Nat) : Prop := pmOb sh k 2 [some (some (k + 1)), some (some (k + 3))] ∧ isRow sh (k + 1) n ∧ isRow sh (k + 3) n
def lineIs (M : pmM) (k : Nat) (ls ss : List Int32) : Prop := rowIs M (k + 1) ls ∧ rowIs M (k + 3) ss
theorem lineIs.mv {M M' : pmM} {k a b : Nat} {ls ss : List Int32} (h : lineIs M k ls ss) (hf : fr a b M M') (hk : k + 5 ≤ a ∨ b ≤ k + 1) : lineIs M' k ls ss := ⟨h.1.mv hf (by omega), h.2.mv hf (by omega)⟩
variable {ls ss : List Int32}
theorem c_Line_size (hr : isLine sh k n) (hx : lineIs M k ls ss) (kk : Q (some (.int (nI ls.length))) sh M N) : PW mX2_size 0 [.ref k] [] sh M N Q := by
  obtain ⟨h1, h2, h3⟩ := hr
  have h2' := h2.1
  refine pw_aload_n 1 rfl rfl rfl ?_
  refine pw_getR 4 rfl rfl (by first | assumption | exact ⟨by decide, rfl⟩) rfl ?_
  refine pw_cV0 7 rfl rfl (by first | assumption | exact ⟨by decide, rfl⟩) rfl (Nat.le_of_ble_eq_true rfl) rfl rfl (Nat.le_of_ble_eq_true rfl) (c_Row_size h2 hx.1 ?_)
  refine pw_pI ?_
  skip
  exact pw_iret rfl rfl (kk)
theorem c_Line_clear (hr : isLine sh k n) (kk : ∀ M', fr (k + 1) (k + 5) M M' → lineIs M' k [] [] → Q none sh M' N) : PW mX2_clear 0 [.ref k] [] sh M N Q := by
  obtain ⟨h1, h2, h3⟩ := hr
  have h2' := h2.1
  have h3' := h3.1
  refine pw_aload_n 1 rfl rfl rfl ?_
  refine pw_getR 4 rfl rfl (by first | assumption | exact ⟨by decide, rfl⟩) rfl ?_
  refine pw_cV0 7 rfl rfl (by first | assumption | exact ⟨by decide, rfl⟩) rfl (Nat.le_of_ble_eq_true rfl) rfl rfl (Nat.le_of_ble_eq_true rfl) (c_Row_clear h2 (fun M1 f1 r1 => ?_))
  refine pw_pV ?_
  refine pw_aload_n 8 rfl rfl rfl ?_
  refine pw_getR 11 rfl rfl (by first | assumption | exact ⟨by decide, rfl⟩) rfl ?_
  refine pw_cV0 14 rfl rfl (by first | assumption | exact ⟨by decide, rfl⟩) rfl (Nat.le_of_ble_eq_true rfl) rfl rfl (Nat.le_of_ble_eq_true rfl) (c_Row_clear h3 (fun M2 f2 r2 => ?_))
  refine pw_pV ?_
  skip
  exact pw_vret rfl (kk M2 ((f1.wk (by omega) (by omega)).tr (f2.wk (by omega) (by omega))) ⟨r1.mv f2 (by omega), r2⟩)
theorem c_Line_add (hr : isLine sh k n) (hx : lineIs M k ls ss) (h1l : ls.length < n) (h2l : ss.length < n) (v w : Int32) (kk : ∀ M', fr (k + 1) (k + 5) M M' → lineIs M' k (ls ++ [v]) (ss ++ [w]) → Q none sh M' N) : PW mX2_add 0 [.ref k, .int v, .int w] [] sh M N Q := by
  obtain ⟨h1, h2, h3⟩ := hr
  have h2' := h2.1
  have h3' := h3.1
  refine pw_aload_n 1 rfl rfl rfl ?_
  refine pw_getR 4 rfl rfl (by first | assumption | exact ⟨by decide, rfl⟩) rfl ?_
  refine pw_iload_n 5 rfl rfl rfl ?_
  refine pw_cV1 8 rfl rfl (by first | assumption | exact ⟨by decide, rfl⟩) rfl (Nat.le_of_ble_eq_true rfl) rfl rfl (Nat.le_of_ble_eq_true rfl) (c_Row_add h2 hx.1 h1l v (fun M1 f1 r1 => ?_))
  refine pw_pI ?_
  refine pw_pop 9 rfl rfl rfl ?_
  refine pw_aload_n 10 rfl rfl rfl ?_
  refine pw_getR 13 rfl rfl (by first | assumption | exact ⟨by decide, rfl⟩) rfl ?_
  refine pw_iload_n 14 rfl rfl rfl ?_
  refine pw_cV1 17 rfl rfl (by first | assumption | exact ⟨by decide, rfl⟩) rfl (Nat.le_of_ble_eq_true rfl) rfl rfl (Nat.le_of_ble_eq_true rfl) (c_Row_add h3 (hx.2.mv f1 (by omega)) h2l w (fun M2 f2 r2 => ?_))
  refine pw_pI ?_
  refine pw_pop 18 rfl rfl rfl ?_
  exact pw_vret rfl (kk M2 ((f1.wk (by omega) (by omega)).tr (f2.wk (by omega) (by omega))) ⟨r1.mv f2 (by omega), r2⟩)
theorem c_Line_takeFrom {k2 n2 : Nat} (hr : isLine sh k n) (hr2 : isLine sh k2 n2) (hx : lineIs M k2 ls ss) (hd : k + 5 ≤ k2 + 1 ∨ k2 + 5 ≤ k + 1) (a1 : ls.length ≤ n) (a2 : ls.length ≤ n2) (a3 : ss.length ≤ n) (a4 : ss.length ≤ n2) (kk : ∀ M', fr (k + 1) (k + 5) M M' → lineIs M' k ls ss → Q none sh M' N) : PW mX2_takeFrom 0 [.ref k, .ref k2] [] sh M N Q := by
  obtain ⟨h1, h2, h3⟩ := hr
  obtain ⟨g1, g2, g3⟩ := hr2
  have h2' := h2.1
  have h3' := h3.1
  refine pw_aload_n 1 rfl rfl rfl ?_
  refine pw_getR 4 rfl rfl (by first | assumption | exact ⟨by decide, rfl⟩) rfl ?_
  refine pw_aload_n 5 rfl rfl rfl ?_
  refine pw_getR 8 rfl rfl (by first | assumption | exact ⟨by decide, rfl⟩) rfl ?_
  refine pw_cV1 11 rfl rfl (by first | assumption | exact ⟨by decide, rfl⟩) rfl (Nat.le_of_ble_eq_true rfl) rfl rfl (Nat.le_of_ble_eq_true rfl) (c_Row_takeFrom h2 g2 hx.1 a1 a2 (fun M1 f1 r1 => ?_))
  refine pw_pV ?_
  refine pw_aload_n 12 rfl rfl rfl ?_
  refine pw_getR 15 rfl rfl (by first | assumption | exact ⟨by decide, rfl⟩) rfl ?_
  refine pw_aload_n 16 rfl rfl rfl ?_
  refine pw_getR 19 rfl rfl (by first | assumption | exact ⟨by decide, rfl⟩) rfl ?_
  refine pw_cV1 22 rfl rfl (by first | assumption | exact ⟨by decide, rfl⟩) rfl (Nat.le_of_ble_eq_true rfl) rfl rfl (Nat.le_of_ble_eq_true rfl) (c_Row_takeFrom h3 g3 (hx.2.mv f1 (by omega)) a3 a4 (fun M2 f2 r2 => ?_))
  refine pw_pV ?_
  skip
  exact pw_vret rfl (kk M2 ((f1.wk (by omega) (by omega)).tr (f2.wk (by omega) (by omega))) ⟨r1.mv f2 (by omega), r2⟩)
/-- a Moment: its line at k + 1, which rules are on in its field 1 -/
def isMom (sh : pmS) (k : Nat) : Prop := pmOb sh k 3 [some (some (k + 1)), none] ∧ isLine sh (k + 1) 60
def momIs (M : pmM) (k : Nat) (ls ss : List Int32) (on : Nat) : Prop := lineIs M (k + 1) ls ss ∧ M k 1 = nI on ∧ ls.length ≤ 60 ∧ ss.length = ls.length
theorem momIs.mv {M M' : pmM} {k a b on : Nat} {ls ss : List Int32} (h : momIs M k ls ss on) (hf : fr a b M M') (hk : k + 6 ≤ a ∨ b ≤ k) : momIs M' k ls ss on := ⟨h.1.mv hf (by omega), by rw [hf k (by omega)]; exact h.2.1, h.2.2⟩
theorem c_Mom_takeFrom {k2 on : Nat} (hr : isMom sh k) (hr2 : isMom sh k2) (hx : momIs M k2 ls ss on) (hd : k + 6 ≤ k2 ∨ k2 + 6 ≤ k) (kk : ∀ M', fr k (k + 6) M M' → momIs M' k ls ss on → Q none sh M' N) : PW mX3_takeFrom 0 [.ref k, .ref k2] [] sh M N Q := by
  obtain ⟨h1, h2⟩ := hr
  obtain ⟨g1, g2⟩ := hr2
  obtain ⟨x1, x2, x3, x4⟩ := hx
  have h2' := h2.1
  refine pw_aload_n 1 rfl rfl rfl ?_
  refine pw_getR 4 rfl rfl (by first | assumption | exact ⟨by decide, rfl⟩) rfl ?_
  refine pw_aload_n 5 rfl rfl rfl ?_
  refine pw_getR 8 rfl rfl (by first | assumption | exact ⟨by decide, rfl⟩) rfl ?_
  refine pw_cV1 11 rfl rfl (by first | assumption | exact ⟨by decide, rfl⟩) rfl (Nat.le_of_ble_eq_true rfl) rfl rfl (Nat.le_of_ble_eq_true rfl) (c_Line_takeFrom h2 g2 x1 (by omega) (by omega) (by omega) (by omega) (by omega) (fun M1 f1 r1 => ?_))
  refine pw_pV ?_
  refine pw_aload_n 12 rfl rfl rfl ?_
  refine pw_aload_n 13 rfl rfl rfl ?_
  refine pw_getI 16 rfl rfl (by first | assumption | exact ⟨by decide, rfl⟩) rfl ?_
  refine pw_putI 19 rfl rfl (by first | assumption | exact ⟨by decide, rfl⟩) rfl (by decide) ?_
  rw [f1 k2 (by omega), x2]
  refine pw_vret rfl (kk _ (fun x h => ?_) ⟨r1.mv (fr_st M1 1 _ (Nat.le_refl k) (Nat.lt_succ_self k)) (by omega), st_same _ _ _ _, x3, x4⟩)
  rw [st_ne _ _ _ _ (by omega)]
  exact f1 x (by omega)
end LIN
end
section
/-! helpers: the class's static methods, the JDK's -/
def wl (x : Int32) : Bool := decide (nI 97 ≤ x) && decide (x ≤ nI 122)
def ltr (x : Int32) : Bool := wl x || decide (x = nI 95)
def osrt (kd so : Nat) : Bool := decide (so = 0) || (decide (so = 1) && (decide (kd = 1) || decide (kd = 3))) || (decide (so = 2) && (decide (kd = 2) || decide (kd = 4)))
/-- floorMod by 8 -/
def fmd8 (z : Int32) : Int32 := if (z ^^^ nI 8) < 0 then (if z - z / nI 8 * nI 8 = 0 then z - z / nI 8 * nI 8 else z - z / nI 8 * nI 8 + nI 8) else z - z / nI 8 * nI 8
theorem fmd8_sub : ∀ a, a < 10 → ∀ b, b < 10 → fmd8 (nI a - nI b) = nI ((a + 16 - b) % 8) := by decide +kernel
theorem fmd8_n : ∀ a, a < 20 → fmd8 (nI a) = nI (a % 8) := by decide +kernel
def pop (s : Nat) : Nat := ((List.range 10).filter fun i => s.testBit i).length
def bcE1 (x : Int32) : Int32 := x - ((x.toUInt32 >>> ((nI 1).toUInt32 &&& Int32.toUInt32 31)).toInt32 &&& nI 1431655765)
def bcE2 (x : Int32) : Int32 := (x &&& nI 858993459) + ((x.toUInt32 >>> ((nI 2).toUInt32 &&& Int32.toUInt32 31)).toInt32 &&& nI 858993459)
def bcE3 (x : Int32) : Int32 := (x + (x.toUInt32 >>> ((nI 4).toUInt32 &&& Int32.toUInt32 31)).toInt32) &&& nI 252645135
def bcE4 (x : Int32) : Int32 := x + (x.toUInt32 >>> ((nI 8).toUInt32 &&& Int32.toUInt32 31)).toInt32
def bcE5 (x : Int32) : Int32 := (x + (x.toUInt32 >>> ((nI 16).toUInt32 &&& Int32.toUInt32 31)).toInt32) &&& nI 63
theorem bc_pop : ∀ s, s < 1024 → bcE5 (bcE4 (bcE3 (bcE2 (bcE1 (nI s))))) = nI (pop s) := by decide +kernel
section HLP
variable {sh : pmS} {M : pmM} {N : pmN} {Q : pmPost}
theorem c_isWithin {x : Int32} {b : Nat} (hb : b < 2 ^ 31) (ky : ∀ j, j < b → x = nI j → Q (some (.int (nI 1))) sh M N) (kn : (∀ j, j < b → x ≠ nI j) → Q (some (.int (nI 0))) sh M N) : PW mX10_isWithin 0 [.int x, .int (nI b)] [] sh M N Q := by
  refine pw_iload_n 1 rfl rfl rfl ?_
  refine pw_if_lt 13 4 rfl rfl rfl (fun h => ?_) (fun h => ?_)
  · refine pw_iconst (v := nI 0) 14 rfl rfl (by decide) ?_
    exact pw_zret rfl rfl (by first | exact Or.inl rfl | exact Or.inr rfl | assumption) (kn (fun j hj e => nI_pos (n := j) (by omega) (by rw [e] at h; exact h)))
  · obtain ⟨j, hj, rfl⟩ := nI_of h
    refine pw_iload_n 5 rfl rfl rfl ?_
    refine pw_iload_n 6 rfl rfl rfl ?_
    refine pw_icmp_ge 13 9 rfl rfl rfl (fun h2 => ?_) (fun h2 => ?_)
    · refine pw_iconst (v := nI 0) 14 rfl rfl (by decide) ?_
      exact pw_zret rfl rfl (by first | exact Or.inl rfl | exact Or.inr rfl | assumption) (kn (fun i hi e => by have := (nI_leI hb hj).mp h2; have := (nI_eq hj (by omega)).mp e; omega))
    · refine pw_iconst (v := nI 1) 10 rfl rfl (by decide) ?_
      refine pw_goto rfl 14 rfl ?_
      exact pw_zret rfl rfl (by first | exact Or.inl rfl | exact Or.inr rfl | assumption) (ky j (by rcases Nat.lt_or_ge j b with q | q; exact q; exact absurd ((nI_leI hb hj).mpr q) h2) rfl)
theorem c_isLaneOfSheet {s l : Int32} (ky : ∀ i j, i < 4 → j < 4 → s = nI i → l = nI j → Q (some (.int (nI 1))) sh M N) (kn : ((∀ i, i < 4 → s ≠ nI i) ∨ (∀ i, i < 4 → l ≠ nI i)) → Q (some (.int (nI 0))) sh M N) : PW mX10_isLaneOfSheet 0 [.int s, .int l] [] sh M N Q := by
  refine pw_iload_n 1 rfl rfl rfl ?_
  refine pw_iconst (v := nI 4) 2 rfl rfl (by decide) ?_
  refine pw_cS2 5 rfl rfl rfl (Nat.le_of_ble_eq_true rfl) rfl rfl (Nat.le_of_ble_eq_true rfl) (c_isWithin (by decide) (fun i hi e => ?_) (fun h => ?_))
  · refine pw_pI ?_
    skip
    refine pw_if_eq_f 8 rfl rfl (by decide) ?_
    refine pw_iload_n 9 rfl rfl rfl ?_
    refine pw_iconst (v := nI 4) 10 rfl rfl (by decide) ?_
    refine pw_cS2 13 rfl rfl rfl (Nat.le_of_ble_eq_true rfl) rfl rfl (Nat.le_of_ble_eq_true rfl) (c_isWithin (by decide) (fun j hj e2 => ?_) (fun h => ?_))
    · refine pw_pI ?_
      skip
      refine pw_if_eq_f 16 rfl rfl (by decide) ?_
      refine pw_iconst (v := nI 1) 17 rfl rfl (by decide) ?_
      refine pw_goto rfl 21 rfl ?_
      exact pw_zret rfl rfl (by first | exact Or.inl rfl | exact Or.inr rfl | assumption) (ky i j hi hj e e2)
    · refine pw_pI ?_
      skip
      refine pw_if_eq_t 20 rfl rfl (by decide) ?_
      refine pw_iconst (v := nI 0) 21 rfl rfl (by decide) ?_
      exact pw_zret rfl rfl (by first | exact Or.inl rfl | exact Or.inr rfl | assumption) (kn (Or.inr h))
  · refine pw_pI ?_
    skip
    refine pw_if_eq_t 20 rfl rfl (by decide) ?_
    refine pw_iconst (v := nI 0) 21 rfl rfl (by decide) ?_
    exact pw_zret rfl rfl (by first | exact Or.inl rfl | exact Or.inr rfl | assumption) (kn (Or.inl h))
theorem c_isWordLetter {x : Int32} (ky : wl x = true → Q (some (.int (nI 1))) sh M N) (kn : wl x = false → Q (some (.int (nI 0))) sh M N) : PW mX10_isWordLetter 0 [.int x] [] sh M N Q := by
  refine pw_iload_n 1 rfl rfl rfl ?_
  refine pw_bipush (v := nI 97) 3 rfl rfl (by decide) ?_
  refine pw_icmp_lt 16 6 rfl rfl rfl (fun h => ?_) (fun h => ?_)
  · refine pw_iconst (v := nI 0) 17 rfl rfl (by decide) ?_
    exact pw_zret rfl rfl (by first | exact Or.inl rfl | exact Or.inr rfl | assumption) (kn (by unfold wl; rw [decide_eq_false (Int32.not_le.mpr h)]; rfl))
  · have h := Int32.not_lt.mp h
    refine pw_iload_n 7 rfl rfl rfl ?_
    refine pw_bipush (v := nI 122) 9 rfl rfl (by decide) ?_
    refine pw_icmp_gt 16 12 rfl rfl rfl (fun h2 => ?_) (fun h2 => ?_)
    · refine pw_iconst (v := nI 0) 17 rfl rfl (by decide) ?_
      exact pw_zret rfl rfl (by first | exact Or.inl rfl | exact Or.inr rfl | assumption) (kn (by unfold wl; rw [decide_eq_false (Int32.not_le.mpr h2), Bool.and_false]))
    · refine pw_iconst (v := nI 1) 13 rfl rfl (by decide) ?_
      refine pw_goto rfl 17 rfl ?_
      exact pw_zret rfl rfl (by first | exact Or.inl rfl | exact Or.inr rfl | assumption) (ky (by unfold wl; rw [decide_eq_true h, decide_eq_true (Int32.not_lt.mp h2)]; rfl))
theorem c_isLetter {x : Int32} (ky : ltr x = true → Q (some (.int (nI 1))) sh M N) (kn : ltr x = false → Q (some (.int (nI 0))) sh M N) : PW mX10_isLetter 0 [.int x] [] sh M N Q := by
  refine pw_iload_n 1 rfl rfl rfl ?_
  refine pw_cS1 4 rfl rfl rfl (Nat.le_of_ble_eq_true rfl) rfl rfl (Nat.le_of_ble_eq_true rfl) (c_isWordLetter (fun h => ?_) (fun h => ?_))
  · refine pw_pI ?_
    skip
    refine pw_if_ne_t 13 rfl rfl (by decide) ?_
    refine pw_iconst (v := nI 1) 14 rfl rfl (by decide) ?_
    refine pw_goto rfl 18 rfl ?_
    exact pw_zret rfl rfl (by first | exact Or.inl rfl | exact Or.inr rfl | assumption) (ky (by unfold ltr; rw [h]; rfl))
  · refine pw_pI ?_
    skip
    refine pw_if_ne_f 7 rfl rfl (by decide) ?_
    refine pw_iload_n 8 rfl rfl rfl ?_
    refine pw_bipush (v := nI 95) 10 rfl rfl (by decide) ?_
    refine pw_icmp_ne 17 13 rfl rfl rfl (fun h2 => ?_) (fun h2 => ?_)
    · refine pw_iconst (v := nI 0) 18 rfl rfl (by decide) ?_
      exact pw_zret rfl rfl (by first | exact Or.inl rfl | exact Or.inr rfl | assumption) (kn (by unfold ltr; rw [h, decide_eq_false h2]; rfl))
    · refine pw_iconst (v := nI 1) 14 rfl rfl (by decide) ?_
      refine pw_goto rfl 18 rfl ?_
      exact pw_zret rfl rfl (by first | exact Or.inl rfl | exact Or.inr rfl | assumption) (ky (by unfold ltr; rw [decide_eq_true (Classical.not_not.mp h2), Bool.or_true]))
theorem c_isOfSort {kd so : Nat} (hk : kd < 5) (hs : so < 3) (kk : Q (some (.int (if osrt kd so then nI 1 else nI 0))) sh M N) : PW mX10_isOfSort 0 [.int (nI kd), .int (nI so)] [] sh M N Q := by
  have cmp : ∀ z, z < 5 → (nI kd = nI z ↔ kd = z) := fun z hz => nI_eq (by omega) (by omega)
  refine pw_iload_n 1 rfl rfl rfl ?_
  rcases (show so = 0 ∨ so = 1 ∨ so = 2 by omega) with rfl | rfl | rfl
  · refine pw_tsw 28 rfl (by decide) ?_
    refine pw_iconst (v := nI 1) 29 rfl rfl (by decide) ?_
    exact pw_zret rfl rfl (by first | exact Or.inl rfl | exact Or.inr rfl | assumption) (by simpa [osrt] using kk)
  · skip
    refine pw_tsw 30 rfl (by decide) ?_
    refine pw_iload_n 31 rfl rfl rfl ?_
    refine pw_iconst (v := nI 1) 32 rfl rfl (by decide) ?_
    refine pw_icmp_eq 40 35 rfl rfl rfl (fun h => ?_) (fun h => ?_)
    · rw [cmp 1 (by decide)] at h
      refine pw_iconst (v := nI 1) 41 rfl rfl (by decide) ?_
      refine pw_goto rfl 45 rfl ?_
      exact pw_zret rfl rfl (by first | exact Or.inl rfl | exact Or.inr rfl | assumption) (by simpa [osrt, h] using kk)
    · rw [cmp 1 (by decide)] at h
      refine pw_iload_n 36 rfl rfl rfl ?_
      refine pw_iconst (v := nI 3) 37 rfl rfl (by decide) ?_
      refine pw_icmp_ne 44 40 rfl rfl rfl (fun h2 => ?_) (fun h2 => ?_)
      · rw [cmp 3 (by decide)] at h2
        refine pw_iconst (v := nI 0) 45 rfl rfl (by decide) ?_
        exact pw_zret rfl rfl (by first | exact Or.inl rfl | exact Or.inr rfl | assumption) (by simpa [osrt, h, h2] using kk)
      · rw [cmp 3 (by decide)] at h2
        refine pw_iconst (v := nI 1) 41 rfl rfl (by decide) ?_
        refine pw_goto rfl 45 rfl ?_
        exact pw_zret rfl rfl (by first | exact Or.inl rfl | exact Or.inr rfl | assumption) (by simpa [osrt, h, Classical.not_not.mp h2] using kk)
  · skip
    refine pw_tsw 46 rfl (by decide) ?_
    refine pw_iload_n 47 rfl rfl rfl ?_
    refine pw_iconst (v := nI 2) 48 rfl rfl (by decide) ?_
    refine pw_icmp_eq 56 51 rfl rfl rfl (fun h => ?_) (fun h => ?_)
    · rw [cmp 2 (by decide)] at h
      refine pw_iconst (v := nI 1) 57 rfl rfl (by decide) ?_
      refine pw_goto rfl 61 rfl ?_
      exact pw_zret rfl rfl (by first | exact Or.inl rfl | exact Or.inr rfl | assumption) (by simpa [osrt, h] using kk)
    · rw [cmp 2 (by decide)] at h
      refine pw_iload_n 52 rfl rfl rfl ?_
      refine pw_iconst (v := nI 4) 53 rfl rfl (by decide) ?_
      refine pw_icmp_ne 60 56 rfl rfl rfl (fun h2 => ?_) (fun h2 => ?_)
      · rw [cmp 4 (by decide)] at h2
        refine pw_iconst (v := nI 0) 61 rfl rfl (by decide) ?_
        exact pw_zret rfl rfl (by first | exact Or.inl rfl | exact Or.inr rfl | assumption) (by simpa [osrt, h, h2] using kk)
      · rw [cmp 4 (by decide)] at h2
        refine pw_iconst (v := nI 1) 57 rfl rfl (by decide) ?_
        refine pw_goto rfl 61 rfl ?_
        exact pw_zret rfl rfl (by first | exact Or.inl rfl | exact Or.inr rfl | assumption) (by simpa [osrt, h, Classical.not_not.mp h2] using kk)
theorem power_loop {bs ex : Nat} (he : ex < 2 ^ 31) (kk : Q (some (.long (lN (bs ^ ex)))) sh M N) : ∀ (d i p : Nat), i + d = ex → p = bs ^ i → PW mX10_power 5 [.long (lN bs), .null, .int (nI ex), .long (lN p), .null, .int (nI i)] [] sh M N Q := by
  intro d
  induction d with
  | zero =>
    intro i p hi hp
    have : i = ex := by omega
    subst this; subst hp
    refine pw_iload 7 rfl rfl rfl ?_
    refine pw_iload_n 8 rfl rfl rfl ?_
    refine pw_icmp_ge_t 21 rfl rfl (nI_le (Nat.le_refl _) he) ?_
    refine pw_lload_n 22 rfl rfl rfl ?_
    exact pw_lret rfl (kk)
  | succ d ih =>
    intro i p hi hp
    refine pw_iload 7 rfl rfl rfl ?_
    refine pw_iload_n 8 rfl rfl rfl ?_
    refine pw_icmp_ge_f 11 rfl rfl (nI_ge (by omega) he) ?_
    refine pw_lload_n 12 rfl rfl rfl ?_
    refine pw_lload_n 13 rfl rfl rfl ?_
    refine pw_lmul 14 rfl rfl ?_
    rw [lN_mul]
    refine pw_lstore3 15 rfl rfl rfl ?_
    first | refine pw_iincN5 18 rfl rfl rfl (by with_reducible rfl) ?_ | refine pw_iinc5 (w := _) 18 rfl rfl rfl rfl ?_
    refine pw_goto rfl 5 rfl ?_
    exact ih (i + 1) _ (by omega) (by rw [hp, Nat.pow_succ])
theorem c_power {bs ex : Nat} (he : ex < 2 ^ 31) (kk : Q (some (.long (lN (bs ^ ex)))) sh M N) : PW mX10_power 0 [.long (lN bs), .null, .int (nI ex), .null, .null, .null] [] sh M N Q := by
  refine pw_lconst (v := lN 1) 1 rfl rfl (by decide) ?_
  refine pw_lstore3 2 rfl rfl rfl ?_
  refine pw_iconst (v := nI 0) 3 rfl rfl (by decide) ?_
  refine pw_istore5 5 rfl rfl rfl ?_
  exact power_loop he kk ex 0 1 (by omega) rfl
theorem lg_cmp0 {b : Nat} (hb : b < 2 ^ 63) : lg_cmp (lN b) (lN 0) = 0 ↔ b = 0 := by
  unfold lg_cmp
  have h1 : lN 0 < lN b ↔ 0 < b := pk_lLT (by decide) hb
  have h2 : lN b = lN 0 ↔ b = 0 := pk_lEQ hb (by decide)
  by_cases h : b = 0
  · subst h; simp [Int64.lt_irrefl]
  · have h3 : lN 0 < lN b := h1.mpr (by omega)
    simp [h3, h]
theorem gcd_loop (sh : pmS) (M : pmM) (N : pmN) (Q : pmPost) (x0 x1 : Int64) : ∀ (f a b i : Nat) (v9 : Value), pmIsL v9 = pmIsL v9 → a < 2 ^ 63 → b < 2 ^ 63 → b < 2 ^ f → i + 2 * f < 200 → Q (some (.long (lN (Nat.gcd b a)))) sh M N → PW mX10_commonDivisor 9 [.long x0, .null, .long x1, .null, .long (lN a), .null, .long (lN b), .null, .int (nI i), v9, .null] [] sh M N Q := by
  intro f
  have out : ∀ (a b i : Nat) (v9 : Value), i < 200 → b = 0 → a < 2 ^ 63 → Q (some (.long (lN (Nat.gcd b a)))) sh M N → PW mX10_commonDivisor 9 [.long x0, .null, .long x1, .null, .long (lN a), .null, .long (lN b), .null, .int (nI i), v9, .null] [] sh M N Q := by
    intro a b i v9 hi hb ha kk
    subst hb
    rw [Nat.gcd_zero_left] at kk
    refine pw_iload 11 rfl rfl rfl ?_
    refine pw_sipush (v := nI 200) 14 rfl rfl (by decide) ?_
    refine pw_icmp_ge_f 17 rfl rfl (nI_ge (by omega) (by omega)) ?_
    refine pw_lload 19 rfl rfl rfl ?_
    refine pw_lconst (v := lN 0) 20 rfl rfl (by decide) ?_
    refine pw_lcmp 21 rfl rfl ?_
    refine pw_if_eq_t 45 rfl rfl ((lg_cmp0 (by decide)).mpr rfl) ?_
    refine pw_lload 47 rfl rfl rfl ?_
    exact pw_lret rfl (kk)
  have stp : ∀ (a b i : Nat) (v9 : Value), i < 200 → 0 < b → a < 2 ^ 63 → b < 2 ^ 63 → (PW mX10_commonDivisor 9 [.long x0, .null, .long x1, .null, .long (lN b), .null, .long (lN (a % b)), .null, .int (nI (i + 1)), .long (lN (a % b)), .null] [] sh M N Q) → PW mX10_commonDivisor 9 [.long x0, .null, .long x1, .null, .long (lN a), .null, .long (lN b), .null, .int (nI i), v9, .null] [] sh M N Q := by
    intro a b i v9 hi hb ha hb2 kk
    refine pw_iload 11 rfl rfl rfl ?_
    refine pw_sipush (v := nI 200) 14 rfl rfl (by decide) ?_
    refine pw_icmp_ge_f 17 rfl rfl (nI_ge (by omega) (by omega)) ?_
    refine pw_lload 19 rfl rfl rfl ?_
    refine pw_lconst (v := lN 0) 20 rfl rfl (by decide) ?_
    refine pw_lcmp 21 rfl rfl ?_
    refine pw_if_eq_f 24 rfl rfl (fun q => by have := (lg_cmp0 hb2).mp q; omega) ?_
    refine pw_lload 26 rfl rfl rfl ?_
    refine pw_lload 28 rfl rfl rfl ?_
    refine pw_lrem 29 rfl rfl (fun q => ?_) ?_
    · have := (pk_lEQ hb2 (by decide : (0 : Nat) < 2 ^ 63)).mp q; omega
    rw [pk_lRem ha hb hb2]
    refine pw_lstore9 31 rfl rfl rfl ?_
    refine pw_lload 33 rfl rfl rfl ?_
    refine pw_lstore4 35 rfl rfl rfl ?_
    refine pw_lload 37 rfl rfl rfl ?_
    refine pw_lstore6 39 rfl rfl rfl ?_
    first | refine pw_iincN8 42 rfl rfl rfl (by with_reducible rfl) ?_ | refine pw_iinc8 (w := _) 42 rfl rfl rfl rfl ?_
    refine pw_goto rfl 9 rfl ?_
    exact kk
  induction f with
  | zero =>
    intro a b i v9 _ ha hb hf hi kk
    exact out a b i v9 (by omega) (by omega) ha kk
  | succ f ih =>
    intro a b i v9 _ ha hb hf hi kk
    by_cases h0 : b = 0
    · exact out a b i v9 (by omega) h0 ha kk
    · refine stp a b i v9 (by omega) (by omega) ha hb ?_
      have hr : a % b < b := Nat.mod_lt a (by omega)
      have e1 : Nat.gcd b a = Nat.gcd (a % b) b := Nat.gcd_rec b a
      rw [e1] at kk
      by_cases h1 : a % b = 0
      · exact out b (a % b) (i + 1) _ (by omega) h1 hb kk
      · refine stp b (a % b) (i + 1) _ (by omega) (by omega) hb (by omega) ?_
        have e2 : Nat.gcd (a % b) b = Nat.gcd (b % (a % b)) (a % b) := Nat.gcd_rec (a % b) b
        rw [e2] at kk
        have hh : b % (a % b) < 2 ^ f := by
          have h2 : b % (a % b) < a % b := Nat.mod_lt b (by omega)
          have h3 : b % (a % b) + a % b ≤ b := by
            have h4 := Nat.div_add_mod b (a % b)
            have h5 : 1 ≤ b / (a % b) := Nat.div_pos (by omega) (by omega)
            have h6 : a % b * 1 ≤ a % b * (b / (a % b)) := Nat.mul_le_mul_left _ h5
            omega
          rw [Nat.pow_succ] at hf
          omega
        exact ih (a % b) (b % (a % b)) (i + 1 + 1) _ rfl (by omega) (Nat.lt_trans (Nat.mod_lt b (by omega)) (by omega)) hh (by omega) kk
theorem c_commonDivisor {a b : Nat} (ha : a < 2 ^ 63) (hb : b < 2 ^ 63) (hf : b < 2 ^ 40) (kk : Q (some (.long (lN (Nat.gcd b a)))) sh M N) : PW mX10_commonDivisor 0 [.long (lN a), .null, .long (lN b), .null, .null, .null, .null, .null, .null, .null, .null] [] sh M N Q := by
  refine pw_lload_n 1 rfl rfl rfl ?_
  refine pw_lstore4 3 rfl rfl rfl ?_
  refine pw_lload_n 4 rfl rfl rfl ?_
  refine pw_lstore6 6 rfl rfl rfl ?_
  refine pw_iconst (v := nI 0) 7 rfl rfl (by decide) ?_
  refine pw_istore8 9 rfl rfl rfl ?_
  exact gcd_loop sh M N Q (lN a) (lN b) 40 a b 0 .null rfl ha hb hf (by decide) kk
theorem c_floorMod8 {z : Int32} (kk : Q (some (.int (fmd8 z))) sh M N) : PW mJ9_floorMod_7cf53 0 [.int z, .int (nI 8), .null] [] sh M N Q := by
  unfold fmd8 at kk
  refine pw_iload_n 1 rfl rfl rfl ?_
  refine pw_iload_n 2 rfl rfl rfl ?_
  refine pw_irem 3 rfl rfl (by decide) ?_
  refine pw_istore2 4 rfl rfl rfl ?_
  refine pw_iload_n 5 rfl rfl rfl ?_
  refine pw_iload_n 6 rfl rfl rfl ?_
  refine pw_ixor 7 rfl rfl ?_
  refine pw_if_ge 18 10 rfl rfl rfl (fun h => ?_) (fun h => ?_)
  · rw [if_neg (Int32.not_lt.mpr h)] at kk
    refine pw_iload_n 19 rfl rfl rfl ?_
    exact pw_iret rfl rfl (kk)
  · rw [if_pos (Int32.not_le.mp h)] at kk
    refine pw_iload_n 11 rfl rfl rfl ?_
    refine pw_if_eq 18 14 rfl rfl rfl (fun h2 => ?_) (fun h2 => ?_)
    · rw [if_pos h2] at kk
      refine pw_iload_n 19 rfl rfl rfl ?_
      exact pw_iret rfl rfl (kk)
    · rw [if_neg h2] at kk
      refine pw_iload_n 15 rfl rfl rfl ?_
      refine pw_iload_n 16 rfl rfl rfl ?_
      first | refine pw_iaddN 17 rfl rfl (by with_reducible rfl) (by with_reducible rfl) ?_ | refine pw_iadd 17 rfl rfl ?_
      exact pw_iret rfl rfl (kk)
theorem c_bitCount {s : Nat} (hs : s < 1024) (kk : Q (some (.int (nI (pop s)))) sh M N) : PW mJ6_bitCount_0f7a4 0 [.int (nI s)] [] sh M N Q := by
  rw [← bc_pop s hs] at kk
  refine pw_iload_n 1 rfl rfl rfl ?_
  refine pw_iload_n 2 rfl rfl rfl ?_
  refine pw_iconst (v := nI 1) 3 rfl rfl (by decide) ?_
  refine pw_iushr 4 rfl rfl ?_
  refine pw_ldc_w 7 rfl rfl ?_
  refine pw_iand 8 rfl rfl ?_
  first | refine pw_isubN 9 rfl rfl (by with_reducible rfl) (by with_reducible rfl) (by omega) ?_ | refine pw_isub 9 rfl rfl ?_
  refine pw_istore0 10 rfl rfl ?_
  refine pw_iload_n 11 rfl rfl rfl ?_
  refine pw_ldc_w 14 rfl rfl ?_
  refine pw_iand 15 rfl rfl ?_
  refine pw_iload_n 16 rfl rfl rfl ?_
  refine pw_iconst (v := nI 2) 17 rfl rfl (by decide) ?_
  refine pw_iushr 18 rfl rfl ?_
  refine pw_ldc_w 21 rfl rfl ?_
  refine pw_iand 22 rfl rfl ?_
  first | refine pw_iaddN 23 rfl rfl (by with_reducible rfl) (by with_reducible rfl) ?_ | refine pw_iadd 23 rfl rfl ?_
  refine pw_istore0 24 rfl rfl ?_
  refine pw_iload_n 25 rfl rfl rfl ?_
  refine pw_iload_n 26 rfl rfl rfl ?_
  refine pw_iconst (v := nI 4) 27 rfl rfl (by decide) ?_
  refine pw_iushr 28 rfl rfl ?_
  first | refine pw_iaddN 29 rfl rfl (by with_reducible rfl) (by with_reducible rfl) ?_ | refine pw_iadd 29 rfl rfl ?_
  refine pw_ldc_w 32 rfl rfl ?_
  refine pw_iand 33 rfl rfl ?_
  refine pw_istore0 34 rfl rfl ?_
  refine pw_iload_n 35 rfl rfl rfl ?_
  refine pw_iload_n 36 rfl rfl rfl ?_
  refine pw_bipush (v := nI 8) 38 rfl rfl (by decide) ?_
  refine pw_iushr 39 rfl rfl ?_
  first | refine pw_iaddN 40 rfl rfl (by with_reducible rfl) (by with_reducible rfl) ?_ | refine pw_iadd 40 rfl rfl ?_
  refine pw_istore0 41 rfl rfl ?_
  refine pw_iload_n 42 rfl rfl rfl ?_
  refine pw_iload_n 43 rfl rfl rfl ?_
  refine pw_bipush (v := nI 16) 45 rfl rfl (by decide) ?_
  refine pw_iushr 46 rfl rfl ?_
  first | refine pw_iaddN 47 rfl rfl (by with_reducible rfl) (by with_reducible rfl) ?_ | refine pw_iadd 47 rfl rfl ?_
  refine pw_istore0 48 rfl rfl ?_
  refine pw_iload_n 49 rfl rfl rfl ?_
  refine pw_bipush (v := nI 63) 51 rfl rfl (by decide) ?_
  refine pw_iand 52 rfl rfl ?_
  exact pw_iret rfl rfl (kk)
theorem lfill_loop {k n : Nat} {v : Int64} (ha : pmAy sh k 1 n []) (kk : Q none sh M (va_up N k (fun j => if j < n then v else N k j))) : ∀ (d i : Nat) (N1 : pmN), i + d = n → N1 = va_up N k (fun j => if j < i then v else N k j) → PW mJ7_fill_d0a16 6 [.ref k, .long v, .null, .int (nI i), .int (nI n)] [] sh M N1 Q := by
  have hn : n ≤ 1000 := ha.2.2
  intro d
  induction d with
  | zero =>
    intro i N1 hi hN
    have : i = n := by omega
    subst this; subst hN
    refine pw_iload_n 7 rfl rfl rfl ?_
    refine pw_iload 9 rfl rfl rfl ?_
    refine pw_icmp_ge_t 22 rfl rfl (nI_le (Nat.le_refl _) (by omega)) ?_
    skip
    exact pw_vret rfl (kk)
  | succ d ih =>
    intro i N1 hi hN
    refine pw_iload_n 7 rfl rfl rfl ?_
    refine pw_iload 9 rfl rfl rfl ?_
    refine pw_icmp_ge_f 12 rfl rfl (nI_ge (by omega) (by omega)) ?_
    have hlt : i < n := by omega
    refine pw_aload_n 13 rfl rfl rfl ?_
    refine pw_iload_n 14 rfl rfl rfl ?_
    refine pw_lload_n 15 rfl rfl rfl ?_
    refine pw_last _ 16 rfl rfl (by first | assumption | exact ⟨by decide, rfl, by decide⟩) (by with_reducible rfl) (by first | assumption | omega) ?_
    first | refine pw_iincN3 19 rfl rfl rfl (by with_reducible rfl) ?_ | refine pw_iinc3 (w := _) 19 rfl rfl rfl rfl ?_
    refine pw_goto rfl 6 rfl ?_
    refine ih (i + 1) _ (by omega) ?_
    subst hN
    funext x
    by_cases hx : x = k
    · subst hx
      simp only [pmStL, va_up_self]
      funext j
      unfold vp_updL
      by_cases hj : j = i
      · rw [if_pos hj, if_pos (by omega)]
      · rw [if_neg hj]
        show (if j < i then v else N x j) = _
        by_cases h3 : j < i
        · rw [if_pos h3, if_pos (by omega)]
        · rw [if_neg h3, if_neg (by omega)]
    · simp only [pmStL, va_up_ne _ _ hx]
theorem c_lfill {k n : Nat} {v : Int64} (ha : pmAy sh k 1 n []) (kk : Q none sh M (va_up N k (fun j => if j < n then v else N k j))) : PW mJ7_fill_d0a16 0 [.ref k, .long v, .null, .null, .null] [] sh M N Q := by
  refine pw_iconst (v := nI 0) 1 rfl rfl (by decide) ?_
  refine pw_istore3 2 rfl rfl rfl ?_
  refine pw_aload_n 3 rfl rfl rfl ?_
  refine pw_alen 4 rfl rfl (by first | assumption | exact ⟨by decide, rfl, by decide⟩) (by decide) ?_
  refine pw_istore4 6 rfl rfl rfl ?_
  refine lfill_loop ha kk n 0 N (by omega) ?_
  funext x
  by_cases hx : x = k
  · subst hx; rw [va_up_self]; funext j; rw [if_neg (Nat.not_lt_zero j)]
  · rw [va_up_ne _ _ hx]
end HLP
end
section
/-! RULE, BOOK -/
/-- a rule: its kind, its phrase, its gift -/
abbrev aR : Type := Nat × List Int32 × List Int32
def wfR (r : aR) : Prop := r.1 < 5 ∧ 1 ≤ r.2.1.length ∧ r.2.1.length ≤ 6 ∧ r.2.2.length ≤ 6
def isRule (sh : pmS) (k : Nat) : Prop := pmOb sh k 5 [none, some (some (k + 1)), some (some (k + 3))] ∧ isRow sh (k + 1) 6 ∧ isRow sh (k + 3) 6
def ruleIs (M : pmM) (k : Nat) (r : aR) : Prop := M k 0 = nI r.1 ∧ rowIs M (k + 1) r.2.1 ∧ rowIs M (k + 3) r.2.2
theorem ruleIs.mv {M M' : pmM} {k a b : Nat} {r : aR} (h : ruleIs M k r) (hf : fr a b M M') (hk : k + 5 ≤ a ∨ b ≤ k) : ruleIs M' k r := ⟨by rw [hf k (by omega)]; exact h.1, h.2.1.mv hf (by omega), h.2.2.mv hf (by omega)⟩
/-- what a rule of a kind gives -/
def giv (kd : Nat) (g : List Int32) : List Int32 := if kd = 3 then g.reverse else g
theorem giv_len (kd : Nat) (g : List Int32) : (giv kd g).length = g.length := by unfold giv; split <;> simp
/-- the phrase, as far as it is seen -/
def mtc (ph ls : List Int32) (p m : Nat) : Prop := ∀ j, j < m → ph.getD j 0 = ls.getD (p + j) 0
/-- a letter a .. z ahead -/
def ahd (ls : List Int32) (p : Nat) : Bool := decide (0 < p) && wl (ls.getD (p - 1) 0)
/-- 1 it stands, 0 it does not, 2 that is still to come -/
def stA (kd : Nat) (ph ls : List Int32) (p kn : Nat) (op : Bool) (d : Nat) : Prop :=
  (d = 0 ∧ kd ≠ 0 ∧ ahd ls p = true) ∨ (¬ (kd ≠ 0 ∧ ahd ls p = true) ∧
    ((d = 0 ∧ ¬ mtc ph ls p (min (p + ph.length) kn - p)) ∨ (mtc ph ls p (min (p + ph.length) kn - p) ∧
      ((kn < p + ph.length ∧ d = if op then 2 else 0) ∨ (p + ph.length ≤ kn ∧
        ((¬ (kd = 1 ∨ kd = 3) ∧ d = 1) ∨ ((kd = 1 ∨ kd = 3) ∧
          ((p + ph.length = kn ∧ d = if op then 2 else 1) ∨ (p + ph.length < kn ∧ d = if wl (ls.getD (p + ph.length) 0) then 0 else 1)))))))))
section BOK
variable {sh : pmS} {M : pmM} {N : pmN} {Q : pmPost} {k : Nat} {r : aR}
theorem c_Rule_takeFrom {k2 : Nat} (hr : isRule sh k) (hr2 : isRule sh k2) (hx : ruleIs M k2 r) (w1 : r.2.1.length ≤ 6) (w2 : r.2.2.length ≤ 6) (hd : k + 5 ≤ k2 ∨ k2 + 5 ≤ k) (kk : ∀ M', fr k (k + 5) M M' → ruleIs M' k r → Q none sh M' N) : PW mX5_takeFrom 0 [.ref k, .ref k2] [] sh M N Q := by
  obtain ⟨h1, h2, h3⟩ := hr
  obtain ⟨g1, g2, g3⟩ := hr2
  obtain ⟨x1, x2, x3⟩ := hx
  have h2' := h2.1
  have h3' := h3.1
  refine pw_aload_n 1 rfl rfl rfl ?_
  refine pw_aload_n 2 rfl rfl rfl ?_
  refine pw_getI 5 rfl rfl (by first | assumption | exact ⟨by decide, rfl⟩) rfl ?_
  refine pw_putI 8 rfl rfl (by first | assumption | exact ⟨by decide, rfl⟩) rfl (by decide) ?_
  refine pw_aload_n 9 rfl rfl rfl ?_
  refine pw_getR 12 rfl rfl (by first | assumption | exact ⟨by decide, rfl⟩) rfl ?_
  refine pw_aload_n 13 rfl rfl rfl ?_
  refine pw_getR 16 rfl rfl (by first | assumption | exact ⟨by decide, rfl⟩) rfl ?_
  rw [x1]
  have f0 : fr k (k + 1) M (pmSt M k 0 (nI r.1)) := fr_st M 0 _ (Nat.le_refl k) (Nat.lt_succ_self k)
  refine pw_cV1 19 rfl rfl (by first | assumption | exact ⟨by decide, rfl⟩) rfl (Nat.le_of_ble_eq_true rfl) rfl rfl (Nat.le_of_ble_eq_true rfl) (c_Row_takeFrom h2 g2 (x2.mv f0 (by omega)) w1 w1 (fun M1 f1 r1 => ?_))
  refine pw_pV ?_
  refine pw_aload_n 20 rfl rfl rfl ?_
  refine pw_getR 23 rfl rfl (by first | assumption | exact ⟨by decide, rfl⟩) rfl ?_
  refine pw_aload_n 24 rfl rfl rfl ?_
  refine pw_getR 27 rfl rfl (by first | assumption | exact ⟨by decide, rfl⟩) rfl ?_
  refine pw_cV1 30 rfl rfl (by first | assumption | exact ⟨by decide, rfl⟩) rfl (Nat.le_of_ble_eq_true rfl) rfl rfl (Nat.le_of_ble_eq_true rfl) (c_Row_takeFrom h3 g3 ((x3.mv f0 (by omega)).mv f1 (by omega)) w2 w2 (fun M2 f2 r2 => ?_))
  refine pw_pV ?_
  skip
  refine pw_vret rfl (kk M2 (((f0.wk (by omega) (by omega)).tr (f1.wk (by omega) (by omega))).tr (f2.wk (by omega) (by omega))) ⟨?_, r1.mv f2 (by omega), r2⟩)
  rw [f2 k (by omega), f1 k (by omega), st_same]
theorem c_Rule_given (hr : isRule sh k) (hx : ruleIs M k r) (w2 : r.2.2.length ≤ 6) {j kd : Nat} (hj : j < r.2.2.length) (hk : kd < 5) (kk : Q (some (.int ((giv kd r.2.2).getD j 0))) sh M N) : PW mX5_given 0 [.ref k, .int (nI j), .int (nI kd)] [] sh M N Q := by
  obtain ⟨h1, h2, h3⟩ := hr
  obtain ⟨x1, x2, x3⟩ := hx
  have h3' := h3.1
  refine pw_aload_n 1 rfl rfl rfl ?_
  refine pw_getR 4 rfl rfl (by first | assumption | exact ⟨by decide, rfl⟩) rfl ?_
  refine pw_iload_n 5 rfl rfl rfl ?_
  refine pw_iconst (v := nI 3) 6 rfl rfl (by decide) ?_
  refine pw_icmp_ne 23 9 rfl rfl rfl (fun h => ?_) (fun h => ?_)
  · have h : ¬ kd = 3 := fun q => h (by rw [q])
    unfold giv at kk
    rw [if_neg h] at kk
    refine pw_iload_n 24 rfl rfl rfl ?_
    refine pw_cV1 27 rfl rfl (by first | assumption | exact ⟨by decide, rfl⟩) rfl (Nat.le_of_ble_eq_true rfl) rfl rfl (Nat.le_of_ble_eq_true rfl) (c_Row_get h3 x3 w2 (nI j) ?_)
    rw [gI_n (by omega)]
    refine pw_pI ?_
    skip
    exact pw_iret rfl rfl (kk)
  · have h : kd = 3 := (nI_eq (by omega) (by omega)).mp (Classical.not_not.mp h)
    subst h
    refine pw_aload_n 10 rfl rfl rfl ?_
    refine pw_getR 13 rfl rfl (by first | assumption | exact ⟨by decide, rfl⟩) rfl ?_
    refine pw_cV0 16 rfl rfl (by first | assumption | exact ⟨by decide, rfl⟩) rfl (Nat.le_of_ble_eq_true rfl) rfl rfl (Nat.le_of_ble_eq_true rfl) (c_Row_size h3 x3 ?_)
    refine pw_pI ?_
    refine pw_iconst (v := nI 1) 17 rfl rfl (by decide) ?_
    first | refine pw_isubN 18 rfl rfl (by with_reducible rfl) (by with_reducible rfl) (by omega) ?_ | refine pw_isub 18 rfl rfl ?_
    refine pw_iload_n 19 rfl rfl rfl ?_
    first | refine pw_isubN 20 rfl rfl (by with_reducible rfl) (by with_reducible rfl) (by omega) ?_ | refine pw_isub 20 rfl rfl ?_
    refine pw_goto rfl 24 rfl ?_
    refine pw_cV1 27 rfl rfl (by first | assumption | exact ⟨by decide, rfl⟩) rfl (Nat.le_of_ble_eq_true rfl) rfl rfl (Nat.le_of_ble_eq_true rfl) (c_Row_get h3 x3 w2 _ ?_)
    rw [gI_n (by omega)]
    refine pw_pI ?_
    skip
    refine pw_iret rfl rfl ?_
    have e : (giv 3 r.2.2).getD j 0 = r.2.2.getD (r.2.2.length - 1 - j) 0 := by
      unfold giv
      rw [if_pos rfl, List.getD_eq_getElem?_getD, List.getElem?_reverse hj, ← List.getD_eq_getElem?_getD]
    rw [e] at kk
    exact kk
theorem c_wantsEnd {kd : Nat} (hk : kd < 5) (ky : (kd = 1 ∨ kd = 3) → Q (some (.int (nI 1))) sh M N) (kn : ¬ (kd = 1 ∨ kd = 3) → Q (some (.int (nI 0))) sh M N) : PW mX5_wantsEnd 0 [.int (nI kd)] [] sh M N Q := by
  have cmp : ∀ z, z < 5 → (nI kd = nI z ↔ kd = z) := fun z hz => nI_eq (by omega) (by omega)
  refine pw_iload_n 1 rfl rfl rfl ?_
  refine pw_iconst (v := nI 1) 2 rfl rfl (by decide) ?_
  refine pw_icmp_eq 10 5 rfl rfl rfl (fun h => ?_) (fun h => ?_)
  · rw [cmp 1 (by decide)] at h
    refine pw_iconst (v := nI 1) 11 rfl rfl (by decide) ?_
    refine pw_goto rfl 15 rfl ?_
    exact pw_zret rfl rfl (by first | exact Or.inl rfl | exact Or.inr rfl | assumption) (ky (Or.inl h))
  · rw [cmp 1 (by decide)] at h
    refine pw_iload_n 6 rfl rfl rfl ?_
    refine pw_iconst (v := nI 3) 7 rfl rfl (by decide) ?_
    refine pw_icmp_ne 14 10 rfl rfl rfl (fun h2 => ?_) (fun h2 => ?_)
    · rw [cmp 3 (by decide)] at h2
      refine pw_iconst (v := nI 0) 15 rfl rfl (by decide) ?_
      exact pw_zret rfl rfl (by first | exact Or.inl rfl | exact Or.inr rfl | assumption) (kn (by omega))
    · rw [cmp 3 (by decide)] at h2
      refine pw_iconst (v := nI 1) 11 rfl rfl (by decide) ?_
      refine pw_goto rfl 15 rfl ?_
      exact pw_zret rfl rfl (by first | exact Or.inl rfl | exact Or.inr rfl | assumption) (ky (Or.inr (Classical.not_not.mp h2)))
variable {kl nl : Nat} {ls ss : List Int32}
theorem stands_tail {p kd kn : Nat} {op : Bool} (hr : isRule sh k) (hx : ruleIs M k r) (w1 : r.2.1.length ≤ 6) (hl : isLine sh kl nl) (hy : lineIs M kl ls ss) (wl1 : ls.length ≤ nl) (hk : kd < 5) (hp : p < kn) (hn : kn ≤ ls.length) (kk : ∀ d, stA kd r.2.1 ls p kn op d → Q (some (.int (nI d))) sh M N) (h0 : ¬ (kd ≠ 0 ∧ ahd ls p = true)) (hm : mtc r.2.1 ls p (min (p + r.2.1.length) kn - p)) (v8 : Value) :
    PW mX5_stands 85 [.ref k, .ref kl, .int (nI p), .int (nI kd), .int (nI kn), .int (nI (if op then 1 else 0)), .int (nI (p + r.2.1.length)), .int (nI (min (p + r.2.1.length) kn - p)), v8] [] sh M N Q := by
  obtain ⟨l1, l2, l3⟩ := hl
  have hn1 : nl ≤ 1000 := l2.2.2.2
  have l2' := l2.1
  have kk2 : ∀ d, ((kn < p + r.2.1.length ∧ d = if op then 2 else 0) ∨ (p + r.2.1.length ≤ kn ∧ ((¬ (kd = 1 ∨ kd = 3) ∧ d = 1) ∨ ((kd = 1 ∨ kd = 3) ∧ ((p + r.2.1.length = kn ∧ d = if op then 2 else 1) ∨ (p + r.2.1.length < kn ∧ d = if wl (ls.getD (p + r.2.1.length) 0) then 0 else 1)))))) → Q (some (.int (nI d))) sh M N := fun d h => kk d (Or.inr ⟨h0, Or.inr ⟨hm, h⟩⟩)
  refine pw_iload 87 rfl rfl rfl ?_
  refine pw_iload 89 rfl rfl rfl ?_
  refine pw_icmp_le 103 92 rfl rfl rfl (fun h => ?_) (fun h => ?_)
  · have h := (nI_leI (by omega) (by omega)).mp h
    refine pw_iload_n 104 rfl rfl rfl ?_
    refine pw_cS1 107 rfl rfl rfl (Nat.le_of_ble_eq_true rfl) rfl rfl (Nat.le_of_ble_eq_true rfl) (c_wantsEnd hk (fun hw => ?_) (fun hw => ?_))
    · refine pw_pI ?_
      skip
      refine pw_if_ne_t 112 rfl rfl (by decide) ?_
      refine pw_iload 114 rfl rfl rfl ?_
      refine pw_iload 116 rfl rfl rfl ?_
      refine pw_icmp_ne 130 119 rfl rfl rfl (fun h2 => ?_) (fun h2 => ?_)
      · have h2 : ¬ p + r.2.1.length = kn := fun q => h2 (by rw [q])
        refine pw_aload_n 131 rfl rfl rfl ?_
        refine pw_getR 134 rfl rfl (by first | assumption | exact ⟨by decide, rfl⟩) rfl ?_
        refine pw_iload 136 rfl rfl rfl ?_
        refine pw_cV1 139 rfl rfl (by first | assumption | exact ⟨by decide, rfl⟩) rfl (Nat.le_of_ble_eq_true rfl) rfl rfl (Nat.le_of_ble_eq_true rfl) (c_Row_get l2 hy.1 wl1 _ ?_)
        rw [gI_n (by omega)]
        refine pw_pI ?_
        skip
        refine pw_cS1 142 rfl rfl rfl (Nat.le_of_ble_eq_true rfl) rfl rfl (Nat.le_of_ble_eq_true rfl) (c_isWordLetter (fun hq => ?_) (fun hq => ?_))
        · refine pw_pI ?_
          skip
          refine pw_if_eq_f 145 rfl rfl (by decide) ?_
          refine pw_iconst (v := nI 0) 146 rfl rfl (by decide) ?_
          refine pw_goto rfl 150 rfl ?_
          exact pw_iret rfl rfl (kk2 0 (Or.inr ⟨h, Or.inr ⟨hw, Or.inr ⟨by omega, by rw [hq]; rfl⟩⟩⟩))
        · refine pw_pI ?_
          skip
          refine pw_if_eq_t 149 rfl rfl (by decide) ?_
          refine pw_iconst (v := nI 1) 150 rfl rfl (by decide) ?_
          exact pw_iret rfl rfl (kk2 1 (Or.inr ⟨h, Or.inr ⟨hw, Or.inr ⟨by omega, by rw [hq]; rfl⟩⟩⟩))
      · have h2 : p + r.2.1.length = kn := (nI_eq (by omega) (by omega)).mp (Classical.not_not.mp h2)
        refine pw_iload 121 rfl rfl rfl ?_
        cases op with
        | true =>
          refine pw_if_eq_f 124 rfl rfl (by decide) ?_
          refine pw_iconst (v := nI 2) 125 rfl rfl (by decide) ?_
          refine pw_goto rfl 129 rfl ?_
          exact pw_iret rfl rfl (kk2 2 (Or.inr ⟨h, Or.inr ⟨hw, Or.inl ⟨h2, rfl⟩⟩⟩))
        | false =>
          skip
          refine pw_if_eq_t 128 rfl rfl (by decide) ?_
          refine pw_iconst (v := nI 1) 129 rfl rfl (by decide) ?_
          exact pw_iret rfl rfl (kk2 1 (Or.inr ⟨h, Or.inr ⟨hw, Or.inl ⟨h2, rfl⟩⟩⟩))
    · refine pw_pI ?_
      skip
      refine pw_if_ne_f 110 rfl rfl (by decide) ?_
      refine pw_iconst (v := nI 1) 111 rfl rfl (by decide) ?_
      exact pw_iret rfl rfl (kk2 1 (Or.inr ⟨h, Or.inl ⟨hw, rfl⟩⟩))
  · have h : kn < p + r.2.1.length := by
      rcases Nat.lt_or_ge kn (p + r.2.1.length) with q | q
      · exact q
      · exact absurd (nI_le q (by omega)) h
    refine pw_iload 94 rfl rfl rfl ?_
    cases op with
    | true =>
      refine pw_if_eq_f 97 rfl rfl (by decide) ?_
      refine pw_iconst (v := nI 2) 98 rfl rfl (by decide) ?_
      refine pw_goto rfl 102 rfl ?_
      exact pw_iret rfl rfl (kk2 2 (Or.inl ⟨h, rfl⟩))
    | false =>
      skip
      refine pw_if_eq_t 101 rfl rfl (by decide) ?_
      refine pw_iconst (v := nI 0) 102 rfl rfl (by decide) ?_
      exact pw_iret rfl rfl (kk2 0 (Or.inl ⟨h, rfl⟩))
theorem stands_loop {p kd kn : Nat} {op : Bool} (hr : isRule sh k) (hx : ruleIs M k r) (w1 : r.2.1.length ≤ 6) (hl : isLine sh kl nl) (hy : lineIs M kl ls ss) (wl1 : ls.length ≤ nl) (hk : kd < 5) (hp : p < kn) (hn : kn ≤ ls.length) (kk : ∀ d, stA kd r.2.1 ls p kn op d → Q (some (.int (nI d))) sh M N) (h0 : ¬ (kd ≠ 0 ∧ ahd ls p = true)) :
    ∀ (d i : Nat), i + d = min (p + r.2.1.length) kn - p → mtc r.2.1 ls p i → PW mX5_stands 47 [.ref k, .ref kl, .int (nI p), .int (nI kd), .int (nI kn), .int (nI (if op then 1 else 0)), .int (nI (p + r.2.1.length)), .int (nI (min (p + r.2.1.length) kn - p)), .int (nI i)] [] sh M N Q := by
  have hr0 := hr
  have hl0 := hl
  obtain ⟨h1, h2, h3⟩ := hr
  obtain ⟨l1, l2, l3⟩ := hl
  have hn1 : nl ≤ 1000 := l2.2.2.2
  have l2' := l2.1
  have h2' := h2.1
  intro d
  induction d with
  | zero =>
    intro i hi hm
    have : i = min (p + r.2.1.length) kn - p := by omega
    rw [this] at hm
    refine pw_iload 49 rfl rfl rfl ?_
    refine pw_iload 51 rfl rfl rfl ?_
    refine pw_icmp_ge_t 85 rfl rfl (nI_le (by omega) (by omega)) ?_
    exact stands_tail hr0 hx w1 hl0 hy wl1 hk hp hn kk h0 hm _
  | succ d ih =>
    intro i hi hm
    refine pw_iload 49 rfl rfl rfl ?_
    refine pw_iload 51 rfl rfl rfl ?_
    refine pw_icmp_ge_f 54 rfl rfl (nI_ge (by omega) (by omega)) ?_
    refine pw_aload_n 55 rfl rfl rfl ?_
    refine pw_getR 58 rfl rfl (by first | assumption | exact ⟨by decide, rfl⟩) rfl ?_
    refine pw_iload 60 rfl rfl rfl ?_
    refine pw_cV1 63 rfl rfl (by first | assumption | exact ⟨by decide, rfl⟩) rfl (Nat.le_of_ble_eq_true rfl) rfl rfl (Nat.le_of_ble_eq_true rfl) (c_Row_get h2 hx.2.1 w1 _ ?_)
    rw [gI_n (by omega)]
    refine pw_pI ?_
    refine pw_aload_n 64 rfl rfl rfl ?_
    refine pw_getR 67 rfl rfl (by first | assumption | exact ⟨by decide, rfl⟩) rfl ?_
    refine pw_iload_n 68 rfl rfl rfl ?_
    refine pw_iload 70 rfl rfl rfl ?_
    first | refine pw_iaddN 71 rfl rfl (by with_reducible rfl) (by with_reducible rfl) ?_ | refine pw_iadd 71 rfl rfl ?_
    refine pw_cV1 74 rfl rfl (by first | assumption | exact ⟨by decide, rfl⟩) rfl (Nat.le_of_ble_eq_true rfl) rfl rfl (Nat.le_of_ble_eq_true rfl) (c_Row_get l2 hy.1 wl1 _ ?_)
    rw [gI_n (by omega)]
    refine pw_pI ?_
    skip
    refine pw_icmp_eq 79 77 rfl rfl rfl (fun h => ?_) (fun h => ?_)
    · first | refine pw_iincN8 82 rfl rfl rfl (by with_reducible rfl) ?_ | refine pw_iinc8 (w := _) 82 rfl rfl rfl rfl ?_
      refine pw_goto rfl 47 rfl ?_
      refine ih (i + 1) (by omega) (fun j hj => ?_)
      by_cases q : j = i
      · subst q; exact h
      · exact hm j (by omega)
    · refine pw_iconst (v := nI 0) 78 rfl rfl (by decide) ?_
      exact pw_iret rfl rfl (kk 0 (Or.inr ⟨h0, Or.inl ⟨rfl, fun q => by unfold mtc at q; exact h (q i (by omega))⟩⟩))
theorem c_Rule_stands {p kd kn : Nat} {op : Bool} (hr : isRule sh k) (hx : ruleIs M k r) (w1 : r.2.1.length ≤ 6) (hl : isLine sh kl nl) (hy : lineIs M kl ls ss) (wl1 : ls.length ≤ nl) (hk : kd < 5) (hp : p < kn) (hn : kn ≤ ls.length) (kk : ∀ d, stA kd r.2.1 ls p kn op d → Q (some (.int (nI d))) sh M N) :
    PW mX5_stands 0 [.ref k, .ref kl, .int (nI p), .int (nI kd), .int (nI kn), .int (nI (if op then 1 else 0)), .null, .null, .null] [] sh M N Q := by
  have hr0 := hr
  have hl0 := hl
  obtain ⟨h1, h2, h3⟩ := hr
  obtain ⟨l1, l2, l3⟩ := hl
  have hn1 : nl ≤ 1000 := l2.2.2.2
  have l2' := l2.1
  have h2' := h2.1
  have mid : ¬ (kd ≠ 0 ∧ ahd ls p = true) → PW mX5_stands 22 [.ref k, .ref kl, .int (nI p), .int (nI kd), .int (nI kn), .int (nI (if op then 1 else 0)), .null, .null, .null] [] sh M N Q := by
    intro h0
    refine pw_iload_n 23 rfl rfl rfl ?_
    refine pw_aload_n 24 rfl rfl rfl ?_
    refine pw_getR 27 rfl rfl (by first | assumption | exact ⟨by decide, rfl⟩) rfl ?_
    refine pw_cV0 30 rfl rfl (by first | assumption | exact ⟨by decide, rfl⟩) rfl (Nat.le_of_ble_eq_true rfl) rfl rfl (Nat.le_of_ble_eq_true rfl) (c_Row_size h2 hx.2.1 ?_)
    refine pw_pI ?_
    first | refine pw_iaddN 31 rfl rfl (by with_reducible rfl) (by with_reducible rfl) ?_ | refine pw_iadd 31 rfl rfl ?_
    refine pw_istore6 33 rfl rfl rfl ?_
    refine pw_iload 35 rfl rfl rfl ?_
    refine pw_iload 37 rfl rfl rfl ?_
    refine pw_cS2 40 rfl rfl rfl (Nat.le_of_ble_eq_true rfl) rfl rfl (Nat.le_of_ble_eq_true rfl) (c_min (by omega) (by omega) ?_)
    refine pw_pI ?_
    refine pw_iload_n 41 rfl rfl rfl ?_
    first | refine pw_isubN 42 rfl rfl (by with_reducible rfl) (by with_reducible rfl) (by omega) ?_ | refine pw_isub 42 rfl rfl ?_
    refine pw_istore7 44 rfl rfl rfl ?_
    refine pw_iconst (v := nI 0) 45 rfl rfl (by decide) ?_
    refine pw_istore8 47 rfl rfl rfl ?_
    exact stands_loop hr0 hx w1 hl0 hy wl1 hk hp hn kk h0 (min (p + r.2.1.length) kn - p) 0 (by omega) (fun j hj => absurd hj (Nat.not_lt_zero j))
  refine pw_iload_n 1 rfl rfl rfl ?_
  refine pw_if_eq 22 4 rfl rfl rfl (fun h => ?_) (fun h => ?_)
  · exact mid (fun q => q.1 ((nI_eq (by omega) (by omega)).mp h))
  · have h : kd ≠ 0 := fun q => h (by rw [q]; rfl)
    refine pw_aload_n 5 rfl rfl rfl ?_
    refine pw_getR 8 rfl rfl (by first | assumption | exact ⟨by decide, rfl⟩) rfl ?_
    refine pw_iload_n 9 rfl rfl rfl ?_
    refine pw_iconst (v := nI 1) 10 rfl rfl (by decide) ?_
    by_cases hp0 : p = 0
    · subst hp0
      refine pw_isub 11 rfl rfl ?_
      skip
      refine pw_cV1 14 rfl rfl (by first | assumption | exact ⟨by decide, rfl⟩) rfl (Nat.le_of_ble_eq_true rfl) rfl rfl (Nat.le_of_ble_eq_true rfl) (c_Row_get l2 hy.1 wl1 _ ?_)
      rw [gI_neg (by decide)]
      refine pw_pI ?_
      skip
      refine pw_cS1 17 rfl rfl rfl (Nat.le_of_ble_eq_true rfl) rfl rfl (Nat.le_of_ble_eq_true rfl) (c_isWordLetter (fun hq => absurd hq (by decide)) (fun hq => ?_))
      refine pw_pI ?_
      skip
      refine pw_if_eq_t 22 rfl rfl (by decide) ?_
      exact mid (fun q => by simp [ahd] at q)
    · first | refine pw_isubN 11 rfl rfl (by with_reducible rfl) (by with_reducible rfl) (by omega) ?_ | refine pw_isub 11 rfl rfl ?_
      refine pw_cV1 14 rfl rfl (by first | assumption | exact ⟨by decide, rfl⟩) rfl (Nat.le_of_ble_eq_true rfl) rfl rfl (Nat.le_of_ble_eq_true rfl) (c_Row_get l2 hy.1 wl1 _ ?_)
      rw [gI_n (by omega)]
      refine pw_pI ?_
      skip
      refine pw_cS1 17 rfl rfl rfl (Nat.le_of_ble_eq_true rfl) rfl rfl (Nat.le_of_ble_eq_true rfl) (c_isWordLetter (fun hq => ?_) (fun hq => ?_))
      · refine pw_pI ?_
        skip
        refine pw_if_eq_f 20 rfl rfl (by decide) ?_
        refine pw_iconst (v := nI 0) 21 rfl rfl (by decide) ?_
        exact pw_iret rfl rfl (kk 0 (Or.inl ⟨rfl, h, by unfold ahd; rw [hq, decide_eq_true (show 0 < p by omega)]; rfl⟩))
      · refine pw_pI ?_
        skip
        refine pw_if_eq_t 22 rfl rfl (by decide) ?_
        exact mid (fun q => by unfold ahd at q; rw [hq, Bool.and_false] at q; cases q.2)
def isBook (sh : pmS) (k : Nat) : Prop := pmOb sh k 0 [some (some (k + 1)), some (some (k + 2)), none] ∧ pmAy sh (k + 1) 3 10 ((List.range 10).map fun i => some (k + 7 + 5 * i)) ∧ ∀ i, i < 10 → isRule sh (k + 7 + 5 * i)
def bookIs (M : pmM) (k : Nat) (rs : List aR) : Prop := M k 2 = nI rs.length ∧ rs.length ≤ 10 ∧ ∀ i r, rs[i]? = some r → ruleIs M (k + 7 + 5 * i) r ∧ wfR r
theorem bookIs.mv {M M' : pmM} {k a b : Nat} {rs : List aR} (h : bookIs M k rs) (hf : fr a b M M') (hk : k + 57 ≤ a ∨ b ≤ k) : bookIs M' k rs := by
  refine ⟨by rw [hf k (by omega)]; exact h.1, h.2.1, fun i r hi => ⟨(h.2.2 i r hi).1.mv hf ?_, (h.2.2 i r hi).2⟩⟩
  have := (List.getElem?_eq_some_iff.mp hi).1
  have := h.2.1
  omega
variable {rs : List aR}
theorem c_Book_size (hb : isBook sh k) (hx : bookIs M k rs) (kk : Q (some (.int (nI rs.length))) sh M N) : PW mX0_size 0 [.ref k] [] sh M N Q := by
  obtain ⟨h1, h2, h3⟩ := hb
  refine pw_aload_n 1 rfl rfl rfl ?_
  refine pw_getI 4 rfl rfl (by first | assumption | exact ⟨by decide, rfl⟩) rfl ?_
  rw [hx.1]
  exact pw_iret rfl rfl (kk)
theorem c_Book_has (hb : isBook sh k) (hx : bookIs M k rs) {x : Int32} (ky : ∀ j, j < rs.length → x = nI j → Q (some (.int (nI 1))) sh M N) (kn : (∀ j, j < rs.length → x ≠ nI j) → Q (some (.int (nI 0))) sh M N) : PW mX0_has 0 [.ref k, .int x] [] sh M N Q := by
  obtain ⟨h1, h2, h3⟩ := hb
  have := hx.2.1
  refine pw_iload_n 1 rfl rfl rfl ?_
  refine pw_aload_n 2 rfl rfl rfl ?_
  refine pw_getI 5 rfl rfl (by first | assumption | exact ⟨by decide, rfl⟩) rfl ?_
  rw [hx.1]
  refine pw_cS2 8 rfl rfl rfl (Nat.le_of_ble_eq_true rfl) rfl rfl (Nat.le_of_ble_eq_true rfl) (c_isWithin (by omega) (fun j hj e => ?_) (fun h => ?_))
  · refine pw_pI ?_
    skip
    exact pw_zret rfl rfl (by first | exact Or.inl rfl | exact Or.inr rfl | assumption) (ky j hj e)
  · refine pw_pI ?_
    skip
    exact pw_zret rfl rfl (by first | exact Or.inl rfl | exact Or.inr rfl | assumption) (kn h)
theorem all_v : ∀ n, n < 11 → (nI 1 <<< (nI n &&& 31)) - nI 1 = nI (2 ^ n - 1) := by decide +kernel
theorem c_Book_all (hb : isBook sh k) (hx : bookIs M k rs) (kk : Q (some (.int (nI (2 ^ rs.length - 1)))) sh M N) : PW mX0_all 0 [.ref k] [] sh M N Q := by
  obtain ⟨h1, h2, h3⟩ := hb
  refine pw_iconst (v := nI 1) 1 rfl rfl (by decide) ?_
  refine pw_aload_n 2 rfl rfl rfl ?_
  refine pw_getI 5 rfl rfl (by first | assumption | exact ⟨by decide, rfl⟩) rfl ?_
  refine pw_ishl 6 rfl rfl ?_
  refine pw_iconst (v := nI 1) 7 rfl rfl (by decide) ?_
  rw [hx.1]
  refine pw_isub 8 rfl rfl ?_
  rw [all_v _ (by have := hx.2.1; omega)]
  skip
  exact pw_iret rfl rfl (kk)
theorem c_Book_get (hb : isBook sh k) {i : Nat} (hi : i < 10) (kk : Q (some (.ref (k + 7 + 5 * i))) sh M N) : PW mX0_get 0 [.ref k, .int (nI i)] [] sh M N Q := by
  obtain ⟨h1, h2, h3⟩ := hb
  refine pw_iload_n 1 rfl rfl rfl ?_
  refine pw_aload_n 2 rfl rfl rfl ?_
  refine pw_getR 5 rfl rfl (by first | assumption | exact ⟨by decide, rfl⟩) rfl ?_
  refine pw_alen 6 rfl rfl (by first | assumption | exact ⟨by decide, rfl, by decide⟩) (by decide) ?_
  refine pw_cS2 9 rfl rfl rfl (Nat.le_of_ble_eq_true rfl) rfl rfl (Nat.le_of_ble_eq_true rfl) (c_isWithin (by decide) (fun j hj e => ?_) (fun h => absurd rfl (h i hi)))
  refine pw_pI ?_
  skip
  refine pw_if_eq_f 12 rfl rfl (by decide) ?_
  have hg : ((List.range 10).map fun i => some (k + 7 + 5 * i))[i]? = some (some (k + 7 + 5 * i)) := by
    rw [List.getElem?_map, List.getElem?_range hi]; rfl
  refine pw_aload_n 13 rfl rfl rfl ?_
  refine pw_getR 16 rfl rfl (by first | assumption | exact ⟨by decide, rfl⟩) rfl ?_
  refine pw_iload_n 17 rfl rfl rfl ?_
  refine pw_aald _ 18 rfl rfl (by first | assumption | exact ⟨by decide, rfl, by decide⟩) (by decide) (by with_reducible rfl) (by first | assumption | omega) (by first | assumption | rfl) ?_
  refine pw_goto rfl 25 rfl ?_
  exact pw_aret rfl (kk)
theorem c_Book_clear (hb : isBook sh k) (kk : ∀ M', fr k (k + 1) M M' → bookIs M' k [] → Q none sh M' N) : PW mX0_clear 0 [.ref k] [] sh M N Q := by
  obtain ⟨h1, h2, h3⟩ := hb
  refine pw_aload_n 1 rfl rfl rfl ?_
  refine pw_iconst (v := nI 0) 2 rfl rfl (by decide) ?_
  refine pw_putI 5 rfl rfl (by first | assumption | exact ⟨by decide, rfl⟩) rfl (by decide) ?_
  exact pw_vret rfl (kk _ (fr_st M 2 _ (Nat.le_refl k) (Nat.lt_succ_self k)) ⟨st_same _ _ _ _, Nat.zero_le _, fun i r hi => by simp at hi⟩)
/-- one rule more, which stands behind the others already -/
theorem c_Book_grow (hb : isBook sh k) (hx : bookIs M k rs) (hl : rs.length < 10) {r : aR} (hr : ruleIs M (k + 7 + 5 * rs.length) r) (hw : wfR r) (kk : ∀ M', fr k (k + 1) M M' → bookIs M' k (rs ++ [r]) → Q (some (.int (nI 1))) sh M' N) : PW mX0_grow 0 [.ref k] [] sh M N Q := by
  obtain ⟨h1, h2, h3⟩ := hb
  refine pw_aload_n 1 rfl rfl rfl ?_
  refine pw_getI 4 rfl rfl (by first | assumption | exact ⟨by decide, rfl⟩) rfl ?_
  refine pw_bipush (v := nI 10) 6 rfl rfl (by decide) ?_
  rw [hx.1]
  refine pw_icmp_lt_t 11 rfl rfl ((nI_ltI (by omega) (by decide)).mpr hl) ?_
  refine pw_aload_n 12 rfl rfl rfl ?_
  refine pw_dup 13 rfl rfl rfl ?_
  refine pw_getI 16 rfl rfl (by first | assumption | exact ⟨by decide, rfl⟩) rfl ?_
  refine pw_iconst (v := nI 1) 17 rfl rfl (by decide) ?_
  rw [hx.1]
  first | refine pw_iaddN 18 rfl rfl (by with_reducible rfl) (by with_reducible rfl) ?_ | refine pw_iadd 18 rfl rfl ?_
  refine pw_putI 21 rfl rfl (by first | assumption | exact ⟨by decide, rfl⟩) rfl (by decide) ?_
  refine pw_iconst (v := nI 1) 22 rfl rfl (by decide) ?_
  have f0 : fr k (k + 1) M (pmSt M k 2 (nI (rs.length + 1))) := fr_st M 2 _ (Nat.le_refl k) (Nat.lt_succ_self k)
  refine pw_zret rfl rfl (Or.inr rfl) (kk _ f0 ⟨?_, ?_, fun i r2 hi => ?_⟩)
  · rw [st_same, List.length_append]; rfl
  · rw [List.length_append]; simp; omega
  · by_cases q : i < rs.length
    · rw [List.getElem?_append_left q] at hi
      exact ⟨(hx.2.2 i r2 hi).1.mv f0 (by omega), (hx.2.2 i r2 hi).2⟩
    · have hi2 := (List.getElem?_eq_some_iff.mp hi).1
      rw [List.length_append, List.length_cons, List.length_nil] at hi2
      have : i = rs.length := by omega
      subst this
      rw [List.getElem?_append_right (Nat.le_refl _), Nat.sub_self] at hi
      cases hi
      exact ⟨hr.mv f0 (by omega), hw⟩
theorem c_Book_growFull (hb : isBook sh k) (hx : bookIs M k rs) (hl : rs.length = 10) (kk : Q (some (.int (nI 0))) sh M N) : PW mX0_grow 0 [.ref k] [] sh M N Q := by
  obtain ⟨h1, h2, h3⟩ := hb
  refine pw_aload_n 1 rfl rfl rfl ?_
  refine pw_getI 4 rfl rfl (by first | assumption | exact ⟨by decide, rfl⟩) rfl ?_
  refine pw_bipush (v := nI 10) 6 rfl rfl (by decide) ?_
  rw [hx.1]
  refine pw_icmp_lt_f 9 rfl rfl (nI_nlt (by omega) (by omega)) ?_
  refine pw_iconst (v := nI 0) 10 rfl rfl (by decide) ?_
  exact pw_zret rfl rfl (by first | exact Or.inl rfl | exact Or.inr rfl | assumption) (kk)
theorem btake_loop {k2 : Nat} (hb : isBook sh k) (hb2 : isBook sh k2) (hx : bookIs M k2 rs) (hd : k + 57 ≤ k2 ∨ k2 + 57 ≤ k) (kk : ∀ M', fr k (k + 57) M M' → bookIs M' k rs → Q none sh M' N) :
    ∀ (d i : Nat) (M1 : pmM), i + d = rs.length → fr k (k + 57) M M1 → M1 k 2 = nI rs.length → (∀ j r, j < i → rs[j]? = some r → ruleIs M1 (k + 7 + 5 * j) r) → PW mX0_takeFrom 10 [.ref k, .ref k2, .int (nI i)] [] sh M1 N Q := by
  have hb0 := hb
  have hb02 := hb2
  obtain ⟨h1, h2, h3⟩ := hb
  obtain ⟨g1, g2, g3⟩ := hb2
  have h10 := hx.2.1
  intro d
  induction d with
  | zero =>
    intro i M1 hi hf hs hr
    refine pw_iload_n 11 rfl rfl rfl ?_
    refine pw_aload_n 12 rfl rfl rfl ?_
    refine pw_getI 15 rfl rfl (by first | assumption | exact ⟨by decide, rfl⟩) rfl ?_
    rw [hs]
    refine pw_icmp_ge_t 37 rfl rfl (nI_le (by omega) (by omega)) ?_
    skip
    exact pw_vret rfl (kk M1 hf ⟨hs, h10, fun j r hj => ⟨hr j r (by have := (List.getElem?_eq_some_iff.mp hj).1; omega) hj, (hx.2.2 j r hj).2⟩⟩)
  | succ d ih =>
    intro i M1 hi hf hs hr
    refine pw_iload_n 11 rfl rfl rfl ?_
    refine pw_aload_n 12 rfl rfl rfl ?_
    refine pw_getI 15 rfl rfl (by first | assumption | exact ⟨by decide, rfl⟩) rfl ?_
    rw [hs]
    refine pw_icmp_ge_f 18 rfl rfl (nI_ge (by omega) (by omega)) ?_
    refine pw_aload_n 19 rfl rfl rfl ?_
    refine pw_iload_n 20 rfl rfl rfl ?_
    refine pw_cV1 23 rfl rfl (by first | assumption | exact ⟨by decide, rfl⟩) rfl (Nat.le_of_ble_eq_true rfl) rfl rfl (Nat.le_of_ble_eq_true rfl) (c_Book_get hb0 (i := i) (by omega) ?_)
    refine pw_pR ?_
    refine pw_aload_n 24 rfl rfl rfl ?_
    refine pw_iload_n 25 rfl rfl rfl ?_
    refine pw_cV1 28 rfl rfl (by first | assumption | exact ⟨by decide, rfl⟩) rfl (Nat.le_of_ble_eq_true rfl) rfl rfl (Nat.le_of_ble_eq_true rfl) (c_Book_get hb02 (i := i) (by omega) ?_)
    refine pw_pR ?_
    have hlt : i < rs.length := by omega
    obtain ⟨r, hri⟩ : ∃ r, rs[i]? = some r := ⟨_, List.getElem?_eq_getElem hlt⟩
    obtain ⟨e1, e2⟩ := hx.2.2 i r hri
    have o1 := (h3 i (by omega)).1
    skip
    refine pw_cV1 31 rfl rfl (by first | assumption | exact ⟨by decide, rfl⟩) rfl (Nat.le_of_ble_eq_true rfl) rfl rfl (Nat.le_of_ble_eq_true rfl) (c_Rule_takeFrom (h3 i (by omega)) (g3 i (by omega)) (e1.mv hf (by omega)) e2.2.2.1 e2.2.2.2 (by omega) (fun M2 f2 r2 => ?_))
    refine pw_pV ?_
    first | refine pw_iincN2 34 rfl rfl rfl (by with_reducible rfl) ?_ | refine pw_iinc2 (w := _) 34 rfl rfl rfl rfl ?_
    refine pw_goto rfl 10 rfl ?_
    refine ih (i + 1) M2 (by omega) (hf.tr (f2.wk (by omega) (by omega))) (by rw [f2 k (by omega)]; exact hs) (fun j r' hj hr' => ?_)
    by_cases q : j = i
    · subst q
      rw [hri] at hr'
      cases hr'
      exact r2
    · exact (hr j r' (by omega) hr').mv f2 (by omega)
theorem c_Book_takeFrom {k2 : Nat} (hb : isBook sh k) (hb2 : isBook sh k2) (hx : bookIs M k2 rs) (hd : k + 57 ≤ k2 ∨ k2 + 57 ≤ k) (kk : ∀ M', fr k (k + 57) M M' → bookIs M' k rs → Q none sh M' N) : PW mX0_takeFrom 0 [.ref k, .ref k2, .null] [] sh M N Q := by
  have hb0 := hb
  have hb02 := hb2
  obtain ⟨h1, h2, h3⟩ := hb
  obtain ⟨g1, g2, g3⟩ := hb2
  refine pw_aload_n 1 rfl rfl rfl ?_
  refine pw_aload_n 2 rfl rfl rfl ?_
  refine pw_getI 5 rfl rfl (by first | assumption | exact ⟨by decide, rfl⟩) rfl ?_
  refine pw_putI 8 rfl rfl (by first | assumption | exact ⟨by decide, rfl⟩) rfl (by decide) ?_
  refine pw_iconst (v := nI 0) 9 rfl rfl (by decide) ?_
  refine pw_istore2 10 rfl rfl rfl ?_
  rw [hx.1]
  exact btake_loop hb0 hb02 hx hd kk rs.length 0 _ (by omega) (fr_st M 2 _ (Nat.le_refl k) (by omega)) (st_same _ _ _ _) (fun j r hj => absurd hj (Nat.not_lt_zero j))
end BOK
end
section
/-! HISTORY, STATE -/
/-- a moment: letters, sources, which rules are on -/
abbrev aM : Type := List Int32 × List Int32 × Nat
def isHist (sh : pmS) (k : Nat) : Prop := pmOb sh k 1 [some (some (k + 1)), none, none] ∧ pmAy sh (k + 1) 4 8 ((List.range 8).map fun i => some (k + 2 + 6 * i)) ∧ ∀ i, i < 8 → isMom sh (k + 2 + 6 * i)
def mIs (M : pmM) (k : Nat) (m : aM) : Prop := momIs M k m.1 m.2.1 m.2.2
/-- the latest first -/
def histAt (M : pmM) (k : Nat) (hs : List aM) (nx : Nat) : Prop := nx < 8 ∧ M k 1 = nI hs.length ∧ M k 2 = nI nx ∧ hs.length ≤ 8 ∧ ∀ i m, hs[i]? = some m → mIs M (k + 2 + 6 * ((nx + 15 - i) % 8)) m
def histIs (M : pmM) (k : Nat) (hs : List aM) : Prop := ∃ nx, histAt M k hs nx
theorem histAt.mv {M M' : pmM} {k a b nx : Nat} {hs : List aM} (h : histAt M k hs nx) (hf : fr a b M M') (hk : k + 50 ≤ a ∨ b ≤ k) : histAt M' k hs nx := by
  obtain ⟨h0, h1, h2, h3, h4⟩ := h
  refine ⟨h0, by rw [hf k (by omega)]; exact h1, by rw [hf k (by omega)]; exact h2, h3, fun i m hi => momIs.mv (h4 i m hi) hf (by omega)⟩
theorem histIs.mv {M M' : pmM} {k a b : Nat} {hs : List aM} (h : histIs M k hs) (hf : fr a b M M') (hk : k + 50 ≤ a ∨ b ≤ k) : histIs M' k hs := by
  obtain ⟨nx, h⟩ := h
  exact ⟨nx, h.mv hf hk⟩
theorem ruleIs.ag {M M' : pmM} {k : Nat} {r : aR} (h : ruleIs M k r) (ha : ∀ x, k ≤ x → x < k + 5 → M' x = M x) : ruleIs M' k r := ⟨by rw [ha k (by omega) (by omega)]; exact h.1, h.2.1.eq (ha _ (by omega) (by omega)) (ha _ (by omega) (by omega)), h.2.2.eq (ha _ (by omega) (by omega)) (ha _ (by omega) (by omega))⟩
theorem bookIs.ag {M M' : pmM} {k : Nat} {rs : List aR} (h : bookIs M k rs) (ha : ∀ x, k ≤ x → x < k + 57 → M' x = M x) : bookIs M' k rs := by
  refine ⟨by rw [ha k (by omega) (by omega)]; exact h.1, h.2.1, fun i r hi => ⟨(h.2.2 i r hi).1.ag (fun x h1 h2 => ha x (by omega) ?_), (h.2.2 i r hi).2⟩⟩
  have := (List.getElem?_eq_some_iff.mp hi).1
  have := h.2.1
  omega
section HST
variable {sh : pmS} {M : pmM} {N : pmN} {Q : pmPost} {k : Nat} {hs : List aM}
theorem c_Hist_size (hb : isHist sh k) (hx : histIs M k hs) (kk : Q (some (.int (nI hs.length))) sh M N) : PW mX1_size 0 [.ref k] [] sh M N Q := by
  obtain ⟨h1, h2, h3⟩ := hb
  obtain ⟨nx, x0, x1, x2, x3, x4⟩ := hx
  refine pw_aload_n 1 rfl rfl rfl ?_
  refine pw_getI 4 rfl rfl (by first | assumption | exact ⟨by decide, rfl⟩) rfl ?_
  rw [x1]
  exact pw_iret rfl rfl (kk)
theorem c_Hist_clear (hb : isHist sh k) (hx : histIs M k hs) (kk : ∀ M', fr k (k + 1) M M' → histIs M' k [] → Q none sh M' N) : PW mX1_clear 0 [.ref k] [] sh M N Q := by
  obtain ⟨h1, h2, h3⟩ := hb
  obtain ⟨nx, x0, x1, x2, x3, x4⟩ := hx
  refine pw_aload_n 1 rfl rfl rfl ?_
  refine pw_iconst (v := nI 0) 2 rfl rfl (by decide) ?_
  refine pw_putI 5 rfl rfl (by first | assumption | exact ⟨by decide, rfl⟩) rfl (by decide) ?_
  exact pw_vret rfl (kk _ (fr_st M 1 _ (Nat.le_refl k) (Nat.lt_succ_self k)) ⟨nx, x0, st_same _ _ _ _, by rw [st_row _ _ _ _ (by decide)]; exact x2, Nat.zero_le _, fun i r hi => by simp at hi⟩)
theorem c_Hist_moment (hb : isHist sh k) {z : Int32} {i : Nat} (hz : fmd8 z = nI i) (hi : i < 8) (kk : Q (some (.ref (k + 2 + 6 * i))) sh M N) : PW mX1_moment 0 [.ref k, .int z] [] sh M N Q := by
  obtain ⟨h1, h2, h3⟩ := hb
  refine pw_aload_n 1 rfl rfl rfl ?_
  refine pw_getR 4 rfl rfl (by first | assumption | exact ⟨by decide, rfl⟩) rfl ?_
  refine pw_iload_n 5 rfl rfl rfl ?_
  refine pw_bipush (v := nI 8) 7 rfl rfl (by decide) ?_
  refine pw_cS2 10 rfl rfl rfl (Nat.le_of_ble_eq_true rfl) rfl rfl (Nat.le_of_ble_eq_true rfl) (c_floorMod8 ?_)
  rw [hz]
  refine pw_pI ?_
  have hg : ((List.range 8).map fun i => some (k + 2 + 6 * i))[i]? = some (some (k + 2 + 6 * i)) := by
    rw [List.getElem?_map, List.getElem?_range hi]; rfl
  refine pw_aald _ 11 rfl rfl (by first | assumption | exact ⟨by decide, rfl, by decide⟩) (by decide) (by with_reducible rfl) (by first | assumption | omega) (by first | assumption | rfl) ?_
  exact pw_aret rfl (kk)
theorem c_Hist_add {k2 : Nat} {m : aM} (hb : isHist sh k) (hx : histIs M k hs) (hm : isMom sh k2) (hy : mIs M k2 m) (hd : k2 + 6 ≤ k ∨ k + 50 ≤ k2) (kk : ∀ M', fr k (k + 50) M M' → histIs M' k ((m :: hs).take 8) → Q none sh M' N) : PW mX1_add 0 [.ref k, .ref k2] [] sh M N Q := by
  have hb0 := hb
  obtain ⟨h1, h2, h3⟩ := hb
  obtain ⟨nx, x0, x1, x2, x3, x4⟩ := hx
  refine pw_aload_n 1 rfl rfl rfl ?_
  refine pw_aload_n 2 rfl rfl rfl ?_
  refine pw_getI 5 rfl rfl (by first | assumption | exact ⟨by decide, rfl⟩) rfl ?_
  rw [x2]
  refine pw_cV1 8 rfl rfl (by first | assumption | exact ⟨by decide, rfl⟩) rfl (Nat.le_of_ble_eq_true rfl) rfl rfl (Nat.le_of_ble_eq_true rfl) (c_Hist_moment hb0 (i := nx) (by rw [fmd8_n nx (by omega), Nat.mod_eq_of_lt x0]) x0 ?_)
  refine pw_pR ?_
  have o1 := (h3 nx x0).1
  refine pw_aload_n 9 rfl rfl rfl ?_
  refine pw_cV1 12 rfl rfl (by first | assumption | exact ⟨by decide, rfl⟩) rfl (Nat.le_of_ble_eq_true rfl) rfl rfl (Nat.le_of_ble_eq_true rfl) (c_Mom_takeFrom (h3 nx x0) hm hy (by omega) (fun M1 f1 r1 => ?_))
  refine pw_pV ?_
  refine pw_aload_n 13 rfl rfl rfl ?_
  refine pw_aload_n 14 rfl rfl rfl ?_
  refine pw_getI 17 rfl rfl (by first | assumption | exact ⟨by decide, rfl⟩) rfl ?_
  refine pw_iconst (v := nI 1) 18 rfl rfl (by decide) ?_
  rw [f1 k (by omega), x2]
  first | refine pw_iaddN 19 rfl rfl (by with_reducible rfl) (by with_reducible rfl) ?_ | refine pw_iadd 19 rfl rfl ?_
  refine pw_bipush (v := nI 8) 21 rfl rfl (by decide) ?_
  refine pw_cS2 24 rfl rfl rfl (Nat.le_of_ble_eq_true rfl) rfl rfl (Nat.le_of_ble_eq_true rfl) (c_floorMod8 ?_)
  rw [fmd8_n (nx + 1) (by omega)]
  refine pw_pI ?_
  refine pw_putI 27 rfl rfl (by first | assumption | exact ⟨by decide, rfl⟩) rfl (by decide) ?_
  refine pw_aload_n 28 rfl rfl rfl ?_
  refine pw_aload_n 29 rfl rfl rfl ?_
  refine pw_getI 32 rfl rfl (by first | assumption | exact ⟨by decide, rfl⟩) rfl ?_
  refine pw_iconst (v := nI 1) 33 rfl rfl (by decide) ?_
  rw [st_row _ _ _ _ (by decide), f1 k (by omega), x1]
  first | refine pw_iaddN 34 rfl rfl (by with_reducible rfl) (by with_reducible rfl) ?_ | refine pw_iadd 34 rfl rfl ?_
  refine pw_bipush (v := nI 8) 36 rfl rfl (by decide) ?_
  refine pw_cS2 39 rfl rfl rfl (Nat.le_of_ble_eq_true rfl) rfl rfl (Nat.le_of_ble_eq_true rfl) (c_min (by omega) (by decide) ?_)
  refine pw_pI ?_
  refine pw_putI 42 rfl rfl (by first | assumption | exact ⟨by decide, rfl⟩) rfl (by decide) ?_
  refine pw_vret rfl (kk _ (fun x h => ?_) ⟨(nx + 1) % 8, Nat.mod_lt _ (by decide), ?_, ?_, ?_, fun i m' hi => ?_⟩)
  · rw [st_ne _ _ _ _ (by omega), st_ne _ _ _ _ (by omega)]; exact f1 x (by omega)
  · rw [st_same, List.length_take, List.length_cons, Nat.min_comm]
  · rw [st_row _ _ _ _ (by decide), st_same]
  · rw [List.length_take]; omega
  · have hi8 : i < 8 := by
      have := (List.getElem?_eq_some_iff.mp hi).1
      rw [List.length_take] at this; omega
    rw [List.getElem?_take] at hi
    rw [if_pos hi8] at hi
    have f9 : fr k (k + 1) M1 (pmSt (pmSt M1 k 2 (nI ((nx + 1) % 8))) k 1 (nI (min (hs.length + 1) 8))) := fun x h => by rw [st_ne _ _ _ _ (by omega), st_ne _ _ _ _ (by omega)]
    cases i with
    | zero =>
      cases hi
      have e : ((nx + 1) % 8 + 15 - 0) % 8 = nx := by omega
      rw [e]
      exact momIs.mv r1 f9 (by omega)
    | succ i =>
      rw [List.getElem?_cons_succ] at hi
      have e : ((nx + 1) % 8 + 15 - (i + 1)) % 8 = (nx + 15 - i) % 8 := by omega
      rw [e]
      exact momIs.mv (momIs.mv (x4 i m' hi) f1 (by omega)) f9 (by omega)
theorem c_Hist_giveBack {k2 : Nat} (hb : isHist sh k) (hx : histIs M k hs) (hm : isMom sh k2) (hd : k2 + 6 ≤ k ∨ k + 50 ≤ k2) (k0 : hs = [] → Q (some (.int (nI 0))) sh M N)
    (kk : ∀ m t M', hs = m :: t → (∀ x, (x < k ∨ k + 1 ≤ x) → (x < k2 ∨ k2 + 6 ≤ x) → M' x = M x) → histIs M' k t → mIs M' k2 m → Q (some (.int (nI 1))) sh M' N) : PW mX1_giveBack 0 [.ref k, .ref k2] [] sh M N Q := by
  have hb0 := hb
  obtain ⟨h1, h2, h3⟩ := hb
  obtain ⟨nx, x0, x1, x2, x3, x4⟩ := hx
  refine pw_aload_n 1 rfl rfl rfl ?_
  refine pw_getI 4 rfl rfl (by first | assumption | exact ⟨by decide, rfl⟩) rfl ?_
  rw [x1]
  cases hs with
  | nil =>
    refine pw_if_gt_f 7 rfl rfl (by decide) ?_
    refine pw_iconst (v := nI 0) 8 rfl rfl (by decide) ?_
    exact pw_zret rfl rfl (by first | exact Or.inl rfl | exact Or.inr rfl | assumption) (k0 rfl)
  | cons m t =>
    skip
    refine pw_if_gt_t 9 rfl rfl (by have := (nI_ltI (a := 0) (b := (m :: t).length) (by decide) (by omega)).mpr (by simp); exact this) ?_
    refine pw_aload_n 10 rfl rfl rfl ?_
    refine pw_dup 11 rfl rfl rfl ?_
    refine pw_getI 14 rfl rfl (by first | assumption | exact ⟨by decide, rfl⟩) rfl ?_
    refine pw_iconst (v := nI 1) 15 rfl rfl (by decide) ?_
    rw [x1]
    have x3' : t.length + 1 ≤ 8 := x3
    rw [List.length_cons]
    first | refine pw_isubN 16 rfl rfl (by with_reducible rfl) (by with_reducible rfl) (by omega) ?_ | refine pw_isub 16 rfl rfl ?_
    refine pw_putI 19 rfl rfl (by first | assumption | exact ⟨by decide, rfl⟩) rfl (by decide) ?_
    refine pw_aload_n 20 rfl rfl rfl ?_
    refine pw_aload_n 21 rfl rfl rfl ?_
    refine pw_getI 24 rfl rfl (by first | assumption | exact ⟨by decide, rfl⟩) rfl ?_
    refine pw_iconst (v := nI 1) 25 rfl rfl (by decide) ?_
    rw [st_row _ _ _ _ (by decide), x2]
    refine pw_isub 26 rfl rfl ?_
    refine pw_bipush (v := nI 8) 28 rfl rfl (by decide) ?_
    refine pw_cS2 31 rfl rfl rfl (Nat.le_of_ble_eq_true rfl) rfl rfl (Nat.le_of_ble_eq_true rfl) (c_floorMod8 ?_)
    rw [fmd8_sub nx (by omega) 1 (by decide)]
    refine pw_pI ?_
    refine pw_putI 34 rfl rfl (by first | assumption | exact ⟨by decide, rfl⟩) rfl (by decide) ?_
    refine pw_aload_n 35 rfl rfl rfl ?_
    refine pw_aload_n 36 rfl rfl rfl ?_
    refine pw_aload_n 37 rfl rfl rfl ?_
    refine pw_getI 40 rfl rfl (by first | assumption | exact ⟨by decide, rfl⟩) rfl ?_
    rw [st_same]
    have hq : (nx + 16 - 1) % 8 < 8 := Nat.mod_lt _ (by decide)
    skip
    refine pw_cV1 43 rfl rfl (by first | assumption | exact ⟨by decide, rfl⟩) rfl (Nat.le_of_ble_eq_true rfl) rfl rfl (Nat.le_of_ble_eq_true rfl) (c_Hist_moment hb0 (i := (nx + 16 - 1) % 8) (by rw [fmd8_n _ (by omega), Nat.mod_eq_of_lt hq]) hq ?_)
    refine pw_pR ?_
    have o2 := hm.1
    have hm0 : mIs M (k + 2 + 6 * ((nx + 16 - 1) % 8)) m := by
      have := x4 0 m rfl
      rwa [show nx + 15 - 0 = nx + 16 - 1 by omega] at this
    have f9 : fr k (k + 1) M (pmSt (pmSt M k 1 (nI (t.length + 1 - 1))) k 2 (nI ((nx + 16 - 1) % 8))) := fun x h => by rw [st_ne _ _ _ _ (by omega), st_ne _ _ _ _ (by omega)]
    skip
    refine pw_cV1 46 rfl rfl (by first | assumption | exact ⟨by decide, rfl⟩) rfl (Nat.le_of_ble_eq_true rfl) rfl rfl (Nat.le_of_ble_eq_true rfl) (c_Mom_takeFrom hm (h3 _ hq) (momIs.mv hm0 f9 (by omega)) (by omega) (fun M1 f1 r1 => ?_))
    refine pw_pV ?_
    refine pw_iconst (v := nI 1) 47 rfl rfl (by decide) ?_
    refine pw_zret rfl rfl (Or.inr rfl) (kk m t M1 rfl (fun x ha hb => ?_) ⟨(nx + 16 - 1) % 8, hq, ?_, ?_, ?_, fun i m' hi => ?_⟩ r1)
    · rw [f1 x hb]; exact f9 x ha
    · rw [f1 k (by omega), st_row _ _ _ _ (by decide), st_same]; rfl
    · rw [f1 k (by omega), st_same]
    · omega
    · have hi8 : i < t.length := (List.getElem?_eq_some_iff.mp hi).1
      have e : ((nx + 16 - 1) % 8 + 15 - i) % 8 = (nx + 15 - (i + 1)) % 8 := by omega
      rw [e]
      refine momIs.mv (momIs.mv (x4 (i + 1) m' (by rw [List.getElem?_cons_succ]; exact hi)) f9 (by omega)) f1 (by omega)
theorem htake_loop {k2 nx : Nat} (hb : isHist sh k) (hb2 : isHist sh k2) (hx : histAt M k2 hs nx) (hd : k + 50 ≤ k2 ∨ k2 + 50 ≤ k) (kk : ∀ M', fr k (k + 50) M M' → histIs M' k hs → Q none sh M' N) :
    ∀ (d i : Nat) (M1 : pmM), i + d = hs.length → fr k (k + 50) M M1 → M1 k 1 = nI hs.length → M1 k 2 = nI nx → (∀ j m, j < i → hs[j]? = some m → mIs M1 (k + 2 + 6 * ((nx + 15 - j) % 8)) m) → PW mX1_takeFrom 18 [.ref k, .ref k2, .int (nI (i + 1))] [] sh M1 N Q := by
  have hb0 := hb
  have hb02 := hb2
  obtain ⟨h1, h2, h3⟩ := hb
  obtain ⟨g1, g2, g3⟩ := hb2
  obtain ⟨x0, x1, x2, x3, x4⟩ := hx
  intro d
  induction d with
  | zero =>
    intro i M1 hi hf e1 e2 hr
    refine pw_iload_n 19 rfl rfl rfl ?_
    refine pw_aload_n 20 rfl rfl rfl ?_
    refine pw_getI 23 rfl rfl (by first | assumption | exact ⟨by decide, rfl⟩) rfl ?_
    rw [e1]
    refine pw_icmp_gt_t 55 rfl rfl (nI_lt (by omega) (by omega)) ?_
    skip
    exact pw_vret rfl (kk M1 hf ⟨nx, x0, e1, e2, x3, fun j m hj => hr j m (by have := (List.getElem?_eq_some_iff.mp hj).1; omega) hj⟩)
  | succ d ih =>
    intro i M1 hi hf e1 e2 hr
    refine pw_iload_n 19 rfl rfl rfl ?_
    refine pw_aload_n 20 rfl rfl rfl ?_
    refine pw_getI 23 rfl rfl (by first | assumption | exact ⟨by decide, rfl⟩) rfl ?_
    rw [e1]
    refine pw_icmp_gt_f 26 rfl rfl (nI_nlt (by omega) (by omega)) ?_
    refine pw_aload_n 27 rfl rfl rfl ?_
    refine pw_aload_n 28 rfl rfl rfl ?_
    refine pw_getI 31 rfl rfl (by first | assumption | exact ⟨by decide, rfl⟩) rfl ?_
    refine pw_iload_n 32 rfl rfl rfl ?_
    rw [e2]
    refine pw_isub 33 rfl rfl ?_
    have hq : (nx + 16 - (i + 1)) % 8 < 8 := Nat.mod_lt _ (by decide)
    skip
    refine pw_cV1 36 rfl rfl (by first | assumption | exact ⟨by decide, rfl⟩) rfl (Nat.le_of_ble_eq_true rfl) rfl rfl (Nat.le_of_ble_eq_true rfl) (c_Hist_moment hb0 (i := (nx + 16 - (i + 1)) % 8) (fmd8_sub nx (by omega) (i + 1) (by omega)) hq ?_)
    refine pw_pR ?_
    refine pw_aload_n 37 rfl rfl rfl ?_
    refine pw_aload_n 38 rfl rfl rfl ?_
    refine pw_getI 41 rfl rfl (by first | assumption | exact ⟨by decide, rfl⟩) rfl ?_
    refine pw_iload_n 42 rfl rfl rfl ?_
    rw [e2]
    refine pw_isub 43 rfl rfl ?_
    skip
    refine pw_cV1 46 rfl rfl (by first | assumption | exact ⟨by decide, rfl⟩) rfl (Nat.le_of_ble_eq_true rfl) rfl rfl (Nat.le_of_ble_eq_true rfl) (c_Hist_moment hb02 (i := (nx + 16 - (i + 1)) % 8) (fmd8_sub nx (by omega) (i + 1) (by omega)) hq ?_)
    refine pw_pR ?_
    have hlt : i < hs.length := by omega
    obtain ⟨m, hmi⟩ : ∃ m, hs[i]? = some m := ⟨_, List.getElem?_eq_getElem hlt⟩
    have hm0 := x4 i m hmi
    rw [show nx + 15 - i = nx + 16 - (i + 1) by omega] at hm0
    have o1 := (h3 _ hq).1
    skip
    refine pw_cV1 49 rfl rfl (by first | assumption | exact ⟨by decide, rfl⟩) rfl (Nat.le_of_ble_eq_true rfl) rfl rfl (Nat.le_of_ble_eq_true rfl) (c_Mom_takeFrom (h3 _ hq) (g3 _ hq) (momIs.mv hm0 hf (by omega)) (by omega) (fun M2 f2 r2 => ?_))
    refine pw_pV ?_
    first | refine pw_iincN2 52 rfl rfl rfl (by with_reducible rfl) ?_ | refine pw_iinc2 (w := _) 52 rfl rfl rfl rfl ?_
    refine pw_goto rfl 18 rfl ?_
    refine ih (i + 1) M2 (by omega) (hf.tr (f2.wk (by omega) (by omega))) (by rw [f2 k (by omega)]; exact e1) (by rw [f2 k (by omega)]; exact e2) (fun j m' hj hm' => ?_)
    by_cases q : j = i
    · subst q
      rw [hmi] at hm'
      cases hm'
      rw [show nx + 15 - j = nx + 16 - (j + 1) by omega]
      exact r2
    · exact momIs.mv (hr j m' (by omega) hm') f2 (by omega)
theorem c_Hist_takeFrom {k2 : Nat} (hb : isHist sh k) (hb2 : isHist sh k2) (hx : histIs M k2 hs) (hd : k + 50 ≤ k2 ∨ k2 + 50 ≤ k) (kk : ∀ M', fr k (k + 50) M M' → histIs M' k hs → Q none sh M' N) : PW mX1_takeFrom 0 [.ref k, .ref k2, .null] [] sh M N Q := by
  have hb0 := hb
  have hb02 := hb2
  obtain ⟨h1, h2, h3⟩ := hb
  obtain ⟨g1, g2, g3⟩ := hb2
  obtain ⟨nx, hx⟩ := hx
  have hx0 := hx
  obtain ⟨x0, x1, x2, x3, x4⟩ := hx
  refine pw_aload_n 1 rfl rfl rfl ?_
  refine pw_aload_n 2 rfl rfl rfl ?_
  refine pw_getI 5 rfl rfl (by first | assumption | exact ⟨by decide, rfl⟩) rfl ?_
  refine pw_putI 8 rfl rfl (by first | assumption | exact ⟨by decide, rfl⟩) rfl (by decide) ?_
  refine pw_aload_n 9 rfl rfl rfl ?_
  refine pw_aload_n 10 rfl rfl rfl ?_
  refine pw_getI 13 rfl rfl (by first | assumption | exact ⟨by decide, rfl⟩) rfl ?_
  refine pw_putI 16 rfl rfl (by first | assumption | exact ⟨by decide, rfl⟩) rfl (by decide) ?_
  refine pw_iconst (v := nI 1) 17 rfl rfl (by decide) ?_
  refine pw_istore2 18 rfl rfl rfl ?_
  rw [x1, st_ne _ _ _ _ (show k2 ≠ k by omega), x2]
  exact htake_loop hb0 hb02 hx0 hd kk hs.length 0 _ (by omega) (fun x h => by rw [st_ne _ _ _ _ (by omega), st_ne _ _ _ _ (by omega)]) (by rw [st_row _ _ _ _ (by decide), st_same]) (st_same _ _ _ _) (fun j m hj => absurd hj (Nat.not_lt_zero j))
end HST
/-- all that an image keeps -/
abbrev aS : Type := aM × List aR × List aM
def isState (sh : pmS) (k : Nat) : Prop := pmOb sh k 7 [some (some (k + 1)), some (some (k + 7)), some (some (k + 64))] ∧ isMom sh (k + 1) ∧ isBook sh (k + 7) ∧ isHist sh (k + 64)
def wfS (a : aS) : Prop := a.1.2.2 < 2 ^ a.2.1.length ∧ ∀ m ∈ a.2.2, m.2.2 < 2 ^ a.2.1.length
def stIs (M : pmM) (k : Nat) (a : aS) : Prop := mIs M (k + 1) a.1 ∧ bookIs M (k + 7) a.2.1 ∧ histIs M (k + 64) a.2.2
theorem stIs.mv {M M' : pmM} {k u v : Nat} {a : aS} (h : stIs M k a) (hf : fr u v M M') (hk : k + 114 ≤ u ∨ v ≤ k + 1) : stIs M' k a := ⟨momIs.mv h.1 hf (by omega), h.2.1.mv hf (by omega), h.2.2.mv hf (by omega)⟩
section STT
variable {sh : pmS} {M : pmM} {N : pmN} {Q : pmPost} {k : Nat} {a : aS}
theorem c_State_remember (hb : isState sh k) (hx : stIs M k a) (kk : ∀ M', fr (k + 64) (k + 114) M M' → stIs M' k (a.1, a.2.1, (a.1 :: a.2.2).take 8) → Q none sh M' N) : PW mX7_remember 0 [.ref k] [] sh M N Q := by
  obtain ⟨h1, h2, h3, h4⟩ := hb
  have h4' := h4.1
  refine pw_aload_n 1 rfl rfl rfl ?_
  refine pw_getR 4 rfl rfl (by first | assumption | exact ⟨by decide, rfl⟩) rfl ?_
  refine pw_aload_n 5 rfl rfl rfl ?_
  refine pw_getR 8 rfl rfl (by first | assumption | exact ⟨by decide, rfl⟩) rfl ?_
  refine pw_cV1 11 rfl rfl (by first | assumption | exact ⟨by decide, rfl⟩) rfl (Nat.le_of_ble_eq_true rfl) rfl rfl (Nat.le_of_ble_eq_true rfl) (c_Hist_add h4 hx.2.2 h2 hx.1 (by omega) (fun M1 f1 r1 => ?_))
  refine pw_pV ?_
  skip
  exact pw_vret rfl (kk M1 f1 ⟨momIs.mv hx.1 f1 (by omega), hx.2.1.mv f1 (by omega), r1⟩)
theorem c_State_goBack (hb : isState sh k) (hx : stIs M k a) (k0 : a.2.2 = [] → Q (some (.int (nI 0))) sh M N) (kk : ∀ m t M', a.2.2 = m :: t → fr (k + 1) (k + 114) M M' → stIs M' k (m, a.2.1, t) → Q (some (.int (nI 1))) sh M' N) : PW mX7_goBack 0 [.ref k] [] sh M N Q := by
  obtain ⟨h1, h2, h3, h4⟩ := hb
  have h4' := h4.1
  refine pw_aload_n 1 rfl rfl rfl ?_
  refine pw_getR 4 rfl rfl (by first | assumption | exact ⟨by decide, rfl⟩) rfl ?_
  refine pw_aload_n 5 rfl rfl rfl ?_
  refine pw_getR 8 rfl rfl (by first | assumption | exact ⟨by decide, rfl⟩) rfl ?_
  refine pw_cV1 11 rfl rfl (by first | assumption | exact ⟨by decide, rfl⟩) rfl (Nat.le_of_ble_eq_true rfl) rfl rfl (Nat.le_of_ble_eq_true rfl) (c_Hist_giveBack h4 hx.2.2 h2 (by omega) (fun h => ?_) (fun m t M1 e f1 r1 r2 => ?_))
  · refine pw_pI ?_
    skip
    exact pw_zret rfl rfl (by first | exact Or.inl rfl | exact Or.inr rfl | assumption) (k0 h)
  · refine pw_pI ?_
    skip
    refine pw_zret rfl rfl (Or.inr rfl) (kk m t M1 e (fun x h => f1 x (by omega) (by omega)) ⟨r2, ?_, r1⟩)
    exact hx.2.1.ag (fun x h1 h2 => f1 x (by omega) (by omega))
theorem c_State_takeFrom {k2 : Nat} (hb : isState sh k) (hb2 : isState sh k2) (hx : stIs M k2 a) (hd : k + 114 ≤ k2 ∨ k2 + 114 ≤ k) (kk : ∀ M', fr k (k + 114) M M' → stIs M' k a → Q none sh M' N) : PW mX7_takeFrom 0 [.ref k, .ref k2] [] sh M N Q := by
  obtain ⟨h1, h2, h3, h4⟩ := hb
  obtain ⟨g1, g2, g3, g4⟩ := hb2
  have h2' := h2.1
  have h3' := h3.1
  have h4' := h4.1
  obtain ⟨x1, x2, x3⟩ := hx
  refine pw_aload_n 1 rfl rfl rfl ?_
  refine pw_getR 4 rfl rfl (by first | assumption | exact ⟨by decide, rfl⟩) rfl ?_
  refine pw_aload_n 5 rfl rfl rfl ?_
  refine pw_getR 8 rfl rfl (by first | assumption | exact ⟨by decide, rfl⟩) rfl ?_
  refine pw_cV1 11 rfl rfl (by first | assumption | exact ⟨by decide, rfl⟩) rfl (Nat.le_of_ble_eq_true rfl) rfl rfl (Nat.le_of_ble_eq_true rfl) (c_Mom_takeFrom h2 g2 x1 (by omega) (fun M1 f1 r1 => ?_))
  refine pw_pV ?_
  refine pw_aload_n 12 rfl rfl rfl ?_
  refine pw_getR 15 rfl rfl (by first | assumption | exact ⟨by decide, rfl⟩) rfl ?_
  refine pw_aload_n 16 rfl rfl rfl ?_
  refine pw_getR 19 rfl rfl (by first | assumption | exact ⟨by decide, rfl⟩) rfl ?_
  refine pw_cV1 22 rfl rfl (by first | assumption | exact ⟨by decide, rfl⟩) rfl (Nat.le_of_ble_eq_true rfl) rfl rfl (Nat.le_of_ble_eq_true rfl) (c_Book_takeFrom h3 g3 (x2.mv f1 (by omega)) (by omega) (fun M2 f2 r2 => ?_))
  refine pw_pV ?_
  refine pw_aload_n 23 rfl rfl rfl ?_
  refine pw_getR 26 rfl rfl (by first | assumption | exact ⟨by decide, rfl⟩) rfl ?_
  refine pw_aload_n 27 rfl rfl rfl ?_
  refine pw_getR 30 rfl rfl (by first | assumption | exact ⟨by decide, rfl⟩) rfl ?_
  refine pw_cV1 33 rfl rfl (by first | assumption | exact ⟨by decide, rfl⟩) rfl (Nat.le_of_ble_eq_true rfl) rfl rfl (Nat.le_of_ble_eq_true rfl) (c_Hist_takeFrom h4 g4 ((x3.mv f1 (by omega)).mv f2 (by omega)) (by omega) (fun M3 f3 r3 => ?_))
  refine pw_pV ?_
  skip
  exact pw_vret rfl (kk M3 (((f1.wk (by omega) (by omega)).tr (f2.wk (by omega) (by omega))).tr (f3.wk (by omega) (by omega))) ⟨momIs.mv (momIs.mv r1 f2 (by omega)) f3 (by omega), r2.mv f3 (by omega), r3⟩)
end STT
end
section
/-! THE TAPE: how it is read -/
def skp (tp : List Int32) : Nat → Nat → Nat
  | 0, p => p
  | f + 1, p => if p < tp.length ∧ tp.getD p 0 = nI 32 then skp tp f (p + 1) else p
/-- behind blanks -/
def sk (tp : List Int32) (p : Nat) : Nat := skp tp (tp.length - p) p
theorem sk_blank {tp : List Int32} {p : Nat} (h : p < tp.length) (h2 : tp.getD p 0 = nI 32) : sk tp p = sk tp (p + 1) := by
  unfold sk
  rw [show tp.length - p = (tp.length - (p + 1)) + 1 by omega, skp, if_pos ⟨h, h2⟩]
theorem sk_not {tp : List Int32} {p : Nat} (h : ¬ (p < tp.length ∧ tp.getD p 0 = nI 32)) : sk tp p = p := by
  unfold sk
  cases hq : tp.length - p with
  | zero => rfl
  | succ f => rw [skp, if_neg h]
theorem sk_spec (tp : List Int32) : ∀ (d p : Nat), tp.length - p = d → p ≤ sk tp p ∧ (p ≤ tp.length → sk tp p ≤ tp.length) ∧ ¬ (sk tp p < tp.length ∧ tp.getD (sk tp p) 0 = nI 32)
  | 0, p, hd => by
    have h : ¬ (p < tp.length ∧ tp.getD p 0 = nI 32) := by omega
    rw [sk_not h]
    exact ⟨Nat.le_refl _, fun q => q, h⟩
  | d + 1, p, hd => by
    by_cases h : p < tp.length ∧ tp.getD p 0 = nI 32
    · rw [sk_blank h.1 h.2]
      have ih := sk_spec tp d (p + 1) (by omega)
      exact ⟨by omega, fun q => ih.2.1 (by omega), ih.2.2⟩
    · rw [sk_not h]
      exact ⟨Nat.le_refl _, fun q => q, h⟩
theorem sk_idem (tp : List Int32) (p : Nat) : sk tp (sk tp p) = sk tp p := sk_not (sk_spec tp _ p rfl).2.2
theorem sk_le {tp : List Int32} {p : Nat} (h : p ≤ tp.length) : sk tp p ≤ tp.length := (sk_spec tp _ p rfl).2.1 h
/-- the sign there; none -/
def cur (tp : List Int32) (p : Nat) : Option Int32 := tp[sk tp p]?
def ltO : Option Int32 → Bool
  | some c => ltr c
  | none => false
def kindC (c : Int32) : Option Nat := if c = nI 112 then some 0 else if c = nI 119 then some 1 else if c = nI 102 then some 2 else if c = nI 116 then some 3 else if c = nI 111 then some 4 else none
def kindO : Option Int32 → Option Nat
  | some c => kindC c
  | none => none
theorem kindO_lt {o : Option Int32} {k : Nat} (h : kindO o = some k) : k < 5 := by
  cases o with
  | none => cases h
  | some c =>
    simp only [kindO, kindC] at h
    repeat' split at h
    all_goals first | (cases h; decide) | cases h
/-- letters, m at most -/
def rdL (tp : List Int32) : Nat → Nat → List Int32 × Nat
  | 0, p => ([], p)
  | m + 1, p => if ltO (cur tp p) = true then (((cur tp p).getD 0) :: (rdL tp m (sk tp p + 1)).1, (rdL tp m (sk tp p + 1)).2) else ([], sk tp p)
def rdR (tp : List Int32) (p : Nat) : Option aR × Nat := match kindO (cur tp p) with
  | none => (none, sk tp p)
  | some kd => if cur tp (sk tp p + 1) = some (nI 58) then
      (if (rdL tp 6 (sk tp (sk tp p + 1) + 1)).1 = [] then (none, (rdL tp 6 (sk tp (sk tp p + 1) + 1)).2)
       else if cur tp (rdL tp 6 (sk tp (sk tp p + 1) + 1)).2 = some (nI 61) then
         (some (kd, (rdL tp 6 (sk tp (sk tp p + 1) + 1)).1, (rdL tp 6 (sk tp (rdL tp 6 (sk tp (sk tp p + 1) + 1)).2 + 1)).1), (rdL tp 6 (sk tp (rdL tp 6 (sk tp (sk tp p + 1) + 1)).2 + 1)).2)
       else (none, sk tp (rdL tp 6 (sk tp (sk tp p + 1) + 1)).2))
    else (none, sk tp (sk tp p + 1))
def rdRs (tp : List Int32) : Nat → Nat → List aR → Option (List aR) × Nat
  | 0, p, acc => (if cur tp p = none then some acc else none, sk tp p)
  | n + 1, p, acc => if cur tp p = some (nI 59) then (match rdR tp (sk tp p + 1) with
      | (some r, q) => rdRs tp n q (acc ++ [r])
      | (none, q) => (none, q)) else (if cur tp p = none then some acc else none, sk tp p)
theorem cur_lt {tp : List Int32} {p : Nat} {c : Int32} (h : cur tp p = some c) : sk tp p < tp.length ∧ tp.getD (sk tp p) 0 = c := by
  unfold cur at h
  refine ⟨(List.getElem?_eq_some_iff.mp h).1, ?_⟩
  rw [List.getD_eq_getElem?_getD, h]; rfl
theorem rdL_len (tp : List Int32) : ∀ (m p : Nat), (rdL tp m p).1.length ≤ m ∧ (p ≤ tp.length → (rdL tp m p).2 ≤ tp.length)
  | 0, p => ⟨Nat.le_refl _, fun h => h⟩
  | m + 1, p => by
    rw [rdL]
    by_cases h : ltO (cur tp p) = true
    · rw [if_pos h]
      have ih := rdL_len tp m (sk tp p + 1)
      refine ⟨by simp only [List.length_cons]; omega, fun _ => ih.2 ?_⟩
      cases hc : cur tp p with
      | none => rw [hc] at h; cases h
      | some c => have := (cur_lt hc).1; omega
    · rw [if_neg h]
      exact ⟨Nat.zero_le _, fun q => sk_le q⟩
theorem rdR_ok {tp : List Int32} {p : Nat} (hp : p ≤ tp.length) : (∀ r, (rdR tp p).1 = some r → wfR r) ∧ (rdR tp p).2 ≤ tp.length := by
  unfold rdR
  cases hk : kindO (cur tp p) with
  | none => exact ⟨fun r h => (by cases h), sk_le hp⟩
  | some kd =>
    simp only
    have h1 : sk tp p + 1 ≤ tp.length := by
      cases hc : cur tp p with
      | none => rw [hc] at hk; cases hk
      | some c => have := (cur_lt hc).1; omega
    by_cases h2 : cur tp (sk tp p + 1) = some (nI 58)
    · rw [if_pos h2]
      have h3 := (cur_lt h2).1
      have l1 := rdL_len tp 6 (sk tp (sk tp p + 1) + 1)
      have l1' := l1.2 (by omega)
      by_cases h4 : (rdL tp 6 (sk tp (sk tp p + 1) + 1)).1 = []
      · rw [if_pos h4]; exact ⟨fun r h => (by cases h), l1'⟩
      · rw [if_neg h4]
        by_cases h5 : cur tp (rdL tp 6 (sk tp (sk tp p + 1) + 1)).2 = some (nI 61)
        · rw [if_pos h5]
          have h6 := (cur_lt h5).1
          have l2 := rdL_len tp 6 (sk tp (rdL tp 6 (sk tp (sk tp p + 1) + 1)).2 + 1)
          refine ⟨fun r h => ?_, l2.2 (by omega)⟩
          cases h
          exact ⟨kindO_lt hk, List.length_pos_iff.mpr h4, l1.1, l2.1⟩
        · rw [if_neg h5]; exact ⟨fun r h => (by cases h), sk_le l1'⟩
    · rw [if_neg h2]; exact ⟨fun r h => (by cases h), sk_le h1⟩
theorem rdRs_ok (tp : List Int32) : ∀ (n p : Nat) (acc : List aR), p ≤ tp.length → (∀ r ∈ acc, wfR r) → (∀ rs, (rdRs tp n p acc).1 = some rs → (∀ r ∈ rs, wfR r) ∧ rs.length ≤ acc.length + n) ∧ (rdRs tp n p acc).2 ≤ tp.length
  | 0, p, acc, hp, ha => by
    rw [rdRs]
    refine ⟨fun rs h => ?_, sk_le hp⟩
    simp only at h
    split at h
    · cases h; exact ⟨ha, Nat.le_refl _⟩
    · cases h
  | n + 1, p, acc, hp, ha => by
    rw [rdRs]
    by_cases h : cur tp p = some (nI 59)
    · rw [if_pos h]
      have h1 := (cur_lt h).1
      have h2 := rdR_ok (tp := tp) (p := sk tp p + 1) (by omega)
      cases hr : rdR tp (sk tp p + 1) with
      | mk o q =>
        rw [hr] at h2
        cases o with
        | none => exact ⟨fun rs h => (by cases h), h2.2⟩
        | some r =>
          have ih := rdRs_ok tp n q (acc ++ [r]) h2.2 (fun x hx => by
            rcases List.mem_append.mp hx with h | h
            · exact ha x h
            · rw [List.mem_singleton.mp h]; exact h2.1 r rfl)
          refine ⟨fun rs h => ?_, ih.2⟩
          have := ih.1 rs h
          refine ⟨this.1, ?_⟩
          have := this.2
          rw [List.length_append] at this
          simp at this
          omega
    · rw [if_neg h]
      refine ⟨fun rs h => ?_, sk_le hp⟩
      simp only at h
      split at h
      · cases h; exact ⟨ha, by omega⟩
      · cases h
def isTape (sh : pmS) (k : Nat) : Prop := pmOb sh k 8 [some (some (k + 1)), none] ∧ isRow sh (k + 1) 150
/-- the sign as the class has it: -1 at the end -/
def cX (tp : List Int32) (p : Nat) : Int32 := (cur tp p).getD (-1)
theorem cX_eq {tp : List Int32} {p s : Nat} (hs : s < 1000) : cX tp p = nI s ↔ cur tp p = some (nI s) := by
  unfold cX
  cases cur tp p with
  | none =>
    simp only [Option.getD_none]
    refine ⟨fun h => ?_, fun h => by cases h⟩
    exfalso
    have h2 := congrArg Int32.toInt h
    rw [nI_toInt (by omega)] at h2
    have h3 : (-1 : Int32).toInt = -1 := by decide
    omega
  | some c => simp
theorem cX_end {tp : List Int32} (ht : ∀ x ∈ tp, ¬ x < 0) {p : Nat} : cX tp p = -1 ↔ cur tp p = none := by
  unfold cX
  cases h : cur tp p with
  | none => simp
  | some c =>
    simp only [Option.getD_some, reduceCtorEq, iff_false]
    intro q
    have := ht c (by unfold cur at h; exact List.mem_of_getElem? h)
    rw [q] at this
    exact this (by decide)
theorem cX_ltr {tp : List Int32} {p : Nat} : ltr (cX tp p) = ltO (cur tp p) := by
  unfold cX
  cases cur tp p with
  | none => decide
  | some c => rfl
theorem cX_kind {tp : List Int32} {p : Nat} : kindC (cX tp p) = kindO (cur tp p) := by
  unfold cX
  cases cur tp p with
  | none => decide
  | some c => rfl
section TAP
variable {sh : pmS} {M : pmM} {N : pmN} {Q : pmPost} {k : Nat} {tp : List Int32}
theorem c_Tape_next_loop (hb : isTape sh k) (hl : tp.length ≤ 150) : ∀ (d p : Nat) (M : pmM), tp.length - p = d → rowIs M (k + 1) tp → p ≤ tp.length → M k 1 = nI p → (∀ M', fr k (k + 1) M M' → M' k 1 = nI (sk tp p) → Q (some (.int (cX tp p))) sh M' N) → PW mX8_next 0 [.ref k] [] sh M N Q := by
  obtain ⟨h1, h2⟩ := hb
  have h2' := h2.1
  have out : ∀ (p : Nat) (M : pmM), rowIs M (k + 1) tp → p ≤ tp.length → M k 1 = nI p → ¬ (p < tp.length ∧ tp.getD p 0 = nI 32) → (∀ M', fr k (k + 1) M M' → M' k 1 = nI (sk tp p) → Q (some (.int (cX tp p))) sh M' N) → PW mX8_next 43 [.ref k] [] sh M N Q := by
    intro p M hx hp hM hn kk
    have e := sk_not hn
    refine pw_aload_n 44 rfl rfl rfl ?_
    refine pw_getI 47 rfl rfl (by first | assumption | exact ⟨by decide, rfl⟩) rfl ?_
    refine pw_aload_n 48 rfl rfl rfl ?_
    refine pw_getR 51 rfl rfl (by first | assumption | exact ⟨by decide, rfl⟩) rfl ?_
    refine pw_cV0 54 rfl rfl (by first | assumption | exact ⟨by decide, rfl⟩) rfl (Nat.le_of_ble_eq_true rfl) rfl rfl (Nat.le_of_ble_eq_true rfl) (c_Row_size h2 hx ?_)
    refine pw_pI ?_
    rw [hM]
    skip
    refine pw_icmp_ge 71 57 rfl rfl rfl (fun h => ?_) (fun h => ?_)
    · have h := (nI_leI (by omega) (by omega)).mp h
      have e2 : cX tp p = -1 := by
        unfold cX cur
        rw [e, List.getElem?_eq_none h]; rfl
      have kk2 := kk M fr.rf (by rw [e]; exact hM)
      rw [e2] at kk2
      refine pw_iconst (v := (-1)) 72 rfl rfl (by decide) ?_
      exact pw_iret rfl rfl (kk2)
    · have h : p < tp.length := by
        rcases Nat.lt_or_ge p tp.length with q | q
        · exact q
        · exact absurd (nI_le q (by omega)) h
      refine pw_aload_n 58 rfl rfl rfl ?_
      refine pw_getR 61 rfl rfl (by first | assumption | exact ⟨by decide, rfl⟩) rfl ?_
      refine pw_aload_n 62 rfl rfl rfl ?_
      refine pw_getI 65 rfl rfl (by first | assumption | exact ⟨by decide, rfl⟩) rfl ?_
      rw [hM]
      refine pw_cV1 68 rfl rfl (by first | assumption | exact ⟨by decide, rfl⟩) rfl (Nat.le_of_ble_eq_true rfl) rfl rfl (Nat.le_of_ble_eq_true rfl) (c_Row_get h2 hx hl _ ?_)
      rw [gI_n (by omega)]
      refine pw_pI ?_
      have e2 : cX tp p = tp.getD p 0 := by
        unfold cX cur
        rw [e, List.getD_eq_getElem?_getD, List.getElem?_eq_getElem h]; rfl
      have kk2 := kk M fr.rf (by rw [e]; exact hM)
      rw [e2] at kk2
      refine pw_goto rfl 72 rfl ?_
      exact pw_iret rfl rfl (kk2)
  intro d
  induction d with
  | zero =>
    intro p M hd hx hp hM kk
    refine pw_aload_n 1 rfl rfl rfl ?_
    refine pw_getI 4 rfl rfl (by first | assumption | exact ⟨by decide, rfl⟩) rfl ?_
    refine pw_aload_n 5 rfl rfl rfl ?_
    refine pw_getR 8 rfl rfl (by first | assumption | exact ⟨by decide, rfl⟩) rfl ?_
    refine pw_cV0 11 rfl rfl (by first | assumption | exact ⟨by decide, rfl⟩) rfl (Nat.le_of_ble_eq_true rfl) rfl rfl (Nat.le_of_ble_eq_true rfl) (c_Row_size h2 hx ?_)
    refine pw_pI ?_
    rw [hM]
    skip
    refine pw_icmp_ge_t 43 rfl rfl (nI_le (by omega) (by omega)) ?_
    exact out p M hx hp hM (by omega) kk
  | succ d ih =>
    intro p M hd hx hp hM kk
    refine pw_aload_n 1 rfl rfl rfl ?_
    refine pw_getI 4 rfl rfl (by first | assumption | exact ⟨by decide, rfl⟩) rfl ?_
    refine pw_aload_n 5 rfl rfl rfl ?_
    refine pw_getR 8 rfl rfl (by first | assumption | exact ⟨by decide, rfl⟩) rfl ?_
    refine pw_cV0 11 rfl rfl (by first | assumption | exact ⟨by decide, rfl⟩) rfl (Nat.le_of_ble_eq_true rfl) rfl rfl (Nat.le_of_ble_eq_true rfl) (c_Row_size h2 hx ?_)
    refine pw_pI ?_
    rw [hM]
    skip
    refine pw_icmp_ge_f 14 rfl rfl (nI_ge (by omega) (by omega)) ?_
    refine pw_aload_n 15 rfl rfl rfl ?_
    refine pw_getR 18 rfl rfl (by first | assumption | exact ⟨by decide, rfl⟩) rfl ?_
    refine pw_aload_n 19 rfl rfl rfl ?_
    refine pw_getI 22 rfl rfl (by first | assumption | exact ⟨by decide, rfl⟩) rfl ?_
    rw [hM]
    refine pw_cV1 25 rfl rfl (by first | assumption | exact ⟨by decide, rfl⟩) rfl (Nat.le_of_ble_eq_true rfl) rfl rfl (Nat.le_of_ble_eq_true rfl) (c_Row_get h2 hx hl _ ?_)
    rw [gI_n (by omega)]
    refine pw_pI ?_
    refine pw_bipush (v := nI 32) 27 rfl rfl (by decide) ?_
    refine pw_icmp_ne 43 30 rfl rfl rfl (fun h => ?_) (fun h => ?_)
    · exact out p M hx hp hM (fun q => h q.2) kk
    · have h := Classical.not_not.mp h
      refine pw_aload_n 31 rfl rfl rfl ?_
      refine pw_dup 32 rfl rfl rfl ?_
      refine pw_getI 35 rfl rfl (by first | assumption | exact ⟨by decide, rfl⟩) rfl ?_
      refine pw_iconst (v := nI 1) 36 rfl rfl (by decide) ?_
      rw [hM]
      first | refine pw_iaddN 37 rfl rfl (by with_reducible rfl) (by with_reducible rfl) ?_ | refine pw_iadd 37 rfl rfl ?_
      refine pw_putI 40 rfl rfl (by first | assumption | exact ⟨by decide, rfl⟩) rfl (by decide) ?_
      refine pw_goto rfl 0 rfl ?_
      have f0 : fr k (k + 1) M (pmSt M k 1 (nI (p + 1))) := fr_st M 1 _ (Nat.le_refl k) (Nat.lt_succ_self k)
      have e := sk_blank (show p < tp.length by omega) h
      refine ih (p + 1) _ (by omega) (hx.mv f0 (by omega)) (by omega) (st_same _ _ _ _) (fun M' f1 e1 => ?_)
      have kk2 := kk M' (f0.tr f1) (by rw [e]; exact e1)
      unfold cX cur at kk2 ⊢
      rw [e] at kk2
      exact kk2
theorem c_Tape_next {p : Nat} (hb : isTape sh k) (hl : tp.length ≤ 150) (hx : rowIs M (k + 1) tp) (hp : p ≤ tp.length) (hM : M k 1 = nI p) (kk : ∀ M', fr k (k + 1) M M' → M' k 1 = nI (sk tp p) → Q (some (.int (cX tp p))) sh M' N) : PW mX8_next 0 [.ref k] [] sh M N Q :=
  c_Tape_next_loop hb hl _ p M rfl hx hp hM kk
theorem c_Tape_rewind (hb : isTape sh k) (kk : ∀ M', fr k (k + 1) M M' → M' k 1 = nI 0 → Q none sh M' N) : PW mX8_rewind 0 [.ref k] [] sh M N Q := by
  obtain ⟨h1, h2⟩ := hb
  refine pw_aload_n 1 rfl rfl rfl ?_
  refine pw_iconst (v := nI 0) 2 rfl rfl (by decide) ?_
  refine pw_putI 5 rfl rfl (by first | assumption | exact ⟨by decide, rfl⟩) rfl (by decide) ?_
  exact pw_vret rfl (kk _ (fr_st M 1 _ (Nat.le_refl k) (Nat.lt_succ_self k)) (st_same _ _ _ _))
theorem c_Tape_takes {p s : Nat} (hb : isTape sh k) (hl : tp.length ≤ 150) (hx : rowIs M (k + 1) tp) (hp : p ≤ tp.length) (hM : M k 1 = nI p) (hs : s < 1000) (ky : ∀ M', fr k (k + 1) M M' → cur tp p = some (nI s) → M' k 1 = nI (sk tp p + 1) → Q (some (.int (nI 1))) sh M' N) (kn : ∀ M', fr k (k + 1) M M' → ¬ cur tp p = some (nI s) → M' k 1 = nI (sk tp p) → Q (some (.int (nI 0))) sh M' N) : PW mX8_takes 0 [.ref k, .int (nI s)] [] sh M N Q := by
  have hb0 := hb
  obtain ⟨h1, h2⟩ := hb
  refine pw_aload_n 1 rfl rfl rfl ?_
  refine pw_cV0 4 rfl rfl (by first | assumption | exact ⟨by decide, rfl⟩) rfl (Nat.le_of_ble_eq_true rfl) rfl rfl (Nat.le_of_ble_eq_true rfl) (c_Tape_next hb0 hl hx hp hM (fun M1 f1 e1 => ?_))
  refine pw_pI ?_
  refine pw_iload_n 5 rfl rfl rfl ?_
  refine pw_icmp_eq 10 8 rfl rfl rfl (fun h => ?_) (fun h => ?_)
  · rw [cX_eq hs] at h
    refine pw_aload_n 11 rfl rfl rfl ?_
    refine pw_dup 12 rfl rfl rfl ?_
    refine pw_getI 15 rfl rfl (by first | assumption | exact ⟨by decide, rfl⟩) rfl ?_
    refine pw_iconst (v := nI 1) 16 rfl rfl (by decide) ?_
    rw [e1]
    first | refine pw_iaddN 17 rfl rfl (by with_reducible rfl) (by with_reducible rfl) ?_ | refine pw_iadd 17 rfl rfl ?_
    refine pw_putI 20 rfl rfl (by first | assumption | exact ⟨by decide, rfl⟩) rfl (by decide) ?_
    refine pw_iconst (v := nI 1) 21 rfl rfl (by decide) ?_
    exact pw_zret rfl rfl (Or.inr rfl) (ky _ (f1.tr (fr_st M1 1 _ (Nat.le_refl k) (Nat.lt_succ_self k))) h (st_same _ _ _ _))
  · rw [cX_eq hs] at h
    refine pw_iconst (v := nI 0) 9 rfl rfl (by decide) ?_
    exact pw_zret rfl rfl (by first | exact Or.inl rfl | exact Or.inr rfl | assumption) (kn M1 f1 h e1)
theorem c_Tape_fault {p : Nat} (hb : isTape sh k) (hl : tp.length ≤ 150) (hx : rowIs M (k + 1) tp) (hp : p ≤ tp.length) (hM : M k 1 = nI p) (kk : ∀ M', fr k (k + 1) M M' → Q (some (.int ((-20) - nI (sk tp p)))) sh M' N) : PW mX8_fault 0 [.ref k] [] sh M N Q := by
  have hb0 := hb
  obtain ⟨h1, h2⟩ := hb
  refine pw_aload_n 1 rfl rfl rfl ?_
  refine pw_cV0 4 rfl rfl (by first | assumption | exact ⟨by decide, rfl⟩) rfl (Nat.le_of_ble_eq_true rfl) rfl rfl (Nat.le_of_ble_eq_true rfl) (c_Tape_next hb0 hl hx hp hM (fun M1 f1 e1 => ?_))
  refine pw_pI ?_
  refine pw_pop 5 rfl rfl rfl ?_
  refine pw_bipush (v := (-20)) 7 rfl rfl (by decide) ?_
  refine pw_aload_n 8 rfl rfl rfl ?_
  refine pw_getI 11 rfl rfl (by first | assumption | exact ⟨by decide, rfl⟩) rfl ?_
  rw [e1]
  refine pw_isub 12 rfl rfl ?_
  skip
  exact pw_iret rfl rfl (kk M1 f1)
theorem rdL_loop {kr n : Nat} (hb : isTape sh k) (hl : tp.length ≤ 150) (hr : isRow sh kr n) (hd : kr + 2 ≤ k ∨ k + 3 ≤ kr) (kk : ∀ (M' : pmM) (xs : List Int32) (q : Nat), (∀ x, x ≠ k → (x < kr ∨ kr + 2 ≤ x) → M' x = M x) → rowIs M' kr xs → M' k 1 = nI q → rdL tp n 0 = rdL tp n 0 → Q none sh M' N → Q none sh M' N) (p0 : Nat) (kf : ∀ M', (∀ x, x ≠ k → (x < kr ∨ kr + 2 ≤ x) → M' x = M x) → rowIs M' kr (rdL tp n p0).1 → M' k 1 = nI (rdL tp n p0).2 → Q none sh M' N) :
    ∀ (d i p : Nat) (xs : List Int32) (M1 : pmM), i + d = n → xs.length = i → p ≤ tp.length → (∀ x, x ≠ k → (x < kr ∨ kr + 2 ≤ x) → M1 x = M x) → rowIs M1 (k + 1) tp → rowIs M1 kr xs → M1 k 1 = nI p → ((xs ++ (rdL tp d p).1, (rdL tp d p).2) = rdL tp n p0) → PW mX8_readLetters 6 [.ref k, .ref kr, .int (nI i)] [] sh M1 N Q := by
  have hb0 := hb
  obtain ⟨h1, h2⟩ := hb
  have hr0 := hr
  obtain ⟨r1, r2⟩ := hr
  have hn := r2.2.2
  intro d
  induction d with
  | zero =>
    intro i p xs M1 hi hxl hp hf hx hxr hM he
    refine pw_iload_n 7 rfl rfl rfl ?_
    refine pw_aload_n 8 rfl rfl rfl ?_
    refine pw_cV0 11 rfl rfl (by first | assumption | exact ⟨by decide, rfl⟩) rfl (Nat.le_of_ble_eq_true rfl) rfl rfl (Nat.le_of_ble_eq_true rfl) (c_Row_most hr0 ?_)
    refine pw_pI ?_
    skip
    refine pw_icmp_ge_t 49 rfl rfl (nI_le (by omega) (by omega)) ?_
    skip
    rw [rdL, List.append_nil] at he
    exact pw_vret rfl (kf M1 hf (by rw [← he]; exact hxr) (by rw [← he]; exact hM))
  | succ d ih =>
    intro i p xs M1 hi hxl hp hf hx hxr hM he
    refine pw_iload_n 7 rfl rfl rfl ?_
    refine pw_aload_n 8 rfl rfl rfl ?_
    refine pw_cV0 11 rfl rfl (by first | assumption | exact ⟨by decide, rfl⟩) rfl (Nat.le_of_ble_eq_true rfl) rfl rfl (Nat.le_of_ble_eq_true rfl) (c_Row_most hr0 ?_)
    refine pw_pI ?_
    skip
    refine pw_icmp_ge_f 14 rfl rfl (nI_ge (by omega) (by omega)) ?_
    refine pw_aload_n 15 rfl rfl rfl ?_
    refine pw_cV0 18 rfl rfl (by first | assumption | exact ⟨by decide, rfl⟩) rfl (Nat.le_of_ble_eq_true rfl) rfl rfl (Nat.le_of_ble_eq_true rfl) (c_Tape_next hb0 hl hx hp hM (fun M2 f2 e2 => ?_))
    refine pw_pI ?_
    have hf2 : ∀ x, x ≠ k → (x < kr ∨ kr + 2 ≤ x) → M2 x = M x := fun x ha hb => by rw [f2 x (by omega)]; exact hf x ha hb
    skip
    rw [rdL] at he
    refine pw_cS1 21 rfl rfl rfl (Nat.le_of_ble_eq_true rfl) rfl rfl (Nat.le_of_ble_eq_true rfl) (c_isLetter (fun hq => ?_) (fun hq => ?_))
    · refine pw_pI ?_
      rw [cX_ltr] at hq
      rw [if_pos hq] at he
      skip
      refine pw_if_eq_f 24 rfl rfl (by decide) ?_
      refine pw_aload_n 25 rfl rfl rfl ?_
      refine pw_aload_n 26 rfl rfl rfl ?_
      refine pw_cV0 29 rfl rfl (by first | assumption | exact ⟨by decide, rfl⟩) rfl (Nat.le_of_ble_eq_true rfl) rfl rfl (Nat.le_of_ble_eq_true rfl) (c_Tape_next hb0 hl (hx.mv f2 (by omega)) (sk_le hp) e2 (fun M3 f3 e3 => ?_))
      rw [sk_idem] at e3
      have e4 : cX tp (sk tp p) = (cur tp p).getD 0 := by
        unfold cX cur
        rw [sk_idem]
        cases hc : tp[sk tp p]? with
        | none => unfold cur at hq; rw [hc] at hq; cases hq
        | some c => rfl
      rw [e4]
      refine pw_pI ?_
      skip
      refine pw_cV1 32 rfl rfl (by first | assumption | exact ⟨by decide, rfl⟩) rfl (Nat.le_of_ble_eq_true rfl) rfl rfl (Nat.le_of_ble_eq_true rfl) (c_Row_add hr0 ((hxr.mv f2 (by omega)).mv f3 (by omega)) (by omega) _ (fun M4 f4 r4 => ?_))
      refine pw_pI ?_
      refine pw_pop 33 rfl rfl rfl ?_
      refine pw_aload_n 34 rfl rfl rfl ?_
      refine pw_dup 35 rfl rfl rfl ?_
      refine pw_getI 38 rfl rfl (by first | assumption | exact ⟨by decide, rfl⟩) rfl ?_
      refine pw_iconst (v := nI 1) 39 rfl rfl (by decide) ?_
      rw [f4 k (by omega), e3]
      first | refine pw_iaddN 40 rfl rfl (by with_reducible rfl) (by with_reducible rfl) ?_ | refine pw_iadd 40 rfl rfl ?_
      refine pw_putI 43 rfl rfl (by first | assumption | exact ⟨by decide, rfl⟩) rfl (by decide) ?_
      first | refine pw_iincN2 46 rfl rfl rfl (by with_reducible rfl) ?_ | refine pw_iinc2 (w := _) 46 rfl rfl rfl rfl ?_
      refine pw_goto rfl 6 rfl ?_
      have f5 : fr k (k + 1) M4 (pmSt M4 k 1 (nI (sk tp p + 1))) := fr_st M4 1 _ (Nat.le_refl k) (Nat.lt_succ_self k)
      have hlt : sk tp p < tp.length := by
        cases hc : cur tp p with
        | none => rw [hc] at hq; cases hq
        | some c => exact (cur_lt hc).1
      refine ih (i + 1) (sk tp p + 1) (xs ++ [(cur tp p).getD 0]) _ (by omega) (by simp; omega) (by omega) (fun x ha hb => ?_) ?_ (r4.mv f5 (by omega)) (st_same _ _ _ _) ?_
      · rw [f5 x (by omega), f4 x hb, f3 x (by omega)]; exact hf2 x ha hb
      · exact (((hx.mv f2 (by omega)).mv f3 (by omega)).mv f4 (by omega)).mv f5 (by omega)
      · rw [← he, List.append_assoc]; rfl
    · refine pw_pI ?_
      rw [cX_ltr] at hq
      rw [if_neg (by rw [hq]; decide), List.append_nil] at he
      skip
      refine pw_if_eq_t 49 rfl rfl (by decide) ?_
      skip
      exact pw_vret rfl (kf M2 hf2 (by rw [← he]; exact hxr.mv f2 (by omega)) (by rw [← he]; exact e2))
theorem c_Tape_readLetters {kr n p : Nat} (hb : isTape sh k) (hl : tp.length ≤ 150) (hx : rowIs M (k + 1) tp) (hp : p ≤ tp.length) (hM : M k 1 = nI p) (hr : isRow sh kr n) (hd : kr + 2 ≤ k ∨ k + 3 ≤ kr) (kf : ∀ M', (∀ x, x ≠ k → (x < kr ∨ kr + 2 ≤ x) → M' x = M x) → rowIs M' kr (rdL tp n p).1 → M' k 1 = nI (rdL tp n p).2 → Q none sh M' N) : PW mX8_readLetters 0 [.ref k, .ref kr, .null] [] sh M N Q := by
  have hr0 := hr
  obtain ⟨r1, r2⟩ := hr
  refine pw_aload_n 1 rfl rfl rfl ?_
  refine pw_cV0 4 rfl rfl (by first | assumption | exact ⟨by decide, rfl⟩) rfl (Nat.le_of_ble_eq_true rfl) rfl rfl (Nat.le_of_ble_eq_true rfl) (c_Row_clear hr0 (fun M1 f1 x1 => ?_))
  refine pw_pV ?_
  refine pw_iconst (v := nI 0) 5 rfl rfl (by decide) ?_
  refine pw_istore2 6 rfl rfl rfl ?_
  exact rdL_loop (M := M) hb hl hr0 hd (fun _ _ _ _ _ _ _ q => q) p kf n 0 p [] M1 (by omega) rfl hp (fun x ha hb => f1 x (by omega)) (hx.mv f1 (by omega)) x1 (by rw [f1 k (by omega)]; exact hM) rfl
end TAP
end
section
/-! reading rules; State.begin, addRule -/
theorem lk_kind {x : Int32} (h1 : ¬ x = nI 102) (h2 : ¬ x = nI 111) (h3 : ¬ x = nI 112) (h4 : ¬ x = nI 116) (h5 : ¬ x = nI 119) : pmLk 1 61 #[(102, 55), (111, 59), (112, 51), (116, 57), (119, 53)] x = some 62 := by
  unfold pmLk
  simp only
  rw [lv_osw h1 (by decide), lv_osw h2 (by decide), lv_osw h3 (by decide), lv_osw h4 (by decide), lv_osw h5 (by decide)]
  rfl
theorem nI_m4 {d : Nat} (h : d < 1000) : ¬ nI d = -4 := by
  intro q
  have h9 := congrArg Int32.toInt q
  rw [nI_toInt (by omega)] at h9
  have h8 : (-4 : Int32).toInt = -4 := by decide
  omega
section RDR
variable {sh : pmS} {M : pmM} {N : pmN} {Q : pmPost} {k : Nat} {tp : List Int32}
theorem c_kindOf {x : Int32} (ky : ∀ d, kindC x = some d → d < 5 → Q (some (.int (nI d))) sh M N) (kn : kindC x = none → Q (some (.int (-4))) sh M N) : PW mX8_kindOf 0 [.int x] [] sh M N Q := by
  refine pw_iload_n 1 rfl rfl rfl ?_
  by_cases h3 : x = nI 112
  · subst h3
    skip
    refine pw_lsw 52 rfl (by decide) ?_
    refine pw_iconst (v := nI 0) 53 rfl rfl (by decide) ?_
    exact pw_iret rfl rfl (ky 0 (by decide) (by decide))
  by_cases h5 : x = nI 119
  · subst h5
    skip
    refine pw_lsw 54 rfl (by decide) ?_
    refine pw_iconst (v := nI 1) 55 rfl rfl (by decide) ?_
    exact pw_iret rfl rfl (ky 1 (by decide) (by decide))
  by_cases h1 : x = nI 102
  · subst h1
    skip
    refine pw_lsw 56 rfl (by decide) ?_
    refine pw_iconst (v := nI 2) 57 rfl rfl (by decide) ?_
    exact pw_iret rfl rfl (ky 2 (by decide) (by decide))
  by_cases h4 : x = nI 116
  · subst h4
    skip
    refine pw_lsw 58 rfl (by decide) ?_
    refine pw_iconst (v := nI 3) 59 rfl rfl (by decide) ?_
    exact pw_iret rfl rfl (ky 3 (by decide) (by decide))
  by_cases h2 : x = nI 111
  · subst h2
    skip
    refine pw_lsw 60 rfl (by decide) ?_
    refine pw_iconst (v := nI 4) 61 rfl rfl (by decide) ?_
    exact pw_iret rfl rfl (ky 4 (by decide) (by decide))
  · skip
    refine pw_lsw 62 rfl (lk_kind h1 h2 h3 h4 h5) ?_
    refine pw_bipush (v := (-4)) 64 rfl rfl (by decide) ?_
    exact pw_iret rfl rfl (kn (by unfold kindC; rw [if_neg h3, if_neg h5, if_neg h1, if_neg h4, if_neg h2]))
theorem c_Tape_readRule {kr p : Nat} (hb : isTape sh k) (hl : tp.length ≤ 150) (hx : rowIs M (k + 1) tp) (hp : p ≤ tp.length) (hM : M k 1 = nI p) (hr : isRule sh kr) (hd : kr + 5 ≤ k ∨ k + 3 ≤ kr)
    (kf : ∀ M', (∀ x, x ≠ k → (x < kr ∨ kr + 5 ≤ x) → M' x = M x) → M' k 1 = nI (rdR tp p).2 → (rdR tp p).1 = none → Q (some (.int (nI 0))) sh M' N)
    (ky : ∀ r M', (∀ x, x ≠ k → (x < kr ∨ kr + 5 ≤ x) → M' x = M x) → M' k 1 = nI (rdR tp p).2 → (rdR tp p).1 = some r → ruleIs M' kr r → Q (some (.int (nI 1))) sh M' N) : PW mX8_readRule 0 [.ref k, .ref kr, .null] [] sh M N Q := by
  have hb0 := hb
  obtain ⟨h1, h2⟩ := hb
  obtain ⟨g1, g2, g3⟩ := hr
  have g2' := g2.1
  refine pw_aload_n 1 rfl rfl rfl ?_
  refine pw_cV0 4 rfl rfl (by first | assumption | exact ⟨by decide, rfl⟩) rfl (Nat.le_of_ble_eq_true rfl) rfl rfl (Nat.le_of_ble_eq_true rfl) (c_Tape_next hb0 hl hx hp hM (fun M1 f1 e1 => ?_))
  refine pw_pI ?_
  skip
  refine pw_cS1 7 rfl rfl rfl (Nat.le_of_ble_eq_true rfl) rfl rfl (Nat.le_of_ble_eq_true rfl) (c_kindOf (fun kd hk hk5 => ?_) (fun hk => ?_))
  · refine pw_pI ?_
    rw [cX_kind] at hk
    have hlt : sk tp p < tp.length := by
      cases hc : cur tp p with
      | none => rw [hc] at hk; cases hk
      | some c => exact (cur_lt hc).1
    refine pw_istore2 8 rfl rfl rfl ?_
    refine pw_iload_n 9 rfl rfl rfl ?_
    refine pw_bipush (v := (-4)) 11 rfl rfl (by decide) ?_
    refine pw_icmp_ne_t 16 rfl rfl (nI_m4 (by omega)) ?_
    refine pw_aload_n 17 rfl rfl rfl ?_
    refine pw_dup 18 rfl rfl rfl ?_
    refine pw_getI 21 rfl rfl (by first | assumption | exact ⟨by decide, rfl⟩) rfl ?_
    refine pw_iconst (v := nI 1) 22 rfl rfl (by decide) ?_
    rw [e1]
    first | refine pw_iaddN 23 rfl rfl (by with_reducible rfl) (by with_reducible rfl) ?_ | refine pw_iadd 23 rfl rfl ?_
    refine pw_putI 26 rfl rfl (by first | assumption | exact ⟨by decide, rfl⟩) rfl (by decide) ?_
    refine pw_aload_n 27 rfl rfl rfl ?_
    refine pw_iload_n 28 rfl rfl rfl ?_
    refine pw_putI 31 rfl rfl (by first | assumption | exact ⟨by decide, rfl⟩) rfl (by decide) ?_
    refine pw_aload_n 32 rfl rfl rfl ?_
    refine pw_bipush (v := nI 58) 34 rfl rfl (by decide) ?_
    have f2 : fr k (k + 1) M1 (pmSt M1 k 1 (nI (sk tp p + 1))) := fr_st M1 1 _ (Nat.le_refl k) (Nat.lt_succ_self k)
    have f3 : fr kr (kr + 1) (pmSt M1 k 1 (nI (sk tp p + 1))) (pmSt (pmSt M1 k 1 (nI (sk tp p + 1))) kr 0 (nI kd)) := fr_st _ 0 _ (Nat.le_refl kr) (Nat.lt_succ_self kr)
    have ek : pmSt (pmSt M1 k 1 (nI (sk tp p + 1))) kr 0 (nI kd) kr 0 = nI kd := st_same _ _ _ _
    have ep : pmSt (pmSt M1 k 1 (nI (sk tp p + 1))) kr 0 (nI kd) k 1 = nI (sk tp p + 1) := by rw [st_ne _ _ _ _ (by omega), st_same]
    have hx3 := ((hx.mv f1 (by omega)).mv f2 (by omega)).mv f3 (by omega)
    have ag3 : ∀ x, x ≠ k → (x < kr ∨ kr + 5 ≤ x) → pmSt (pmSt M1 k 1 (nI (sk tp p + 1))) kr 0 (nI kd) x = M x := fun x ha hb => by rw [f3 x (by omega), f2 x (by omega), f1 x (by omega)]
    generalize pmSt (pmSt M1 k 1 (nI (sk tp p + 1))) kr 0 (nI kd) = M3 at ek ep hx3 ag3 ⊢
    refine pw_cV1 37 rfl rfl (by first | assumption | exact ⟨by decide, rfl⟩) rfl (Nat.le_of_ble_eq_true rfl) rfl rfl (Nat.le_of_ble_eq_true rfl) (c_Tape_takes (s := 58) hb0 hl hx3 (by omega) ep (by decide) (fun M4 f4 h4 e4 => ?_) (fun M4 f4 h4 e4 => ?_))
    · refine pw_pI ?_
      have hlt2 := (cur_lt h4).1
      skip
      refine pw_if_ne_t 42 rfl rfl (by decide) ?_
      refine pw_aload_n 43 rfl rfl rfl ?_
      refine pw_aload_n 44 rfl rfl rfl ?_
      refine pw_getR 47 rfl rfl (by first | assumption | exact ⟨by decide, rfl⟩) rfl ?_
      refine pw_cV1 50 rfl rfl (by first | assumption | exact ⟨by decide, rfl⟩) rfl (Nat.le_of_ble_eq_true rfl) rfl rfl (Nat.le_of_ble_eq_true rfl) (c_Tape_readLetters hb0 hl (hx3.mv f4 (by omega)) (by omega) e4 g2 (by omega) (fun M5 f5 r5 e5 => ?_))
      refine pw_pV ?_
      have ag5 : ∀ x, x ≠ k → (x < kr ∨ kr + 5 ≤ x) → M5 x = M x := fun x ha hb => by rw [f5 x ha (by omega), f4 x (by omega)]; exact ag3 x ha hb
      have l5 := rdL_len tp 6 (sk tp (sk tp p + 1) + 1)
      have hx5 : rowIs M5 (k + 1) tp := (hx3.mv f4 (by omega)).eq (f5 _ (by omega) (by omega)) (f5 _ (by omega) (by omega))
      have ek5 : M5 kr 0 = nI kd := by rw [f5 kr (by omega) (by omega), f4 kr (by omega)]; exact ek
      refine pw_aload_n 51 rfl rfl rfl ?_
      refine pw_getR 54 rfl rfl (by first | assumption | exact ⟨by decide, rfl⟩) rfl ?_
      refine pw_cV0 57 rfl rfl (by first | assumption | exact ⟨by decide, rfl⟩) rfl (Nat.le_of_ble_eq_true rfl) rfl rfl (Nat.le_of_ble_eq_true rfl) (c_Row_size g2 r5 ?_)
      refine pw_pI ?_
      skip
      refine pw_if_eq 69 60 rfl rfl rfl (fun h6 => ?_) (fun h6 => ?_)
      · have h6 : (rdL tp 6 (sk tp (sk tp p + 1) + 1)).1 = [] := List.length_eq_zero_iff.mp ((nI_eq (by omega) (by decide)).mp h6)
        have er : rdR tp p = (none, (rdL tp 6 (sk tp (sk tp p + 1) + 1)).2) := by unfold rdR; rw [hk]; simp only; rw [if_pos h4, if_pos h6]
        refine pw_iconst (v := nI 0) 70 rfl rfl (by decide) ?_
        exact pw_zret rfl rfl (by first | exact Or.inl rfl | exact Or.inr rfl | assumption) (kf M5 ag5 (by rw [er]; exact e5) (by rw [er]))
      · have h6 : ¬ (rdL tp 6 (sk tp (sk tp p + 1) + 1)).1 = [] := fun q => h6 (by rw [q]; rfl)
        refine pw_aload_n 61 rfl rfl rfl ?_
        refine pw_bipush (v := nI 61) 63 rfl rfl (by decide) ?_
        refine pw_cV1 66 rfl rfl (by first | assumption | exact ⟨by decide, rfl⟩) rfl (Nat.le_of_ble_eq_true rfl) rfl rfl (Nat.le_of_ble_eq_true rfl) (c_Tape_takes (s := 61) hb0 hl hx5 (l5.2 (by omega)) e5 (by decide) (fun M6 f6 h7 e6 => ?_) (fun M6 f6 h7 e6 => ?_))
        · refine pw_pI ?_
          have hlt3 := (cur_lt h7).1
          skip
          refine pw_if_ne_t 71 rfl rfl (by decide) ?_
          refine pw_aload_n 72 rfl rfl rfl ?_
          refine pw_aload_n 73 rfl rfl rfl ?_
          refine pw_getR 76 rfl rfl (by first | assumption | exact ⟨by decide, rfl⟩) rfl ?_
          refine pw_cV1 79 rfl rfl (by first | assumption | exact ⟨by decide, rfl⟩) rfl (Nat.le_of_ble_eq_true rfl) rfl rfl (Nat.le_of_ble_eq_true rfl) (c_Tape_readLetters hb0 hl (hx5.mv f6 (by omega)) (by omega) e6 g3 (by omega) (fun M7 f7 r7 e7 => ?_))
          refine pw_pV ?_
          have er : rdR tp p = (some (kd, (rdL tp 6 (sk tp (sk tp p + 1) + 1)).1, (rdL tp 6 (sk tp (rdL tp 6 (sk tp (sk tp p + 1) + 1)).2 + 1)).1), (rdL tp 6 (sk tp (rdL tp 6 (sk tp (sk tp p + 1) + 1)).2 + 1)).2) := by unfold rdR; rw [hk]; simp only; rw [if_pos h4, if_neg h6, if_pos h7]
          refine pw_iconst (v := nI 1) 80 rfl rfl (by decide) ?_
          refine pw_zret rfl rfl (Or.inr rfl) (ky _ M7 (fun x ha hb => by rw [f7 x ha (by omega), f6 x (by omega)]; exact ag5 x ha hb) (by rw [er]; exact e7) (by rw [er]) ⟨?_, ?_, r7⟩)
          · rw [f7 kr (by omega) (by omega), f6 kr (by omega)]; exact ek5
          · exact (r5.mv f6 (by omega)).eq (f7 _ (by omega) (by omega)) (f7 _ (by omega) (by omega))
        · refine pw_pI ?_
          have er : rdR tp p = (none, sk tp (rdL tp 6 (sk tp (sk tp p + 1) + 1)).2) := by unfold rdR; rw [hk]; simp only; rw [if_pos h4, if_neg h6, if_neg h7]
          skip
          refine pw_if_ne_f 69 rfl rfl (by decide) ?_
          refine pw_iconst (v := nI 0) 70 rfl rfl (by decide) ?_
          exact pw_zret rfl rfl (by first | exact Or.inl rfl | exact Or.inr rfl | assumption) (kf M6 (fun x ha hb => by rw [f6 x (by omega)]; exact ag5 x ha hb) (by rw [er]; exact e6) (by rw [er]))
    · refine pw_pI ?_
      have er : rdR tp p = (none, sk tp (sk tp p + 1)) := by unfold rdR; rw [hk]; simp only; rw [if_neg h4]
      skip
      refine pw_if_ne_f 40 rfl rfl (by decide) ?_
      refine pw_iconst (v := nI 0) 41 rfl rfl (by decide) ?_
      exact pw_zret rfl rfl (by first | exact Or.inl rfl | exact Or.inr rfl | assumption) (kf M4 (fun x ha hb => by rw [f4 x (by omega)]; exact ag3 x ha hb) (by rw [er]; exact e4) (by rw [er]))
  · refine pw_pI ?_
    rw [cX_kind] at hk
    have er : rdR tp p = (none, sk tp p) := by unfold rdR; rw [hk]
    refine pw_istore2 8 rfl rfl rfl ?_
    refine pw_iload_n 9 rfl rfl rfl ?_
    refine pw_bipush (v := (-4)) 11 rfl rfl (by decide) ?_
    refine pw_icmp_ne_f 14 rfl rfl (fun q => q rfl) ?_
    refine pw_iconst (v := nI 0) 15 rfl rfl (by decide) ?_
    exact pw_zret rfl rfl (by first | exact Or.inl rfl | exact Or.inr rfl | assumption) (kf M1 (fun x ha hb => f1 x (by omega)) (by rw [er]; exact e1) (by rw [er]))
theorem readRules_end {kb i p : Nat} {rs : List aR} (hb : isTape sh k) (hl : tp.length ≤ 150) (ht : ∀ x ∈ tp, ¬ x < 0) (hx : rowIs M (k + 1) tp) (hp : p ≤ tp.length) (hM : M k 1 = nI p)
    (kf : ∀ M', fr k (k + 1) M M' → M' k 1 = nI (sk tp p) → ¬ cur tp p = none → Q (some (.int (nI 0))) sh M' N) (ky : ∀ M', fr k (k + 1) M M' → M' k 1 = nI (sk tp p) → cur tp p = none → Q (some (.int (nI 1))) sh M' N) :
    PW mX8_readRules 48 [.ref k, .ref kb, .int (nI i)] [] sh M N Q := by
  have hb0 := hb
  obtain ⟨h1, h2⟩ := hb
  refine pw_aload_n 49 rfl rfl rfl ?_
  refine pw_cV0 52 rfl rfl (by first | assumption | exact ⟨by decide, rfl⟩) rfl (Nat.le_of_ble_eq_true rfl) rfl rfl (Nat.le_of_ble_eq_true rfl) (c_Tape_next hb0 hl hx hp hM (fun M1 f1 e1 => ?_))
  refine pw_pI ?_
  refine pw_iconst (v := (-1)) 53 rfl rfl (by decide) ?_
  refine pw_icmp_ne 60 56 rfl rfl rfl (fun h => ?_) (fun h => ?_)
  · rw [cX_end ht] at h
    refine pw_iconst (v := nI 0) 61 rfl rfl (by decide) ?_
    exact pw_zret rfl rfl (by first | exact Or.inl rfl | exact Or.inr rfl | assumption) (kf M1 f1 e1 h)
  · have h := (cX_end ht).mp (Classical.not_not.mp h)
    refine pw_iconst (v := nI 1) 57 rfl rfl (by decide) ?_
    refine pw_goto rfl 61 rfl ?_
    exact pw_zret rfl rfl (by first | exact Or.inl rfl | exact Or.inr rfl | assumption) (ky M1 f1 e1 h)
theorem readRules_loop {kb : Nat} (hb : isTape sh k) (hl : tp.length ≤ 150) (ht : ∀ x ∈ tp, ¬ x < 0) (hk : isBook sh kb) (hd : kb + 57 ≤ k ∨ k + 3 ≤ kb) (res : Option (List aR) × Nat)
    (kf : ∀ M', (∀ x, x ≠ k → (x < kb ∨ kb + 57 ≤ x) → M' x = M x) → M' k 1 = nI res.2 → res.1 = none → Q (some (.int (nI 0))) sh M' N)
    (ky : ∀ rs M', (∀ x, x ≠ k → (x < kb ∨ kb + 57 ≤ x) → M' x = M x) → M' k 1 = nI res.2 → res.1 = some rs → bookIs M' kb rs → Q (some (.int (nI 1))) sh M' N) :
    ∀ (d i p : Nat) (rs : List aR) (M1 : pmM), i + d = 10 → rs.length = i → p ≤ tp.length → (∀ x, x ≠ k → (x < kb ∨ kb + 57 ≤ x) → M1 x = M x) → rowIs M1 (k + 1) tp → bookIs M1 kb rs → M1 k 1 = nI p → rdRs tp d p rs = res → PW mX8_readRules 6 [.ref k, .ref kb, .int (nI i)] [] sh M1 N Q := by
  have hb0 := hb
  obtain ⟨h1, h2⟩ := hb
  have hk0 := hk
  obtain ⟨g1, g2, g3⟩ := hk
  intro d
  induction d with
  | zero =>
    intro i p rs M1 hi hlen hp ag hx hbk hM he
    refine pw_iload_n 7 rfl rfl rfl ?_
    refine pw_bipush (v := nI 10) 9 rfl rfl (by decide) ?_
    refine pw_icmp_ge_t 48 rfl rfl (nI_le (by omega) (by omega)) ?_
    rw [rdRs] at he
    subst he
    refine readRules_end (rs := rs) hb0 hl ht hx hp hM (fun M2 f2 e2 h => kf M2 (fun x ha hb => by rw [f2 x (by omega)]; exact ag x ha hb) e2 (by simp only; rw [if_neg h])) (fun M2 f2 e2 h => ky rs M2 (fun x ha hb => by rw [f2 x (by omega)]; exact ag x ha hb) e2 (by simp only; rw [if_pos h]) (hbk.mv f2 (by omega)))
  | succ d ih =>
    intro i p rs M1 hi hlen hp ag hx hbk hM he
    refine pw_iload_n 7 rfl rfl rfl ?_
    refine pw_bipush (v := nI 10) 9 rfl rfl (by decide) ?_
    refine pw_icmp_ge_f 12 rfl rfl (nI_ge (by omega) (by omega)) ?_
    rw [rdRs] at he
    refine pw_aload_n 13 rfl rfl rfl ?_
    refine pw_bipush (v := nI 59) 15 rfl rfl (by decide) ?_
    refine pw_cV1 18 rfl rfl (by first | assumption | exact ⟨by decide, rfl⟩) rfl (Nat.le_of_ble_eq_true rfl) rfl rfl (Nat.le_of_ble_eq_true rfl) (c_Tape_takes (s := 59) hb0 hl hx hp hM (by decide) (fun M2 f2 h2 e2 => ?_) (fun M2 f2 h2 e2 => ?_))
    · refine pw_pI ?_
      rw [if_pos h2] at he
      have hlt := (cur_lt h2).1
      have hok := rdR_ok (tp := tp) (p := sk tp p + 1) (by omega)
      skip
      refine pw_if_eq_f 21 rfl rfl (by decide) ?_
      refine pw_aload_n 22 rfl rfl rfl ?_
      refine pw_aload_n 23 rfl rfl rfl ?_
      refine pw_iload_n 24 rfl rfl rfl ?_
      refine pw_cV1 27 rfl rfl (by first | assumption | exact ⟨by decide, rfl⟩) rfl (Nat.le_of_ble_eq_true rfl) rfl rfl (Nat.le_of_ble_eq_true rfl) (c_Book_get hk0 (i := i) (by omega) ?_)
      refine pw_pR ?_
      skip
      refine pw_cV1 30 rfl rfl (by first | assumption | exact ⟨by decide, rfl⟩) rfl (Nat.le_of_ble_eq_true rfl) rfl rfl (Nat.le_of_ble_eq_true rfl) (c_Tape_readRule hb0 hl (hx.mv f2 (by omega)) (by omega) e2 (g3 i (by omega)) (by omega) (fun M3 ag3 e3 h3 => ?_) (fun r M3 ag3 e3 h3 r3 => ?_))
      · refine pw_pI ?_
        rw [show rdR tp (sk tp p + 1) = ((rdR tp (sk tp p + 1)).1, (rdR tp (sk tp p + 1)).2) from rfl, h3] at he
        simp only at he
        subst he
        skip
        refine pw_if_eq_t 40 rfl rfl (by decide) ?_
        refine pw_iconst (v := nI 0) 41 rfl rfl (by decide) ?_
        exact pw_zret rfl rfl (by first | exact Or.inl rfl | exact Or.inr rfl | assumption) (kf M3 (fun x ha hb => by rw [ag3 x ha (by omega), f2 x (by omega)]; exact ag x ha hb) e3 rfl)
      · refine pw_pI ?_
        rw [show rdR tp (sk tp p + 1) = ((rdR tp (sk tp p + 1)).1, (rdR tp (sk tp p + 1)).2) from rfl, h3] at he
        simp only at he
        have hbk3 : bookIs M3 kb rs := by
          refine ⟨by rw [ag3 kb (by omega) (by omega), f2 kb (by omega)]; exact hbk.1, hbk.2.1, fun j r' hj => ⟨?_, (hbk.2.2 j r' hj).2⟩⟩
          have hjl := (List.getElem?_eq_some_iff.mp hj).1
          exact ((hbk.2.2 j r' hj).1.mv f2 (by omega)).ag (fun x h8 h9 => ag3 x (by omega) (by omega))
        skip
        refine pw_if_eq_f 33 rfl rfl (by decide) ?_
        refine pw_aload_n 34 rfl rfl rfl ?_
        subst hlen
        refine pw_cV0 37 rfl rfl (by first | assumption | exact ⟨by decide, rfl⟩) rfl (Nat.le_of_ble_eq_true rfl) rfl rfl (Nat.le_of_ble_eq_true rfl) (c_Book_grow hk0 hbk3 (by omega) r3 (hok.1 r h3) (fun M4 f4 r4 => ?_))
        refine pw_pI ?_
        skip
        refine pw_if_ne_t 42 rfl rfl (by decide) ?_
        first | refine pw_iincN2 45 rfl rfl rfl (by with_reducible rfl) ?_ | refine pw_iinc2 (w := _) 45 rfl rfl rfl rfl ?_
        refine pw_goto rfl 6 rfl ?_
        refine ih (rs.length + 1) _ (rs ++ [r]) M4 (by omega) (by simp) hok.2 (fun x ha hb => by rw [f4 x (by omega), ag3 x ha (by omega), f2 x (by omega)]; exact ag x ha hb) ?_ r4 (by rw [f4 k (by omega)]; exact e3) he
        refine rowIs.mv ?_ f4 (by omega)
        exact (hx.mv f2 (by omega)).eq (ag3 _ (by omega) (by omega)) (ag3 _ (by omega) (by omega))
    · refine pw_pI ?_
      rw [if_neg h2] at he
      subst he
      skip
      refine pw_if_eq_t 48 rfl rfl (by decide) ?_
      have e5 : cur tp (sk tp p) = cur tp p := by unfold cur; rw [sk_idem]
      refine readRules_end (rs := rs) hb0 hl ht (hx.mv f2 (by omega)) (sk_le hp) e2 (fun M3 f3 e3 h => kf M3 (fun x ha hb => by rw [f3 x (by omega), f2 x (by omega)]; exact ag x ha hb) (by rw [sk_idem] at e3; exact e3) (by simp only; rw [e5] at h; rw [if_neg h])) (fun M3 f3 e3 h => ky rs M3 (fun x ha hb => by rw [f3 x (by omega), f2 x (by omega)]; exact ag x ha hb) (by rw [sk_idem] at e3; exact e3) (by simp only; rw [e5] at h; rw [if_pos h]) ((hbk.mv f2 (by omega)).mv f3 (by omega)))
theorem c_Tape_readRules {kb p : Nat} (hb : isTape sh k) (hl : tp.length ≤ 150) (ht : ∀ x ∈ tp, ¬ x < 0) (hx : rowIs M (k + 1) tp) (hp : p ≤ tp.length) (hM : M k 1 = nI p) (hk : isBook sh kb) (hd : kb + 57 ≤ k ∨ k + 3 ≤ kb)
    (kf : ∀ M', (∀ x, x ≠ k → (x < kb ∨ kb + 57 ≤ x) → M' x = M x) → M' k 1 = nI (rdRs tp 10 p []).2 → (rdRs tp 10 p []).1 = none → Q (some (.int (nI 0))) sh M' N)
    (ky : ∀ rs M', (∀ x, x ≠ k → (x < kb ∨ kb + 57 ≤ x) → M' x = M x) → M' k 1 = nI (rdRs tp 10 p []).2 → (rdRs tp 10 p []).1 = some rs → bookIs M' kb rs → Q (some (.int (nI 1))) sh M' N) : PW mX8_readRules 0 [.ref k, .ref kb, .null] [] sh M N Q := by
  have hk0 := hk
  obtain ⟨g1, g2, g3⟩ := hk
  refine pw_aload_n 1 rfl rfl rfl ?_
  refine pw_cV0 4 rfl rfl (by first | assumption | exact ⟨by decide, rfl⟩) rfl (Nat.le_of_ble_eq_true rfl) rfl rfl (Nat.le_of_ble_eq_true rfl) (c_Book_clear hk0 (fun M1 f1 r1 => ?_))
  refine pw_pV ?_
  refine pw_iconst (v := nI 0) 5 rfl rfl (by decide) ?_
  refine pw_istore2 6 rfl rfl rfl ?_
  exact readRules_loop (M := M) hb hl ht hk0 hd (rdRs tp 10 p []) kf ky 10 0 p [] M1 (by omega) rfl hp (fun x ha hb => f1 x (by omega)) (hx.mv f1 (by omega)) r1 (by rw [f1 k (by omega)]; exact hM) rfl
end RDR
section BGN
variable {sh : pmS} {M : pmM} {N : pmN} {Q : pmPost} {k : Nat} {a : aS}
/-- the places as sources -/
def plc (n : Nat) : List Int32 := (List.range n).map nI
theorem plc_len (n : Nat) : (plc n).length = n := by simp [plc]
theorem plc_succ (n : Nat) : plc (n + 1) = plc n ++ [nI n] := by simp [plc, List.range_succ]
theorem begin_loop {kl kb nl : Nat} {xs : List Int32} (hb : isState sh k) (hl : isRow sh kl nl) (hx : rowIs M kl xs) (h60 : xs.length ≤ 60) (hn : xs.length ≤ nl) (hd : kl + 2 ≤ k ∨ k + 114 ≤ kl)
    (kk : ∀ M', fr (k + 3) (k + 7) M M' → lineIs M' (k + 2) xs (plc xs.length) → PW mX7_begin 42 [.ref k, .ref kl, .ref kb, .int (nI xs.length)] [] sh M' N Q) :
    ∀ (d i : Nat) (M1 : pmM), i + d = xs.length → fr (k + 3) (k + 7) M M1 → lineIs M1 (k + 2) (xs.take i) (plc i) → PW mX7_begin 12 [.ref k, .ref kl, .ref kb, .int (nI i)] [] sh M1 N Q := by
  obtain ⟨h1, h2, h3, h4⟩ := hb
  obtain ⟨m1, m2⟩ := h2
  have m2' := m2.1
  have hl0 := hl
  obtain ⟨l1, l2⟩ := hl
  have hn1 := l2.2.2
  intro d
  induction d with
  | zero =>
    intro i M1 hi hf hy
    refine pw_iload_n 13 rfl rfl rfl ?_
    refine pw_aload_n 14 rfl rfl rfl ?_
    refine pw_cV0 17 rfl rfl (by first | assumption | exact ⟨by decide, rfl⟩) rfl (Nat.le_of_ble_eq_true rfl) rfl rfl (Nat.le_of_ble_eq_true rfl) (c_Row_size hl0 (hx.mv hf (by omega)) ?_)
    refine pw_pI ?_
    skip
    refine pw_icmp_ge_t 42 rfl rfl (nI_le (by omega) (by omega)) ?_
    have : i = xs.length := by omega
    subst this
    rw [List.take_length] at hy
    exact kk M1 hf hy
  | succ d ih =>
    intro i M1 hi hf hy
    refine pw_iload_n 13 rfl rfl rfl ?_
    refine pw_aload_n 14 rfl rfl rfl ?_
    refine pw_cV0 17 rfl rfl (by first | assumption | exact ⟨by decide, rfl⟩) rfl (Nat.le_of_ble_eq_true rfl) rfl rfl (Nat.le_of_ble_eq_true rfl) (c_Row_size hl0 (hx.mv hf (by omega)) ?_)
    refine pw_pI ?_
    skip
    refine pw_icmp_ge_f 20 rfl rfl (nI_ge (by omega) (by omega)) ?_
    refine pw_aload_n 21 rfl rfl rfl ?_
    refine pw_getR 24 rfl rfl (by first | assumption | exact ⟨by decide, rfl⟩) rfl ?_
    refine pw_getR 27 rfl rfl (by first | assumption | exact ⟨by decide, rfl⟩) rfl ?_
    refine pw_aload_n 28 rfl rfl rfl ?_
    refine pw_iload_n 29 rfl rfl rfl ?_
    refine pw_cV1 32 rfl rfl (by first | assumption | exact ⟨by decide, rfl⟩) rfl (Nat.le_of_ble_eq_true rfl) rfl rfl (Nat.le_of_ble_eq_true rfl) (c_Row_get hl0 (hx.mv hf (by omega)) hn _ ?_)
    rw [gI_n (by omega)]
    refine pw_pI ?_
    refine pw_iload_n 33 rfl rfl rfl ?_
    refine pw_cV2 36 rfl rfl (by first | assumption | exact ⟨by decide, rfl⟩) rfl (Nat.le_of_ble_eq_true rfl) rfl rfl (Nat.le_of_ble_eq_true rfl) (c_Line_add m2 hy (by rw [List.length_take]; omega) (by rw [plc_len]; omega) _ _ (fun M2 f2 r2 => ?_))
    refine pw_pV ?_
    first | refine pw_iincN3 39 rfl rfl rfl (by with_reducible rfl) ?_ | refine pw_iinc3 (w := _) 39 rfl rfl rfl rfl ?_
    refine pw_goto rfl 12 rfl ?_
    refine ih (i + 1) M2 (by omega) (hf.tr f2) ?_
    have hlt : i < xs.length := by omega
    rw [plc_succ, List.take_succ, List.getElem?_eq_getElem hlt]
    rw [List.getD_eq_getElem?_getD, List.getElem?_eq_getElem hlt] at r2
    exact r2
theorem c_State_begin {kl kb nl : Nat} {xs : List Int32} {rs : List aR} (hb : isState sh k) (hz : ∃ hs, histIs M (k + 64) hs) (hl : isRow sh kl nl) (hx : rowIs M kl xs) (h60 : xs.length ≤ 60) (hn : xs.length ≤ nl) (hd : kl + 2 ≤ k ∨ k + 114 ≤ kl) (hk : isBook sh kb) (hy : bookIs M kb rs) (hd2 : kb + 57 ≤ k ∨ k + 114 ≤ kb)
    (kk : ∀ M', fr (k + 1) (k + 114) M M' → stIs M' k ((xs, plc xs.length, 2 ^ rs.length - 1), rs, []) → Q none sh M' N) : PW mX7_begin 0 [.ref k, .ref kl, .ref kb, .null] [] sh M N Q := by
  have hb0 := hb
  obtain ⟨h1, h2, h3, h4⟩ := hb
  have m0 := h2.1
  have m2 := h2.2
  have m2' := m2.1
  have h3' := h3.1
  have h4' := h4.1
  obtain ⟨hs, hz⟩ := hz
  refine pw_aload_n 1 rfl rfl rfl ?_
  refine pw_getR 4 rfl rfl (by first | assumption | exact ⟨by decide, rfl⟩) rfl ?_
  refine pw_getR 7 rfl rfl (by first | assumption | exact ⟨by decide, rfl⟩) rfl ?_
  refine pw_cV0 10 rfl rfl (by first | assumption | exact ⟨by decide, rfl⟩) rfl (Nat.le_of_ble_eq_true rfl) rfl rfl (Nat.le_of_ble_eq_true rfl) (c_Line_clear m2 (fun M1 f1 r1 => ?_))
  refine pw_pV ?_
  refine pw_iconst (v := nI 0) 11 rfl rfl (by decide) ?_
  refine pw_istore3 12 rfl rfl rfl ?_
  refine begin_loop hb0 hl (hx.mv f1 (by omega)) h60 hn hd (fun M2 f2 r2 => ?_) xs.length 0 M1 (by omega) fr.rf (by rw [List.take_zero]; exact r1)
  have f12 : fr (k + 3) (k + 7) M M2 := f1.tr f2
  refine pw_aload_n 43 rfl rfl rfl ?_
  refine pw_getR 46 rfl rfl (by first | assumption | exact ⟨by decide, rfl⟩) rfl ?_
  refine pw_aload_n 47 rfl rfl rfl ?_
  refine pw_cV1 50 rfl rfl (by first | assumption | exact ⟨by decide, rfl⟩) rfl (Nat.le_of_ble_eq_true rfl) rfl rfl (Nat.le_of_ble_eq_true rfl) (c_Book_takeFrom h3 hk (hy.mv f12 (by omega)) (by omega) (fun M3 f3 r3 => ?_))
  refine pw_pV ?_
  refine pw_aload_n 51 rfl rfl rfl ?_
  refine pw_getR 54 rfl rfl (by first | assumption | exact ⟨by decide, rfl⟩) rfl ?_
  refine pw_aload_n 55 rfl rfl rfl ?_
  refine pw_getR 58 rfl rfl (by first | assumption | exact ⟨by decide, rfl⟩) rfl ?_
  refine pw_cV0 61 rfl rfl (by first | assumption | exact ⟨by decide, rfl⟩) rfl (Nat.le_of_ble_eq_true rfl) rfl rfl (Nat.le_of_ble_eq_true rfl) (c_Book_all h3 r3 ?_)
  refine pw_pI ?_
  refine pw_putI 64 rfl rfl (by first | assumption | exact ⟨by decide, rfl⟩) rfl (by decide) ?_
  refine pw_aload_n 65 rfl rfl rfl ?_
  refine pw_getR 68 rfl rfl (by first | assumption | exact ⟨by decide, rfl⟩) rfl ?_
  have f4 : fr (k + 1) (k + 2) M3 (pmSt M3 (k + 1) 1 (nI (2 ^ rs.length - 1))) := fr_st _ 1 _ (Nat.le_refl _) (Nat.lt_succ_self _)
  refine pw_cV0 71 rfl rfl (by first | assumption | exact ⟨by decide, rfl⟩) rfl (Nat.le_of_ble_eq_true rfl) rfl rfl (Nat.le_of_ble_eq_true rfl) (c_Hist_clear h4 (((hz.mv f12 (by omega)).mv f3 (by omega)).mv f4 (by omega)) (fun M5 f5 r5 => ?_))
  refine pw_pV ?_
  skip
  refine pw_vret rfl (kk M5 (fun x h => ?_) ⟨⟨((r2.mv f3 (by omega)).mv f4 (by omega)).mv f5 (by omega), ?_, h60, plc_len _⟩, (r3.mv f4 (by omega)).mv f5 (by omega), r5⟩)
  · rw [f5 x (by omega), f4 x (by omega), f3 x (by omega), f12 x (by omega)]
  · rw [f5 (k + 1) (by omega), st_same]
theorem or_bit : ∀ n, n < 10 → ∀ s, s < 1024 → s < 2 ^ n → nI s ||| (nI 1 <<< (nI n &&& 31)) = nI (s + 2 ^ n) := by decide +kernel
theorem c_State_addRule {kr : Nat} {r : aR} (hb : isState sh k) (hx : stIs M k a) (hw : wfS a) (hr : isRule sh kr) (hy : ruleIs M kr r) (hwr : wfR r) (hd : kr + 5 ≤ k ∨ k + 114 ≤ kr)
    (kf : a.2.1.length = 10 → Q (some (.int (nI 0))) sh M N) (kk : ∀ M', a.2.1.length < 10 → fr (k + 1) (k + 114) M M' → stIs M' k ((a.1.1, a.1.2.1, a.1.2.2 + 2 ^ a.2.1.length), a.2.1 ++ [r], []) → Q (some (.int (nI 1))) sh M' N) : PW mX7_addRule 0 [.ref k, .ref kr, .null] [] sh M N Q := by
  obtain ⟨⟨ls, ss, on⟩, rs, hs⟩ := a
  obtain ⟨h1, h2, h3, h4⟩ := hb
  have m0 := h2.1
  have h3' := h3.1
  have h4' := h4.1
  obtain ⟨x1, x2, x3⟩ := hx
  simp only at x1 x2 x3 kf kk
  have hon : on < 2 ^ rs.length := hw.1
  have h10 := x2.2.1
  refine pw_aload_n 1 rfl rfl rfl ?_
  refine pw_getR 4 rfl rfl (by first | assumption | exact ⟨by decide, rfl⟩) rfl ?_
  by_cases hf : rs.length = 10
  · refine pw_cV0 7 rfl rfl (by first | assumption | exact ⟨by decide, rfl⟩) rfl (Nat.le_of_ble_eq_true rfl) rfl rfl (Nat.le_of_ble_eq_true rfl) (c_Book_growFull h3 x2 hf ?_)
    refine pw_pI ?_
    skip
    refine pw_if_ne_f 10 rfl rfl (by decide) ?_
    refine pw_iconst (v := nI 0) 11 rfl rfl (by decide) ?_
    exact pw_zret rfl rfl (by first | exact Or.inl rfl | exact Or.inr rfl | assumption) (kf hf)
  · have hgrow : ∀ (Q' : pmPost), (∀ M', fr (k + 7) (k + 8) M M' → M' (k + 7) 2 = nI (rs.length + 1) → Q' (some (.int (nI 1))) sh M' N) → PW mX0_grow 0 [.ref (k + 7)] [] sh M N Q' := by
      intro Q' kq
      refine pw_aload_n 1 rfl rfl rfl ?_
      refine pw_getI 4 rfl rfl (by first | assumption | exact ⟨by decide, rfl⟩) rfl ?_
      refine pw_bipush (v := nI 10) 6 rfl rfl (by decide) ?_
      rw [x2.1]
      refine pw_icmp_lt_t 11 rfl rfl ((nI_ltI (by omega) (by decide)).mpr (by omega)) ?_
      refine pw_aload_n 12 rfl rfl rfl ?_
      refine pw_dup 13 rfl rfl rfl ?_
      refine pw_getI 16 rfl rfl (by first | assumption | exact ⟨by decide, rfl⟩) rfl ?_
      refine pw_iconst (v := nI 1) 17 rfl rfl (by decide) ?_
      rw [x2.1]
      first | refine pw_iaddN 18 rfl rfl (by with_reducible rfl) (by with_reducible rfl) ?_ | refine pw_iadd 18 rfl rfl ?_
      refine pw_putI 21 rfl rfl (by first | assumption | exact ⟨by decide, rfl⟩) rfl (by decide) ?_
      refine pw_iconst (v := nI 1) 22 rfl rfl (by decide) ?_
      exact pw_zret rfl rfl (Or.inr rfl) (kq _ (fr_st M 2 _ (Nat.le_refl _) (Nat.lt_succ_self _)) (st_same _ _ _ _))
    skip
    refine pw_cV0 7 rfl rfl (by first | assumption | exact ⟨by decide, rfl⟩) rfl (Nat.le_of_ble_eq_true rfl) rfl rfl (Nat.le_of_ble_eq_true rfl) (hgrow _ (fun M1 f1 e1 => ?_))
    refine pw_pI ?_
    skip
    refine pw_if_ne_t 12 rfl rfl (by decide) ?_
    have hsize : ∀ (Q' : pmPost), Q' (some (.int (nI (rs.length + 1)))) sh M1 N → PW mX0_size 0 [.ref (k + 7)] [] sh M1 N Q' := by
      intro Q' kq
      refine pw_aload_n 1 rfl rfl rfl ?_
      refine pw_getI 4 rfl rfl (by first | assumption | exact ⟨by decide, rfl⟩) rfl ?_
      rw [e1]
      exact pw_iret rfl rfl (kq)
    refine pw_aload_n 13 rfl rfl rfl ?_
    refine pw_getR 16 rfl rfl (by first | assumption | exact ⟨by decide, rfl⟩) rfl ?_
    refine pw_cV0 19 rfl rfl (by first | assumption | exact ⟨by decide, rfl⟩) rfl (Nat.le_of_ble_eq_true rfl) rfl rfl (Nat.le_of_ble_eq_true rfl) (hsize _ ?_)
    refine pw_pI ?_
    refine pw_iconst (v := nI 1) 20 rfl rfl (by decide) ?_
    first | refine pw_isubN 21 rfl rfl (by with_reducible rfl) (by with_reducible rfl) (by omega) ?_ | refine pw_isub 21 rfl rfl ?_
    refine pw_istore2 22 rfl rfl rfl ?_
    refine pw_aload_n 23 rfl rfl rfl ?_
    refine pw_getR 26 rfl rfl (by first | assumption | exact ⟨by decide, rfl⟩) rfl ?_
    refine pw_iload_n 27 rfl rfl rfl ?_
    refine pw_cV1 30 rfl rfl (by first | assumption | exact ⟨by decide, rfl⟩) rfl (Nat.le_of_ble_eq_true rfl) rfl rfl (Nat.le_of_ble_eq_true rfl) (c_Book_get h3 (i := rs.length + 1 - 1) (by omega) ?_)
    refine pw_pR ?_
    rw [Nat.add_sub_cancel]
    have o1 := (h3.2.2 rs.length (by omega)).1
    refine pw_aload_n 31 rfl rfl rfl ?_
    refine pw_cV1 34 rfl rfl (by first | assumption | exact ⟨by decide, rfl⟩) rfl (Nat.le_of_ble_eq_true rfl) rfl rfl (Nat.le_of_ble_eq_true rfl) (c_Rule_takeFrom (h3.2.2 rs.length (by omega)) hr (hy.mv f1 (by omega)) hwr.2.2.1 hwr.2.2.2 (by omega) (fun M2 f2 r2 => ?_))
    refine pw_pV ?_
    have x12 : M (k + 1) 1 = nI on := x1.2.1
    refine pw_aload_n 35 rfl rfl rfl ?_
    refine pw_getR 38 rfl rfl (by first | assumption | exact ⟨by decide, rfl⟩) rfl ?_
    refine pw_dup 39 rfl rfl rfl ?_
    refine pw_getI 42 rfl rfl (by first | assumption | exact ⟨by decide, rfl⟩) rfl ?_
    refine pw_iconst (v := nI 1) 43 rfl rfl (by decide) ?_
    refine pw_iload_n 44 rfl rfl rfl ?_
    refine pw_ishl 45 rfl rfl ?_
    refine pw_ior 46 rfl rfl ?_
    rw [f2 (k + 1) (by omega), f1 (k + 1) (by omega), x12, or_bit rs.length (by omega) on (Nat.lt_of_lt_of_le hon (Nat.pow_le_pow_right (by decide) (by omega : rs.length ≤ 10))) hon]
    refine pw_putI 49 rfl rfl (by first | assumption | exact ⟨by decide, rfl⟩) rfl (by decide) ?_
    refine pw_aload_n 50 rfl rfl rfl ?_
    refine pw_getR 53 rfl rfl (by first | assumption | exact ⟨by decide, rfl⟩) rfl ?_
    have f3 : fr (k + 1) (k + 2) M2 (pmSt M2 (k + 1) 1 (nI (on + 2 ^ rs.length))) := fr_st _ 1 _ (Nat.le_refl _) (Nat.lt_succ_self _)
    refine pw_cV0 56 rfl rfl (by first | assumption | exact ⟨by decide, rfl⟩) rfl (Nat.le_of_ble_eq_true rfl) rfl rfl (Nat.le_of_ble_eq_true rfl) (c_Hist_clear h4 (((x3.mv f1 (by omega)).mv f2 (by omega)).mv f3 (by omega)) (fun M4 f4 r4 => ?_))
    refine pw_pV ?_
    refine pw_iconst (v := nI 1) 57 rfl rfl (by decide) ?_
    refine pw_zret rfl rfl (Or.inr rfl) (kk M4 (by omega) (fun x h => ?_) ⟨⟨?_, ?_, x1.2.2.1, x1.2.2.2⟩, ⟨?_, ?_, fun i r' hi => ?_⟩, r4⟩)
    · rw [f4 x (by omega), f3 x (by omega), f2 x (by omega), f1 x (by omega)]
    · exact (((x1.1.mv f1 (by omega)).mv f2 (by omega)).mv f3 (by omega)).mv f4 (by omega)
    · rw [f4 (k + 1) (by omega), st_same]
    · rw [f4 (k + 7) (by omega), f3 (k + 7) (by omega), f2 (k + 7) (by omega), e1, List.length_append]; rfl
    · rw [List.length_append]; simp; omega
    · by_cases q : i < rs.length
      · rw [List.getElem?_append_left q] at hi
        exact ⟨(((((x2.2.2 i r' hi).1.mv f1 (by omega)).mv f2 (by omega)).mv f3 (by omega)).mv f4 (by omega)), (x2.2.2 i r' hi).2⟩
      · have hi2 := (List.getElem?_eq_some_iff.mp hi).1
        rw [List.length_append, List.length_cons, List.length_nil] at hi2
        have : i = rs.length := by omega
        subst this
        rw [List.getElem?_append_right (Nat.le_refl _), Nat.sub_self] at hi
        cases hi
        exact ⟨(r2.mv f3 (by omega)).mv f4 (by omega), hwr⟩
end BGN
end
section
/-! A PASS, as numbers and lists -/
abbrev gR (rs : List aR) (r : Nat) : aR := rs.getD r (0, [], [])
abbrev pPh (rs : List aR) (r : Nat) : List Int32 := (gR rs r).2.1
abbrev pGf (rs : List aR) (r : Nat) : List Int32 := (gR rs r).2.2
theorem gR_of {rs : List aR} {i : Nat} {r : aR} (h : rs[i]? = some r) : gR rs i = r := by
  unfold gR; rw [List.getD_eq_getElem?_getD, h]; rfl
/-- a set out of a question -/
def bs (f : Nat → Bool) : Nat → Nat
  | 0 => 0
  | n + 1 => bs f n + (if f n then 2 ^ n else 0)
theorem bs_lt (f : Nat → Bool) : ∀ n, bs f n < 2 ^ n
  | 0 => by simp [bs]
  | n + 1 => by
    have := bs_lt f n
    rw [bs, Nat.pow_succ]
    split <;> omega
theorem bs_bit (f : Nat → Bool) : ∀ n i, (bs f n).testBit i = (decide (i < n) && f i)
  | 0, i => by simp [bs]
  | n + 1, i => by
    have ih := bs_bit f n
    have hl := bs_lt f n
    rw [bs]
    by_cases hf : f n = true
    · rw [if_pos hf, Nat.add_comm]
      by_cases h1 : i = n
      · subst h1
        rw [Nat.testBit_two_pow_add_eq, Nat.testBit_lt_two_pow hl]
        simp [hf]
      · by_cases h2 : i < n
        · rw [Nat.testBit_two_pow_add_gt h2, ih]
          simp [h2, show i < n + 1 by omega]
        · have h3 : 2 ^ n + bs f n < 2 ^ i := by
            have : 2 ^ (n + 1) ≤ 2 ^ i := Nat.pow_le_pow_right (by decide) (by omega)
            rw [Nat.pow_succ] at this
            omega
          rw [Nat.testBit_lt_two_pow h3]
          simp [show ¬ i < n + 1 by omega]
    · have hf : f n = false := by simpa using hf
      rw [if_neg (by rw [hf]; decide), Nat.add_zero, ih]
      by_cases h1 : i = n
      · subst h1; simp [hf]
      · by_cases h2 : i < n
        · simp [h2, show i < n + 1 by omega]
        · simp [h2, show ¬ i < n + 1 by omega]
theorem bs_cong {f g : Nat → Bool} : ∀ {n : Nat}, (∀ i, i < n → f i = g i) → bs f n = bs g n
  | 0, _ => rfl
  | n + 1, h => by rw [bs, bs, bs_cong (fun i hi => h i (by omega)), h n (by omega)]
def clr (s r : Nat) : Nat := bs (fun i => s.testBit i && decide (i ≠ r)) 10
theorem clr_bit {s r i : Nat} : (clr s r).testBit i = (decide (i < 10) && (s.testBit i && decide (i ≠ r))) := bs_bit _ 10 i
theorem clr_lt (s r : Nat) : clr s r < 1024 := bs_lt _ 10
theorem clr_v : ∀ s, s < 1024 → ∀ r, r < 10 → nI s &&& ((nI 1 <<< (nI r &&& 31)) ^^^ (-1)) = nI (clr s r) := by decide +kernel
theorem bit_v : ∀ s, s < 1024 → ∀ r, r < 10 → (nI s >>> (nI r &&& 31)) &&& nI 1 = nI (if s.testBit r then 1 else 0) := by decide +kernel
theorem and_v (a b : Nat) : nI a &&& nI b = nI (a &&& b) := by
  apply Int32.toBitVec_inj.mp
  simp [nI]
theorem lt_1024 {s n : Nat} (h : s < 2 ^ n) (hn : n ≤ 10) : s < 1024 := Nat.lt_of_lt_of_le h (Nat.pow_le_pow_right (by decide) hn)
theorem bit_out {s i : Nat} (h : s < 1024) (hi : 10 ≤ i) : s.testBit i = false := by
  have h1 : 2 ^ 10 ≤ 2 ^ i := Nat.pow_le_pow_right (by decide) hi
  exact Nat.testBit_lt_two_pow (Nat.lt_of_lt_of_le h h1)
theorem set_ext {s t : Nat} (hs : s < 1024) (ht : t < 1024) (h : ∀ i, i < 10 → s.testBit i = t.testBit i) : s = t := by
  apply Nat.eq_of_testBit_eq
  intro i
  by_cases hi : i < 10
  · exact h i hi
  · rw [bit_out hs (by omega), bit_out ht (by omega)]
theorem getD_map (f : Nat → Int32) (l : List Nat) (i : Nat) : (l.map f).getD i 0 = if i < l.length then f (l.getD i 0) else 0 := by
  simp only [List.getD_eq_getElem?_getD, List.getElem?_map]
  by_cases h : i < l.length
  · rw [if_pos h, List.getElem?_eq_getElem h]; rfl
  · rw [if_neg h, List.getElem?_eq_none (by omega)]; rfl
theorem getD_mapN (l : List Nat) (i : Nat) : (l.map nI).getD i 0 = nI (l.getD i 0) := by
  rw [getD_map]
  by_cases h : i < l.length
  · rw [if_pos h]
  · rw [if_neg h, List.getD_eq_getElem?_getD, List.getElem?_eq_none (by omega)]; rfl
/-- it stands, in a line that is all there -/
def mtB (ph ls : List Int32) (p m : Nat) : Bool := decide (∀ j, j < m → ph.getD j 0 = ls.getD (p + j) 0)
theorem mtB_iff {ph ls : List Int32} {p m : Nat} : mtB ph ls p m = true ↔ mtc ph ls p m := by unfold mtB mtc; simp
def stB (kd : Nat) (ph ls : List Int32) (p : Nat) : Bool := !(decide (kd ≠ 0) && ahd ls p) && decide (p + ph.length ≤ ls.length) && mtB ph ls p ph.length && !((decide (kd = 1) || decide (kd = 3)) && decide (p + ph.length < ls.length) && wl (ls.getD (p + ph.length) 0))
theorem stA_B {kd p d : Nat} {ph ls : List Int32} (h : stA kd ph ls p ls.length false d) : d = if stB kd ph ls p then 1 else 0 := by
  unfold stB
  rcases h with ⟨rfl, h1, h2⟩ | ⟨h0, ⟨rfl, h1⟩ | ⟨h1, ⟨h2, h3⟩ | ⟨h2, ⟨h3, rfl⟩ | ⟨h3, ⟨h4, rfl⟩ | ⟨h4, rfl⟩⟩⟩⟩⟩
  · simp [h1, h2]
  · by_cases q : p + ph.length ≤ ls.length
    · rw [Nat.min_eq_left q, show p + ph.length - p = ph.length by omega] at h1
      have : mtB ph ls p ph.length = false := by
        cases hq : mtB ph ls p ph.length with
        | false => rfl
        | true => exact absurd (mtB_iff.mp hq) h1
      simp [this]
    · simp [q]
  · simp [show ¬ p + ph.length ≤ ls.length by omega, h3]
  · rw [Nat.min_eq_left h2, show p + ph.length - p = ph.length by omega] at h1
    have e1 : (decide (kd ≠ 0) && ahd ls p) = false := by
      cases hq : (decide (kd ≠ 0) && ahd ls p) with
      | false => rfl
      | true => rw [Bool.and_eq_true, decide_eq_true_eq] at hq; exact absurd hq h0
    have e2 : (decide (kd = 1) || decide (kd = 3)) = false := by
      cases hq : (decide (kd = 1) || decide (kd = 3)) with
      | false => rfl
      | true => rw [Bool.or_eq_true, decide_eq_true_eq, decide_eq_true_eq] at hq; exact absurd hq h3
    rw [e1, e2, decide_eq_true h2, mtB_iff.mpr h1]; rfl
  · rw [Nat.min_eq_left h2, show p + ph.length - p = ph.length by omega] at h1
    have e1 : (decide (kd ≠ 0) && ahd ls p) = false := by
      cases hq : (decide (kd ≠ 0) && ahd ls p) with
      | false => rfl
      | true => rw [Bool.and_eq_true, decide_eq_true_eq] at hq; exact absurd hq h0
    rw [e1, decide_eq_true h2, mtB_iff.mpr h1, decide_eq_false (show ¬ p + ph.length < ls.length by omega)]; simp
  · rw [Nat.min_eq_left h2, show p + ph.length - p = ph.length by omega] at h1
    have e1 : (decide (kd ≠ 0) && ahd ls p) = false := by
      cases hq : (decide (kd ≠ 0) && ahd ls p) with
      | false => rfl
      | true => rw [Bool.and_eq_true, decide_eq_true_eq] at hq; exact absurd hq h0
    have e2 : (decide (kd = 1) || decide (kd = 3)) = true := by rw [Bool.or_eq_true, decide_eq_true_eq, decide_eq_true_eq]; exact h3
    rw [e1, e2, decide_eq_true h2, mtB_iff.mpr h1, decide_eq_true h4]
    cases wl (ls.getD (p + ph.length) 0) <;> rfl
/-- the rules by their phrases' lengths: the longest first -/
def sel (rs : List aR) (L : Nat) : List Nat := (List.range rs.length).filter fun k => decide ((pPh rs k).length = L)
def ordF (rs : List aR) : Nat → List Nat
  | 0 => []
  | c + 1 => ordF rs c ++ sel rs (6 - c)
def ord (rs : List aR) : List Nat := ordF rs 6
theorem mem_sel {rs : List aR} {L k : Nat} : k ∈ sel rs L ↔ k < rs.length ∧ (pPh rs k).length = L := by
  unfold sel; rw [List.mem_filter, List.mem_range, decide_eq_true_eq]
theorem mem_ordF {rs : List aR} : ∀ {c k : Nat}, c ≤ 6 → (k ∈ ordF rs c ↔ k < rs.length ∧ 6 - c < (pPh rs k).length ∧ (pPh rs k).length ≤ 6)
  | 0, k, _ => by simp only [ordF, List.not_mem_nil, false_iff]; omega
  | c + 1, k, hc => by
    rw [ordF, List.mem_append, mem_ordF (by omega), mem_sel]
    omega
theorem mem_ord {rs : List aR} {k : Nat} : k ∈ ord rs ↔ k < rs.length ∧ 1 ≤ (pPh rs k).length ∧ (pPh rs k).length ≤ 6 := by
  unfold ord; rw [mem_ordF (Nat.le_refl 6)]; omega
theorem sel_len (rs : List aR) (L : Nat) : (sel rs L).length ≤ rs.length := by
  have := List.length_filter_le (fun k => decide ((pPh rs k).length = L)) (List.range rs.length)
  rwa [List.length_range] at this
theorem cnt_nil (f : Nat → Nat) : ∀ c, (((List.range c).map fun i => (([] : List Nat).filter fun k => decide (f k = 6 - i)).length).sum) = 0
  | 0 => rfl
  | c + 1 => by rw [List.range_succ, List.map_append, List.sum_append, cnt_nil f c]; rfl
theorem cnt_cons (a : Nat) (t : List Nat) (f : Nat → Nat) : ∀ c, c ≤ 6 → (((List.range c).map fun i => ((a :: t).filter fun k => decide (f k = 6 - i)).length).sum) = (((List.range c).map fun i => (t.filter fun k => decide (f k = 6 - i)).length).sum) + (if 6 - c < f a ∧ f a ≤ 6 then 1 else 0)
  | 0, _ => by rw [if_neg (by omega)]; rfl
  | c + 1, hc => by
    rw [List.range_succ, List.map_append, List.map_append, List.sum_append, List.sum_append, cnt_cons a t f c (by omega)]
    simp only [List.map_cons, List.map_nil, List.sum_cons, List.sum_nil]
    by_cases q : f a = 6 - c
    · rw [List.filter_cons_of_pos (by simpa using q), List.length_cons]
      rw [if_neg (by omega), if_pos (by omega)]
      omega
    · rw [List.filter_cons_of_neg (by simpa using q)]
      by_cases q2 : 6 - c < f a ∧ f a ≤ 6
      · rw [if_pos q2, if_pos (by omega)]; omega
      · rw [if_neg q2, if_neg (by omega)]; omega
theorem cnt_le (l : List Nat) (f : Nat → Nat) (c : Nat) (hc : c ≤ 6) : (((List.range c).map fun i => (l.filter fun k => decide (f k = 6 - i)).length).sum) ≤ l.length := by
  induction l with
  | nil => rw [cnt_nil]; exact Nat.zero_le _
  | cons a t ih =>
    rw [cnt_cons a t f c hc, List.length_cons]
    split <;> omega
theorem ordF_len (rs : List aR) {c : Nat} (hc : c ≤ 6) : (ordF rs c).length ≤ rs.length := by
  have e : ∀ c, (ordF rs c).length = (((List.range c).map fun i => (sel rs (6 - i)).length).sum) := by
    intro c
    induction c with
    | zero => rfl
    | succ c ih => rw [ordF, List.length_append, ih, List.range_succ, List.map_append, List.sum_append]; simp
  rw [e]
  have := cnt_le (List.range rs.length) (fun k => (pPh rs k).length) c hc
  rwa [List.length_range] at this
/-- which rule is used at a place -/
def okB (rs : List aR) (kd : List Nat) (ls : List Int32) (s p r : Nat) : Bool := s.testBit r && stB (kd.getD r 0) (pPh rs r) ls p
def usd (rs : List aR) (kd : List Nat) (ls : List Int32) (s p : Nat) : Option Nat := (ord rs).find? (okB rs kd ls s p)
def adv (rs : List aR) : Option Nat → Nat
  | none => 1
  | some r => (pPh rs r).length
def lef (kd : List Nat) (s : Nat) : Option Nat → Nat
  | none => s
  | some r => if kd.getD r 0 = 4 then clr s r else s
theorem usd_some {rs : List aR} {kd : List Nat} {ls : List Int32} {s p r : Nat} (h : usd rs kd ls s p = some r) : r < rs.length ∧ 1 ≤ (pPh rs r).length ∧ (pPh rs r).length ≤ 6 ∧ okB rs kd ls s p r = true := by
  have h1 := List.mem_of_find?_eq_some h
  have h2 := List.find?_some h
  have h3 := mem_ord.mp h1
  exact ⟨h3.1, h3.2.1, h3.2.2, h2⟩
theorem adv_pos {rs : List aR} {kd : List Nat} {ls : List Int32} {s p : Nat} : 1 ≤ adv rs (usd rs kd ls s p) := by
  cases h : usd rs kd ls s p with
  | none => exact Nat.le_refl 1
  | some r => exact (usd_some h).2.1
theorem lef_lt {kd : List Nat} {s : Nat} (hs : s < 1024) (o : Option Nat) : lef kd s o < 1024 := by
  cases o with
  | none => exact hs
  | some r => unfold lef; simp only; split; exact clr_lt s r; exact hs
def trc (rs : List aR) (kd : List Nat) (ls : List Int32) : Nat → Nat → Nat → List (Nat × Option Nat)
  | 0, _, _ => []
  | f + 1, p, s => if p < ls.length then (p, usd rs kd ls s p) :: trc rs kd ls f (p + adv rs (usd rs kd ls s p)) (lef kd s (usd rs kd ls s p)) else []
theorem trc_same (rs : List aR) (kd : List Nat) (ls : List Int32) : ∀ (f g p s : Nat), ls.length - p ≤ f → ls.length - p ≤ g → trc rs kd ls f p s = trc rs kd ls g p s
  | 0, 0, p, s, _, _ => rfl
  | 0, g + 1, p, s, h, _ => by rw [trc, trc, if_neg (by omega)]
  | f + 1, 0, p, s, _, h => by rw [trc, trc, if_neg (by omega)]
  | f + 1, g + 1, p, s, h1, h2 => by
    rw [trc, trc]
    by_cases q : p < ls.length
    · have := adv_pos (rs := rs) (kd := kd) (ls := ls) (s := s) (p := p)
      rw [if_pos q, if_pos q, trc_same rs kd ls f g _ _ (by omega) (by omega)]
    · rw [if_neg q, if_neg q]
/-- what is done, place by place -/
def tr (rs : List aR) (kd : List Nat) (ls : List Int32) (p s : Nat) : List (Nat × Option Nat) := trc rs kd ls (ls.length - p) p s
theorem tr_go {rs : List aR} {kd : List Nat} {ls : List Int32} {p s : Nat} (h : p < ls.length) : tr rs kd ls p s = (p, usd rs kd ls s p) :: tr rs kd ls (p + adv rs (usd rs kd ls s p)) (lef kd s (usd rs kd ls s p)) := by
  have := adv_pos (rs := rs) (kd := kd) (ls := ls) (s := s) (p := p)
  unfold tr
  rw [trc_same rs kd ls (ls.length - p) (ls.length - p - 1 + 1) p s (Nat.le_refl _) (by omega), trc, if_pos h]
  rw [trc_same rs kd ls (ls.length - p - 1) _ _ _ (by omega) (Nat.le_refl _)]
theorem tr_end {rs : List aR} {kd : List Nat} {ls : List Int32} {p s : Nat} (h : ls.length ≤ p) : tr rs kd ls p s = [] := by
  unfold tr
  rw [show ls.length - p = 0 by omega, trc]
def oL (rs : List aR) (kd : List Nat) (ls : List Int32) : Nat × Option Nat → List Int32
  | (p, none) => [ls.getD p 0]
  | (_, some r) => giv (kd.getD r 0) (pGf rs r)
def oS (rs : List aR) (ss : List Int32) : Nat × Option Nat → List Int32
  | (p, none) => [ss.getD p 0]
  | (p, some r) => List.replicate (pGf rs r).length (ss.getD p 0)
def outL (rs : List aR) (kd : List Nat) (ls : List Int32) (t : List (Nat × Option Nat)) : List Int32 := t.flatMap (oL rs kd ls)
def outS (rs : List aR) (ss : List Int32) (t : List (Nat × Option Nat)) : List Int32 := t.flatMap (oS rs ss)
def uAt : List (Nat × Option Nat) → List Int32 → List Int32
  | [], U => U
  | (_, none) :: t, U => uAt t U
  | (p, some r) :: t, U => uAt t (U.set p (nI r))
def uCt : List (Nat × Option Nat) → List Int32 → List Int32
  | [], V => V
  | (_, none) :: t, V => uCt t V
  | (_, some r) :: t, V => uCt t (V.set r (V.getD r 0 + nI 1))
def cnt : List (Nat × Option Nat) → Nat
  | [] => 0
  | (_, none) :: t => cnt t
  | (_, some _) :: t => cnt t + 1
theorem out_len (rs : List aR) (kd : List Nat) (ls ss : List Int32) : ∀ t, (outL rs kd ls t).length = (outS rs ss t).length
  | [] => rfl
  | (p, none) :: t => by
    have := out_len rs kd ls ss t
    simp only [outL, outS, List.flatMap_cons, List.length_append] at this ⊢
    rw [this]; rfl
  | (p, some r) :: t => by
    have := out_len rs kd ls ss t
    simp only [outL, outS, List.flatMap_cons, List.length_append] at this ⊢
    rw [this]
    simp [oL, oS, giv_len]
theorem outL_le {rs : List aR} (kd : List Nat) (ls : List Int32) (hw : ∀ r, (pGf rs r).length ≤ 6) : ∀ (f p s : Nat), (outL rs kd ls (trc rs kd ls f p s)).length ≤ 6 * f
  | 0, p, s => by simp [trc, outL]
  | f + 1, p, s => by
    rw [trc]
    by_cases h : p < ls.length
    · rw [if_pos h]
      have ih := outL_le kd ls hw f (p + adv rs (usd rs kd ls s p)) (lef kd s (usd rs kd ls s p))
      simp only [outL, List.flatMap_cons, List.length_append] at ih ⊢
      have : (oL rs kd ls (p, usd rs kd ls s p)).length ≤ 6 := by
        cases hq : usd rs kd ls s p with
        | none => simp [oL]
        | some r => simp only [oL, giv_len]; exact hw r
      omega
    · rw [if_neg h]; simp [outL]
theorem uAt_len : ∀ t U, (uAt t U).length = U.length
  | [], U => rfl
  | (_, none) :: t, U => uAt_len t U
  | (p, some r) :: t, U => by rw [uAt, uAt_len, List.length_set]
theorem uCt_len : ∀ t V, (uCt t V).length = V.length
  | [], V => rfl
  | (_, none) :: t, V => uCt_len t V
  | (p, some r) :: t, V => by rw [uCt, uCt_len, List.length_set]
end
section
/-! THE WALK OF A PASS -/
def isWalk (sh : pmS) (k kb : Nat) : Prop := pmOb sh k 9 [some (some kb), some (some (k + 1)), some (some (k + 3)), some (some (k + 5)), some (some (k + 7)), some (some (k + 9)), some (some (k + 11))] ∧ isRow sh (k + 1) 10 ∧ isRow sh (k + 3) 10 ∧ isRow sh (k + 5) 60 ∧ isRow sh (k + 7) 60 ∧ isRow sh (k + 9) 10 ∧ isLine sh (k + 11) 360
abbrev kds (rs : List aR) : List Nat := rs.map (·.1)
def sAt (rs : List aR) (kd : List Nat) (ls : List Int32) (p : Nat) : Nat := bs (fun r => stB (kd.getD r 0) (pPh rs r) ls p) rs.length
def sRow (rs : List aR) (kd : List Nat) (ls : List Int32) : List Nat := (List.range ls.length).map (sAt rs kd ls)
def wkIs (M : pmM) (k : Nat) (rs : List aR) (kd : List Nat) (ls : List Int32) : Prop := rowIs M (k + 1) ((ord rs).map nI) ∧ rowIs M (k + 3) (kd.map nI) ∧ rowIs M (k + 5) ((sRow rs kd ls).map nI)
theorem wkIs.mv {M M' : pmM} {k a b : Nat} {rs : List aR} {kd : List Nat} {ls : List Int32} (h : wkIs M k rs kd ls) (hf : fr a b M M') (hk : k + 7 ≤ a ∨ b ≤ k + 1) : wkIs M' k rs kd ls := ⟨h.1.mv hf (by omega), h.2.1.mv hf (by omega), h.2.2.mv hf (by omega)⟩
/-- the kinds that a pass goes by -/
def okK (rs : List aR) (kd : List Nat) : Prop := kd.length = rs.length ∧ ∀ r, kd.getD r 0 < 5
theorem bk_at {M : pmM} {k i : Nat} {rs : List aR} (h : bookIs M k rs) (hi : i < rs.length) : ruleIs M (k + 7 + 5 * i) (gR rs i) ∧ wfR (gR rs i) := by
  have e : rs[i]? = some (gR rs i) := by
    unfold gR; rw [List.getD_eq_getElem?_getD, List.getElem?_eq_getElem hi]; rfl
  exact h.2.2 i _ e
theorem kds_at {rs : List aR} {i : Nat} (hi : i < rs.length) : (kds rs).getD i 0 = (gR rs i).1 := by
  unfold kds gR
  simp only [List.getD_eq_getElem?_getD, List.getElem?_map, List.getElem?_eq_getElem hi]; rfl
theorem kds_ok {M : pmM} {k : Nat} {rs : List aR} (h : bookIs M k rs) : okK rs (kds rs) := by
  refine ⟨by unfold kds; rw [List.length_map], fun r => ?_⟩
  by_cases hr : r < rs.length
  · rw [kds_at hr]; exact (bk_at h hr).2.1
  · rw [List.getD_eq_getElem?_getD, List.getElem?_eq_none (by unfold kds; rw [List.length_map]; omega)]; exact (by decide : (0 : Nat) < 5)
theorem okK_set {rs : List aR} {kd : List Nat} {r d : Nat} (h : okK rs kd) (hd : d < 5) : okK rs (kd.set r d) := by
  refine ⟨by rw [List.length_set]; exact h.1, fun i => ?_⟩
  have := h.2 i
  simp only [List.getD_eq_getElem?_getD, List.getElem?_set] at this ⊢
  split
  · split
    · exact hd
    · exact (by decide : (0 : Nat) < 5)
  · exact this
def selJ (rs : List aR) (L j : Nat) : List Nat := (List.range j).filter fun k => decide ((pPh rs k).length = L)
theorem selJ_yes {rs : List aR} {L j : Nat} (h : (pPh rs j).length = L) : selJ rs L (j + 1) = selJ rs L j ++ [j] := by
  unfold selJ; rw [List.range_succ, List.filter_append, List.filter_cons_of_pos (by simpa using h)]; rfl
theorem selJ_no {rs : List aR} {L j : Nat} (h : ¬ (pPh rs j).length = L) : selJ rs L (j + 1) = selJ rs L j := by
  unfold selJ; rw [List.range_succ, List.filter_append, List.filter_cons_of_neg (by simpa using h)]; simp
theorem selJ_mono (rs : List aR) (L j : Nat) : ∀ d, (selJ rs L j).length ≤ (selJ rs L (j + d)).length
  | 0 => Nat.le_refl _
  | d + 1 => by
    have := selJ_mono rs L j d
    rw [← Nat.add_assoc]
    by_cases q : (pPh rs (j + d)).length = L
    · rw [selJ_yes q, List.length_append]; omega
    · rw [selJ_no q]; exact this
theorem dec_v : ∀ c, c < 6 → nI (6 - c) + Int32.ofInt (-1) = nI (6 - (c + 1)) := by decide +kernel
theorem or_v (a b : Nat) : nI a ||| nI b = nI (a ||| b) := by
  apply Int32.toBitVec_inj.mp
  simp [nI]
section WLK
variable {sh : pmS} {M : pmM} {N : pmN} {Q : pmPost} {k kb kl nl : Nat} {rs : List aR} {kd : List Nat} {ls ss : List Int32}
theorem put_in (hw : isWalk sh k kb) (hb : isBook sh kb) (hx : bookIs M kb rs) (hd : kb + 57 ≤ k ∨ k + 16 ≤ kb) {c : Nat} (hc : c < 6)
    (kk : ∀ M', fr (k + 1) (k + 3) M M' → rowIs M' (k + 1) ((ordF rs (c + 1)).map nI) → PW mX9_putInOrder 60 [.ref k, .int (nI (6 - c)), .int (nI rs.length)] [] sh M' N Q) :
    ∀ (d j : Nat) (M1 : pmM), j + d = rs.length → fr (k + 1) (k + 3) M M1 → rowIs M1 (k + 1) ((ordF rs c ++ selJ rs (6 - c) j).map nI) → PW mX9_putInOrder 16 [.ref k, .int (nI (6 - c)), .int (nI j)] [] sh M1 N Q := by
  have hb0 := hb
  obtain ⟨w0, w1, w2, w3, w4, w5, w6⟩ := hw
  obtain ⟨b1, b2, b3⟩ := hb
  have h10 := hx.2.1
  have w1' := w1.1
  intro d
  induction d with
  | zero =>
    intro j M1 hj hf hr
    have hx1 := hx.mv hf (by omega)
    have : j = rs.length := by omega
    subst this
    refine pw_iload_n 17 rfl rfl rfl ?_
    refine pw_aload_n 18 rfl rfl rfl ?_
    refine pw_getR 21 rfl rfl (by first | assumption | exact ⟨by decide, rfl⟩) rfl ?_
    refine pw_cV0 24 rfl rfl (by first | assumption | exact ⟨by decide, rfl⟩) rfl (Nat.le_of_ble_eq_true rfl) rfl rfl (Nat.le_of_ble_eq_true rfl) (c_Book_size hb0 hx1 ?_)
    refine pw_pI ?_
    skip
    refine pw_icmp_ge_t 60 rfl rfl (nI_le (by omega) (by omega)) ?_
    exact kk M1 hf hr
  | succ d ih =>
    intro j M1 hj hf hr
    have hx1 := hx.mv hf (by omega)
    have hj2 : j < rs.length := by omega
    have o1 := (b3 j (by omega)).1
    have o2 := (b3 j (by omega)).2.1
    have o2' := o2.1
    refine pw_iload_n 17 rfl rfl rfl ?_
    refine pw_aload_n 18 rfl rfl rfl ?_
    refine pw_getR 21 rfl rfl (by first | assumption | exact ⟨by decide, rfl⟩) rfl ?_
    refine pw_cV0 24 rfl rfl (by first | assumption | exact ⟨by decide, rfl⟩) rfl (Nat.le_of_ble_eq_true rfl) rfl rfl (Nat.le_of_ble_eq_true rfl) (c_Book_size hb0 hx1 ?_)
    refine pw_pI ?_
    skip
    refine pw_icmp_ge_f 27 rfl rfl (nI_ge (by omega) (by omega)) ?_
    refine pw_aload_n 28 rfl rfl rfl ?_
    refine pw_getR 31 rfl rfl (by first | assumption | exact ⟨by decide, rfl⟩) rfl ?_
    refine pw_iload_n 32 rfl rfl rfl ?_
    refine pw_cV1 35 rfl rfl (by first | assumption | exact ⟨by decide, rfl⟩) rfl (Nat.le_of_ble_eq_true rfl) rfl rfl (Nat.le_of_ble_eq_true rfl) (c_Book_get hb0 (i := j) (by omega) ?_)
    refine pw_pR ?_
    refine pw_getR 38 rfl rfl (by first | assumption | exact ⟨by decide, rfl⟩) rfl ?_
    refine pw_cV0 41 rfl rfl (by first | assumption | exact ⟨by decide, rfl⟩) rfl (Nat.le_of_ble_eq_true rfl) rfl rfl (Nat.le_of_ble_eq_true rfl) (c_Row_size o2 (bk_at hx1 hj2).1.2.1 ?_)
    refine pw_pI ?_
    have hlen : (pPh rs j).length ≤ 6 := (bk_at hx1 hj2).2.2.2.1
    refine pw_iload_n 42 rfl rfl rfl ?_
    refine pw_icmp_ne 54 45 rfl rfl rfl (fun h => ?_) (fun h => ?_)
    · have h : ¬ (pPh rs j).length = 6 - c := fun q => h (by rw [q])
      first | refine pw_iincN2 57 rfl rfl rfl (by with_reducible rfl) ?_ | refine pw_iinc2 (w := _) 57 rfl rfl rfl rfl ?_
      refine pw_goto rfl 16 rfl ?_
      refine ih (j + 1) M1 (by omega) hf ?_
      rw [selJ_no h]; exact hr
    · have h : (pPh rs j).length = 6 - c := (nI_eq (by omega) (by omega)).mp (Decidable.not_not.mp h)
      have hl1 := ordF_len rs (c := c + 1) (by omega)
      have hl2 := selJ_mono rs (6 - c) (j + 1) d
      rw [show j + 1 + d = rs.length by omega, selJ_yes h] at hl2
      rw [ordF] at hl1
      simp only [List.length_append, List.length_cons, List.length_nil] at hl1 hl2
      have e9 : (sel rs (6 - c)).length = (selJ rs (6 - c) rs.length).length := rfl
      refine pw_aload_n 46 rfl rfl rfl ?_
      refine pw_getR 49 rfl rfl (by first | assumption | exact ⟨by decide, rfl⟩) rfl ?_
      refine pw_iload_n 50 rfl rfl rfl ?_
      refine pw_cV1 53 rfl rfl (by first | assumption | exact ⟨by decide, rfl⟩) rfl (Nat.le_of_ble_eq_true rfl) rfl rfl (Nat.le_of_ble_eq_true rfl) (c_Row_add w1 hr (by rw [List.length_map, List.length_append]; omega) _ (fun M2 f2 r2 => ?_))
      refine pw_pI ?_
      refine pw_pop 54 rfl rfl rfl ?_
      first | refine pw_iincN2 57 rfl rfl rfl (by with_reducible rfl) ?_ | refine pw_iinc2 (w := _) 57 rfl rfl rfl rfl ?_
      refine pw_goto rfl 16 rfl ?_
      refine ih (j + 1) M2 (by omega) (hf.tr f2) ?_
      rw [selJ_yes h, ← List.append_assoc, List.map_append (l₂ := [j])]; exact r2
theorem put_out (hw : isWalk sh k kb) (hb : isBook sh kb) (hx : bookIs M kb rs) (hd : kb + 57 ≤ k ∨ k + 16 ≤ kb) (kk : ∀ M', fr (k + 1) (k + 3) M M' → rowIs M' (k + 1) ((ord rs).map nI) → Q none sh M' N) :
    ∀ (d c : Nat) (M1 : pmM) (v : Value), pmIsL v = false → c + d = 6 → fr (k + 1) (k + 3) M M1 → rowIs M1 (k + 1) ((ordF rs c).map nI) → PW mX9_putInOrder 10 [.ref k, .int (nI (6 - c)), v] [] sh M1 N Q := by
  intro d
  induction d with
  | zero =>
    intro c M1 v hv hc hf hr
    have : c = 6 := by omega
    subst this
    refine pw_iload_n 11 rfl rfl rfl ?_
    refine pw_if_le_t 66 rfl rfl (by decide) ?_
    skip
    exact pw_vret rfl (kk M1 hf hr)
  | succ d ih =>
    intro c M1 v hv hc hf hr
    have hx1 := hx.mv hf (by omega)
    refine pw_iload_n 11 rfl rfl rfl ?_
    refine pw_if_le_f 14 rfl rfl (nI_ge (a := 0) (by omega) (by omega)) ?_
    refine pw_iconst (v := nI 0) 15 rfl rfl (by decide) ?_
    refine pw_istore2 16 rfl rfl rfl ?_
    refine put_in hw hb hx1 hd (c := c) (by omega) (fun M2 f2 r2 => ?_) rs.length 0 M1 (by omega) fr.rf (by rw [show ordF rs c ++ selJ rs (6 - c) 0 = ordF rs c from List.append_nil _]; exact hr)
    refine pw_iinc1 (w := nI (6 - (c + 1))) 63 rfl rfl rfl (dec_v c (by omega)) ?_
    refine pw_goto rfl 10 rfl ?_
    exact ih (c + 1) M2 _ rfl (by omega) (hf.tr f2) r2
theorem c_putInOrder (hw : isWalk sh k kb) (hb : isBook sh kb) (hx : bookIs M kb rs) (hd : kb + 57 ≤ k ∨ k + 16 ≤ kb) (kk : ∀ M', fr (k + 1) (k + 3) M M' → rowIs M' (k + 1) ((ord rs).map nI) → Q none sh M' N) : PW mX9_putInOrder 0 [.ref k, .null, .null] [] sh M N Q := by
  have hw0 := hw
  obtain ⟨w0, w1, w2, w3, w4, w5, w6⟩ := hw
  have w1' := w1.1
  refine pw_aload_n 1 rfl rfl rfl ?_
  refine pw_getR 4 rfl rfl (by first | assumption | exact ⟨by decide, rfl⟩) rfl ?_
  refine pw_cV0 7 rfl rfl (by first | assumption | exact ⟨by decide, rfl⟩) rfl (Nat.le_of_ble_eq_true rfl) rfl rfl (Nat.le_of_ble_eq_true rfl) (c_Row_clear w1 (fun M1 f1 r1 => ?_))
  refine pw_pV ?_
  refine pw_bipush (v := nI 6) 9 rfl rfl (by decide) ?_
  refine pw_istore1 10 rfl rfl rfl ?_
  exact put_out hw0 hb hx hd kk 6 0 M1 _ rfl (by omega) (f1.wk (by omega) (by omega)) r1
theorem kinds_loop (hw : isWalk sh k kb) (hb : isBook sh kb) (hx : bookIs M kb rs) (hd : kb + 57 ≤ k ∨ k + 16 ≤ kb) (kk : ∀ M', fr (k + 3) (k + 5) M M' → rowIs M' (k + 3) ((kds rs).map nI) → Q none sh M' N) :
    ∀ (d j : Nat) (M1 : pmM), j + d = rs.length → fr (k + 3) (k + 5) M M1 → rowIs M1 (k + 3) (((kds rs).take j).map nI) → PW mX9_takeKinds 9 [.ref k, .int (nI j)] [] sh M1 N Q := by
  have hb0 := hb
  obtain ⟨w0, w1, w2, w3, w4, w5, w6⟩ := hw
  obtain ⟨b1, b2, b3⟩ := hb
  have h10 := hx.2.1
  have w2' := w2.1
  have hkl : (kds rs).length = rs.length := by unfold kds; rw [List.length_map]
  intro d
  induction d with
  | zero =>
    intro j M1 hj hf hr
    have hx1 := hx.mv hf (by omega)
    refine pw_iload_n 10 rfl rfl rfl ?_
    refine pw_aload_n 11 rfl rfl rfl ?_
    refine pw_getR 14 rfl rfl (by first | assumption | exact ⟨by decide, rfl⟩) rfl ?_
    refine pw_cV0 17 rfl rfl (by first | assumption | exact ⟨by decide, rfl⟩) rfl (Nat.le_of_ble_eq_true rfl) rfl rfl (Nat.le_of_ble_eq_true rfl) (c_Book_size hb0 hx1 ?_)
    refine pw_pI ?_
    skip
    refine pw_icmp_ge_t 45 rfl rfl (nI_le (by omega) (by omega)) ?_
    skip
    exact pw_vret rfl (kk M1 hf (by rw [List.take_of_length_le (by omega)] at hr; exact hr))
  | succ d ih =>
    intro j M1 hj hf hr
    have hx1 := hx.mv hf (by omega)
    have hj2 : j < rs.length := by omega
    have o1 := (b3 j (by omega)).1
    refine pw_iload_n 10 rfl rfl rfl ?_
    refine pw_aload_n 11 rfl rfl rfl ?_
    refine pw_getR 14 rfl rfl (by first | assumption | exact ⟨by decide, rfl⟩) rfl ?_
    refine pw_cV0 17 rfl rfl (by first | assumption | exact ⟨by decide, rfl⟩) rfl (Nat.le_of_ble_eq_true rfl) rfl rfl (Nat.le_of_ble_eq_true rfl) (c_Book_size hb0 hx1 ?_)
    refine pw_pI ?_
    skip
    refine pw_icmp_ge_f 20 rfl rfl (nI_ge (by omega) (by omega)) ?_
    refine pw_aload_n 21 rfl rfl rfl ?_
    refine pw_getR 24 rfl rfl (by first | assumption | exact ⟨by decide, rfl⟩) rfl ?_
    refine pw_aload_n 25 rfl rfl rfl ?_
    refine pw_getR 28 rfl rfl (by first | assumption | exact ⟨by decide, rfl⟩) rfl ?_
    refine pw_iload_n 29 rfl rfl rfl ?_
    refine pw_cV1 32 rfl rfl (by first | assumption | exact ⟨by decide, rfl⟩) rfl (Nat.le_of_ble_eq_true rfl) rfl rfl (Nat.le_of_ble_eq_true rfl) (c_Book_get hb0 (i := j) (by omega) ?_)
    refine pw_pR ?_
    refine pw_getI 35 rfl rfl (by first | assumption | exact ⟨by decide, rfl⟩) rfl ?_
    rw [(bk_at hx1 hj2).1.1]
    refine pw_cV1 38 rfl rfl (by first | assumption | exact ⟨by decide, rfl⟩) rfl (Nat.le_of_ble_eq_true rfl) rfl rfl (Nat.le_of_ble_eq_true rfl) (c_Row_add w2 hr (by rw [List.length_map, List.length_take]; omega) _ (fun M2 f2 r2 => ?_))
    refine pw_pI ?_
    refine pw_pop 39 rfl rfl rfl ?_
    first | refine pw_iincN1 42 rfl rfl rfl (by with_reducible rfl) ?_ | refine pw_iinc1 (w := _) 42 rfl rfl rfl rfl ?_
    refine pw_goto rfl 9 rfl ?_
    refine ih (j + 1) M2 (by omega) (hf.tr f2) ?_
    have e : (kds rs).take (j + 1) = (kds rs).take j ++ [(gR rs j).1] := by
      rw [List.take_succ, ← kds_at hj2, List.getD_eq_getElem?_getD, List.getElem?_eq_getElem (by omega)]; rfl
    rw [e, List.map_append]; exact r2
theorem c_takeKinds (hw : isWalk sh k kb) (hb : isBook sh kb) (hx : bookIs M kb rs) (hd : kb + 57 ≤ k ∨ k + 16 ≤ kb) (kk : ∀ M', fr (k + 3) (k + 5) M M' → rowIs M' (k + 3) ((kds rs).map nI) → Q none sh M' N) : PW mX9_takeKinds 0 [.ref k, .null] [] sh M N Q := by
  have hw0 := hw
  obtain ⟨w0, w1, w2, w3, w4, w5, w6⟩ := hw
  have w2' := w2.1
  refine pw_aload_n 1 rfl rfl rfl ?_
  refine pw_getR 4 rfl rfl (by first | assumption | exact ⟨by decide, rfl⟩) rfl ?_
  refine pw_cV0 7 rfl rfl (by first | assumption | exact ⟨by decide, rfl⟩) rfl (Nat.le_of_ble_eq_true rfl) rfl rfl (Nat.le_of_ble_eq_true rfl) (c_Row_clear w2 (fun M1 f1 r1 => ?_))
  refine pw_pV ?_
  refine pw_iconst (v := nI 0) 8 rfl rfl (by decide) ?_
  refine pw_istore1 9 rfl rfl rfl ?_
  exact kinds_loop hw0 hb (hx.mv f1 (by omega)) hd (fun M' f => kk M' ((f1.wk (by omega) (by omega)).tr f)) rs.length 0 M1 (by omega) fr.rf r1
theorem find_in (hw : isWalk sh k kb) (hb : isBook sh kb) (hx : bookIs M kb rs) (hk : okK rs kd) (hkr : rowIs M (k + 3) (kd.map nI)) (hl : isLine sh kl nl) (hy : lineIs M kl ls ss) (hn : ls.length ≤ nl) {p : Nat} (hp : p < ls.length)
    (kk : PW mX9_findStanding 79 [.ref k, .ref kl, .int (nI p), .int (nI (sAt rs kd ls p)), .int (nI rs.length)] [] sh M N Q) :
    ∀ (d j : Nat), j + d = rs.length → PW mX9_findStanding 22 [.ref k, .ref kl, .int (nI p), .int (nI (bs (fun r => stB (kd.getD r 0) (pPh rs r) ls p) j)), .int (nI j)] [] sh M N Q := by
  have hb0 := hb
  have hl0 := hl
  obtain ⟨w0, w1, w2, w3, w4, w5, w6⟩ := hw
  obtain ⟨b1, b2, b3⟩ := hb
  have h10 := hx.2.1
  have w2' := w2.1
  have l0 := hl.1
  intro d
  induction d with
  | zero =>
    intro j hj
    have : j = rs.length := by omega
    subst this
    refine pw_iload 24 rfl rfl rfl ?_
    refine pw_aload_n 25 rfl rfl rfl ?_
    refine pw_getR 28 rfl rfl (by first | assumption | exact ⟨by decide, rfl⟩) rfl ?_
    refine pw_cV0 31 rfl rfl (by first | assumption | exact ⟨by decide, rfl⟩) rfl (Nat.le_of_ble_eq_true rfl) rfl rfl (Nat.le_of_ble_eq_true rfl) (c_Book_size hb0 hx ?_)
    refine pw_pI ?_
    skip
    refine pw_icmp_ge_t 79 rfl rfl (nI_le (by omega) (by omega)) ?_
    exact kk
  | succ d ih =>
    intro j hj
    have hj2 : j < rs.length := by omega
    have o1 := (b3 j (by omega)).1
    refine pw_iload 24 rfl rfl rfl ?_
    refine pw_aload_n 25 rfl rfl rfl ?_
    refine pw_getR 28 rfl rfl (by first | assumption | exact ⟨by decide, rfl⟩) rfl ?_
    refine pw_cV0 31 rfl rfl (by first | assumption | exact ⟨by decide, rfl⟩) rfl (Nat.le_of_ble_eq_true rfl) rfl rfl (Nat.le_of_ble_eq_true rfl) (c_Book_size hb0 hx ?_)
    refine pw_pI ?_
    skip
    refine pw_icmp_ge_f 34 rfl rfl (nI_ge (by omega) (by omega)) ?_
    refine pw_aload_n 35 rfl rfl rfl ?_
    refine pw_getR 38 rfl rfl (by first | assumption | exact ⟨by decide, rfl⟩) rfl ?_
    refine pw_iload 40 rfl rfl rfl ?_
    refine pw_cV1 43 rfl rfl (by first | assumption | exact ⟨by decide, rfl⟩) rfl (Nat.le_of_ble_eq_true rfl) rfl rfl (Nat.le_of_ble_eq_true rfl) (c_Book_get hb0 (i := j) (by omega) ?_)
    refine pw_pR ?_
    refine pw_aload_n 44 rfl rfl rfl ?_
    refine pw_iload_n 45 rfl rfl rfl ?_
    refine pw_aload_n 46 rfl rfl rfl ?_
    refine pw_getR 49 rfl rfl (by first | assumption | exact ⟨by decide, rfl⟩) rfl ?_
    refine pw_iload 51 rfl rfl rfl ?_
    refine pw_cV1 54 rfl rfl (by first | assumption | exact ⟨by decide, rfl⟩) rfl (Nat.le_of_ble_eq_true rfl) rfl rfl (Nat.le_of_ble_eq_true rfl) (c_Row_get w2 hkr (by rw [List.length_map, hk.1]; exact h10) _ ?_)
    rw [gI_n (by omega), getD_mapN]
    refine pw_pI ?_
    refine pw_aload_n 55 rfl rfl rfl ?_
    refine pw_cV0 58 rfl rfl (by first | assumption | exact ⟨by decide, rfl⟩) rfl (Nat.le_of_ble_eq_true rfl) rfl rfl (Nat.le_of_ble_eq_true rfl) (c_Line_size hl0 hy ?_)
    refine pw_pI ?_
    refine pw_iconst (v := nI 0) 59 rfl rfl (by decide) ?_
    have e := bk_at hx hj2
    refine pw_cV5 62 rfl rfl (by first | assumption | exact ⟨by decide, rfl⟩) rfl (Nat.le_of_ble_eq_true rfl) rfl rfl (Nat.le_of_ble_eq_true rfl) (c_Rule_stands (op := false) (b3 j (by omega)) e.1 e.2.2.2.1 hl0 hy hn (hk.2 j) hp (Nat.le_refl _) (fun d hs => ?_))
    refine pw_pI ?_
    have hs := stA_B hs
    have hlt := bs_lt (fun r => stB (kd.getD r 0) (pPh rs r) ls p) j
    have hlt2 := lt_1024 hlt (by omega)
    by_cases q : stB (kd.getD j 0) (pPh rs j) ls p = true
    · rw [if_pos q] at hs
      subst hs
      refine pw_iconst (v := nI 1) 63 rfl rfl (by decide) ?_
      refine pw_icmp_ne_f 66 rfl rfl (by decide) ?_
      refine pw_iload_n 67 rfl rfl rfl ?_
      refine pw_iconst (v := nI 1) 68 rfl rfl (by decide) ?_
      refine pw_iload 70 rfl rfl rfl ?_
      refine pw_ishl 71 rfl rfl ?_
      refine pw_ior 72 rfl rfl ?_
      rw [or_bit j (by omega) _ hlt2 hlt]
      refine pw_istore3 73 rfl rfl rfl ?_
      first | refine pw_iincN4 76 rfl rfl rfl (by with_reducible rfl) ?_ | refine pw_iinc4 (w := _) 76 rfl rfl rfl rfl ?_
      refine pw_goto rfl 22 rfl ?_
      have := ih (j + 1) (by omega)
      rw [bs, if_pos q] at this
      exact this
    · rw [if_neg q] at hs
      subst hs
      refine pw_iconst (v := nI 1) 63 rfl rfl (by decide) ?_
      refine pw_icmp_ne_t 73 rfl rfl (by decide) ?_
      first | refine pw_iincN4 76 rfl rfl rfl (by with_reducible rfl) ?_ | refine pw_iinc4 (w := _) 76 rfl rfl rfl rfl ?_
      refine pw_goto rfl 22 rfl ?_
      have := ih (j + 1) (by omega)
      rw [bs, if_neg q, Nat.add_zero] at this
      exact this
theorem find_out (hw : isWalk sh k kb) (hb : isBook sh kb) (hx : bookIs M kb rs) (hd : kb + 57 ≤ k ∨ k + 16 ≤ kb) (hk : okK rs kd) (hkr : rowIs M (k + 3) (kd.map nI)) (hl : isLine sh kl nl) (hy : lineIs M kl ls ss) (hn : ls.length ≤ nl) (hd2 : kl + 5 ≤ k ∨ k + 16 ≤ kl) (h60 : ls.length ≤ 60) (kk : ∀ M', fr (k + 5) (k + 7) M M' → rowIs M' (k + 5) ((sRow rs kd ls).map nI) → Q none sh M' N) :
    ∀ (d p : Nat) (M1 : pmM) (v3 v4 : Value), pmIsL v3 = false → pmIsL v4 = false → p + d = ls.length → fr (k + 5) (k + 7) M M1 → rowIs M1 (k + 5) (((sRow rs kd ls).take p).map nI) → PW mX9_findStanding 9 [.ref k, .ref kl, .int (nI p), v3, v4] [] sh M1 N Q := by
  have hw0 := hw
  have hl0 := hl
  obtain ⟨w0, w1, w2, w3, w4, w5, w6⟩ := hw
  have w3' := w3.1
  have l0 := hl.1
  have hsl : (sRow rs kd ls).length = ls.length := by unfold sRow; rw [List.length_map, List.length_range]
  intro d
  induction d with
  | zero =>
    intro p M1 v3 v4 h3 h4 hp hf hr
    have hy1 := hy.mv hf (by omega)
    refine pw_iload_n 10 rfl rfl rfl ?_
    refine pw_aload_n 11 rfl rfl rfl ?_
    refine pw_cV0 14 rfl rfl (by first | assumption | exact ⟨by decide, rfl⟩) rfl (Nat.le_of_ble_eq_true rfl) rfl rfl (Nat.le_of_ble_eq_true rfl) (c_Line_size hl0 hy1 ?_)
    refine pw_pI ?_
    skip
    refine pw_icmp_ge_t 94 rfl rfl (nI_le (by omega) (by omega)) ?_
    skip
    exact pw_vret rfl (kk M1 hf (by rw [List.take_of_length_le (by omega)] at hr; exact hr))
  | succ d ih =>
    intro p M1 v3 v4 h3 h4 hp hf hr
    have hy1 := hy.mv hf (by omega)
    have hx1 := hx.mv hf (by omega)
    refine pw_iload_n 10 rfl rfl rfl ?_
    refine pw_aload_n 11 rfl rfl rfl ?_
    refine pw_cV0 14 rfl rfl (by first | assumption | exact ⟨by decide, rfl⟩) rfl (Nat.le_of_ble_eq_true rfl) rfl rfl (Nat.le_of_ble_eq_true rfl) (c_Line_size hl0 hy1 ?_)
    refine pw_pI ?_
    skip
    refine pw_icmp_ge_f 17 rfl rfl (nI_ge (by omega) (by omega)) ?_
    refine pw_iconst (v := nI 0) 18 rfl rfl (by decide) ?_
    refine pw_istore3 19 rfl rfl rfl ?_
    refine pw_iconst (v := nI 0) 20 rfl rfl (by decide) ?_
    refine pw_istore4 22 rfl rfl rfl ?_
    refine find_in hw0 hb hx1 hk (hkr.mv hf (by omega)) hl0 hy1 hn (p := p) (by omega) ?_ rs.length 0 (by omega)
    refine pw_aload_n 80 rfl rfl rfl ?_
    refine pw_getR 83 rfl rfl (by first | assumption | exact ⟨by decide, rfl⟩) rfl ?_
    refine pw_iload_n 84 rfl rfl rfl ?_
    refine pw_cV1 87 rfl rfl (by first | assumption | exact ⟨by decide, rfl⟩) rfl (Nat.le_of_ble_eq_true rfl) rfl rfl (Nat.le_of_ble_eq_true rfl) (c_Row_add w3 hr (by rw [List.length_map, List.length_take]; omega) _ (fun M2 f2 r2 => ?_))
    refine pw_pI ?_
    refine pw_pop 88 rfl rfl rfl ?_
    first | refine pw_iincN2 91 rfl rfl rfl (by with_reducible rfl) ?_ | refine pw_iinc2 (w := _) 91 rfl rfl rfl rfl ?_
    refine pw_goto rfl 9 rfl ?_
    refine ih (p + 1) M2 _ _ rfl rfl (by omega) (hf.tr f2) ?_
    have e : (sRow rs kd ls).take (p + 1) = (sRow rs kd ls).take p ++ [sAt rs kd ls p] := by
      rw [List.take_succ]
      have : (sRow rs kd ls)[p]? = some (sAt rs kd ls p) := by
        unfold sRow; rw [List.getElem?_map, List.getElem?_range (by omega)]; rfl
      rw [this]; rfl
    rw [e, List.map_append]; exact r2
theorem c_findStanding (hw : isWalk sh k kb) (hb : isBook sh kb) (hx : bookIs M kb rs) (hd : kb + 57 ≤ k ∨ k + 16 ≤ kb) (hk : okK rs kd) (hkr : rowIs M (k + 3) (kd.map nI)) (hl : isLine sh kl nl) (hy : lineIs M kl ls ss) (hn : ls.length ≤ nl) (hd2 : kl + 5 ≤ k ∨ k + 16 ≤ kl) (h60 : ls.length ≤ 60) (kk : ∀ M', fr (k + 5) (k + 7) M M' → rowIs M' (k + 5) ((sRow rs kd ls).map nI) → Q none sh M' N) : PW mX9_findStanding 0 [.ref k, .ref kl, .null, .null, .null] [] sh M N Q := by
  have hw0 := hw
  obtain ⟨w0, w1, w2, w3, w4, w5, w6⟩ := hw
  have w3' := w3.1
  refine pw_aload_n 1 rfl rfl rfl ?_
  refine pw_getR 4 rfl rfl (by first | assumption | exact ⟨by decide, rfl⟩) rfl ?_
  refine pw_cV0 7 rfl rfl (by first | assumption | exact ⟨by decide, rfl⟩) rfl (Nat.le_of_ble_eq_true rfl) rfl rfl (Nat.le_of_ble_eq_true rfl) (c_Row_clear w3 (fun M1 f1 r1 => ?_))
  refine pw_pV ?_
  refine pw_iconst (v := nI 0) 8 rfl rfl (by decide) ?_
  refine pw_istore2 9 rfl rfl rfl ?_
  exact find_out hw0 hb (hx.mv f1 (by omega)) hd hk (hkr.mv f1 (by omega)) hl (hy.mv f1 (by omega)) hn hd2 h60 (fun M' f => kk M' ((f1.wk (by omega) (by omega)).tr f)) ls.length 0 M1 _ _ rfl rfl (by omega) fr.rf r1
theorem c_prepare (hw : isWalk sh k kb) (hb : isBook sh kb) (hx : bookIs M kb rs) (hd : kb + 57 ≤ k ∨ k + 16 ≤ kb) (hl : isLine sh kl nl) (hy : lineIs M kl ls ss) (hn : ls.length ≤ nl) (hd2 : kl + 5 ≤ k ∨ k + 16 ≤ kl) (h60 : ls.length ≤ 60) (kk : ∀ M', fr (k + 1) (k + 7) M M' → wkIs M' k rs (kds rs) ls → Q none sh M' N) : PW mX9_prepare 0 [.ref k, .ref kl] [] sh M N Q := by
  have w0 := hw.1
  refine pw_aload_n 1 rfl rfl rfl ?_
  refine pw_cV0 4 rfl rfl (by first | assumption | exact ⟨by decide, rfl⟩) rfl (Nat.le_of_ble_eq_true rfl) rfl rfl (Nat.le_of_ble_eq_true rfl) (c_putInOrder hw hb hx hd (fun M1 f1 r1 => ?_))
  refine pw_pV ?_
  refine pw_aload_n 5 rfl rfl rfl ?_
  refine pw_cV0 8 rfl rfl (by first | assumption | exact ⟨by decide, rfl⟩) rfl (Nat.le_of_ble_eq_true rfl) rfl rfl (Nat.le_of_ble_eq_true rfl) (c_takeKinds hw hb (hx.mv f1 (by omega)) hd (fun M2 f2 r2 => ?_))
  refine pw_pV ?_
  have f12 := (f1.wk (c := k + 1) (d := k + 5) (by omega) (by omega)).tr (f2.wk (by omega) (by omega))
  refine pw_aload_n 9 rfl rfl rfl ?_
  refine pw_aload_n 10 rfl rfl rfl ?_
  refine pw_cV1 13 rfl rfl (by first | assumption | exact ⟨by decide, rfl⟩) rfl (Nat.le_of_ble_eq_true rfl) rfl rfl (Nat.le_of_ble_eq_true rfl) (c_findStanding hw hb (hx.mv f12 (by omega)) hd (kds_ok hx) r2 hl (hy.mv f12 (by omega)) hn hd2 h60 (fun M3 f3 r3 => ?_))
  refine pw_pV ?_
  skip
  exact pw_vret rfl (kk M3 ((f12.wk (by omega) (by omega)).tr (f3.wk (by omega) (by omega))) ⟨(r1.mv f2 (by omega)).mv f3 (by omega), r2.mv f3 (by omega), r3⟩)
theorem c_prepareAs {r d : Nat} (hw : isWalk sh k kb) (hb : isBook sh kb) (hx : bookIs M kb rs) (hd : kb + 57 ≤ k ∨ k + 16 ≤ kb) (hl : isLine sh kl nl) (hy : lineIs M kl ls ss) (hn : ls.length ≤ nl) (hd2 : kl + 5 ≤ k ∨ k + 16 ≤ kl) (h60 : ls.length ≤ 60) (hr : r < rs.length) (h5 : d < 5) (kk : ∀ M', fr (k + 1) (k + 7) M M' → wkIs M' k rs ((kds rs).set r d) ls → Q none sh M' N) : PW mX9_prepareAs 0 [.ref k, .ref kl, .int (nI r), .int (nI d)] [] sh M N Q := by
  have w0 := hw.1
  have w2 := hw.2.2.1
  have w2' := w2.1
  have h10 := hx.2.1
  have hkl : (kds rs).length = rs.length := by unfold kds; rw [List.length_map]
  refine pw_aload_n 1 rfl rfl rfl ?_
  refine pw_cV0 4 rfl rfl (by first | assumption | exact ⟨by decide, rfl⟩) rfl (Nat.le_of_ble_eq_true rfl) rfl rfl (Nat.le_of_ble_eq_true rfl) (c_putInOrder hw hb hx hd (fun M1 f1 r1 => ?_))
  refine pw_pV ?_
  refine pw_aload_n 5 rfl rfl rfl ?_
  refine pw_cV0 8 rfl rfl (by first | assumption | exact ⟨by decide, rfl⟩) rfl (Nat.le_of_ble_eq_true rfl) rfl rfl (Nat.le_of_ble_eq_true rfl) (c_takeKinds hw hb (hx.mv f1 (by omega)) hd (fun M2 f2 r2 => ?_))
  refine pw_pV ?_
  have f12 := (f1.wk (c := k + 1) (d := k + 5) (by omega) (by omega)).tr (f2.wk (by omega) (by omega))
  refine pw_aload_n 9 rfl rfl rfl ?_
  refine pw_getR 12 rfl rfl (by first | assumption | exact ⟨by decide, rfl⟩) rfl ?_
  refine pw_iload_n 13 rfl rfl rfl ?_
  refine pw_iload_n 14 rfl rfl rfl ?_
  refine pw_cV2 17 rfl rfl (by first | assumption | exact ⟨by decide, rfl⟩) rfl (Nat.le_of_ble_eq_true rfl) rfl rfl (Nat.le_of_ble_eq_true rfl) (c_Row_set w2 r2 (by rw [List.length_map]; omega) (j := r) (by rw [List.length_map]; omega) _ (fun M3 f3 r3 => ?_))
  refine pw_pV ?_
  rw [← List.map_set] at r3
  have f13 := f12.tr (f3.wk (by omega) (by omega))
  refine pw_aload_n 18 rfl rfl rfl ?_
  refine pw_aload_n 19 rfl rfl rfl ?_
  refine pw_cV1 22 rfl rfl (by first | assumption | exact ⟨by decide, rfl⟩) rfl (Nat.le_of_ble_eq_true rfl) rfl rfl (Nat.le_of_ble_eq_true rfl) (c_findStanding hw hb (hx.mv f13 (by omega)) hd (okK_set (kds_ok hx) h5) r3 hl (hy.mv f13 (by omega)) hn hd2 h60 (fun M4 f4 r4 => ?_))
  refine pw_pV ?_
  skip
  exact pw_vret rfl (kk M4 ((f13.wk (by omega) (by omega)).tr (f4.wk (by omega) (by omega))) ⟨((r1.mv f2 (by omega)).mv f3 (by omega)).mv f4 (by omega), r3.mv f4 (by omega), r4⟩)
end WLK
end
section
/-! GOING OVER A LINE -/
def rI : Option Nat → Int32
  | none => -4
  | some r => nI r
theorem sAt_bit {rs : List aR} {kd : List Nat} {ls : List Int32} {p r : Nat} : (sAt rs kd ls p).testBit r = (decide (r < rs.length) && stB (kd.getD r 0) (pPh rs r) ls p) := bs_bit _ _ _
theorem okB_t {rs : List aR} {kd : List Nat} {ls : List Int32} {s p r : Nat} (hr : r < rs.length) : okB rs kd ls s p r = (sAt rs kd ls p &&& s).testBit r := by
  unfold okB
  rw [Nat.testBit_and, sAt_bit, decide_eq_true hr, Bool.true_and, Bool.and_comm]
theorem sRow_at {rs : List aR} {kd : List Nat} {ls : List Int32} {p : Nat} (hp : p < ls.length) : (sRow rs kd ls).getD p 0 = sAt rs kd ls p := by
  unfold sRow
  rw [List.getD_eq_getElem?_getD, List.getElem?_map, List.getElem?_range hp]; rfl
def stN (rs : List aR) (kd : List Nat) (ls : List Int32) (n : Nat) : Nat := bs (fun r => decide (∃ p, p < n ∧ stB (kd.getD r 0) (pPh rs r) ls p = true)) rs.length
theorem stN_zero (rs : List aR) (kd : List Nat) (ls : List Int32) : stN rs kd ls 0 = 0 := by
  apply Nat.eq_of_testBit_eq
  intro i
  unfold stN
  rw [bs_bit, Nat.zero_testBit]
  simp
theorem stN_succ (rs : List aR) (kd : List Nat) (ls : List Int32) (n : Nat) : stN rs kd ls n ||| sAt rs kd ls n = stN rs kd ls (n + 1) := by
  apply Nat.eq_of_testBit_eq
  intro i
  unfold stN
  rw [Nat.testBit_or, sAt_bit, bs_bit, bs_bit]
  by_cases hi : i < rs.length
  · rw [decide_eq_true hi, Bool.true_and, Bool.true_and, Bool.true_and]
    rw [Bool.eq_iff_iff, Bool.or_eq_true, decide_eq_true_eq, decide_eq_true_eq]
    constructor
    · rintro (⟨p, h1, h2⟩ | h)
      · exact ⟨p, by omega, h2⟩
      · exact ⟨n, by omega, h⟩
    · rintro ⟨p, h1, h2⟩
      by_cases q : p = n
      · subst q; exact Or.inr h2
      · exact Or.inl ⟨p, by omega, h2⟩
  · rw [decide_eq_false hi]; simp
theorem take_getD {xs : List Int32} {j : Nat} (h : j < xs.length) : xs.take (j + 1) = xs.take j ++ [xs.getD j 0] := by
  rw [List.take_succ, List.getD_eq_getElem?_getD, List.getElem?_eq_getElem h]; rfl
section GOO
variable {sh : pmS} {M : pmM} {N : pmN} {Q : pmPost} {k kb kl nl : Nat} {rs : List aR} {kd : List Nat} {ls ss : List Int32}
theorem standing_loop (hw : isWalk sh k kb) (hk : wkIs M k rs kd ls) (h60 : ls.length ≤ 60) (kk : Q (some (.int (nI (stN rs kd ls ls.length)))) sh M N) :
    ∀ (d i : Nat), i + d = ls.length → PW mX9_standing 4 [.ref k, .int (nI (stN rs kd ls i)), .int (nI i)] [] sh M N Q := by
  obtain ⟨w0, w1, w2, w3, w4, w5, w6⟩ := hw
  have w3' := w3.1
  have hsl : (sRow rs kd ls).length = ls.length := by unfold sRow; rw [List.length_map, List.length_range]
  intro d
  induction d with
  | zero =>
    intro i hi
    have : i = ls.length := by omega
    subst this
    refine pw_iload_n 5 rfl rfl rfl ?_
    refine pw_aload_n 6 rfl rfl rfl ?_
    refine pw_getR 9 rfl rfl (by first | assumption | exact ⟨by decide, rfl⟩) rfl ?_
    refine pw_cV0 12 rfl rfl (by first | assumption | exact ⟨by decide, rfl⟩) rfl (Nat.le_of_ble_eq_true rfl) rfl rfl (Nat.le_of_ble_eq_true rfl) (c_Row_size w3 hk.2.2 ?_)
    rw [List.length_map, hsl]
    refine pw_pI ?_
    skip
    refine pw_icmp_ge_t 32 rfl rfl (nI_le (by omega) (by omega)) ?_
    refine pw_iload_n 33 rfl rfl rfl ?_
    exact pw_iret rfl rfl (kk)
  | succ d ih =>
    intro i hi
    refine pw_iload_n 5 rfl rfl rfl ?_
    refine pw_aload_n 6 rfl rfl rfl ?_
    refine pw_getR 9 rfl rfl (by first | assumption | exact ⟨by decide, rfl⟩) rfl ?_
    refine pw_cV0 12 rfl rfl (by first | assumption | exact ⟨by decide, rfl⟩) rfl (Nat.le_of_ble_eq_true rfl) rfl rfl (Nat.le_of_ble_eq_true rfl) (c_Row_size w3 hk.2.2 ?_)
    rw [List.length_map, hsl]
    refine pw_pI ?_
    skip
    refine pw_icmp_ge_f 15 rfl rfl (nI_ge (by omega) (by omega)) ?_
    refine pw_iload_n 16 rfl rfl rfl ?_
    refine pw_aload_n 17 rfl rfl rfl ?_
    refine pw_getR 20 rfl rfl (by first | assumption | exact ⟨by decide, rfl⟩) rfl ?_
    refine pw_iload_n 21 rfl rfl rfl ?_
    refine pw_cV1 24 rfl rfl (by first | assumption | exact ⟨by decide, rfl⟩) rfl (Nat.le_of_ble_eq_true rfl) rfl rfl (Nat.le_of_ble_eq_true rfl) (c_Row_get w3 hk.2.2 (by rw [List.length_map, hsl]; exact h60) _ ?_)
    rw [gI_n (by omega), getD_mapN, sRow_at (by omega)]
    refine pw_pI ?_
    refine pw_ior 25 rfl rfl ?_
    rw [or_v, stN_succ]
    refine pw_istore1 26 rfl rfl rfl ?_
    first | refine pw_iincN2 29 rfl rfl rfl (by with_reducible rfl) ?_ | refine pw_iinc2 (w := _) 29 rfl rfl rfl rfl ?_
    refine pw_goto rfl 4 rfl ?_
    exact ih (i + 1) (by omega)
theorem c_standing (hw : isWalk sh k kb) (hk : wkIs M k rs kd ls) (h60 : ls.length ≤ 60) (kk : Q (some (.int (nI (stN rs kd ls ls.length)))) sh M N) : PW mX9_standing 0 [.ref k, .null, .null] [] sh M N Q := by
  refine pw_iconst (v := nI 0) 1 rfl rfl (by decide) ?_
  refine pw_istore1 2 rfl rfl rfl ?_
  refine pw_iconst (v := nI 0) 3 rfl rfl (by decide) ?_
  refine pw_istore2 4 rfl rfl rfl ?_
  have := standing_loop hw hk h60 kk ls.length 0 (by omega)
  rw [stN_zero] at this
  exact this
theorem ruleUsed_loop {s p : Nat} {x2 : Int32} (hw : isWalk sh k kb) (hk : wkIs M k rs kd ls) (h10 : rs.length ≤ 10) (kk : Q (some (.int (rI (usd rs kd ls s p)))) sh M N) :
    ∀ (d i : Nat), i + d = (ord rs).length → usd rs kd ls s p = ((ord rs).drop i).find? (okB rs kd ls s p) → PW mX9_ruleUsed 21 [.ref k, .int (nI p), .int x2, .int (nI (sAt rs kd ls p &&& s)), .int (nI i)] [] sh M N Q := by
  obtain ⟨w0, w1, w2, w3, w4, w5, w6⟩ := hw
  have w1' := w1.1
  have hol := ordF_len rs (Nat.le_refl 6)
  have hol : (ord rs).length ≤ rs.length := hol
  intro d
  induction d with
  | zero =>
    intro i hi hu
    rw [List.drop_eq_nil_of_le (by omega)] at hu
    refine pw_iload 23 rfl rfl rfl ?_
    refine pw_aload_n 24 rfl rfl rfl ?_
    refine pw_getR 27 rfl rfl (by first | assumption | exact ⟨by decide, rfl⟩) rfl ?_
    refine pw_cV0 30 rfl rfl (by first | assumption | exact ⟨by decide, rfl⟩) rfl (Nat.le_of_ble_eq_true rfl) rfl rfl (Nat.le_of_ble_eq_true rfl) (c_Row_size w1 hk.1 ?_)
    rw [List.length_map]
    refine pw_pI ?_
    skip
    refine pw_icmp_ge_t 66 rfl rfl (nI_le (by omega) (by omega)) ?_
    refine pw_bipush (v := (-4)) 68 rfl rfl (by decide) ?_
    rw [hu] at kk
    exact pw_iret rfl rfl (kk)
  | succ d ih =>
    intro i hi hu
    have hi2 : i < (ord rs).length := by omega
    have hm : (ord rs)[i] ∈ ord rs := List.getElem_mem hi2
    have hr := (mem_ord.mp hm).1
    have hg : (ord rs).getD i 0 = (ord rs)[i] := by rw [List.getD_eq_getElem?_getD, List.getElem?_eq_getElem hi2]; rfl
    rw [List.drop_eq_getElem_cons hi2, List.find?_cons] at hu
    have hslt : sAt rs kd ls p &&& s < 1024 := Nat.lt_of_le_of_lt Nat.and_le_left (lt_1024 (bs_lt _ _) h10)
    refine pw_iload 23 rfl rfl rfl ?_
    refine pw_aload_n 24 rfl rfl rfl ?_
    refine pw_getR 27 rfl rfl (by first | assumption | exact ⟨by decide, rfl⟩) rfl ?_
    refine pw_cV0 30 rfl rfl (by first | assumption | exact ⟨by decide, rfl⟩) rfl (Nat.le_of_ble_eq_true rfl) rfl rfl (Nat.le_of_ble_eq_true rfl) (c_Row_size w1 hk.1 ?_)
    rw [List.length_map]
    refine pw_pI ?_
    skip
    refine pw_icmp_ge_f 33 rfl rfl (nI_ge (by omega) (by omega)) ?_
    refine pw_iload_n 34 rfl rfl rfl ?_
    refine pw_aload_n 35 rfl rfl rfl ?_
    refine pw_getR 38 rfl rfl (by first | assumption | exact ⟨by decide, rfl⟩) rfl ?_
    refine pw_iload 40 rfl rfl rfl ?_
    refine pw_cV1 43 rfl rfl (by first | assumption | exact ⟨by decide, rfl⟩) rfl (Nat.le_of_ble_eq_true rfl) rfl rfl (Nat.le_of_ble_eq_true rfl) (c_Row_get w1 hk.1 (by rw [List.length_map]; omega) _ ?_)
    rw [gI_n (by omega), getD_mapN, hg]
    refine pw_pI ?_
    refine pw_ishr 44 rfl rfl ?_
    refine pw_iconst (v := nI 1) 45 rfl rfl (by decide) ?_
    refine pw_iand 46 rfl rfl ?_
    rw [bit_v _ hslt _ (by omega), ← okB_t hr]
    by_cases q : okB rs kd ls s p (ord rs)[i] = true
    · rw [if_pos q]
      refine pw_iconst (v := nI 1) 47 rfl rfl (by decide) ?_
      refine pw_icmp_ne_f 50 rfl rfl (by decide) ?_
      refine pw_aload_n 51 rfl rfl rfl ?_
      refine pw_getR 54 rfl rfl (by first | assumption | exact ⟨by decide, rfl⟩) rfl ?_
      refine pw_iload 56 rfl rfl rfl ?_
      refine pw_cV1 59 rfl rfl (by first | assumption | exact ⟨by decide, rfl⟩) rfl (Nat.le_of_ble_eq_true rfl) rfl rfl (Nat.le_of_ble_eq_true rfl) (c_Row_get w1 hk.1 (by rw [List.length_map]; omega) _ ?_)
      rw [gI_n (by omega), getD_mapN, hg]
      refine pw_pI ?_
      rw [q] at hu
      rw [hu] at kk
      skip
      exact pw_iret rfl rfl (kk)
    · rw [if_neg q]
      refine pw_iconst (v := nI 1) 47 rfl rfl (by decide) ?_
      refine pw_icmp_ne_t 60 rfl rfl (by decide) ?_
      first | refine pw_iincN4 63 rfl rfl rfl (by with_reducible rfl) ?_ | refine pw_iinc4 (w := _) 63 rfl rfl rfl rfl ?_
      refine pw_goto rfl 21 rfl ?_
      have q : okB rs kd ls s p (ord rs)[i] = false := by simpa using q
      rw [q] at hu
      exact ih (i + 1) (by omega) hu
theorem c_ruleUsed {s p : Nat} (hw : isWalk sh k kb) (hk : wkIs M k rs kd ls) (h10 : rs.length ≤ 10) (h60 : ls.length ≤ 60) (hp : p < ls.length) (kk : Q (some (.int (rI (usd rs kd ls s p)))) sh M N) : PW mX9_ruleUsed 0 [.ref k, .int (nI p), .int (nI s), .null, .null] [] sh M N Q := by
  have hw0 := hw
  obtain ⟨w0, w1, w2, w3, w4, w5, w6⟩ := hw
  have w3' := w3.1
  have hsl : (sRow rs kd ls).length = ls.length := by unfold sRow; rw [List.length_map, List.length_range]
  have hslt : sAt rs kd ls p &&& s < 1024 := Nat.lt_of_le_of_lt Nat.and_le_left (lt_1024 (bs_lt _ _) h10)
  refine pw_aload_n 1 rfl rfl rfl ?_
  refine pw_getR 4 rfl rfl (by first | assumption | exact ⟨by decide, rfl⟩) rfl ?_
  refine pw_iload_n 5 rfl rfl rfl ?_
  refine pw_cV1 8 rfl rfl (by first | assumption | exact ⟨by decide, rfl⟩) rfl (Nat.le_of_ble_eq_true rfl) rfl rfl (Nat.le_of_ble_eq_true rfl) (c_Row_get w3 hk.2.2 (by rw [List.length_map, hsl]; exact h60) _ ?_)
  rw [gI_n (by omega), getD_mapN, sRow_at hp]
  refine pw_pI ?_
  refine pw_iload_n 9 rfl rfl rfl ?_
  refine pw_iand 10 rfl rfl ?_
  rw [and_v]
  refine pw_istore3 11 rfl rfl rfl ?_
  refine pw_iload_n 12 rfl rfl rfl ?_
  refine pw_if_ne 18 15 rfl rfl rfl (fun h => ?_) (fun h => ?_)
  · refine pw_iconst (v := nI 0) 19 rfl rfl (by decide) ?_
    refine pw_istore4 21 rfl rfl rfl ?_
    exact ruleUsed_loop hw0 hk h10 kk (ord rs).length 0 (by omega) rfl
  · have h : sAt rs kd ls p &&& s = 0 := (nI_eq (by omega) (by omega)).mp (Decidable.not_not.mp h)
    refine pw_bipush (v := (-4)) 17 rfl rfl (by decide) ?_
    have hu : usd rs kd ls s p = none := by
      unfold usd
      rw [List.find?_eq_none]
      intro r hr
      rw [okB_t (mem_ord.mp hr).1, h, Nat.zero_testBit]
      decide
    rw [hu] at kk
    exact pw_iret rfl rfl (kk)
theorem c_leftOf {s : Nat} {o : Option Nat} (hw : isWalk sh k kb) (hkr : rowIs M (k + 3) (kd.map nI)) (hkl : kd.length ≤ 10) (hk5 : ∀ r, kd.getD r 0 < 5) (hs : s < 1024) (ho : ∀ r, o = some r → r < 10) (kk : Q (some (.int (nI (lef kd s o)))) sh M N) : PW mX9_leftOf 0 [.ref k, .int (nI s), .int (rI o)] [] sh M N Q := by
  obtain ⟨w0, w1, w2, w3, w4, w5, w6⟩ := hw
  have w2' := w2.1
  cases o with
  | none =>
    refine pw_iload_n 1 rfl rfl rfl ?_
    refine pw_bipush (v := (-4)) 3 rfl rfl (by decide) ?_
    refine pw_icmp_eq_t 28 rfl rfl (rfl) ?_
    refine pw_iload_n 29 rfl rfl rfl ?_
    exact pw_iret rfl rfl (kk)
  | some r =>
    have hr := ho r rfl
    have h5 := hk5 r
    unfold rI
    refine pw_iload_n 1 rfl rfl rfl ?_
    refine pw_bipush (v := (-4)) 3 rfl rfl (by decide) ?_
    refine pw_icmp_eq_f 6 rfl rfl (nI_m4 (by omega)) ?_
    refine pw_aload_n 7 rfl rfl rfl ?_
    refine pw_getR 10 rfl rfl (by first | assumption | exact ⟨by decide, rfl⟩) rfl ?_
    refine pw_iload_n 11 rfl rfl rfl ?_
    refine pw_cV1 14 rfl rfl (by first | assumption | exact ⟨by decide, rfl⟩) rfl (Nat.le_of_ble_eq_true rfl) rfl rfl (Nat.le_of_ble_eq_true rfl) (c_Row_get w2 hkr (by rw [List.length_map]; exact hkl) _ ?_)
    rw [gI_n (by omega), getD_mapN]
    refine pw_pI ?_
    refine pw_iconst (v := nI 4) 15 rfl rfl (by decide) ?_
    unfold lef at kk
    simp only at kk
    refine pw_icmp_ne 28 18 rfl rfl rfl (fun h => ?_) (fun h => ?_)
    · rw [if_neg (fun q => h (by rw [q]))] at kk
      refine pw_iload_n 29 rfl rfl rfl ?_
      exact pw_iret rfl rfl (kk)
    · rw [if_pos ((nI_eq (by omega) (by omega)).mp (Decidable.not_not.mp h))] at kk
      refine pw_iload_n 19 rfl rfl rfl ?_
      refine pw_iconst (v := nI 1) 20 rfl rfl (by decide) ?_
      refine pw_iload_n 21 rfl rfl rfl ?_
      refine pw_ishl 22 rfl rfl ?_
      refine pw_iconst (v := (-1)) 23 rfl rfl (by decide) ?_
      refine pw_ixor 24 rfl rfl ?_
      refine pw_iand 25 rfl rfl ?_
      rw [clr_v s hs r hr]
      refine pw_goto rfl 29 rfl ?_
      exact pw_iret rfl rfl (kk)
theorem c_lengthGone {o : Option Nat} (hw : isWalk sh k kb) (hb : isBook sh kb) (hx : bookIs M kb rs) (ho : ∀ r, o = some r → r < rs.length) (kk : Q (some (.int (nI (adv rs o)))) sh M N) : PW mX9_lengthGone 0 [.ref k, .int (rI o)] [] sh M N Q := by
  have hb0 := hb
  obtain ⟨w0, w1, w2, w3, w4, w5, w6⟩ := hw
  obtain ⟨b1, b2, b3⟩ := hb
  have h10 := hx.2.1
  cases o with
  | none =>
    refine pw_iload_n 1 rfl rfl rfl ?_
    refine pw_bipush (v := (-4)) 3 rfl rfl (by decide) ?_
    refine pw_icmp_ne_f 6 rfl rfl (fun q => q rfl) ?_
    refine pw_iconst (v := nI 1) 7 rfl rfl (by decide) ?_
    refine pw_goto rfl 24 rfl ?_
    exact pw_iret rfl rfl (kk)
  | some r =>
    have hr := ho r rfl
    have o1 := (b3 r (by omega)).1
    have o2 := (b3 r (by omega)).2.1
    have o2' := o2.1
    unfold rI
    refine pw_iload_n 1 rfl rfl rfl ?_
    refine pw_bipush (v := (-4)) 3 rfl rfl (by decide) ?_
    refine pw_icmp_ne_t 10 rfl rfl (nI_m4 (by omega)) ?_
    refine pw_aload_n 11 rfl rfl rfl ?_
    refine pw_getR 14 rfl rfl (by first | assumption | exact ⟨by decide, rfl⟩) rfl ?_
    refine pw_iload_n 15 rfl rfl rfl ?_
    refine pw_cV1 18 rfl rfl (by first | assumption | exact ⟨by decide, rfl⟩) rfl (Nat.le_of_ble_eq_true rfl) rfl rfl (Nat.le_of_ble_eq_true rfl) (c_Book_get hb0 (i := r) (by omega) ?_)
    refine pw_pR ?_
    refine pw_getR 21 rfl rfl (by first | assumption | exact ⟨by decide, rfl⟩) rfl ?_
    refine pw_cV0 24 rfl rfl (by first | assumption | exact ⟨by decide, rfl⟩) rfl (Nat.le_of_ble_eq_true rfl) rfl rfl (Nat.le_of_ble_eq_true rfl) (c_Row_size o2 (bk_at hx hr).1.2.1 ?_)
    refine pw_pI ?_
    skip
    exact pw_iret rfl rfl (kk)
theorem give_loop {r : Nat} {sr : Int32} {A B : List Int32} (hw : isWalk sh k kb) (hb : isBook sh kb) (hx : bookIs M kb rs) (hd : kb + 57 ≤ k ∨ k + 16 ≤ kb) (hk : okK rs kd) (hkr : rowIs M (k + 3) (kd.map nI)) (hr : r < rs.length) (hA : A.length ≤ 354) (hB : B.length = A.length)
    (kk : ∀ M', fr (k + 12) (k + 16) M M' → lineIs M' (k + 11) (A ++ giv (kd.getD r 0) (pGf rs r)) (B ++ List.replicate (pGf rs r).length sr) → Q none sh M' N) :
    ∀ (d j : Nat) (M1 : pmM), j + d = (pGf rs r).length → fr (k + 12) (k + 16) M M1 → lineIs M1 (k + 11) (A ++ (giv (kd.getD r 0) (pGf rs r)).take j) (B ++ List.replicate j sr) → PW mX9_give 12 [.ref k, .int (nI r), .int sr, .ref (kb + 7 + 5 * r), .int (nI j)] [] sh M1 N Q := by
  have hb0 := hb
  obtain ⟨w0, w1, w2, w3, w4, w5, w6⟩ := hw
  obtain ⟨b1, b2, b3⟩ := hb
  have h10 := hx.2.1
  have w2' := w2.1
  have w6' := w6.1
  have o1 := (b3 r (by omega)).1
  have o3 := (b3 r (by omega)).2.2
  have o3' := o3.1
  have e := bk_at hx hr
  have hg6 : (pGf rs r).length ≤ 6 := e.2.2.2.2
  have hgl := giv_len (kd.getD r 0) (pGf rs r)
  have eg : (pGf rs r).length = (gR rs r).2.2.length := rfl
  intro d
  induction d with
  | zero =>
    intro j M1 hj hf hl
    have e1 := e.1.mv hf (by omega)
    refine pw_iload 14 rfl rfl rfl ?_
    refine pw_aload_n 15 rfl rfl rfl ?_
    refine pw_getR 18 rfl rfl (by first | assumption | exact ⟨by decide, rfl⟩) rfl ?_
    refine pw_cV0 21 rfl rfl (by first | assumption | exact ⟨by decide, rfl⟩) rfl (Nat.le_of_ble_eq_true rfl) rfl rfl (Nat.le_of_ble_eq_true rfl) (c_Row_size o3 e1.2.2 ?_)
    refine pw_pI ?_
    skip
    refine pw_icmp_ge_t 52 rfl rfl (nI_le (by omega) (by omega)) ?_
    skip
    rw [List.take_of_length_le (by omega), show j = (pGf rs r).length by omega] at hl
    exact pw_vret rfl (kk M1 hf hl)
  | succ d ih =>
    intro j M1 hj hf hl
    have e1 := e.1.mv hf (by omega)
    refine pw_iload 14 rfl rfl rfl ?_
    refine pw_aload_n 15 rfl rfl rfl ?_
    refine pw_getR 18 rfl rfl (by first | assumption | exact ⟨by decide, rfl⟩) rfl ?_
    refine pw_cV0 21 rfl rfl (by first | assumption | exact ⟨by decide, rfl⟩) rfl (Nat.le_of_ble_eq_true rfl) rfl rfl (Nat.le_of_ble_eq_true rfl) (c_Row_size o3 e1.2.2 ?_)
    refine pw_pI ?_
    skip
    refine pw_icmp_ge_f 24 rfl rfl (nI_ge (by omega) (by omega)) ?_
    refine pw_aload_n 25 rfl rfl rfl ?_
    refine pw_getR 28 rfl rfl (by first | assumption | exact ⟨by decide, rfl⟩) rfl ?_
    refine pw_aload_n 29 rfl rfl rfl ?_
    refine pw_iload 31 rfl rfl rfl ?_
    refine pw_aload_n 32 rfl rfl rfl ?_
    refine pw_getR 35 rfl rfl (by first | assumption | exact ⟨by decide, rfl⟩) rfl ?_
    refine pw_iload_n 36 rfl rfl rfl ?_
    refine pw_cV1 39 rfl rfl (by first | assumption | exact ⟨by decide, rfl⟩) rfl (Nat.le_of_ble_eq_true rfl) rfl rfl (Nat.le_of_ble_eq_true rfl) (c_Row_get w2 (hkr.mv hf (by omega)) (by rw [List.length_map, hk.1]; exact h10) _ ?_)
    rw [gI_n (by omega), getD_mapN]
    refine pw_pI ?_
    skip
    refine pw_cV2 42 rfl rfl (by first | assumption | exact ⟨by decide, rfl⟩) rfl (Nat.le_of_ble_eq_true rfl) rfl rfl (Nat.le_of_ble_eq_true rfl) (c_Rule_given (b3 r (by omega)) e1 hg6 (j := j) (by omega) (hk.2 r) ?_)
    refine pw_pI ?_
    refine pw_iload_n 43 rfl rfl rfl ?_
    refine pw_cV2 46 rfl rfl (by first | assumption | exact ⟨by decide, rfl⟩) rfl (Nat.le_of_ble_eq_true rfl) rfl rfl (Nat.le_of_ble_eq_true rfl) (c_Line_add w6 hl (by rw [List.length_append, List.length_take]; omega) (by rw [List.length_append, List.length_replicate]; omega) _ _ (fun M2 f2 l2 => ?_))
    refine pw_pV ?_
    first | refine pw_iincN4 49 rfl rfl rfl (by with_reducible rfl) ?_ | refine pw_iinc4 (w := _) 49 rfl rfl rfl rfl ?_
    refine pw_goto rfl 12 rfl ?_
    refine ih (j + 1) M2 (by omega) (hf.tr (f2.wk (by omega) (by omega))) ?_
    rw [List.append_assoc, List.append_assoc] at l2
    have e2 : (giv (kd.getD r 0) (pGf rs r)).take (j + 1) = (giv (kd.getD r 0) (pGf rs r)).take j ++ [(giv (kd.getD r 0) (gR rs r).2.2).getD j 0] := take_getD (by omega)
    rw [e2, List.replicate_succ']; exact l2
theorem c_give {r : Nat} {sr : Int32} {A B : List Int32} (hw : isWalk sh k kb) (hb : isBook sh kb) (hx : bookIs M kb rs) (hd : kb + 57 ≤ k ∨ k + 16 ≤ kb) (hk : okK rs kd) (hkr : rowIs M (k + 3) (kd.map nI)) (hr : r < rs.length) (hA : A.length ≤ 354) (hB : B.length = A.length) (hl : lineIs M (k + 11) A B)
    (kk : ∀ M', fr (k + 12) (k + 16) M M' → lineIs M' (k + 11) (A ++ giv (kd.getD r 0) (pGf rs r)) (B ++ List.replicate (pGf rs r).length sr) → Q none sh M' N) : PW mX9_give 0 [.ref k, .int (nI r), .int sr, .null, .null] [] sh M N Q := by
  have h10 := hx.2.1
  have w0 := hw.1
  have b1 := hb.1
  refine pw_aload_n 1 rfl rfl rfl ?_
  refine pw_getR 4 rfl rfl (by first | assumption | exact ⟨by decide, rfl⟩) rfl ?_
  refine pw_iload_n 5 rfl rfl rfl ?_
  refine pw_cV1 8 rfl rfl (by first | assumption | exact ⟨by decide, rfl⟩) rfl (Nat.le_of_ble_eq_true rfl) rfl rfl (Nat.le_of_ble_eq_true rfl) (c_Book_get hb (i := r) (by omega) ?_)
  refine pw_pR ?_
  refine pw_astore3 9 rfl rfl rfl ?_
  refine pw_iconst (v := nI 0) 10 rfl rfl (by decide) ?_
  refine pw_istore4 12 rfl rfl rfl ?_
  exact give_loop hw hb hx hd hk hkr hr hA hB kk (pGf rs r).length 0 M (by omega) fr.rf (by simpa using hl)
/-- what a pass leaves in the walk -/
def gone (M : pmM) (k : Nat) (rs : List aR) (kd : List Nat) (ls ss : List Int32) (s : Nat) : Prop := lineIs M (k + 11) (outL rs kd ls (tr rs kd ls 0 s)) (outS rs ss (tr rs kd ls 0 s)) ∧ rowIs M (k + 7) (uAt (tr rs kd ls 0 s) (List.replicate ls.length (-4))) ∧ rowIs M (k + 9) (uCt (tr rs kd ls 0 s) (List.replicate rs.length 0))
theorem usd_lt {rs : List aR} {kd : List Nat} {ls : List Int32} {s p : Nat} : ∀ r, usd rs kd ls s p = some r → r < rs.length := fun _ h => (usd_some h).1
theorem go_loop {s0 : Nat} {x2 : Int32} (hw : isWalk sh k kb) (hb : isBook sh kb) (hx : bookIs M kb rs) (hd : kb + 57 ≤ k ∨ k + 16 ≤ kb) (hk : okK rs kd) (hwk : wkIs M k rs kd ls) (hl : isLine sh kl nl) (hy : lineIs M kl ls ss) (hss : ss.length = ls.length) (hn : ls.length ≤ nl) (hd2 : kl + 5 ≤ k ∨ k + 16 ≤ kl) (h60 : ls.length ≤ 60)
    (kk : ∀ M', fr (k + 7) (k + 16) M M' → gone M' k rs kd ls ss s0 → Q none sh M' N) :
    ∀ (d i p s : Nat) (A B U V : List Int32) (M1 : pmM) (v : Value), pmIsL v = false → ls.length - p ≤ d → p ≤ 66 → i ≤ p → s < 1024 → A.length ≤ 6 * i → B.length = A.length → U.length = ls.length → V.length = rs.length → fr (k + 7) (k + 16) M M1 → lineIs M1 (k + 11) A B → rowIs M1 (k + 7) U → rowIs M1 (k + 9) V →
      A ++ outL rs kd ls (tr rs kd ls p s) = outL rs kd ls (tr rs kd ls 0 s0) → B ++ outS rs ss (tr rs kd ls p s) = outS rs ss (tr rs kd ls 0 s0) → uAt (tr rs kd ls p s) U = uAt (tr rs kd ls 0 s0) (List.replicate ls.length (-4)) → uCt (tr rs kd ls p s) V = uCt (tr rs kd ls 0 s0) (List.replicate rs.length 0) →
      PW mX9_go 43 [.ref k, .ref kl, .int x2, .int (nI s), .int (nI p), .int (nI i), v] [] sh M1 N Q := by
  have hw0 := hw
  have hl0 := hl
  obtain ⟨w0, w1, w2, w3, w4, w5, w6⟩ := hw
  obtain ⟨l0, l1, l2⟩ := hl
  have h10 := hx.2.1
  have w4' := w4.1
  have w5' := w5.1
  have w6' := w6.1
  have l1' := l1.1
  have l2' := l2.1
  have hnl : nl ≤ 1000 := l1.2.2.2
  have hgf : ∀ r, (pGf rs r).length ≤ 6 := by
    intro r
    by_cases q : r < rs.length
    · exact (bk_at hx q).2.2.2.2
    · unfold pGf gR; rw [List.getD_eq_getElem?_getD, List.getElem?_eq_none (by omega)]; exact Nat.zero_le _
  have stop : ∀ (i p s : Nat) (A B U V : List Int32) (M1 : pmM) (v : Value), pmIsL v = false → ls.length ≤ p → p ≤ 66 → i ≤ p → fr (k + 7) (k + 16) M M1 → lineIs M1 (k + 11) A B → rowIs M1 (k + 7) U → rowIs M1 (k + 9) V →
      A ++ outL rs kd ls (tr rs kd ls p s) = outL rs kd ls (tr rs kd ls 0 s0) → B ++ outS rs ss (tr rs kd ls p s) = outS rs ss (tr rs kd ls 0 s0) → uAt (tr rs kd ls p s) U = uAt (tr rs kd ls 0 s0) (List.replicate ls.length (-4)) → uCt (tr rs kd ls p s) V = uCt (tr rs kd ls 0 s0) (List.replicate rs.length 0) →
      PW mX9_go 43 [.ref k, .ref kl, .int x2, .int (nI s), .int (nI p), .int (nI i), v] [] sh M1 N Q := by
    intro i p s A B U V M1 v hv hdp hp66 hip hf hm hu hc eA eB eU eV
    have hy1 := hy.mv hf (by omega)
    rw [tr_end (by omega)] at eA eB eU eV
    have fin : Q none sh M1 N := by
      refine kk M1 hf ⟨?_, ?_, ?_⟩
      · rw [← eA, ← eB]; simpa [outL, outS] using hm
      · rw [← eU]; exact hu
      · rw [← eV]; exact hc
    by_cases q : ls.length ≤ i
    · refine pw_iload 45 rfl rfl rfl ?_
      refine pw_aload_n 46 rfl rfl rfl ?_
      refine pw_cV0 49 rfl rfl (by first | assumption | exact ⟨by decide, rfl⟩) rfl (Nat.le_of_ble_eq_true rfl) rfl rfl (Nat.le_of_ble_eq_true rfl) (c_Line_size hl0 hy1 ?_)
      refine pw_pI ?_
      skip
      refine pw_icmp_ge_t 166 rfl rfl (nI_le (by omega) (by omega)) ?_
      skip
      exact pw_vret rfl (fin)
    · refine pw_iload 45 rfl rfl rfl ?_
      refine pw_aload_n 46 rfl rfl rfl ?_
      refine pw_cV0 49 rfl rfl (by first | assumption | exact ⟨by decide, rfl⟩) rfl (Nat.le_of_ble_eq_true rfl) rfl rfl (Nat.le_of_ble_eq_true rfl) (c_Line_size hl0 hy1 ?_)
      refine pw_pI ?_
      skip
      refine pw_icmp_ge_f 52 rfl rfl (nI_ge (by omega) (by omega)) ?_
      refine pw_iload 54 rfl rfl rfl ?_
      refine pw_aload_n 55 rfl rfl rfl ?_
      refine pw_cV0 58 rfl rfl (by first | assumption | exact ⟨by decide, rfl⟩) rfl (Nat.le_of_ble_eq_true rfl) rfl rfl (Nat.le_of_ble_eq_true rfl) (c_Line_size hl0 hy1 ?_)
      refine pw_pI ?_
      skip
      refine pw_icmp_ge_t 166 rfl rfl (nI_le (by omega) (by omega)) ?_
      skip
      exact pw_vret rfl (fin)
  intro d
  induction d with
  | zero =>
    intro i p s A B U V M1 v hv hdp hp66 hip hs hA hB hU hV hf hm hu hc eA eB eU eV
    exact stop i p s A B U V M1 v hv (by omega) hp66 hip hf hm hu hc eA eB eU eV
  | succ d ih =>
    intro i p s A B U V M1 v hv hdp hp66 hip hs hA hB hU hV hf hm hu hc eA eB eU eV
    by_cases hp : p < ls.length
    · have hy1 := hy.mv hf (by omega)
      have hx1 := hx.mv hf (by omega)
      have hwk1 := hwk.mv hf (by omega)
      rw [tr_go hp] at eA eB eU eV
      have hlt := usd_lt (rs := rs) (kd := kd) (ls := ls) (s := s) (p := p)
      have hadv := adv_pos (rs := rs) (kd := kd) (ls := ls) (s := s) (p := p)
      have hadv6 : adv rs (usd rs kd ls s p) ≤ 6 := by
        cases hq : usd rs kd ls s p with
        | none => exact (by decide : (1 : Nat) ≤ 6)
        | some r => exact (usd_some hq).2.2.1
      have tail : ∀ (A2 B2 U2 V2 : List Int32) (M2 : pmM), A2.length ≤ 6 * (i + 1) → B2.length = A2.length → U2.length = ls.length → V2.length = rs.length → fr (k + 7) (k + 16) M M2 → lineIs M2 (k + 11) A2 B2 → rowIs M2 (k + 7) U2 → rowIs M2 (k + 9) V2 →
          A2 = A ++ oL rs kd ls (p, usd rs kd ls s p) → B2 = B ++ oS rs ss (p, usd rs kd ls s p) → U2 = uAt [(p, usd rs kd ls s p)] U → V2 = uCt [(p, usd rs kd ls s p)] V →
          PW mX9_go 141 [.ref k, .ref kl, .int x2, .int (nI s), .int (nI p), .int (nI i), .int (rI (usd rs kd ls s p))] [] sh M2 N Q := by
        intro A2 B2 U2 V2 M2 hA2 hB2 hU2 hV2 hf2 hm2 hu2 hc2 dA dB dU dV
        refine pw_aload_n 142 rfl rfl rfl ?_
        refine pw_iload_n 143 rfl rfl rfl ?_
        refine pw_iload 145 rfl rfl rfl ?_
        refine pw_cV2 148 rfl rfl (by first | assumption | exact ⟨by decide, rfl⟩) rfl (Nat.le_of_ble_eq_true rfl) rfl rfl (Nat.le_of_ble_eq_true rfl) (c_leftOf hw0 (hwk.2.1.mv hf2 (by omega)) (by rw [hk.1]; exact h10) hk.2 hs (fun r hr => by have := hlt r hr; omega) ?_)
        refine pw_pI ?_
        refine pw_istore3 149 rfl rfl rfl ?_
        refine pw_iload 151 rfl rfl rfl ?_
        refine pw_aload_n 152 rfl rfl rfl ?_
        refine pw_iload 154 rfl rfl rfl ?_
        refine pw_cV1 157 rfl rfl (by first | assumption | exact ⟨by decide, rfl⟩) rfl (Nat.le_of_ble_eq_true rfl) rfl rfl (Nat.le_of_ble_eq_true rfl) (c_lengthGone hw0 hb (hx.mv hf2 (by omega)) hlt ?_)
        refine pw_pI ?_
        first | refine pw_iaddN 158 rfl rfl (by with_reducible rfl) (by with_reducible rfl) ?_ | refine pw_iadd 158 rfl rfl ?_
        refine pw_istore4 160 rfl rfl rfl ?_
        first | refine pw_iincN5 163 rfl rfl rfl (by with_reducible rfl) ?_ | refine pw_iinc5 (w := _) 163 rfl rfl rfl rfl ?_
        refine pw_goto rfl 43 rfl ?_
        refine ih (i + 1) (p + adv rs (usd rs kd ls s p)) (lef kd s (usd rs kd ls s p)) A2 B2 U2 V2 M2 _ rfl (by omega) (by omega) (by omega) (lef_lt hs _) hA2 hB2 hU2 hV2 hf2 hm2 hu2 hc2 ?_ ?_ ?_ ?_
        · rw [dA, ← eA, outL, outL, List.flatMap_cons, List.append_assoc]
        · rw [dB, ← eB, outS, outS, List.flatMap_cons, List.append_assoc]
        · rw [dU, ← eU]; cases usd rs kd ls s p <;> rfl
        · rw [dV, ← eV]; cases usd rs kd ls s p <;> rfl
      refine pw_iload 45 rfl rfl rfl ?_
      refine pw_aload_n 46 rfl rfl rfl ?_
      refine pw_cV0 49 rfl rfl (by first | assumption | exact ⟨by decide, rfl⟩) rfl (Nat.le_of_ble_eq_true rfl) rfl rfl (Nat.le_of_ble_eq_true rfl) (c_Line_size hl0 hy1 ?_)
      refine pw_pI ?_
      skip
      refine pw_icmp_ge_f 52 rfl rfl (nI_ge (by omega) (by omega)) ?_
      refine pw_iload 54 rfl rfl rfl ?_
      refine pw_aload_n 55 rfl rfl rfl ?_
      refine pw_cV0 58 rfl rfl (by first | assumption | exact ⟨by decide, rfl⟩) rfl (Nat.le_of_ble_eq_true rfl) rfl rfl (Nat.le_of_ble_eq_true rfl) (c_Line_size hl0 hy1 ?_)
      refine pw_pI ?_
      skip
      refine pw_icmp_ge_f 61 rfl rfl (nI_ge (by omega) (by omega)) ?_
      refine pw_aload_n 62 rfl rfl rfl ?_
      refine pw_iload 64 rfl rfl rfl ?_
      refine pw_iload_n 65 rfl rfl rfl ?_
      refine pw_cV2 68 rfl rfl (by first | assumption | exact ⟨by decide, rfl⟩) rfl (Nat.le_of_ble_eq_true rfl) rfl rfl (Nat.le_of_ble_eq_true rfl) (c_ruleUsed hw0 hwk1 h10 h60 hp ?_)
      refine pw_pI ?_
      refine pw_istore6 70 rfl rfl rfl ?_
      refine pw_iload 72 rfl rfl rfl ?_
      refine pw_bipush (v := (-4)) 74 rfl rfl (by decide) ?_
      cases hq : usd rs kd ls s p with
      | none =>
        rw [hq] at tail
        refine pw_icmp_ne_f 77 rfl rfl (fun q => q rfl) ?_
        refine pw_aload_n 78 rfl rfl rfl ?_
        refine pw_getR 81 rfl rfl (by first | assumption | exact ⟨by decide, rfl⟩) rfl ?_
        refine pw_aload_n 82 rfl rfl rfl ?_
        refine pw_getR 85 rfl rfl (by first | assumption | exact ⟨by decide, rfl⟩) rfl ?_
        refine pw_iload 87 rfl rfl rfl ?_
        refine pw_cV1 90 rfl rfl (by first | assumption | exact ⟨by decide, rfl⟩) rfl (Nat.le_of_ble_eq_true rfl) rfl rfl (Nat.le_of_ble_eq_true rfl) (c_Row_get l1 hy1.1 hn _ ?_)
        rw [gI_n (by omega)]
        refine pw_pI ?_
        refine pw_aload_n 91 rfl rfl rfl ?_
        refine pw_getR 94 rfl rfl (by first | assumption | exact ⟨by decide, rfl⟩) rfl ?_
        refine pw_iload 96 rfl rfl rfl ?_
        refine pw_cV1 99 rfl rfl (by first | assumption | exact ⟨by decide, rfl⟩) rfl (Nat.le_of_ble_eq_true rfl) rfl rfl (Nat.le_of_ble_eq_true rfl) (c_Row_get l2 hy1.2 (by rw [hss]; exact hn) _ ?_)
        rw [gI_n (by omega)]
        refine pw_pI ?_
        skip
        refine pw_cV2 102 rfl rfl (by first | assumption | exact ⟨by decide, rfl⟩) rfl (Nat.le_of_ble_eq_true rfl) rfl rfl (Nat.le_of_ble_eq_true rfl) (c_Line_add w6 hm (by omega) (by omega) _ _ (fun M2 f2 m2 => ?_))
        refine pw_pV ?_
        refine pw_goto rfl 141 rfl ?_
        refine tail _ _ U V M2 (by rw [List.length_append, List.length_singleton]; omega) (by rw [List.length_append, List.length_append, hB]; rfl) hU hV (hf.tr (f2.wk (by omega) (by omega))) m2 (hu.mv f2 (by omega)) (hc.mv f2 (by omega)) rfl rfl rfl rfl
      | some r =>
        rw [hq] at tail
        have hr := hlt r hq
        skip
        refine pw_icmp_ne_t 105 rfl rfl (nI_m4 (by omega)) ?_
        unfold rI
        refine pw_aload_n 106 rfl rfl rfl ?_
        refine pw_iload 108 rfl rfl rfl ?_
        refine pw_aload_n 109 rfl rfl rfl ?_
        refine pw_getR 112 rfl rfl (by first | assumption | exact ⟨by decide, rfl⟩) rfl ?_
        refine pw_iload 114 rfl rfl rfl ?_
        refine pw_cV1 117 rfl rfl (by first | assumption | exact ⟨by decide, rfl⟩) rfl (Nat.le_of_ble_eq_true rfl) rfl rfl (Nat.le_of_ble_eq_true rfl) (c_Row_get l2 hy1.2 (by rw [hss]; exact hn) _ ?_)
        rw [gI_n (by omega)]
        refine pw_pI ?_
        skip
        refine pw_cV2 120 rfl rfl (by first | assumption | exact ⟨by decide, rfl⟩) rfl (Nat.le_of_ble_eq_true rfl) rfl rfl (Nat.le_of_ble_eq_true rfl) (c_give hw0 hb hx1 hd hk hwk1.2.1 hr (by omega) hB hm (fun M2 f2 m2 => ?_))
        refine pw_pV ?_
        refine pw_aload_n 121 rfl rfl rfl ?_
        refine pw_getR 124 rfl rfl (by first | assumption | exact ⟨by decide, rfl⟩) rfl ?_
        refine pw_iload 126 rfl rfl rfl ?_
        refine pw_iload 128 rfl rfl rfl ?_
        refine pw_cV2 131 rfl rfl (by first | assumption | exact ⟨by decide, rfl⟩) rfl (Nat.le_of_ble_eq_true rfl) rfl rfl (Nat.le_of_ble_eq_true rfl) (c_Row_set w4 (hu.mv f2 (by omega)) (by omega) (j := p) (by omega) _ (fun M3 f3 m3 => ?_))
        refine pw_pV ?_
        refine pw_aload_n 132 rfl rfl rfl ?_
        refine pw_getR 135 rfl rfl (by first | assumption | exact ⟨by decide, rfl⟩) rfl ?_
        refine pw_iload 137 rfl rfl rfl ?_
        refine pw_iconst (v := nI 1) 138 rfl rfl (by decide) ?_
        refine pw_cV2 141 rfl rfl (by first | assumption | exact ⟨by decide, rfl⟩) rfl (Nat.le_of_ble_eq_true rfl) rfl rfl (Nat.le_of_ble_eq_true rfl) (c_Row_addTo w5 ((hc.mv f2 (by omega)).mv f3 (by omega)) (by omega) (j := r) (by omega) _ (fun M4 f4 m4 => ?_))
        refine pw_pV ?_
        have f24 := ((f2.wk (c := k + 7) (d := k + 16) (by omega) (by omega)).tr (f3.wk (by omega) (by omega))).tr (f4.wk (by omega) (by omega))
        have g6 := hgf r
        refine tail _ _ _ _ M4 ?_ ?_ (by rw [List.length_set]; exact hU) (by rw [List.length_set]; exact hV) (hf.tr f24) ((m2.mv f3 (by omega)).mv f4 (by omega)) (m3.mv f4 (by omega)) m4 rfl rfl rfl rfl
        · rw [List.length_append, giv_len]; omega
        · rw [List.length_append, List.length_append, giv_len, List.length_replicate, hB]
    · exact stop i p s A B U V M1 v hv (by omega) hp66 hip hf hm hu hc eA eB eU eV
theorem c_go {s : Nat} (hw : isWalk sh k kb) (hb : isBook sh kb) (hx : bookIs M kb rs) (hd : kb + 57 ≤ k ∨ k + 16 ≤ kb) (hk : okK rs kd) (hwk : wkIs M k rs kd ls) (hl : isLine sh kl nl) (hy : lineIs M kl ls ss) (hss : ss.length = ls.length) (hn : ls.length ≤ nl) (hd2 : kl + 5 ≤ k ∨ k + 16 ≤ kl) (h60 : ls.length ≤ 60) (hs : s < 1024)
    (kk : ∀ M', fr (k + 7) (k + 16) M M' → gone M' k rs kd ls ss s → Q none sh M' N) : PW mX9_go 0 [.ref k, .ref kl, .int (nI s), .null, .null, .null, .null] [] sh M N Q := by
  have w0 := hw.1
  have w4 := hw.2.2.2.2.1
  have w5 := hw.2.2.2.2.2.1
  have w6 := hw.2.2.2.2.2.2
  have w4' := w4.1
  have w5' := w5.1
  have w6' := w6.1
  have l0 := hl.1
  have h10 := hx.2.1
  have b1 := hb.1
  refine pw_aload_n 1 rfl rfl rfl ?_
  refine pw_getR 4 rfl rfl (by first | assumption | exact ⟨by decide, rfl⟩) rfl ?_
  refine pw_cV0 7 rfl rfl (by first | assumption | exact ⟨by decide, rfl⟩) rfl (Nat.le_of_ble_eq_true rfl) rfl rfl (Nat.le_of_ble_eq_true rfl) (c_Line_clear w6 (fun M1 f1 m1 => ?_))
  refine pw_pV ?_
  refine pw_aload_n 8 rfl rfl rfl ?_
  refine pw_getR 11 rfl rfl (by first | assumption | exact ⟨by decide, rfl⟩) rfl ?_
  refine pw_aload_n 12 rfl rfl rfl ?_
  refine pw_cV0 15 rfl rfl (by first | assumption | exact ⟨by decide, rfl⟩) rfl (Nat.le_of_ble_eq_true rfl) rfl rfl (Nat.le_of_ble_eq_true rfl) (c_Line_size hl (hy.mv f1 (by omega)) ?_)
  refine pw_pI ?_
  refine pw_bipush (v := (-4)) 17 rfl rfl (by decide) ?_
  refine pw_cV2 20 rfl rfl (by first | assumption | exact ⟨by decide, rfl⟩) rfl (Nat.le_of_ble_eq_true rfl) rfl rfl (Nat.le_of_ble_eq_true rfl) (c_Row_fill w4 h60 (fun M2 f2 m2 => ?_))
  refine pw_pV ?_
  have f12 := (f1.wk (c := k + 7) (d := k + 16) (by omega) (by omega)).tr (f2.wk (by omega) (by omega))
  refine pw_aload_n 21 rfl rfl rfl ?_
  refine pw_getR 24 rfl rfl (by first | assumption | exact ⟨by decide, rfl⟩) rfl ?_
  refine pw_aload_n 25 rfl rfl rfl ?_
  refine pw_getR 28 rfl rfl (by first | assumption | exact ⟨by decide, rfl⟩) rfl ?_
  refine pw_cV0 31 rfl rfl (by first | assumption | exact ⟨by decide, rfl⟩) rfl (Nat.le_of_ble_eq_true rfl) rfl rfl (Nat.le_of_ble_eq_true rfl) (c_Book_size hb (hx.mv f12 (by omega)) ?_)
  refine pw_pI ?_
  refine pw_iconst (v := nI 0) 32 rfl rfl (by decide) ?_
  refine pw_cV2 35 rfl rfl (by first | assumption | exact ⟨by decide, rfl⟩) rfl (Nat.le_of_ble_eq_true rfl) rfl rfl (Nat.le_of_ble_eq_true rfl) (c_Row_fill w5 h10 (fun M3 f3 m3 => ?_))
  refine pw_pV ?_
  have f13 := f12.tr (f3.wk (by omega) (by omega))
  refine pw_iload_n 36 rfl rfl rfl ?_
  refine pw_istore3 37 rfl rfl rfl ?_
  refine pw_iconst (v := nI 0) 38 rfl rfl (by decide) ?_
  refine pw_istore4 40 rfl rfl rfl ?_
  refine pw_iconst (v := nI 0) 41 rfl rfl (by decide) ?_
  refine pw_istore5 43 rfl rfl rfl ?_
  exact go_loop hw hb hx hd hk hwk hl hy hss hn hd2 h60 kk ls.length 0 0 s [] [] _ _ M3 _ rfl (by omega) (by omega) (by omega) hs (by simp) rfl (List.length_replicate ..) (List.length_replicate ..) f13 ((m1.mv f2 (by omega)).mv f3 (by omega)) (m2.mv f3 (by omega)) m3 rfl rfl rfl rfl
end GOO
end
section
/-! HOW LONG A LINE IS MADE, AND HOW MUCH OF AN OPEN LINE IS SURE -/
def stO (kd : Nat) (ph ls : List Int32) (p kn : Nat) : Nat :=
  if kd ≠ 0 ∧ ahd ls p = true then 0 else if mtB ph ls p (min (p + ph.length) kn - p) = true then
    (if kn < p + ph.length then 2 else if kd = 1 ∨ kd = 3 then (if p + ph.length = kn then 2 else if wl (ls.getD (p + ph.length) 0) then 0 else 1) else 1) else 0
theorem stA_O {kd p kn d : Nat} {ph ls : List Int32} (h : stA kd ph ls p kn true d) : d = stO kd ph ls p kn := by
  unfold stO
  rcases h with ⟨rfl, h1, h2⟩ | ⟨h0, ⟨rfl, h1⟩ | ⟨h1, ⟨h2, h3⟩ | ⟨h2, ⟨h3, rfl⟩ | ⟨h3, ⟨h4, h5⟩ | ⟨h4, rfl⟩⟩⟩⟩⟩
  · rw [if_pos ⟨h1, h2⟩]
  · rw [if_neg h0, if_neg (fun q => h1 (mtB_iff.mp q))]
  · rw [if_neg h0, if_pos (mtB_iff.mpr h1), if_pos h2, h3]; rfl
  · rw [if_neg h0, if_pos (mtB_iff.mpr h1), if_neg (by omega), if_neg h3]
  · rw [if_neg h0, if_pos (mtB_iff.mpr h1), if_neg (by omega), if_pos h3, if_pos h4, h5]; rfl
  · rw [if_neg h0, if_pos (mtB_iff.mpr h1), if_neg (show ¬ kn < p + ph.length by omega), if_pos h3, if_neg (show ¬ p + ph.length = kn by omega)]
theorem stO_le (kd : Nat) (ph ls : List Int32) (p kn : Nat) : stO kd ph ls p kn ≤ 2 := by
  unfold stO; repeat' split
  all_goals decide
theorem stO_one {kd p kn : Nat} {ph ls : List Int32} (h0 : stO kd ph ls p kn ≠ 0) (h2 : stO kd ph ls p kn ≠ 2) : p + ph.length ≤ kn := by
  unfold stO at h0 h2
  by_cases a : kd ≠ 0 ∧ ahd ls p = true
  · rw [if_pos a] at h0; exact absurd rfl h0
  rw [if_neg a] at h0 h2
  by_cases b : mtB ph ls p (min (p + ph.length) kn - p) = true
  · rw [if_pos b] at h2
    by_cases c : kn < p + ph.length
    · rw [if_pos c] at h2; exact absurd rfl h2
    · omega
  · rw [if_neg b] at h0; exact absurd rfl h0
def opB (rs : List aR) (kd : List Nat) (ls : List Int32) (kn s p r : Nat) : Bool := s.testBit r && decide (stO (kd.getD r 0) (pPh rs r) ls p kn ≠ 0)
def fsp (rs : List aR) (kd : List Nat) (ls : List Int32) (kn s p : Nat) : Option Nat := (ord rs).find? (opB rs kd ls kn s p)
def stp (rs : List aR) (kd : List Nat) (ls : List Int32) (kn p : Nat) : Option Nat → Bool
  | none => false
  | some r => decide (stO (kd.getD r 0) (pPh rs r) ls p kn = 2)
def surF (rs : List aR) (kd : List Nat) (ls : List Int32) (kn : Nat) : Nat → Nat → Nat → Nat
  | 0, p, _ => p
  | f + 1, p, s => if p < kn then (if stp rs kd ls kn p (fsp rs kd ls kn s p) = true then p else surF rs kd ls kn f (p + adv rs (fsp rs kd ls kn s p)) (lef kd s (fsp rs kd ls kn s p))) else p
theorem fsp_some {rs : List aR} {kd : List Nat} {ls : List Int32} {kn s p r : Nat} (h : fsp rs kd ls kn s p = some r) : r < rs.length ∧ 1 ≤ (pPh rs r).length ∧ (pPh rs r).length ≤ 6 ∧ opB rs kd ls kn s p r = true := by
  have h1 := List.mem_of_find?_eq_some h
  have h2 := List.find?_some h
  have h3 := mem_ord.mp h1
  exact ⟨h3.1, h3.2.1, h3.2.2, h2⟩
theorem fsp_adv {rs : List aR} {kd : List Nat} {ls : List Int32} {kn s p : Nat} (hp : p < kn) (h : stp rs kd ls kn p (fsp rs kd ls kn s p) ≠ true) : 1 ≤ adv rs (fsp rs kd ls kn s p) ∧ p + adv rs (fsp rs kd ls kn s p) ≤ kn := by
  cases hq : fsp rs kd ls kn s p with
  | none => exact ⟨Nat.le_refl 1, hp⟩
  | some r =>
    rw [hq] at h
    have := fsp_some hq
    refine ⟨this.2.1, stO_one (kd := kd.getD r 0) (ls := ls) ?_ ?_⟩
    · have h4 := this.2.2.2
      unfold opB at h4
      rw [Bool.and_eq_true, decide_eq_true_eq] at h4
      exact h4.2
    · unfold stp at h; simpa using h
section OPN
variable {sh : pmS} {M : pmM} {N : pmN} {Q : pmPost} {k kb kl nl : Nat} {rs : List aR} {kd : List Nat} {ls ss : List Int32}
theorem lengthBy_loop {s0 : Nat} {x2 : Int32} (hw : isWalk sh k kb) (hb : isBook sh kb) (hx : bookIs M kb rs) (hk : okK rs kd) (hwk : wkIs M k rs kd ls) (hl : isLine sh kl nl) (hy : lineIs M kl ls ss) (h60 : ls.length ≤ 60)
    (kk : Q (some (.int (nI (outL rs kd ls (tr rs kd ls 0 s0)).length))) sh M N) :
    ∀ (d i p s a : Nat) (v : Value), pmIsL v = false → ls.length - p ≤ d → p ≤ 66 → i ≤ p → s < 1024 → a + (outL rs kd ls (tr rs kd ls p s)).length = (outL rs kd ls (tr rs kd ls 0 s0)).length →
      PW mX9_lengthBy 11 [.ref k, .ref kl, .int x2, .int (nI a), .int (nI s), .int (nI p), .int (nI i), v] [] sh M N Q := by
  have hb0 := hb
  have w0 := hw.1
  have l0 := hl.1
  obtain ⟨b1, b2, b3⟩ := hb
  have h10 := hx.2.1
  have stop : ∀ (i p s a : Nat) (v : Value), pmIsL v = false → ls.length ≤ p → p ≤ 66 → i ≤ p → a + (outL rs kd ls (tr rs kd ls p s)).length = (outL rs kd ls (tr rs kd ls 0 s0)).length →
      PW mX9_lengthBy 11 [.ref k, .ref kl, .int x2, .int (nI a), .int (nI s), .int (nI p), .int (nI i), v] [] sh M N Q := by
    intro i p s a v hv hdp hp66 hip ea
    rw [tr_end (by omega), outL, List.flatMap_nil, List.length_nil, Nat.add_zero] at ea
    rw [ea]
    by_cases q : ls.length ≤ i
    · refine pw_iload 13 rfl rfl rfl ?_
      refine pw_aload_n 14 rfl rfl rfl ?_
      refine pw_cV0 17 rfl rfl (by first | assumption | exact ⟨by decide, rfl⟩) rfl (Nat.le_of_ble_eq_true rfl) rfl rfl (Nat.le_of_ble_eq_true rfl) (c_Line_size hl hy ?_)
      refine pw_pI ?_
      skip
      refine pw_icmp_ge_t 95 rfl rfl (nI_le (by omega) (by omega)) ?_
      refine pw_iload_n 96 rfl rfl rfl ?_
      exact pw_iret rfl rfl (kk)
    · refine pw_iload 13 rfl rfl rfl ?_
      refine pw_aload_n 14 rfl rfl rfl ?_
      refine pw_cV0 17 rfl rfl (by first | assumption | exact ⟨by decide, rfl⟩) rfl (Nat.le_of_ble_eq_true rfl) rfl rfl (Nat.le_of_ble_eq_true rfl) (c_Line_size hl hy ?_)
      refine pw_pI ?_
      skip
      refine pw_icmp_ge_f 20 rfl rfl (nI_ge (by omega) (by omega)) ?_
      refine pw_iload 22 rfl rfl rfl ?_
      refine pw_aload_n 23 rfl rfl rfl ?_
      refine pw_cV0 26 rfl rfl (by first | assumption | exact ⟨by decide, rfl⟩) rfl (Nat.le_of_ble_eq_true rfl) rfl rfl (Nat.le_of_ble_eq_true rfl) (c_Line_size hl hy ?_)
      refine pw_pI ?_
      skip
      refine pw_icmp_ge_t 95 rfl rfl (nI_le (by omega) (by omega)) ?_
      refine pw_iload_n 96 rfl rfl rfl ?_
      exact pw_iret rfl rfl (kk)
  intro d
  induction d with
  | zero =>
    intro i p s a v hv hdp hp66 hip hs ea
    exact stop i p s a v hv (by omega) hp66 hip ea
  | succ d ih =>
    intro i p s a v hv hdp hp66 hip hs ea
    by_cases hp : p < ls.length
    · rw [tr_go hp] at ea
      have hlt := usd_lt (rs := rs) (kd := kd) (ls := ls) (s := s) (p := p)
      have hadv := adv_pos (rs := rs) (kd := kd) (ls := ls) (s := s) (p := p)
      have hadv6 : adv rs (usd rs kd ls s p) ≤ 6 := by
        cases hq : usd rs kd ls s p with
        | none => exact (by decide : (1 : Nat) ≤ 6)
        | some r => exact (usd_some hq).2.2.1
      have tail : ∀ a2, a2 = a + (oL rs kd ls (p, usd rs kd ls s p)).length → PW mX9_lengthBy 67 [.ref k, .ref kl, .int x2, .int (nI a), .int (nI s), .int (nI p), .int (nI i), .int (rI (usd rs kd ls s p))] [.int (nI a2)] sh M N Q := by
        intro a2 da
        refine pw_istore3 68 rfl rfl rfl ?_
        refine pw_aload_n 69 rfl rfl rfl ?_
        refine pw_iload 71 rfl rfl rfl ?_
        refine pw_iload 73 rfl rfl rfl ?_
        refine pw_cV2 76 rfl rfl (by first | assumption | exact ⟨by decide, rfl⟩) rfl (Nat.le_of_ble_eq_true rfl) rfl rfl (Nat.le_of_ble_eq_true rfl) (c_leftOf hw hwk.2.1 (by rw [hk.1]; exact h10) hk.2 hs (fun r hr => by have := hlt r hr; omega) ?_)
        refine pw_pI ?_
        refine pw_istore4 78 rfl rfl rfl ?_
        refine pw_iload 80 rfl rfl rfl ?_
        refine pw_aload_n 81 rfl rfl rfl ?_
        refine pw_iload 83 rfl rfl rfl ?_
        refine pw_cV1 86 rfl rfl (by first | assumption | exact ⟨by decide, rfl⟩) rfl (Nat.le_of_ble_eq_true rfl) rfl rfl (Nat.le_of_ble_eq_true rfl) (c_lengthGone hw hb0 hx hlt ?_)
        refine pw_pI ?_
        first | refine pw_iaddN 87 rfl rfl (by with_reducible rfl) (by with_reducible rfl) ?_ | refine pw_iadd 87 rfl rfl ?_
        refine pw_istore5 89 rfl rfl rfl ?_
        first | refine pw_iincN6 92 rfl rfl rfl (by with_reducible rfl) ?_ | refine pw_iinc6 (w := _) 92 rfl rfl rfl rfl ?_
        refine pw_goto rfl 11 rfl ?_
        refine ih (i + 1) (p + adv rs (usd rs kd ls s p)) (lef kd s (usd rs kd ls s p)) a2 _ rfl (by omega) (by omega) (by omega) (lef_lt hs _) ?_
        rw [da, ← ea, outL, outL, List.flatMap_cons, List.length_append, Nat.add_assoc]
      refine pw_iload 13 rfl rfl rfl ?_
      refine pw_aload_n 14 rfl rfl rfl ?_
      refine pw_cV0 17 rfl rfl (by first | assumption | exact ⟨by decide, rfl⟩) rfl (Nat.le_of_ble_eq_true rfl) rfl rfl (Nat.le_of_ble_eq_true rfl) (c_Line_size hl hy ?_)
      refine pw_pI ?_
      skip
      refine pw_icmp_ge_f 20 rfl rfl (nI_ge (by omega) (by omega)) ?_
      refine pw_iload 22 rfl rfl rfl ?_
      refine pw_aload_n 23 rfl rfl rfl ?_
      refine pw_cV0 26 rfl rfl (by first | assumption | exact ⟨by decide, rfl⟩) rfl (Nat.le_of_ble_eq_true rfl) rfl rfl (Nat.le_of_ble_eq_true rfl) (c_Line_size hl hy ?_)
      refine pw_pI ?_
      skip
      refine pw_icmp_ge_f 29 rfl rfl (nI_ge (by omega) (by omega)) ?_
      refine pw_aload_n 30 rfl rfl rfl ?_
      refine pw_iload 32 rfl rfl rfl ?_
      refine pw_iload 34 rfl rfl rfl ?_
      refine pw_cV2 37 rfl rfl (by first | assumption | exact ⟨by decide, rfl⟩) rfl (Nat.le_of_ble_eq_true rfl) rfl rfl (Nat.le_of_ble_eq_true rfl) (c_ruleUsed hw hwk h10 h60 hp ?_)
      refine pw_pI ?_
      refine pw_istore7 39 rfl rfl rfl ?_
      refine pw_iload_n 40 rfl rfl rfl ?_
      refine pw_iload 42 rfl rfl rfl ?_
      refine pw_bipush (v := (-4)) 44 rfl rfl (by decide) ?_
      cases hq : usd rs kd ls s p with
      | none =>
        rw [hq] at tail
        skip
        refine pw_icmp_ne_f 47 rfl rfl (fun q => q rfl) ?_
        refine pw_iconst (v := nI 1) 48 rfl rfl (by decide) ?_
        refine pw_goto rfl 66 rfl ?_
        first | refine pw_iaddN 67 rfl rfl (by with_reducible rfl) (by with_reducible rfl) ?_ | refine pw_iadd 67 rfl rfl ?_
        exact tail (a + 1) rfl
      | some r =>
        rw [hq] at tail
        have hr := hlt r hq
        have o1 := (b3 r (by omega)).1
        have o3 := (b3 r (by omega)).2.2
        have o3' := o3.1
        skip
        refine pw_icmp_ne_t 51 rfl rfl (nI_m4 (by omega)) ?_
        unfold rI
        refine pw_aload_n 52 rfl rfl rfl ?_
        refine pw_getR 55 rfl rfl (by first | assumption | exact ⟨by decide, rfl⟩) rfl ?_
        refine pw_iload 57 rfl rfl rfl ?_
        refine pw_cV1 60 rfl rfl (by first | assumption | exact ⟨by decide, rfl⟩) rfl (Nat.le_of_ble_eq_true rfl) rfl rfl (Nat.le_of_ble_eq_true rfl) (c_Book_get hb0 (i := r) (by omega) ?_)
        refine pw_pR ?_
        refine pw_getR 63 rfl rfl (by first | assumption | exact ⟨by decide, rfl⟩) rfl ?_
        refine pw_cV0 66 rfl rfl (by first | assumption | exact ⟨by decide, rfl⟩) rfl (Nat.le_of_ble_eq_true rfl) rfl rfl (Nat.le_of_ble_eq_true rfl) (c_Row_size o3 (bk_at hx hr).1.2.2 ?_)
        refine pw_pI ?_
        first | refine pw_iaddN 67 rfl rfl (by with_reducible rfl) (by with_reducible rfl) ?_ | refine pw_iadd 67 rfl rfl ?_
        exact tail _ (by simp only [oL, giv_len])
    · exact stop i p s a v hv (by omega) hp66 hip ea
theorem c_lengthBy {s : Nat} (hw : isWalk sh k kb) (hb : isBook sh kb) (hx : bookIs M kb rs) (hk : okK rs kd) (hwk : wkIs M k rs kd ls) (hl : isLine sh kl nl) (hy : lineIs M kl ls ss) (h60 : ls.length ≤ 60) (hs : s < 1024)
    (kk : Q (some (.int (nI (outL rs kd ls (tr rs kd ls 0 s)).length))) sh M N) : PW mX9_lengthBy 0 [.ref k, .ref kl, .int (nI s), .null, .null, .null, .null, .null] [] sh M N Q := by
  refine pw_iconst (v := nI 0) 1 rfl rfl (by decide) ?_
  refine pw_istore3 2 rfl rfl rfl ?_
  refine pw_iload_n 3 rfl rfl rfl ?_
  refine pw_istore4 5 rfl rfl rfl ?_
  refine pw_iconst (v := nI 0) 6 rfl rfl (by decide) ?_
  refine pw_istore5 8 rfl rfl rfl ?_
  refine pw_iconst (v := nI 0) 9 rfl rfl (by decide) ?_
  refine pw_istore6 11 rfl rfl rfl ?_
  exact lengthBy_loop hw hb hx hk hwk hl hy h60 kk ls.length 0 0 s 0 _ rfl (by omega) (by omega) (by omega) hs (Nat.zero_add _)
theorem c_standsInOpen {p kn r : Nat} (hw : isWalk sh k kb) (hb : isBook sh kb) (hx : bookIs M kb rs) (hk : okK rs kd) (hkr : rowIs M (k + 3) (kd.map nI)) (hl : isLine sh kl nl) (hy : lineIs M kl ls ss) (hn : ls.length ≤ nl) (hp : p < kn) (hkn : kn ≤ ls.length) (hr : r < rs.length)
    (kk : Q (some (.int (nI (stO (kd.getD r 0) (pPh rs r) ls p kn)))) sh M N) : PW mX9_standsInOpen 0 [.ref k, .ref kl, .int (nI p), .int (nI kn), .int (nI r)] [] sh M N Q := by
  have w0 := hw.1
  have w2 := hw.2.2.1
  have w2' := w2.1
  have b1 := hb.1
  have h10 := hx.2.1
  have o1 := (hb.2.2 r (by omega)).1
  have e := bk_at hx hr
  refine pw_aload_n 1 rfl rfl rfl ?_
  refine pw_getR 4 rfl rfl (by first | assumption | exact ⟨by decide, rfl⟩) rfl ?_
  refine pw_iload 6 rfl rfl rfl ?_
  refine pw_cV1 9 rfl rfl (by first | assumption | exact ⟨by decide, rfl⟩) rfl (Nat.le_of_ble_eq_true rfl) rfl rfl (Nat.le_of_ble_eq_true rfl) (c_Book_get hb (i := r) (by omega) ?_)
  refine pw_pR ?_
  refine pw_aload_n 10 rfl rfl rfl ?_
  refine pw_iload_n 11 rfl rfl rfl ?_
  refine pw_aload_n 12 rfl rfl rfl ?_
  refine pw_getR 15 rfl rfl (by first | assumption | exact ⟨by decide, rfl⟩) rfl ?_
  refine pw_iload 17 rfl rfl rfl ?_
  refine pw_cV1 20 rfl rfl (by first | assumption | exact ⟨by decide, rfl⟩) rfl (Nat.le_of_ble_eq_true rfl) rfl rfl (Nat.le_of_ble_eq_true rfl) (c_Row_get w2 hkr (by rw [List.length_map, hk.1]; exact h10) _ ?_)
  rw [gI_n (by omega), getD_mapN]
  refine pw_pI ?_
  refine pw_iload_n 21 rfl rfl rfl ?_
  refine pw_iconst (v := nI 1) 22 rfl rfl (by decide) ?_
  refine pw_cV5 25 rfl rfl (by first | assumption | exact ⟨by decide, rfl⟩) rfl (Nat.le_of_ble_eq_true rfl) rfl rfl (Nat.le_of_ble_eq_true rfl) (c_Rule_stands (op := true) (hb.2.2 r (by omega)) e.1 e.2.2.2.1 hl hy hn (hk.2 r) hp hkn (fun d hs => ?_))
  refine pw_pI ?_
  rw [stA_O hs]
  skip
  exact pw_iret rfl rfl (kk)
theorem first_loop {p kn s : Nat} (hw : isWalk sh k kb) (hb : isBook sh kb) (hx : bookIs M kb rs) (hk : okK rs kd) (hwk : wkIs M k rs kd ls) (hl : isLine sh kl nl) (hy : lineIs M kl ls ss) (hn : ls.length ≤ nl) (hp : p < kn) (hkn : kn ≤ ls.length) (hs : s < 1024)
    (kk : Q (some (.int (rI (fsp rs kd ls kn s p)))) sh M N) :
    ∀ (d i : Nat) (v : Value), pmIsL v = false → i + d = (ord rs).length → fsp rs kd ls kn s p = ((ord rs).drop i).find? (opB rs kd ls kn s p) → PW mX9_firstPossible 3 [.ref k, .ref kl, .int (nI p), .int (nI kn), .int (nI s), .int (nI i), v] [] sh M N Q := by
  have w0 := hw.1
  have w1 := hw.2.1
  have w1' := w1.1
  have h10 := hx.2.1
  have hol : (ord rs).length ≤ rs.length := ordF_len rs (Nat.le_refl 6)
  intro d
  induction d with
  | zero =>
    intro i v hv hi hu
    rw [List.drop_eq_nil_of_le (by omega)] at hu
    refine pw_iload 5 rfl rfl rfl ?_
    refine pw_aload_n 6 rfl rfl rfl ?_
    refine pw_getR 9 rfl rfl (by first | assumption | exact ⟨by decide, rfl⟩) rfl ?_
    refine pw_cV0 12 rfl rfl (by first | assumption | exact ⟨by decide, rfl⟩) rfl (Nat.le_of_ble_eq_true rfl) rfl rfl (Nat.le_of_ble_eq_true rfl) (c_Row_size w1 hwk.1 ?_)
    rw [List.length_map]
    refine pw_pI ?_
    skip
    refine pw_icmp_ge_t 58 rfl rfl (nI_le (by omega) (by omega)) ?_
    refine pw_bipush (v := (-4)) 60 rfl rfl (by decide) ?_
    rw [hu] at kk
    exact pw_iret rfl rfl (kk)
  | succ d ih =>
    intro i v hv hi hu
    have hi2 : i < (ord rs).length := by omega
    have hm : (ord rs)[i] ∈ ord rs := List.getElem_mem hi2
    have hr := (mem_ord.mp hm).1
    have hg : (ord rs).getD i 0 = (ord rs)[i] := by rw [List.getD_eq_getElem?_getD, List.getElem?_eq_getElem hi2]; rfl
    rw [List.drop_eq_getElem_cons hi2, List.find?_cons] at hu
    refine pw_iload 5 rfl rfl rfl ?_
    refine pw_aload_n 6 rfl rfl rfl ?_
    refine pw_getR 9 rfl rfl (by first | assumption | exact ⟨by decide, rfl⟩) rfl ?_
    refine pw_cV0 12 rfl rfl (by first | assumption | exact ⟨by decide, rfl⟩) rfl (Nat.le_of_ble_eq_true rfl) rfl rfl (Nat.le_of_ble_eq_true rfl) (c_Row_size w1 hwk.1 ?_)
    rw [List.length_map]
    refine pw_pI ?_
    skip
    refine pw_icmp_ge_f 15 rfl rfl (nI_ge (by omega) (by omega)) ?_
    refine pw_aload_n 16 rfl rfl rfl ?_
    refine pw_getR 19 rfl rfl (by first | assumption | exact ⟨by decide, rfl⟩) rfl ?_
    refine pw_iload 21 rfl rfl rfl ?_
    refine pw_cV1 24 rfl rfl (by first | assumption | exact ⟨by decide, rfl⟩) rfl (Nat.le_of_ble_eq_true rfl) rfl rfl (Nat.le_of_ble_eq_true rfl) (c_Row_get w1 hwk.1 (by rw [List.length_map]; omega) _ ?_)
    rw [gI_n (by omega), getD_mapN, hg]
    refine pw_pI ?_
    refine pw_istore6 26 rfl rfl rfl ?_
    refine pw_iload 28 rfl rfl rfl ?_
    refine pw_iload 30 rfl rfl rfl ?_
    refine pw_ishr 31 rfl rfl ?_
    refine pw_iconst (v := nI 1) 32 rfl rfl (by decide) ?_
    refine pw_iand 33 rfl rfl ?_
    rw [bit_v _ hs _ (by omega)]
    by_cases q : s.testBit (ord rs)[i] = true
    · rw [if_pos q]
      refine pw_iconst (v := nI 1) 34 rfl rfl (by decide) ?_
      refine pw_icmp_ne_f 37 rfl rfl (by decide) ?_
      refine pw_aload_n 38 rfl rfl rfl ?_
      refine pw_aload_n 39 rfl rfl rfl ?_
      refine pw_iload_n 40 rfl rfl rfl ?_
      refine pw_iload_n 41 rfl rfl rfl ?_
      refine pw_iload 43 rfl rfl rfl ?_
      refine pw_cV4 46 rfl rfl (by first | assumption | exact ⟨by decide, rfl⟩) rfl (Nat.le_of_ble_eq_true rfl) rfl rfl (Nat.le_of_ble_eq_true rfl) (c_standsInOpen hw hb hx hk hwk.2.1 hl hy hn hp hkn hr ?_)
      refine pw_pI ?_
      have h2 := stO_le (kd.getD (ord rs)[i] 0) (pPh rs (ord rs)[i]) ls p kn
      skip
      refine pw_if_eq 52 49 rfl rfl rfl (fun h => ?_) (fun h => ?_)
      · have h : stO (kd.getD (ord rs)[i] 0) (pPh rs (ord rs)[i]) ls p kn = 0 := (nI_eq (by omega) (by omega)).mp h
        have e : opB rs kd ls kn s p (ord rs)[i] = false := by unfold opB; rw [h]; simp
        rw [e] at hu
        first | refine pw_iincN5 55 rfl rfl rfl (by with_reducible rfl) ?_ | refine pw_iinc5 (w := _) 55 rfl rfl rfl rfl ?_
        refine pw_goto rfl 3 rfl ?_
        exact ih (i + 1) _ rfl (by omega) hu
      · have h : stO (kd.getD (ord rs)[i] 0) (pPh rs (ord rs)[i]) ls p kn ≠ 0 := fun q2 => h (by rw [q2]; rfl)
        have e : opB rs kd ls kn s p (ord rs)[i] = true := by unfold opB; rw [q, decide_eq_true h]; rfl
        rw [e] at hu
        rw [hu] at kk
        refine pw_iload 51 rfl rfl rfl ?_
        exact pw_iret rfl rfl (kk)
    · rw [if_neg q]
      have e : opB rs kd ls kn s p (ord rs)[i] = false := by unfold opB; simp [q]
      rw [e] at hu
      refine pw_iconst (v := nI 1) 34 rfl rfl (by decide) ?_
      refine pw_icmp_ne_t 52 rfl rfl (by decide) ?_
      first | refine pw_iincN5 55 rfl rfl rfl (by with_reducible rfl) ?_ | refine pw_iinc5 (w := _) 55 rfl rfl rfl rfl ?_
      refine pw_goto rfl 3 rfl ?_
      exact ih (i + 1) _ rfl (by omega) hu
theorem c_firstPossible {p kn s : Nat} (hw : isWalk sh k kb) (hb : isBook sh kb) (hx : bookIs M kb rs) (hk : okK rs kd) (hwk : wkIs M k rs kd ls) (hl : isLine sh kl nl) (hy : lineIs M kl ls ss) (hn : ls.length ≤ nl) (hp : p < kn) (hkn : kn ≤ ls.length) (hs : s < 1024)
    (kk : Q (some (.int (rI (fsp rs kd ls kn s p)))) sh M N) : PW mX9_firstPossible 0 [.ref k, .ref kl, .int (nI p), .int (nI kn), .int (nI s), .null, .null] [] sh M N Q := by
  refine pw_iconst (v := nI 0) 1 rfl rfl (by decide) ?_
  refine pw_istore5 3 rfl rfl rfl ?_
  exact first_loop hw hb hx hk hwk hl hy hn hp hkn hs kk (ord rs).length 0 _ rfl (by omega) rfl
theorem sureOf_loop {kn s0 : Nat} {x3 : Int32} (hw : isWalk sh k kb) (hb : isBook sh kb) (hx : bookIs M kb rs) (hk : okK rs kd) (hwk : wkIs M k rs kd ls) (hl : isLine sh kl nl) (hy : lineIs M kl ls ss) (hn : ls.length ≤ nl) (hkn : kn ≤ ls.length) (h60 : ls.length ≤ 60)
    (kk : Q (some (.int (nI (surF rs kd ls kn kn 0 s0)))) sh M N) :
    ∀ (d i p s : Nat) (v : Value), pmIsL v = false → kn - p ≤ d → p ≤ kn → i ≤ p → s < 1024 → surF rs kd ls kn d p s = surF rs kd ls kn kn 0 s0 →
      PW mX9_sureOf 9 [.ref k, .ref kl, .int (nI kn), .int x3, .int (nI s), .int (nI p), .int (nI i), v] [] sh M N Q := by
  have w0 := hw.1
  have h10 := hx.2.1
  have stop : ∀ (i p s : Nat) (v : Value), pmIsL v = false → kn ≤ p → p ≤ kn → i ≤ p → p = surF rs kd ls kn kn 0 s0 →
      PW mX9_sureOf 9 [.ref k, .ref kl, .int (nI kn), .int x3, .int (nI s), .int (nI p), .int (nI i), v] [] sh M N Q := by
    intro i p s v hv h1 h2 hip e
    rw [← e] at kk
    by_cases q : kn ≤ i
    · refine pw_iload 11 rfl rfl rfl ?_
      refine pw_iload_n 12 rfl rfl rfl ?_
      refine pw_icmp_ge_t 84 rfl rfl (nI_le (by omega) (by omega)) ?_
      refine pw_iload 86 rfl rfl rfl ?_
      exact pw_iret rfl rfl (kk)
    · refine pw_iload 11 rfl rfl rfl ?_
      refine pw_iload_n 12 rfl rfl rfl ?_
      refine pw_icmp_ge_f 15 rfl rfl (nI_ge (by omega) (by omega)) ?_
      refine pw_iload 17 rfl rfl rfl ?_
      refine pw_iload_n 18 rfl rfl rfl ?_
      refine pw_icmp_ge_t 84 rfl rfl (nI_le (by omega) (by omega)) ?_
      refine pw_iload 86 rfl rfl rfl ?_
      exact pw_iret rfl rfl (kk)
  intro d
  induction d with
  | zero =>
    intro i p s v hv hd hp hip hs e
    exact stop i p s v hv (by omega) hp hip e
  | succ d ih =>
    intro i p s v hv hd hp hip hs e
    rw [surF] at e
    by_cases h : p < kn
    · rw [if_pos h] at e
      have hfs : ∀ r, fsp rs kd ls kn s p = some r → r < rs.length := fun r q => (fsp_some q).1
      have tail : stp rs kd ls kn p (fsp rs kd ls kn s p) ≠ true → PW mX9_sureOf 57 [.ref k, .ref kl, .int (nI kn), .int x3, .int (nI s), .int (nI p), .int (nI i), .int (rI (fsp rs kd ls kn s p))] [] sh M N Q := by
        intro hst
        rw [if_neg hst] at e
        have hv2 := fsp_adv h hst
        refine pw_aload_n 58 rfl rfl rfl ?_
        refine pw_iload 60 rfl rfl rfl ?_
        refine pw_iload 62 rfl rfl rfl ?_
        refine pw_cV2 65 rfl rfl (by first | assumption | exact ⟨by decide, rfl⟩) rfl (Nat.le_of_ble_eq_true rfl) rfl rfl (Nat.le_of_ble_eq_true rfl) (c_leftOf hw hwk.2.1 (by rw [hk.1]; exact h10) hk.2 hs (fun r hr => by have := hfs r hr; omega) ?_)
        refine pw_pI ?_
        refine pw_istore4 67 rfl rfl rfl ?_
        refine pw_iload 69 rfl rfl rfl ?_
        refine pw_aload_n 70 rfl rfl rfl ?_
        refine pw_iload 72 rfl rfl rfl ?_
        refine pw_cV1 75 rfl rfl (by first | assumption | exact ⟨by decide, rfl⟩) rfl (Nat.le_of_ble_eq_true rfl) rfl rfl (Nat.le_of_ble_eq_true rfl) (c_lengthGone hw hb hx hfs ?_)
        refine pw_pI ?_
        first | refine pw_iaddN 76 rfl rfl (by with_reducible rfl) (by with_reducible rfl) ?_ | refine pw_iadd 76 rfl rfl ?_
        refine pw_istore5 78 rfl rfl rfl ?_
        first | refine pw_iincN6 81 rfl rfl rfl (by with_reducible rfl) ?_ | refine pw_iinc6 (w := _) 81 rfl rfl rfl rfl ?_
        refine pw_goto rfl 9 rfl ?_
        exact ih (i + 1) _ _ _ rfl (by omega) hv2.2 (by omega) (lef_lt hs _) e
      refine pw_iload 11 rfl rfl rfl ?_
      refine pw_iload_n 12 rfl rfl rfl ?_
      refine pw_icmp_ge_f 15 rfl rfl (nI_ge (by omega) (by omega)) ?_
      refine pw_iload 17 rfl rfl rfl ?_
      refine pw_iload_n 18 rfl rfl rfl ?_
      refine pw_icmp_ge_f 21 rfl rfl (nI_ge (by omega) (by omega)) ?_
      refine pw_aload_n 22 rfl rfl rfl ?_
      refine pw_aload_n 23 rfl rfl rfl ?_
      refine pw_iload 25 rfl rfl rfl ?_
      refine pw_iload_n 26 rfl rfl rfl ?_
      refine pw_iload 28 rfl rfl rfl ?_
      refine pw_cV4 31 rfl rfl (by first | assumption | exact ⟨by decide, rfl⟩) rfl (Nat.le_of_ble_eq_true rfl) rfl rfl (Nat.le_of_ble_eq_true rfl) (c_firstPossible hw hb hx hk hwk hl hy hn h hkn hs ?_)
      refine pw_pI ?_
      refine pw_istore7 33 rfl rfl rfl ?_
      refine pw_iload 35 rfl rfl rfl ?_
      refine pw_bipush (v := (-4)) 37 rfl rfl (by decide) ?_
      cases hq : fsp rs kd ls kn s p with
      | none =>
        rw [hq] at tail
        skip
        refine pw_icmp_eq_t 57 rfl rfl (rfl) ?_
        exact tail (fun q => by cases q)
      | some r =>
        rw [hq] at tail e
        have hr := hfs r hq
        have h2 := stO_le (kd.getD r 0) (pPh rs r) ls p kn
        skip
        refine pw_icmp_eq_f 40 rfl rfl (nI_m4 (by omega)) ?_
        unfold rI
        refine pw_aload_n 41 rfl rfl rfl ?_
        refine pw_aload_n 42 rfl rfl rfl ?_
        refine pw_iload 44 rfl rfl rfl ?_
        refine pw_iload_n 45 rfl rfl rfl ?_
        refine pw_iload 47 rfl rfl rfl ?_
        refine pw_cV4 50 rfl rfl (by first | assumption | exact ⟨by decide, rfl⟩) rfl (Nat.le_of_ble_eq_true rfl) rfl rfl (Nat.le_of_ble_eq_true rfl) (c_standsInOpen hw hb hx hk hwk.2.1 hl hy hn h hkn hr ?_)
        refine pw_pI ?_
        refine pw_iconst (v := nI 2) 51 rfl rfl (by decide) ?_
        refine pw_icmp_ne 57 54 rfl rfl rfl (fun h3 => ?_) (fun h3 => ?_)
        · exact tail (fun q => by unfold stp at q; rw [decide_eq_true_eq] at q; exact h3 (by rw [q]))
        · have h3 : stO (kd.getD r 0) (pPh rs r) ls p kn = 2 := (nI_eq (by omega) (by omega)).mp (Decidable.not_not.mp h3)
          rw [if_pos (by unfold stp; rw [decide_eq_true_eq]; exact h3)] at e
          rw [← e] at kk
          refine pw_iload 56 rfl rfl rfl ?_
          exact pw_iret rfl rfl (kk)
    · rw [if_neg h] at e
      exact stop i p s v hv (by omega) hp hip e
theorem c_sureOf {kn s : Nat} (hw : isWalk sh k kb) (hb : isBook sh kb) (hx : bookIs M kb rs) (hk : okK rs kd) (hwk : wkIs M k rs kd ls) (hl : isLine sh kl nl) (hy : lineIs M kl ls ss) (hn : ls.length ≤ nl) (hkn : kn ≤ ls.length) (h60 : ls.length ≤ 60) (hs : s < 1024)
    (kk : Q (some (.int (nI (surF rs kd ls kn kn 0 s)))) sh M N) : PW mX9_sureOf 0 [.ref k, .ref kl, .int (nI kn), .int (nI s), .null, .null, .null, .null] [] sh M N Q := by
  refine pw_iload_n 1 rfl rfl rfl ?_
  refine pw_istore4 3 rfl rfl rfl ?_
  refine pw_iconst (v := nI 0) 4 rfl rfl (by decide) ?_
  refine pw_istore5 6 rfl rfl rfl ?_
  refine pw_iconst (v := nI 0) 7 rfl rfl (by decide) ?_
  refine pw_istore6 9 rfl rfl rfl ?_
  exact sureOf_loop hw hb hx hk hwk hl hy hn hkn h60 kk kn 0 0 s _ rfl (by omega) (by omega) (by omega) hs rfl
end OPN
end
section
/-! SHEETS -/
abbrev aH : Type := Bool × Nat × Nat × (Nat → Int64)
def isSheet (sh : pmS) (k : Nat) : Prop := pmOb sh k 6 [some (some (k + 1)), none, none, none] ∧ pmAy sh (k + 1) 1 60 []
def shIs (M : pmM) (N : pmN) (k : Nat) (h : aH) : Prop := M k 1 = nI (if h.1 then 1 else 0) ∧ M k 2 = nI h.2.1 ∧ M k 3 = nI h.2.2.1 ∧ h.2.1 < 4 ∧ h.2.2.1 ≤ 60 ∧ ∀ i, i < 60 → N (k + 1) i = h.2.2.2 i
theorem shIs.mv {M M' : pmM} {N N' : pmN} {k a b : Nat} {h : aH} (hx : shIs M N k h) (hf : fr a b M M') (hk : k + 2 ≤ a ∨ b ≤ k) (hN : N' (k + 1) = N (k + 1)) : shIs M' N' k h := by
  unfold shIs at *
  rw [hf k (by omega), hN]; exact hx
theorem lg_cmpE (x y : Int64) : lg_cmp x y = 0 ↔ x = y := by
  unfold lg_cmp
  by_cases h : x = y
  · subst h; simp [Int64.lt_irrefl]
  · rcases Int64.lt_or_lt_of_ne h with h1 | h1
    · have : ¬ y < x := fun h2 => Int64.lt_irrefl (Int64.lt_trans h1 h2)
      simp [h, h1, this]
    · have : ¬ x < y := fun h2 => Int64.lt_irrefl (Int64.lt_trans h1 h2)
      simp [h, h1, this]
/-- from one item on so many lie in it -/
def hol (s : Nat) (i n : Int32) : Bool := decide (0 ≤ i.toInt ∧ 0 ≤ n.toInt ∧ i.toInt + n.toInt ≤ s)
theorem nI_int {a : Nat} (h : a < 2 ^ 31) : (nI a).toInt = a := by
  unfold nI
  exact Int32.toInt_ofNat_of_lt h
theorem neg_int {x : Int32} (h : x < 0) : x.toInt < 0 := by
  have := Int32.lt_iff_toInt_lt.mp h
  simpa using this
theorem hol_yes {s a b : Nat} (hs : s < 2 ^ 31) (h : a + b ≤ s) : hol s (nI a) (nI b) = true := by
  unfold hol
  rw [nI_int (by omega), nI_int (by omega)]
  exact decide_eq_true (by omega)
theorem hol_no {s : Nat} {i n : Int32} (h : ∀ a b, a + b ≤ s → i = nI a → n ≠ nI b) : hol s i n = false := by
  unfold hol
  refine decide_eq_false (fun q => ?_)
  rcases i_cases i with hi | ⟨a, ha, rfl⟩
  · have := neg_int hi; omega
  rcases i_cases n with hn | ⟨b, hb, rfl⟩
  · have := neg_int hn; omega
  rw [nI_int ha, nI_int hb] at q
  exact h a b (by omega) rfl rfl
theorem hol_ex {s : Nat} {i n : Int32} (h : hol s i n = true) : ∃ a b, a + b ≤ s ∧ i = nI a ∧ n = nI b := by
  refine Classical.byContradiction (fun q => ?_)
  have := hol_no (s := s) (i := i) (n := n) (fun a b h1 h2 h3 => q ⟨a, b, h1, h2, h3⟩)
  rw [this] at h; cases h
/-- the lowest bits -/
def cutL (la : Nat) (v : Int64) : Int64 := if la = 0 then v.toInt32.toInt8.toInt32.toInt64 else if la = 1 then v.toInt32.toInt16.toInt32.toInt64 else if la = 2 then v.toInt32.toInt64 else v
def rfs (h : aH) (la i n : Int32) : Int32 := if h.1 = false then -11 else if nI h.2.1 ≠ la then -12 else if hol h.2.2.1 i n then 0 else -13
def wrt (h : aH) (j : Nat) (v : Int64) : aH := (h.1, h.2.1, h.2.2.1, fun i => if i = j then v else h.2.2.2 i)
def tls (h : aH) (xs : List Int32) (i n : Int32) : Bool := decide (nI xs.length = n) && hol h.2.2.1 i n && decide (∀ k, k < xs.length → h.2.2.2 (i.toNatClampNeg + k) = (xs.getD k 0).toInt64)
section SHT
variable {sh : pmS} {M : pmM} {N : pmN} {Q : pmPost} {k : Nat} {h : aH}
theorem c_Sheet_holds {i n : Int32} (hb : isSheet sh k) (hx : shIs M N k h) (ky : ∀ a b, a + b ≤ h.2.2.1 → i = nI a → n = nI b → Q (some (.int (nI 1))) sh M N) (kn : hol h.2.2.1 i n = false → Q (some (.int (nI 0))) sh M N) : PW mX6_holds 0 [.ref k, .int i, .int n] [] sh M N Q := by
  obtain ⟨h1, h2⟩ := hb
  obtain ⟨x1, x2, x3, x4, x5, x6⟩ := hx
  have no : (∀ a b, a + b ≤ h.2.2.1 → i = nI a → n ≠ nI b) → PW mX6_holds 30 [.ref k, .int i, .int n] [] sh M N Q := by
    intro q
    refine pw_iconst (v := nI 0) 31 rfl rfl (by decide) ?_
    exact pw_zret rfl rfl (by first | exact Or.inl rfl | exact Or.inr rfl | assumption) (kn (hol_no q))
  refine pw_iload_n 1 rfl rfl rfl ?_
  refine pw_if_lt 30 4 rfl rfl rfl (fun q1 => ?_) (fun q1 => ?_)
  · exact no (fun a b hab e _ => by rw [e] at q1; exact nI_pos (by omega) q1)
  · obtain ⟨a, ha, rfl⟩ := nI_of q1
    refine pw_iload_n 5 rfl rfl rfl ?_
    refine pw_if_lt 30 8 rfl rfl rfl (fun q2 => ?_) (fun q2 => ?_)
    · exact no (fun a b hab _ e => by rw [e] at q2; exact nI_pos (by omega) q2)
    · obtain ⟨b, hb, rfl⟩ := nI_of q2
      refine pw_iload_n 9 rfl rfl rfl ?_
      refine pw_aload_n 10 rfl rfl rfl ?_
      refine pw_getI 13 rfl rfl (by first | assumption | exact ⟨by decide, rfl⟩) rfl ?_
      rw [x3]
      refine pw_icmp_gt 30 16 rfl rfl rfl (fun q3 => ?_) (fun q3 => ?_)
      · refine no (fun a' b' hab _ e => ?_)
        have := (nI_ltI (by omega) (by omega)).mp q3
        have := (nI_eq hb (by omega)).mp e
        omega
      · have q3 : b ≤ h.2.2.1 := Nat.le_of_not_lt (fun q => q3 (nI_lt q hb))
        refine pw_iload_n 17 rfl rfl rfl ?_
        refine pw_aload_n 18 rfl rfl rfl ?_
        refine pw_getI 21 rfl rfl (by first | assumption | exact ⟨by decide, rfl⟩) rfl ?_
        refine pw_iload_n 22 rfl rfl rfl ?_
        rw [x3]
        first | refine pw_isubN 23 rfl rfl (by with_reducible rfl) (by with_reducible rfl) (by omega) ?_ | refine pw_isub 23 rfl rfl ?_
        refine pw_icmp_gt 30 26 rfl rfl rfl (fun q4 => ?_) (fun q4 => ?_)
        · refine no (fun a' b' hab e1 e2 => ?_)
          have := (nI_ltI (by omega) (by omega)).mp q4
          have := (nI_eq ha (by omega)).mp e1
          have := (nI_eq hb (by omega)).mp e2
          omega
        · have q4 : a ≤ h.2.2.1 - b := Nat.le_of_not_lt (fun q => q4 (nI_lt q ha))
          refine pw_iconst (v := nI 1) 27 rfl rfl (by decide) ?_
          refine pw_goto rfl 31 rfl ?_
          exact pw_zret rfl rfl (by first | exact Or.inl rfl | exact Or.inr rfl | assumption) (ky a b (by omega) rfl rfl)
theorem c_Sheet_refusal {la i n : Int32} (hb : isSheet sh k) (hx : shIs M N k h) (kk : Q (some (.int (rfs h la i n))) sh M N) : PW mX6_refusal 0 [.ref k, .int la, .int i, .int n] [] sh M N Q := by
  have hb0 := hb
  have hx0 := hx
  obtain ⟨h1, h2⟩ := hb
  obtain ⟨x1, x2, x3, x4, x5, x6⟩ := hx
  unfold rfs at kk
  refine pw_aload_n 1 rfl rfl rfl ?_
  refine pw_getI 4 rfl rfl (by first | assumption | exact ⟨by decide, rfl⟩) rfl ?_
  rw [x1]
  by_cases q : h.1 = false
  · rw [if_pos q] at kk
    rw [q]
    skip
    refine pw_if_ne_f 7 rfl rfl (by decide) ?_
    refine pw_bipush (v := (-11)) 9 rfl rfl (by decide) ?_
    exact pw_iret rfl rfl (kk)
  · rw [if_neg q] at kk
    have q : h.1 = true := by simpa using q
    rw [q]
    skip
    refine pw_if_ne_t 10 rfl rfl (by decide) ?_
    refine pw_aload_n 11 rfl rfl rfl ?_
    refine pw_getI 14 rfl rfl (by first | assumption | exact ⟨by decide, rfl⟩) rfl ?_
    refine pw_iload_n 15 rfl rfl rfl ?_
    rw [x2]
    refine pw_icmp_eq 21 18 rfl rfl rfl (fun q2 => ?_) (fun q2 => ?_)
    · rw [if_neg (fun e => e q2)] at kk
      refine pw_aload_n 22 rfl rfl rfl ?_
      refine pw_iload_n 23 rfl rfl rfl ?_
      refine pw_iload_n 24 rfl rfl rfl ?_
      refine pw_cV2 27 rfl rfl (by first | assumption | exact ⟨by decide, rfl⟩) rfl (Nat.le_of_ble_eq_true rfl) rfl rfl (Nat.le_of_ble_eq_true rfl) (c_Sheet_holds hb0 hx0 (fun a b hab e1 e2 => ?_) (fun hn => ?_))
      · refine pw_pI ?_
        rw [e1, e2, hol_yes (by omega) hab] at kk
        skip
        refine pw_if_eq_f 30 rfl rfl (by decide) ?_
        refine pw_iconst (v := nI 0) 31 rfl rfl (by decide) ?_
        refine pw_goto rfl 36 rfl ?_
        exact pw_iret rfl rfl (kk)
      · refine pw_pI ?_
        rw [hn] at kk
        skip
        refine pw_if_eq_t 34 rfl rfl (by decide) ?_
        refine pw_bipush (v := (-13)) 36 rfl rfl (by decide) ?_
        exact pw_iret rfl rfl (kk)
    · rw [if_pos q2] at kk
      refine pw_bipush (v := (-12)) 20 rfl rfl (by decide) ?_
      exact pw_iret rfl rfl (kk)
theorem c_Sheet_lowestBits {v : Int64} (hb : isSheet sh k) (hx : shIs M N k h) (kk : Q (some (.long (cutL h.2.1 v))) sh M N) : PW mX6_lowestBits 0 [.ref k, .long v, .null] [] sh M N Q := by
  obtain ⟨h1, h2⟩ := hb
  obtain ⟨x1, x2, x3, x4, x5, x6⟩ := hx
  refine pw_aload_n 1 rfl rfl rfl ?_
  refine pw_getI 4 rfl rfl (by first | assumption | exact ⟨by decide, rfl⟩) rfl ?_
  rw [x2]
  unfold cutL at kk
  have c : h.2.1 = 0 ∨ h.2.1 = 1 ∨ h.2.1 = 2 ∨ h.2.1 = 3 := by omega
  rcases c with c | c | c | c
  · rw [c] at kk ⊢
    skip
    refine pw_tsw 32 rfl (rfl) ?_
    refine pw_lload_n 33 rfl rfl rfl ?_
    refine pw_l2i 34 rfl rfl ?_
    refine pw_i2b 35 rfl rfl ?_
    refine pw_i2l 36 rfl rfl ?_
    exact pw_lret rfl (kk)
  · rw [c] at kk ⊢
    skip
    refine pw_tsw 37 rfl (rfl) ?_
    refine pw_lload_n 38 rfl rfl rfl ?_
    refine pw_l2i 39 rfl rfl ?_
    refine pw_i2s 40 rfl rfl ?_
    refine pw_i2l 41 rfl rfl ?_
    exact pw_lret rfl (kk)
  · rw [c] at kk ⊢
    skip
    refine pw_tsw 42 rfl (rfl) ?_
    refine pw_lload_n 43 rfl rfl rfl ?_
    refine pw_l2i 44 rfl rfl ?_
    refine pw_i2l 45 rfl rfl ?_
    exact pw_lret rfl (kk)
  · rw [c] at kk ⊢
    skip
    refine pw_tsw 46 rfl (rfl) ?_
    refine pw_lload_n 47 rfl rfl rfl ?_
    exact pw_lret rfl (kk)
theorem c_Sheet_write {j : Nat} {v : Int64} (hb : isSheet sh k) (hx : shIs M N k h) (hj : j < h.2.2.1) (kk : ∀ N', (∀ x, x ≠ k + 1 → N' x = N x) → shIs M N' k (wrt h j (cutL h.2.1 v)) → Q none sh M N') : PW mX6_write 0 [.ref k, .int (nI j), .long v, .null] [] sh M N Q := by
  have hb0 := hb
  have hx0 := hx
  obtain ⟨h1, h2⟩ := hb
  obtain ⟨x1, x2, x3, x4, x5, x6⟩ := hx
  refine pw_aload_n 1 rfl rfl rfl ?_
  refine pw_iload_n 2 rfl rfl rfl ?_
  refine pw_iconst (v := nI 1) 3 rfl rfl (by decide) ?_
  refine pw_cV2 6 rfl rfl (by first | assumption | exact ⟨by decide, rfl⟩) rfl (Nat.le_of_ble_eq_true rfl) rfl rfl (Nat.le_of_ble_eq_true rfl) (c_Sheet_holds hb0 hx0 (fun a b hab e1 e2 => ?_) (fun hn => absurd (hol_yes (by omega) (show j + 1 ≤ h.2.2.1 by omega)) (by rw [hn]; decide)))
  refine pw_pI ?_
  skip
  refine pw_if_eq_f 9 rfl rfl (by decide) ?_
  refine pw_aload_n 10 rfl rfl rfl ?_
  refine pw_getR 13 rfl rfl (by first | assumption | exact ⟨by decide, rfl⟩) rfl ?_
  refine pw_iload_n 14 rfl rfl rfl ?_
  refine pw_aload_n 15 rfl rfl rfl ?_
  refine pw_lload_n 16 rfl rfl rfl ?_
  refine pw_cV1 19 rfl rfl (by first | assumption | exact ⟨by decide, rfl⟩) rfl (Nat.le_of_ble_eq_true rfl) rfl rfl (Nat.le_of_ble_eq_true rfl) (c_Sheet_lowestBits hb0 hx0 ?_)
  refine pw_pJ ?_
  refine pw_last _ 20 rfl rfl (by first | assumption | exact ⟨by decide, rfl, by decide⟩) (by with_reducible rfl) (by first | assumption | omega) ?_
  refine pw_vret rfl (kk _ (fun x hx => by unfold pmStL; rw [va_up_ne _ _ hx]) ⟨x1, x2, x3, x4, x5, fun i hi => ?_⟩)
  unfold pmStL wrt
  rw [va_up_self]
  unfold vp_updL
  by_cases q : i = j
  · simp [q]
  · simp [q, x6 i hi]
theorem c_Sheet_begin {la n : Nat} (hb : isSheet sh k) (hx : shIs M N k h) (hl : la < 4) (hn : n ≤ 60) (kk : ∀ M' N', fr k (k + 2) M M' → (∀ x, x ≠ k + 1 → N' x = N x) → shIs M' N' k (true, la, n, fun _ => 0) → Q none sh M' N') : PW mX6_begin 0 [.ref k, .int (nI la), .int (nI n)] [] sh M N Q := by
  obtain ⟨h1, h2⟩ := hb
  refine pw_aload_n 1 rfl rfl rfl ?_
  refine pw_getR 4 rfl rfl (by first | assumption | exact ⟨by decide, rfl⟩) rfl ?_
  refine pw_lconst (v := lN 0) 5 rfl rfl (by decide) ?_
  refine pw_cS2 8 rfl rfl rfl (Nat.le_of_ble_eq_true rfl) rfl rfl (Nat.le_of_ble_eq_true rfl) (c_lfill h2 ?_)
  refine pw_pV ?_
  refine pw_aload_n 9 rfl rfl rfl ?_
  refine pw_iconst (v := nI 1) 10 rfl rfl (by decide) ?_
  refine pw_putZ 13 rfl rfl (by first | assumption | exact ⟨by decide, rfl⟩) rfl (by decide) (by first | exact Or.inl rfl | exact Or.inr rfl | assumption) ?_
  refine pw_aload_n 14 rfl rfl rfl ?_
  refine pw_iload_n 15 rfl rfl rfl ?_
  refine pw_putI 18 rfl rfl (by first | assumption | exact ⟨by decide, rfl⟩) rfl (by decide) ?_
  refine pw_aload_n 19 rfl rfl rfl ?_
  refine pw_iload_n 20 rfl rfl rfl ?_
  refine pw_putI 23 rfl rfl (by first | assumption | exact ⟨by decide, rfl⟩) rfl (by decide) ?_
  refine pw_vret rfl (kk _ _ (fun x hx => ?_) (fun x hx => va_up_ne _ _ hx) ⟨?_, ?_, ?_, hl, hn, fun i hi => ?_⟩)
  · rw [st_ne _ _ _ _ (by omega), st_ne _ _ _ _ (by omega), st_ne _ _ _ _ (by omega)]
  · rw [st_row _ _ _ _ (by decide), st_row _ _ _ _ (by decide), st_same]; rfl
  · rw [st_row _ _ _ _ (by decide), st_same]
  · rw [st_same]
  · rw [va_up_self, if_pos hi]; rfl
theorem tells_loop {kr m a n : Nat} {xs : List Int32} (hb : isSheet sh k) (hx : shIs M N k h) (hr : isRow sh kr m) (hy : rowIs M kr xs) (hm : xs.length ≤ m) (hn : xs.length = n) (ha : a + n ≤ h.2.2.1) (ky : (∀ j, j < n → h.2.2.2 (a + j) = (xs.getD j 0).toInt64) → Q (some (.int (nI 1))) sh M N) (kn : ¬ (∀ j, j < n → h.2.2.2 (a + j) = (xs.getD j 0).toInt64) → Q (some (.int (nI 0))) sh M N) :
    ∀ (d i : Nat), i + d = n → (∀ j, j < i → h.2.2.2 (a + j) = (xs.getD j 0).toInt64) → PW mX6_tells 22 [.ref k, .ref kr, .int (nI a), .int (nI n), .int (nI i)] [] sh M N Q := by
  obtain ⟨h1, h2⟩ := hb
  obtain ⟨x1, x2, x3, x4, x5, x6⟩ := hx
  have hr1 := hr.1
  intro d
  induction d with
  | zero =>
    intro i hi hs
    refine pw_iload 24 rfl rfl rfl ?_
    refine pw_iload_n 25 rfl rfl rfl ?_
    refine pw_icmp_ge_t 56 rfl rfl (nI_le (by omega) (by omega)) ?_
    refine pw_iconst (v := nI 1) 57 rfl rfl (by decide) ?_
    exact pw_zret rfl rfl (by first | exact Or.inl rfl | exact Or.inr rfl | assumption) (ky (fun j hj => hs j (by omega)))
  | succ d ih =>
    intro i hi hs
    refine pw_iload 24 rfl rfl rfl ?_
    refine pw_iload_n 25 rfl rfl rfl ?_
    refine pw_icmp_ge_f 28 rfl rfl (nI_ge (by omega) (by omega)) ?_
    refine pw_aload_n 29 rfl rfl rfl ?_
    refine pw_getR 32 rfl rfl (by first | assumption | exact ⟨by decide, rfl⟩) rfl ?_
    refine pw_iload_n 33 rfl rfl rfl ?_
    refine pw_iload 35 rfl rfl rfl ?_
    first | refine pw_iaddN 36 rfl rfl (by with_reducible rfl) (by with_reducible rfl) ?_ | refine pw_iadd 36 rfl rfl ?_
    refine pw_lald _ 37 rfl rfl (by first | assumption | exact ⟨by decide, rfl, by decide⟩) (by with_reducible rfl) (by first | assumption | omega) ?_
    refine pw_aload_n 38 rfl rfl rfl ?_
    refine pw_iload 40 rfl rfl rfl ?_
    rw [x6 _ (by omega)]
    refine pw_cV1 43 rfl rfl (by first | assumption | exact ⟨by decide, rfl⟩) rfl (Nat.le_of_ble_eq_true rfl) rfl rfl (Nat.le_of_ble_eq_true rfl) (c_Row_get hr hy hm _ ?_)
    rw [gI_n (by omega)]
    refine pw_pI ?_
    refine pw_i2l 44 rfl rfl ?_
    refine pw_lcmp 45 rfl rfl ?_
    refine pw_if_eq 50 48 rfl rfl rfl (fun q => ?_) (fun q => ?_)
    · first | refine pw_iincN4 53 rfl rfl rfl (by with_reducible rfl) ?_ | refine pw_iinc4 (w := _) 53 rfl rfl rfl rfl ?_
      refine pw_goto rfl 22 rfl ?_
      refine ih (i + 1) (by omega) (fun j hj => ?_)
      by_cases e : j = i
      · subst e; exact (lg_cmpE _ _).mp q
      · exact hs j (by omega)
    · refine pw_iconst (v := nI 0) 49 rfl rfl (by decide) ?_
      exact pw_zret rfl rfl (by first | exact Or.inl rfl | exact Or.inr rfl | assumption) (kn (fun e => q ((lg_cmpE _ _).mpr (e i (by omega)))))
theorem c_Sheet_tells {kr m a n : Nat} {xs : List Int32} (hb : isSheet sh k) (hx : shIs M N k h) (hr : isRow sh kr m) (hy : rowIs M kr xs) (hm : xs.length ≤ m) (ha : a + n ≤ h.2.2.1) (ky : xs.length = n → (∀ j, j < n → h.2.2.2 (a + j) = (xs.getD j 0).toInt64) → Q (some (.int (nI 1))) sh M N) (kn : ¬ (xs.length = n ∧ ∀ j, j < n → h.2.2.2 (a + j) = (xs.getD j 0).toInt64) → Q (some (.int (nI 0))) sh M N) : PW mX6_tells 0 [.ref k, .ref kr, .int (nI a), .int (nI n), .null] [] sh M N Q := by
  have h1 := hb.1
  have hr1 := hr.1
  have x5 := hx.2.2.2.2.1
  have hm1 : m ≤ 1000 := hr.2.2.2
  refine pw_aload_n 1 rfl rfl rfl ?_
  refine pw_cV0 4 rfl rfl (by first | assumption | exact ⟨by decide, rfl⟩) rfl (Nat.le_of_ble_eq_true rfl) rfl rfl (Nat.le_of_ble_eq_true rfl) (c_Row_size hr hy ?_)
  refine pw_pI ?_
  refine pw_iload_n 5 rfl rfl rfl ?_
  refine pw_icmp_ne 17 8 rfl rfl rfl (fun q => ?_) (fun q => ?_)
  · refine pw_iconst (v := nI 0) 18 rfl rfl (by decide) ?_
    exact pw_zret rfl rfl (by first | exact Or.inl rfl | exact Or.inr rfl | assumption) (kn (fun e => q (by rw [e.1])))
  · have q : xs.length = n := (nI_eq (by omega) (by omega)).mp (Decidable.not_not.mp q)
    refine pw_aload_n 9 rfl rfl rfl ?_
    refine pw_iload_n 10 rfl rfl rfl ?_
    refine pw_iload_n 11 rfl rfl rfl ?_
    refine pw_cV2 14 rfl rfl (by first | assumption | exact ⟨by decide, rfl⟩) rfl (Nat.le_of_ble_eq_true rfl) rfl rfl (Nat.le_of_ble_eq_true rfl) (c_Sheet_holds hb hx (fun a' b' hab e1 e2 => ?_) (fun hn => absurd (hol_yes (by omega) ha) (by rw [hn]; decide)))
    refine pw_pI ?_
    skip
    refine pw_if_ne_t 19 rfl rfl (by decide) ?_
    refine pw_iconst (v := nI 0) 20 rfl rfl (by decide) ?_
    refine pw_istore4 22 rfl rfl rfl ?_
    exact tells_loop hb hx hr hy hm q ha (ky q) (fun e => kn (fun e2 => e e2.2)) n 0 (by omega) (fun j hj => absurd hj (Nat.not_lt_zero j))
end SHT
end
section
/-! THE CLASS AS A WHOLE: WHAT IT HOLDS, AND WHAT ITS METHODS DO -/
abbrev aW : Type := List Int32 × aS × Option aS × Option Nat × Nat × (Nat → aH)
abbrev aW.tp (a : aW) : List Int32 := a.1
abbrev aW.now (a : aW) : aS := a.2.1
abbrev aW.img (a : aW) : Option aS := a.2.2.1
abbrev aW.ps (a : aW) : Option Nat := a.2.2.2.1
abbrev aW.pset (a : aW) : Nat := a.2.2.2.2.1
abbrev aW.shs (a : aW) : Nat → aH := a.2.2.2.2.2
abbrev wTp (a : aW) (x : List Int32) : aW := (x, a.2)
abbrev wNow (a : aW) (x : aS) : aW := (a.1, x, a.2.2)
abbrev wImg (a : aW) (x : Option aS) : aW := (a.1, a.2.1, x, a.2.2.2)
abbrev wPs (a : aW) (x : Option Nat) : aW := (a.1, a.2.1, a.2.2.1, x, a.2.2.2.2)
abbrev wSet (a : aW) (x : Nat) : aW := (a.1, a.2.1, a.2.2.1, a.2.2.2.1, x, a.2.2.2.2.2)
abbrev wSh (a : aW) (i : Nat) (x : aH) : aW := (a.1, a.2.1, a.2.2.1, a.2.2.2.1, a.2.2.2.2.1, fun j => if j = i then x else a.2.2.2.2.2 j)
def isApp (sh : pmS) (k : Nat) : Prop := pmOb sh k 10 [some (some (k + 1)), some (some (k + 4)), some (some (k + 118)), none, some (some (k + 232)), some (some (k + 234)), some (some (k + 291)), some (some (k + 307)), some (some (k + 312)), some (some (k + 314)), none, none] ∧ isTape sh (k + 1) ∧ isState sh (k + 4) ∧ isState sh (k + 118) ∧ isRow sh (k + 232) 60 ∧ isBook sh (k + 234) ∧ isWalk sh (k + 291) (k + 11) ∧ isLine sh (k + 307) 60 ∧ isRow sh (k + 312) 11 ∧ pmAy sh (k + 314) 5 4 [some (k + 315), some (k + 317), some (k + 319), some (k + 321)] ∧ ∀ i, i < 4 → isSheet sh (k + 315 + 2 * i)
def appIs (M : pmM) (N : pmN) (k : Nat) (a : aW) : Prop := rowIs M (k + 2) a.tp ∧ stIs M (k + 4) a.now ∧ (∀ s, a.img = some s → stIs M (k + 118) s) ∧ M k 3 = nI (if a.img.isSome then 1 else 0) ∧ M k 10 = rI a.ps ∧ M k 11 = nI a.pset ∧ ∀ i, i < 4 → shIs M N (k + 315 + 2 * i) (a.shs i)
/-- a number below 127 -/
def sm (x : Int32) : Prop := ∃ j, j < 127 ∧ x = nI j
def smM (m : aM) : Prop := (∀ x ∈ m.1, sm x) ∧ (∀ x ∈ m.2.1, sm x)
def smS (s : aS) : Prop := smM s.1 ∧ (∀ m ∈ s.2.2, smM m) ∧ ∀ r ∈ s.2.1, ∀ x ∈ r.2.2, sm x
def wfW (a : aW) : Prop := a.tp.length ≤ 150 ∧ (∀ x ∈ a.tp, ¬ x < 0) ∧ wfS a.now ∧ smS a.now ∧ (∀ s, a.img = some s → wfS s ∧ smS s) ∧ (∀ s, a.ps = some s → s < 3) ∧ a.pset < 1024
abbrev aW.rs (a : aW) : List aR := a.now.2.1
abbrev aW.ls (a : aW) : List Int32 := a.now.1.1
abbrev aW.ss (a : aW) : List Int32 := a.now.1.2.1
abbrev aW.on (a : aW) : Nat := a.now.1.2.2
/-- what a pass does, a set of rules being on -/
abbrev aW.tc (a : aW) (s : Nat) : List (Nat × Option Nat) := tr a.rs (kds a.rs) a.ls 0 s
abbrev aW.mL (a : aW) (s : Nat) : List Int32 := outL a.rs (kds a.rs) a.ls (a.tc s)
abbrev aW.mS (a : aW) (s : Nat) : List Int32 := outS a.rs a.ss (a.tc s)
abbrev aW.us (a : aW) (s : Nat) : List Int32 := uCt (a.tc s) (List.replicate a.rs.length 0)
theorem appIs.scr {M M' : pmM} {N : pmN} {k u v : Nat} {a : aW} (h : appIs M N k a) (hf : fr u v M M') (hu : k + 232 ≤ u) (hv : v ≤ k + 315) : appIs M' N k a := by
  obtain ⟨h1, h2, h3, h4, h5, h6, h7⟩ := h
  refine ⟨h1.mv hf (by omega), h2.mv hf (by omega), fun s hs => (h3 s hs).mv hf (by omega), ?_, ?_, ?_, fun i hi => (h7 i hi).mv hf (by omega) rfl⟩
  · rw [hf k (by omega)]; exact h4
  · rw [hf k (by omega)]; exact h5
  · rw [hf k (by omega)]; exact h6
theorem appIs.tap {M M' : pmM} {N : pmN} {k : Nat} {a : aW} (h : appIs M N k a) (hf : fr (k + 1) (k + 2) M M') : appIs M' N k a := by
  obtain ⟨h1, h2, h3, h4, h5, h6, h7⟩ := h
  refine ⟨h1.mv hf (by omega), h2.mv hf (by omega), fun s hs => (h3 s hs).mv hf (by omega), ?_, ?_, ?_, fun i hi => (h7 i hi).mv hf (by omega) rfl⟩
  · rw [hf k (by omega)]; exact h4
  · rw [hf k (by omega)]; exact h5
  · rw [hf k (by omega)]; exact h6
theorem appIs.tape {M M' : pmM} {N : pmN} {k : Nat} {a : aW} {xs : List Int32} (h : appIs M N k a) (hf : fr (k + 1) (k + 4) M M') (hr : rowIs M' (k + 2) xs) : appIs M' N k (wTp a xs) := by
  obtain ⟨h1, h2, h3, h4, h5, h6, h7⟩ := h
  refine ⟨hr, h2.mv hf (by omega), fun s hs => (h3 s hs).mv hf (by omega), ?_, ?_, ?_, fun i hi => (h7 i hi).mv hf (by omega) rfl⟩
  · rw [hf k (by omega)]; exact h4
  · rw [hf k (by omega)]; exact h5
  · rw [hf k (by omega)]; exact h6
theorem appIs.now {M M' : pmM} {N : pmN} {k : Nat} {a : aW} {s : aS} (h : appIs M N k a) (hf : fr (k + 5) (k + 118) M M') (hs : stIs M' (k + 4) s) : appIs M' N k (wNow a s) := by
  obtain ⟨h1, h2, h3, h4, h5, h6, h7⟩ := h
  refine ⟨h1.mv hf (by omega), hs, fun s hs => (h3 s hs).mv hf (by omega), ?_, ?_, ?_, fun i hi => (h7 i hi).mv hf (by omega) rfl⟩
  · rw [hf k (by omega)]; exact h4
  · rw [hf k (by omega)]; exact h5
  · rw [hf k (by omega)]; exact h6
/-- a pile's sort -/
theorem appIs.sort {M : pmM} {N : pmN} {k : Nat} {a : aW} (h : appIs M N k a) (o : Option Nat) : appIs (pmSt M k 10 (rI o)) N k (wPs a o) := by
  obtain ⟨h1, h2, h3, h4, h5, h6, h7⟩ := h
  have hf : fr k (k + 1) M (pmSt M k 10 (rI o)) := fr_st M 10 _ (Nat.le_refl k) (Nat.lt_succ_self k)
  refine ⟨h1.mv hf (by omega), h2.mv hf (by omega), fun s hs => (h3 s hs).mv hf (by omega), ?_, ?_, ?_, fun i hi => (h7 i hi).mv hf (by omega) rfl⟩
  · rw [st_row _ _ _ _ (by decide)]; exact h4
  · rw [st_same]
  · rw [st_row _ _ _ _ (by decide)]; exact h6
theorem appIs.set {M : pmM} {N : pmN} {k : Nat} {a : aW} (h : appIs M N k a) (s : Nat) : appIs (pmSt M k 11 (nI s)) N k (wSet a s) := by
  obtain ⟨h1, h2, h3, h4, h5, h6, h7⟩ := h
  have hf : fr k (k + 1) M (pmSt M k 11 (nI s)) := fr_st M 11 _ (Nat.le_refl k) (Nat.lt_succ_self k)
  refine ⟨h1.mv hf (by omega), h2.mv hf (by omega), fun s hs => (h3 s hs).mv hf (by omega), ?_, ?_, ?_, fun i hi => (h7 i hi).mv hf (by omega) rfl⟩
  · rw [st_row _ _ _ _ (by decide)]; exact h4
  · rw [st_row _ _ _ _ (by decide)]; exact h5
  · rw [st_same]
/-- what is shown of a method of the class: an answer, and what is held then -/
def pst (k : Nat) (sh : pmS) (M : pmM) (N : pmN) (Q : pmPost) (v : Value) (a : aW) : Prop := ∀ M' N', fr k (k + 323) M M' → (∀ x, (x < k ∨ k + 323 ≤ x) → N' x = N x) → appIs M' N' k a → Q (some v) sh M' N'
section APP
variable {sh : pmS} {M : pmM} {N : pmN} {Q : pmPost} {k : Nat} {a : aW}
theorem pst.at {v : Value} (h : pst k sh M N Q v a) (hx : appIs M N k a) : Q (some v) sh M N := h M N fr.rf (fun _ _ => rfl) hx
theorem pst.go {M1 : pmM} {v : Value} (h : pst k sh M N Q v a) (hf : fr k (k + 323) M M1) (hx : appIs M1 N k a) : Q (some v) sh M1 N := h M1 N hf (fun _ _ => rfl) hx
theorem wf_on (hw : wfW a) (hx : appIs M N k a) : a.on < 1024 := lt_1024 hw.2.2.1.1 hx.2.1.2.1.2.1
def vType (a : aW) (x : Int32) : Int32 × aW := if x < nI 32 ∨ nI 126 < x then (-1, a) else if a.tp.length = 150 then (-3, a) else (nI (a.tp.length + 1), wTp a (a.tp ++ [x]))
theorem c_type {x : Int32} (hb : isApp sh k) (hw : wfW a) (hx : appIs M N k a) (kk : pst k sh M N Q (.int (vType a x).1) (vType a x).2) : PW mX10_type 0 [.ref k, .int x] [] sh M N Q := by
  obtain ⟨b0, b1, b2, b3, b4, b5, b6, b7, b8, b9, b10⟩ := hb
  obtain ⟨t1, t2⟩ := b1
  have t2' := t2.1
  have hl := hw.1
  unfold vType at kk
  have bad : (x < nI 32 ∨ nI 126 < x) → PW mX10_type 12 [.ref k, .int x] [] sh M N Q := by
    intro q
    rw [if_pos q] at kk
    refine pw_iconst (v := (-1)) 13 rfl rfl (by decide) ?_
    exact pw_iret rfl rfl (kk.at hx)
  refine pw_iload_n 1 rfl rfl rfl ?_
  refine pw_bipush (v := nI 32) 3 rfl rfl (by decide) ?_
  refine pw_icmp_lt 12 6 rfl rfl rfl (fun q1 => ?_) (fun q1 => ?_)
  · exact bad (Or.inl q1)
  · refine pw_iload_n 7 rfl rfl rfl ?_
    refine pw_bipush (v := nI 126) 9 rfl rfl (by decide) ?_
    refine pw_icmp_le 14 12 rfl rfl rfl (fun q2 => ?_) (fun q2 => ?_)
    · have q : ¬ (x < nI 32 ∨ nI 126 < x) := fun q => q.elim q1 (fun h => Int32.not_lt.mpr q2 h)
      rw [if_neg q] at kk
      by_cases h : a.tp.length = 150
      · rw [if_pos h] at kk
        refine pw_aload_n 15 rfl rfl rfl ?_
        refine pw_getR 18 rfl rfl (by first | assumption | exact ⟨by decide, rfl⟩) rfl ?_
        refine pw_getR 21 rfl rfl (by first | assumption | exact ⟨by decide, rfl⟩) rfl ?_
        refine pw_iload_n 22 rfl rfl rfl ?_
        refine pw_cV1 25 rfl rfl (by first | assumption | exact ⟨by decide, rfl⟩) rfl (Nat.le_of_ble_eq_true rfl) rfl rfl (Nat.le_of_ble_eq_true rfl) (c_Row_addFull t2 hx.1 h x ?_)
        refine pw_pI ?_
        skip
        refine pw_if_eq_t 41 rfl rfl (by decide) ?_
        refine pw_bipush (v := (-3)) 43 rfl rfl (by decide) ?_
        exact pw_iret rfl rfl (kk.at hx)
      · rw [if_neg h] at kk
        refine pw_aload_n 15 rfl rfl rfl ?_
        refine pw_getR 18 rfl rfl (by first | assumption | exact ⟨by decide, rfl⟩) rfl ?_
        refine pw_getR 21 rfl rfl (by first | assumption | exact ⟨by decide, rfl⟩) rfl ?_
        refine pw_iload_n 22 rfl rfl rfl ?_
        refine pw_cV1 25 rfl rfl (by first | assumption | exact ⟨by decide, rfl⟩) rfl (Nat.le_of_ble_eq_true rfl) rfl rfl (Nat.le_of_ble_eq_true rfl) (c_Row_add t2 hx.1 (by omega) x (fun M1 f1 r1 => ?_))
        refine pw_pI ?_
        skip
        refine pw_if_eq_f 28 rfl rfl (by decide) ?_
        refine pw_aload_n 29 rfl rfl rfl ?_
        refine pw_getR 32 rfl rfl (by first | assumption | exact ⟨by decide, rfl⟩) rfl ?_
        refine pw_getR 35 rfl rfl (by first | assumption | exact ⟨by decide, rfl⟩) rfl ?_
        refine pw_cV0 38 rfl rfl (by first | assumption | exact ⟨by decide, rfl⟩) rfl (Nat.le_of_ble_eq_true rfl) rfl rfl (Nat.le_of_ble_eq_true rfl) (c_Row_size t2 r1 ?_)
        refine pw_pI ?_
        rw [List.length_append, List.length_singleton]
        refine pw_goto rfl 43 rfl ?_
        exact pw_iret rfl rfl (kk.go (f1.wk (by omega) (by omega)) (hx.tape (f1.wk (by omega) (by omega)) r1))
    · exact bad (Or.inr (Int32.not_le.mp q2))
theorem c_whatComes (hb : isApp sh k) (hw : wfW a) (hx : appIs M N k a) (kk : ∀ M', fr (k + 292) (k + 307) M M' → gone M' (k + 291) a.rs (kds a.rs) a.ls a.ss a.on → appIs M' N k a → Q (some (.ref (k + 302))) sh M' N) : PW mX10_whatComes 0 [.ref k] [] sh M N Q := by
  obtain ⟨b0, b1, b2, b3, b4, b5, b6, b7, b8, b9, b10⟩ := hb
  have s0 := b2.1
  have s1 := b2.2.1.1
  have s2 := b2.2.1.2
  have s3 := b2.2.2.1
  have wk0 := b6.1
  have hm := hx.2.1.1
  have hbk := hx.2.1.2.1
  have hon := wf_on hw hx
  refine pw_aload_n 1 rfl rfl rfl ?_
  refine pw_getR 4 rfl rfl (by first | assumption | exact ⟨by decide, rfl⟩) rfl ?_
  refine pw_aload_n 5 rfl rfl rfl ?_
  refine pw_getR 8 rfl rfl (by first | assumption | exact ⟨by decide, rfl⟩) rfl ?_
  refine pw_getR 11 rfl rfl (by first | assumption | exact ⟨by decide, rfl⟩) rfl ?_
  refine pw_getR 14 rfl rfl (by first | assumption | exact ⟨by decide, rfl⟩) rfl ?_
  refine pw_cV1 17 rfl rfl (by first | assumption | exact ⟨by decide, rfl⟩) rfl (Nat.le_of_ble_eq_true rfl) rfl rfl (Nat.le_of_ble_eq_true rfl) (c_prepare b6 s3 hbk (by omega) s2 hm.1 hm.2.2.1 (by omega) hm.2.2.1 (fun M1 f1 r1 => ?_))
  refine pw_pV ?_
  have hx1 := hx.scr f1 (by omega) (by omega)
  have hm1 := hx1.2.1.1
  have hbk1 := hx1.2.1.2.1
  refine pw_aload_n 18 rfl rfl rfl ?_
  refine pw_getR 21 rfl rfl (by first | assumption | exact ⟨by decide, rfl⟩) rfl ?_
  refine pw_aload_n 22 rfl rfl rfl ?_
  refine pw_getR 25 rfl rfl (by first | assumption | exact ⟨by decide, rfl⟩) rfl ?_
  refine pw_getR 28 rfl rfl (by first | assumption | exact ⟨by decide, rfl⟩) rfl ?_
  refine pw_getR 31 rfl rfl (by first | assumption | exact ⟨by decide, rfl⟩) rfl ?_
  refine pw_aload_n 32 rfl rfl rfl ?_
  refine pw_getR 35 rfl rfl (by first | assumption | exact ⟨by decide, rfl⟩) rfl ?_
  refine pw_getR 38 rfl rfl (by first | assumption | exact ⟨by decide, rfl⟩) rfl ?_
  refine pw_getI 41 rfl rfl (by first | assumption | exact ⟨by decide, rfl⟩) rfl ?_
  rw [hm1.2.1]
  refine pw_cV2 44 rfl rfl (by first | assumption | exact ⟨by decide, rfl⟩) rfl (Nat.le_of_ble_eq_true rfl) rfl rfl (Nat.le_of_ble_eq_true rfl) (c_go b6 s3 hbk1 (by omega) (kds_ok hbk1) r1 s2 hm1.1 hm1.2.2.2 hm1.2.2.1 (by omega) hm1.2.2.1 hon (fun M2 f2 r2 => ?_))
  refine pw_pV ?_
  refine pw_aload_n 45 rfl rfl rfl ?_
  refine pw_getR 48 rfl rfl (by first | assumption | exact ⟨by decide, rfl⟩) rfl ?_
  refine pw_getR 51 rfl rfl (by first | assumption | exact ⟨by decide, rfl⟩) rfl ?_
  exact pw_aret rfl (kk M2 ((f1.wk (by omega) (by omega)).tr (f2.wk (by omega) (by omega))) r2 (hx1.scr f2 (by omega) (by omega)))
end APP
end
section
theorem stIs.line {M M' : pmM} {k : Nat} {s : aS} {ls ss : List Int32} (h : stIs M k s) (hf : fr (k + 3) (k + 7) M M') (hl : lineIs M' (k + 2) ls ss) (h1 : ls.length ≤ 60) (h2 : ss.length = ls.length) : stIs M' k ((ls, ss, s.1.2.2), s.2) := by
  obtain ⟨a1, a2, a3⟩ := h
  exact ⟨⟨hl, by rw [hf (k + 1) (by omega)]; exact a1.2.1, h1, h2⟩, a2.mv hf (by omega), a3.mv hf (by omega)⟩
theorem stIs.on {M : pmM} {k on : Nat} {s : aS} (h : stIs M k s) : stIs (pmSt M (k + 1) 1 (nI on)) k ((s.1.1, s.1.2.1, on), s.2) := by
  obtain ⟨a1, a2, a3⟩ := h
  have hf : fr (k + 1) (k + 2) M (pmSt M (k + 1) 1 (nI on)) := fr_st M 1 _ (by omega) (by omega)
  exact ⟨⟨a1.1.mv hf (by omega), st_same _ _ _ _, a1.2.2⟩, a2.mv hf (by omega), a3.mv hf (by omega)⟩
theorem appIs.mvs {M M' : pmM} {N : pmN} {k : Nat} {a : aW} (h : appIs M N k a) (hM : ∀ x, x ≠ k + 1 → (x < k + 232 ∨ k + 315 ≤ x) → M' x = M x) : appIs M' N k a := by
  have f1 : fr (k + 232) (k + 315) M (va_up M' (k + 1) (M (k + 1))) := by
    intro x hx
    by_cases q : x = k + 1
    · subst q; rw [va_up_self]
    · rw [va_up_ne _ _ q]; exact hM x q hx
  have f2 : fr (k + 1) (k + 2) (va_up M' (k + 1) (M (k + 1))) M' := fun x hx => by rw [va_up_ne _ _ (by omega)]
  exact (h.scr f1 (by omega) (by omega)).tap f2
def vUses (a : aW) (r : Int32) : Int32 := gI (a.us a.on) r
def vIdle (a : aW) : Nat := bs (fun r => decide ((a.us a.on).getD r 0 = 0)) a.rs.length &&& a.on
def vGo (a : aW) (s : Nat) : Int32 × aW := if 60 < (a.mL (s &&& a.on)).length then (-3, a) else (sumI (a.us (s &&& a.on)), wNow a ((a.mL (s &&& a.on), a.mS (s &&& a.on), a.on), a.rs, (a.now.1 :: a.now.2.2).take 8))
section APQ
variable {sh : pmS} {M : pmM} {N : pmN} {Q : pmPost} {k : Nat} {a : aW}
theorem us_len (a : aW) (s : Nat) : (a.us s).length = a.rs.length := by rw [uCt_len, List.length_replicate]
theorem c_usesOf {r : Int32} (hb : isApp sh k) (hw : wfW a) (hx : appIs M N k a) (kk : pst k sh M N Q (.int (vUses a r)) a) : PW mX10_usesOf 0 [.ref k, .int r] [] sh M N Q := by
  have b0 := hb.1
  have b6 := hb.2.2.2.2.2.2.1
  have wk0 := b6.1
  have w5 := b6.2.2.2.2.2.1
  have w5' := w5.1
  have h10 : a.rs.length ≤ 10 := hx.2.1.2.1.2.1
  have er : a.rs.length = a.now.2.1.length := rfl
  refine pw_aload_n 1 rfl rfl rfl ?_
  refine pw_cV0 4 rfl rfl (by first | assumption | exact ⟨by decide, rfl⟩) rfl (Nat.le_of_ble_eq_true rfl) rfl rfl (Nat.le_of_ble_eq_true rfl) (c_whatComes hb hw hx (fun M1 f1 g1 x1 => ?_))
  refine pw_pR ?_
  refine pw_pop 5 rfl rfl rfl ?_
  refine pw_aload_n 6 rfl rfl rfl ?_
  refine pw_getR 9 rfl rfl (by first | assumption | exact ⟨by decide, rfl⟩) rfl ?_
  refine pw_getR 12 rfl rfl (by first | assumption | exact ⟨by decide, rfl⟩) rfl ?_
  refine pw_iload_n 13 rfl rfl rfl ?_
  refine pw_cV1 16 rfl rfl (by first | assumption | exact ⟨by decide, rfl⟩) rfl (Nat.le_of_ble_eq_true rfl) rfl rfl (Nat.le_of_ble_eq_true rfl) (c_Row_get w5 g1.2.2 (by rw [us_len]; exact h10) _ ?_)
  refine pw_pI ?_
  skip
  exact pw_iret rfl rfl (kk.go (f1.wk (by omega) (by omega)) x1)
theorem idle_loop (hb : isApp sh k) (hx : appIs M N k a) (hu : rowIs M (k + 300) (a.us a.on)) (kk : Q (some (.int (nI (vIdle a)))) sh M N) :
    ∀ (d i : Nat), i + d = a.rs.length → PW mX10_idleRules 9 [.ref k, .int (nI (bs (fun r => decide ((a.us a.on).getD r 0 = 0)) i)), .int (nI i)] [] sh M N Q := by
  have b0 := hb.1
  have b6 := hb.2.2.2.2.2.2.1
  have wk0 := b6.1
  have w5 := b6.2.2.2.2.2.1
  have w5' := w5.1
  have h10 : a.rs.length ≤ 10 := hx.2.1.2.1.2.1
  have er : a.rs.length = a.now.2.1.length := rfl
  have s0 := hb.2.2.1.1
  have s1 := hb.2.2.1.2.1.1
  have s3 := hb.2.2.1.2.2.1
  have s3' := s3.1
  intro d
  induction d with
  | zero =>
    intro i hi
    have : i = a.rs.length := by omega
    subst this
    refine pw_iload_n 10 rfl rfl rfl ?_
    refine pw_aload_n 11 rfl rfl rfl ?_
    refine pw_getR 14 rfl rfl (by first | assumption | exact ⟨by decide, rfl⟩) rfl ?_
    refine pw_getR 17 rfl rfl (by first | assumption | exact ⟨by decide, rfl⟩) rfl ?_
    refine pw_cV0 20 rfl rfl (by first | assumption | exact ⟨by decide, rfl⟩) rfl (Nat.le_of_ble_eq_true rfl) rfl rfl (Nat.le_of_ble_eq_true rfl) (c_Book_size s3 hx.2.1.2.1 ?_)
    refine pw_pI ?_
    skip
    refine pw_icmp_ge_t 49 rfl rfl (nI_le (by omega) (by omega)) ?_
    refine pw_iload_n 50 rfl rfl rfl ?_
    refine pw_aload_n 51 rfl rfl rfl ?_
    refine pw_getR 54 rfl rfl (by first | assumption | exact ⟨by decide, rfl⟩) rfl ?_
    refine pw_getR 57 rfl rfl (by first | assumption | exact ⟨by decide, rfl⟩) rfl ?_
    refine pw_getI 60 rfl rfl (by first | assumption | exact ⟨by decide, rfl⟩) rfl ?_
    rw [hx.2.1.1.2.1]
    refine pw_iand 61 rfl rfl ?_
    rw [and_v]
    skip
    exact pw_iret rfl rfl (kk)
  | succ d ih =>
    intro i hi
    have hlt := bs_lt (fun r => decide ((a.us a.on).getD r 0 = 0)) i
    have hlt2 := lt_1024 hlt (by omega)
    have := ih (i + 1) (by omega)
    rw [bs] at this
    refine pw_iload_n 10 rfl rfl rfl ?_
    refine pw_aload_n 11 rfl rfl rfl ?_
    refine pw_getR 14 rfl rfl (by first | assumption | exact ⟨by decide, rfl⟩) rfl ?_
    refine pw_getR 17 rfl rfl (by first | assumption | exact ⟨by decide, rfl⟩) rfl ?_
    refine pw_cV0 20 rfl rfl (by first | assumption | exact ⟨by decide, rfl⟩) rfl (Nat.le_of_ble_eq_true rfl) rfl rfl (Nat.le_of_ble_eq_true rfl) (c_Book_size s3 hx.2.1.2.1 ?_)
    refine pw_pI ?_
    skip
    refine pw_icmp_ge_f 23 rfl rfl (nI_ge (by omega) (by omega)) ?_
    refine pw_aload_n 24 rfl rfl rfl ?_
    refine pw_getR 27 rfl rfl (by first | assumption | exact ⟨by decide, rfl⟩) rfl ?_
    refine pw_getR 30 rfl rfl (by first | assumption | exact ⟨by decide, rfl⟩) rfl ?_
    refine pw_iload_n 31 rfl rfl rfl ?_
    refine pw_cV1 34 rfl rfl (by first | assumption | exact ⟨by decide, rfl⟩) rfl (Nat.le_of_ble_eq_true rfl) rfl rfl (Nat.le_of_ble_eq_true rfl) (c_Row_get w5 hu (by rw [us_len]; exact h10) _ ?_)
    rw [gI_n (by omega)]
    refine pw_pI ?_
    skip
    refine pw_if_ne 43 37 rfl rfl rfl (fun q => ?_) (fun q => ?_)
    · rw [if_neg (by rw [decide_eq_true_eq]; exact q), Nat.add_zero] at this
      first | refine pw_iincN2 46 rfl rfl rfl (by with_reducible rfl) ?_ | refine pw_iinc2 (w := _) 46 rfl rfl rfl rfl ?_
      refine pw_goto rfl 9 rfl ?_
      exact this
    · rw [if_pos (decide_eq_true (Decidable.not_not.mp q))] at this
      refine pw_iload_n 38 rfl rfl rfl ?_
      refine pw_iconst (v := nI 1) 39 rfl rfl (by decide) ?_
      refine pw_iload_n 40 rfl rfl rfl ?_
      refine pw_ishl 41 rfl rfl ?_
      refine pw_ior 42 rfl rfl ?_
      rw [or_bit i (by omega) _ hlt2 hlt]
      refine pw_istore1 43 rfl rfl rfl ?_
      first | refine pw_iincN2 46 rfl rfl rfl (by with_reducible rfl) ?_ | refine pw_iinc2 (w := _) 46 rfl rfl rfl rfl ?_
      refine pw_goto rfl 9 rfl ?_
      exact this
theorem c_idleRules (hb : isApp sh k) (hw : wfW a) (hx : appIs M N k a) (kk : pst k sh M N Q (.int (nI (vIdle a))) a) : PW mX10_idleRules 0 [.ref k, .null, .null] [] sh M N Q := by
  have b0 := hb.1
  refine pw_aload_n 1 rfl rfl rfl ?_
  refine pw_cV0 4 rfl rfl (by first | assumption | exact ⟨by decide, rfl⟩) rfl (Nat.le_of_ble_eq_true rfl) rfl rfl (Nat.le_of_ble_eq_true rfl) (c_whatComes hb hw hx (fun M1 f1 g1 x1 => ?_))
  refine pw_pR ?_
  refine pw_pop 5 rfl rfl rfl ?_
  refine pw_iconst (v := nI 0) 6 rfl rfl (by decide) ?_
  refine pw_istore1 7 rfl rfl rfl ?_
  refine pw_iconst (v := nI 0) 8 rfl rfl (by decide) ?_
  refine pw_istore2 9 rfl rfl rfl ?_
  exact idle_loop hb x1 g1.2.2 (kk.go (f1.wk (by omega) (by omega)) x1) a.rs.length 0 (by omega)
theorem c_goThrough {s : Nat} (hb : isApp sh k) (hw : wfW a) (hx : appIs M N k a) (kk : pst k sh M N Q (.int (vGo a s).1) (vGo a s).2) : PW mX10_goThrough 0 [.ref k, .int (nI s), .null] [] sh M N Q := by
  obtain ⟨b0, b1, b2, b3, b4, b5, b6, b7, b8, b9, b10⟩ := hb
  have s0 := b2.1
  have s1 := b2.2.1.1
  have s2 := b2.2.1.2
  have s2' := s2.1
  have s3 := b2.2.2.1
  have wk0 := b6.1
  have w5 := b6.2.2.2.2.2.1
  have w5' := w5.1
  have w6 := b6.2.2.2.2.2.2
  have w6' := w6.1
  have hm := hx.2.1.1
  have hbk := hx.2.1.2.1
  have h10 : a.rs.length ≤ 10 := hbk.2.1
  have er : a.rs.length = a.now.2.1.length := rfl
  have em : (outL a.now.2.1 (kds a.now.2.1) a.now.1.1 (tr a.now.2.1 (kds a.now.2.1) a.now.1.1 0 (s &&& a.now.1.2.2))).length = (a.mL (s &&& a.on)).length := rfl
  have hon := wf_on hw hx
  have hsn : s &&& a.on < 1024 := Nat.lt_of_le_of_lt Nat.and_le_right hon
  refine pw_aload_n 1 rfl rfl rfl ?_
  refine pw_getR 4 rfl rfl (by first | assumption | exact ⟨by decide, rfl⟩) rfl ?_
  refine pw_getR 7 rfl rfl (by first | assumption | exact ⟨by decide, rfl⟩) rfl ?_
  refine pw_getR 10 rfl rfl (by first | assumption | exact ⟨by decide, rfl⟩) rfl ?_
  refine pw_astore2 11 rfl rfl rfl ?_
  refine pw_aload_n 12 rfl rfl rfl ?_
  refine pw_getR 15 rfl rfl (by first | assumption | exact ⟨by decide, rfl⟩) rfl ?_
  refine pw_aload_n 16 rfl rfl rfl ?_
  refine pw_cV1 19 rfl rfl (by first | assumption | exact ⟨by decide, rfl⟩) rfl (Nat.le_of_ble_eq_true rfl) rfl rfl (Nat.le_of_ble_eq_true rfl) (c_prepare b6 s3 hbk (by omega) s2 hm.1 hm.2.2.1 (by omega) hm.2.2.1 (fun M1 f1 r1 => ?_))
  refine pw_pV ?_
  have hx1 := hx.scr f1 (by omega) (by omega)
  have hm1 := hx1.2.1.1
  have hbk1 := hx1.2.1.2.1
  refine pw_aload_n 20 rfl rfl rfl ?_
  refine pw_getR 23 rfl rfl (by first | assumption | exact ⟨by decide, rfl⟩) rfl ?_
  refine pw_aload_n 24 rfl rfl rfl ?_
  refine pw_iload_n 25 rfl rfl rfl ?_
  refine pw_aload_n 26 rfl rfl rfl ?_
  refine pw_getR 29 rfl rfl (by first | assumption | exact ⟨by decide, rfl⟩) rfl ?_
  refine pw_getR 32 rfl rfl (by first | assumption | exact ⟨by decide, rfl⟩) rfl ?_
  refine pw_getI 35 rfl rfl (by first | assumption | exact ⟨by decide, rfl⟩) rfl ?_
  rw [hm1.2.1]
  refine pw_iand 36 rfl rfl ?_
  rw [and_v]
  skip
  refine pw_cV2 39 rfl rfl (by first | assumption | exact ⟨by decide, rfl⟩) rfl (Nat.le_of_ble_eq_true rfl) rfl rfl (Nat.le_of_ble_eq_true rfl) (c_go b6 s3 hbk1 (by omega) (kds_ok hbk1) r1 s2 hm1.1 hm1.2.2.2 hm1.2.2.1 (by omega) hm1.2.2.1 hsn (fun M2 f2 r2 => ?_))
  refine pw_pV ?_
  have hx2 := hx1.scr f2 (by omega) (by omega)
  have f12 := (f1.wk (c := k + 5) (d := k + 307) (by omega) (by omega)).tr (f2.wk (by omega) (by omega))
  have hole : (a.mL (s &&& a.on)).length ≤ 360 := by
    have := outL_le (rs := a.rs) (kds a.rs) a.ls (fun r => by
      by_cases q : r < a.rs.length
      · exact (bk_at hbk q).2.2.2.2
      · unfold pGf gR; rw [List.getD_eq_getElem?_getD, List.getElem?_eq_none (by omega)]; exact Nat.zero_le _) (a.ls.length - 0) 0 (s &&& a.on)
    have h60 := hm.2.2.1
    have e : (a.mL (s &&& a.on)).length ≤ 6 * (a.ls.length - 0) := this
    have e2 : a.ls.length ≤ 60 := h60
    omega
  unfold vGo at kk
  refine pw_aload_n 40 rfl rfl rfl ?_
  refine pw_getR 43 rfl rfl (by first | assumption | exact ⟨by decide, rfl⟩) rfl ?_
  refine pw_getR 46 rfl rfl (by first | assumption | exact ⟨by decide, rfl⟩) rfl ?_
  refine pw_cV0 49 rfl rfl (by first | assumption | exact ⟨by decide, rfl⟩) rfl (Nat.le_of_ble_eq_true rfl) rfl rfl (Nat.le_of_ble_eq_true rfl) (c_Line_size w6 r2.1 ?_)
  refine pw_pI ?_
  refine pw_bipush (v := nI 60) 51 rfl rfl (by decide) ?_
  by_cases q : 60 < (a.mL (s &&& a.on)).length
  · rw [if_pos q] at kk
    skip
    refine pw_icmp_le_f 54 rfl rfl (nI_ge q (by omega)) ?_
    refine pw_bipush (v := (-3)) 56 rfl rfl (by decide) ?_
    exact pw_iret rfl rfl (kk.go (f12.wk (by omega) (by omega)) hx2)
  · rw [if_neg q] at kk
    skip
    refine pw_icmp_le_t 57 rfl rfl (nI_le (by omega) (by omega)) ?_
    refine pw_aload_n 58 rfl rfl rfl ?_
    refine pw_getR 61 rfl rfl (by first | assumption | exact ⟨by decide, rfl⟩) rfl ?_
    refine pw_cV0 64 rfl rfl (by first | assumption | exact ⟨by decide, rfl⟩) rfl (Nat.le_of_ble_eq_true rfl) rfl rfl (Nat.le_of_ble_eq_true rfl) (c_State_remember b2 hx2.2.1 (fun M3 f3 r3 => ?_))
    refine pw_pV ?_
    refine pw_aload_n 65 rfl rfl rfl ?_
    refine pw_aload_n 66 rfl rfl rfl ?_
    refine pw_getR 69 rfl rfl (by first | assumption | exact ⟨by decide, rfl⟩) rfl ?_
    refine pw_getR 72 rfl rfl (by first | assumption | exact ⟨by decide, rfl⟩) rfl ?_
    have el : (a.mS (s &&& a.on)).length = (a.mL (s &&& a.on)).length := (out_len a.rs (kds a.rs) a.ls a.ss _).symm
    refine pw_cV1 75 rfl rfl (by first | assumption | exact ⟨by decide, rfl⟩) rfl (Nat.le_of_ble_eq_true rfl) rfl rfl (Nat.le_of_ble_eq_true rfl) (c_Line_takeFrom s2 w6 (r2.1.mv f3 (by omega)) (by omega) (Nat.le_of_not_lt q) hole (by rw [el]; omega) (by rw [el]; exact hole) (fun M4 f4 r4 => ?_))
    refine pw_pV ?_
    refine pw_aload_n 76 rfl rfl rfl ?_
    refine pw_getR 79 rfl rfl (by first | assumption | exact ⟨by decide, rfl⟩) rfl ?_
    refine pw_getR 82 rfl rfl (by first | assumption | exact ⟨by decide, rfl⟩) rfl ?_
    refine pw_cV0 85 rfl rfl (by first | assumption | exact ⟨by decide, rfl⟩) rfl (Nat.le_of_ble_eq_true rfl) rfl rfl (Nat.le_of_ble_eq_true rfl) (c_Row_sum w5 ((r2.2.2.mv f3 (by omega)).mv f4 (by omega)) (by rw [us_len]; exact h10) ?_)
    refine pw_pI ?_
    skip
    have f34 := (f3.wk (c := k + 5) (d := k + 118) (by omega) (by omega)).tr (f4.wk (by omega) (by omega))
    exact pw_iret rfl rfl (kk.go ((f12.wk (by omega) (by omega)).tr (f34.wk (by omega) (by omega))) (hx2.now f34 (r3.line (f4.wk (by omega) (by omega)) r4 (Nat.le_of_not_lt q) el)))
def vJob (a : aW) : Int32 × aW := match rdRs a.tp 10 (rdL a.tp 60 0).2 [] with
  | (some rs, _) => (nI rs.length, wPs (wNow (wTp a []) (((rdL a.tp 60 0).1, plc (rdL a.tp 60 0).1.length, 2 ^ rs.length - 1), rs, [])) none)
  | (none, q) => ((-20) - nI (sk a.tp q), wTp a [])
theorem c_job (hb : isApp sh k) (hw : wfW a) (hx : appIs M N k a) (kk : pst k sh M N Q (.int (vJob a).1) (vJob a).2) : PW mX10_job 0 [.ref k, .null, .null] [] sh M N Q := by
  obtain ⟨b0, b1, b2, b3, b4, b5, b6, b7, b8, b9, b10⟩ := hb
  have t0 := b1.1
  have t1 := b1.2
  have t1' := t1.1
  have s0 := b2.1
  have s3 := b2.2.2.1
  have s3' := s3.1
  have hl := hw.1
  have ht := hw.2.1
  have hrl := rdL_len a.tp 60 0
  have hq2 := (rdRs_ok a.tp 10 (rdL a.tp 60 0).2 [] (hrl.2 (Nat.zero_le _)) (fun r hr => absurd hr (by simp))).2
  unfold vJob at kk
  refine pw_aload_n 1 rfl rfl rfl ?_
  refine pw_getR 4 rfl rfl (by first | assumption | exact ⟨by decide, rfl⟩) rfl ?_
  refine pw_cV0 7 rfl rfl (by first | assumption | exact ⟨by decide, rfl⟩) rfl (Nat.le_of_ble_eq_true rfl) rfl rfl (Nat.le_of_ble_eq_true rfl) (c_Tape_rewind b1 (fun M1 f1 p1 => ?_))
  refine pw_pV ?_
  have x1 := hx.tap f1
  refine pw_aload_n 8 rfl rfl rfl ?_
  refine pw_getR 11 rfl rfl (by first | assumption | exact ⟨by decide, rfl⟩) rfl ?_
  refine pw_aload_n 12 rfl rfl rfl ?_
  refine pw_getR 15 rfl rfl (by first | assumption | exact ⟨by decide, rfl⟩) rfl ?_
  refine pw_cV1 18 rfl rfl (by first | assumption | exact ⟨by decide, rfl⟩) rfl (Nat.le_of_ble_eq_true rfl) rfl rfl (Nat.le_of_ble_eq_true rfl) (c_Tape_readLetters b1 hl x1.1 (Nat.zero_le _) p1 b4 (by omega) (fun M2 f2 r2 p2 => ?_))
  refine pw_pV ?_
  have x2 := x1.mvs (fun x h1 h2 => f2 x h1 (by omega))
  refine pw_aload_n 19 rfl rfl rfl ?_
  refine pw_getR 22 rfl rfl (by first | assumption | exact ⟨by decide, rfl⟩) rfl ?_
  refine pw_aload_n 23 rfl rfl rfl ?_
  refine pw_getR 26 rfl rfl (by first | assumption | exact ⟨by decide, rfl⟩) rfl ?_
  refine pw_cV1 29 rfl rfl (by first | assumption | exact ⟨by decide, rfl⟩) rfl (Nat.le_of_ble_eq_true rfl) rfl rfl (Nat.le_of_ble_eq_true rfl) (c_Tape_readRules b1 hl ht x2.1 (hrl.2 (Nat.zero_le _)) p2 b5 (by omega) (fun M3 f3 p3 e3 => ?_) (fun rs M3 f3 p3 e3 r3 => ?_))
  · refine pw_pI ?_
    have x3 := x2.mvs (fun x h1 h2 => f3 x h1 (by omega))
    refine pw_istore1 30 rfl rfl rfl ?_
    refine pw_aload_n 31 rfl rfl rfl ?_
    refine pw_getR 34 rfl rfl (by first | assumption | exact ⟨by decide, rfl⟩) rfl ?_
    refine pw_cV0 37 rfl rfl (by first | assumption | exact ⟨by decide, rfl⟩) rfl (Nat.le_of_ble_eq_true rfl) rfl rfl (Nat.le_of_ble_eq_true rfl) (c_Tape_fault b1 hl x3.1 hq2 p3 (fun M4 f4 => ?_))
    refine pw_pI ?_
    have x4 := x3.tap f4
    refine pw_istore2 38 rfl rfl rfl ?_
    refine pw_aload_n 39 rfl rfl rfl ?_
    refine pw_getR 42 rfl rfl (by first | assumption | exact ⟨by decide, rfl⟩) rfl ?_
    refine pw_getR 45 rfl rfl (by first | assumption | exact ⟨by decide, rfl⟩) rfl ?_
    refine pw_cV0 48 rfl rfl (by first | assumption | exact ⟨by decide, rfl⟩) rfl (Nat.le_of_ble_eq_true rfl) rfl rfl (Nat.le_of_ble_eq_true rfl) (c_Row_clear t1 (fun M5 f5 r5 => ?_))
    refine pw_pV ?_
    refine pw_iload_n 49 rfl rfl rfl ?_
    refine pw_if_ne_f 52 rfl rfl (by decide) ?_
    refine pw_iload_n 53 rfl rfl rfl ?_
    have e : rdRs a.tp 10 (rdL a.tp 60 0).2 [] = (none, (rdRs a.tp 10 (rdL a.tp 60 0).2 []).2) := Prod.ext e3 rfl
    rw [e] at kk
    refine pw_iret rfl rfl (kk.go ?_ (x4.tape (f5.wk (by omega) (by omega)) r5))
    intro x hx
    rw [f5 x (by omega), f4 x (by omega), f3 x (by omega) (by omega), f2 x (by omega) (by omega), f1 x (by omega)]
  · refine pw_pI ?_
    have x3 := x2.mvs (fun x h1 h2 => f3 x h1 (by omega))
    refine pw_istore1 30 rfl rfl rfl ?_
    refine pw_aload_n 31 rfl rfl rfl ?_
    refine pw_getR 34 rfl rfl (by first | assumption | exact ⟨by decide, rfl⟩) rfl ?_
    refine pw_cV0 37 rfl rfl (by first | assumption | exact ⟨by decide, rfl⟩) rfl (Nat.le_of_ble_eq_true rfl) rfl rfl (Nat.le_of_ble_eq_true rfl) (c_Tape_fault b1 hl x3.1 hq2 p3 (fun M4 f4 => ?_))
    refine pw_pI ?_
    have x4 := x3.tap f4
    refine pw_istore2 38 rfl rfl rfl ?_
    refine pw_aload_n 39 rfl rfl rfl ?_
    refine pw_getR 42 rfl rfl (by first | assumption | exact ⟨by decide, rfl⟩) rfl ?_
    refine pw_getR 45 rfl rfl (by first | assumption | exact ⟨by decide, rfl⟩) rfl ?_
    refine pw_cV0 48 rfl rfl (by first | assumption | exact ⟨by decide, rfl⟩) rfl (Nat.le_of_ble_eq_true rfl) rfl rfl (Nat.le_of_ble_eq_true rfl) (c_Row_clear t1 (fun M5 f5 r5 => ?_))
    refine pw_pV ?_
    have x5 := x4.tape (f5.wk (by omega) (by omega)) r5
    refine pw_iload_n 49 rfl rfl rfl ?_
    refine pw_if_ne_t 54 rfl rfl (by decide) ?_
    refine pw_aload_n 55 rfl rfl rfl ?_
    refine pw_getR 58 rfl rfl (by first | assumption | exact ⟨by decide, rfl⟩) rfl ?_
    refine pw_aload_n 59 rfl rfl rfl ?_
    refine pw_getR 62 rfl rfl (by first | assumption | exact ⟨by decide, rfl⟩) rfl ?_
    refine pw_aload_n 63 rfl rfl rfl ?_
    refine pw_getR 66 rfl rfl (by first | assumption | exact ⟨by decide, rfl⟩) rfl ?_
    have e : rdRs a.tp 10 (rdL a.tp 60 0).2 [] = (some rs, (rdRs a.tp 10 (rdL a.tp 60 0).2 []).2) := Prod.ext e3 rfl
    rw [e] at kk
    have r2' : rowIs M5 (k + 232) (rdL a.tp 60 0).1 := ((r2.eq (f3 _ (by omega) (by omega)) (f3 _ (by omega) (by omega))).mv f4 (by omega)).mv f5 (by omega)
    refine pw_cV2 69 rfl rfl (by first | assumption | exact ⟨by decide, rfl⟩) rfl (Nat.le_of_ble_eq_true rfl) rfl rfl (Nat.le_of_ble_eq_true rfl) (c_State_begin b2 ⟨_, x5.2.1.2.2⟩ b4 r2' hrl.1 hrl.1 (by omega) b5 ((r3.mv f4 (by omega)).mv f5 (by omega)) (by omega) (fun M6 f6 r6 => ?_))
    refine pw_pV ?_
    have x6 := x5.now (f6.wk (by omega) (by omega)) r6
    refine pw_aload_n 70 rfl rfl rfl ?_
    refine pw_bipush (v := (-4)) 72 rfl rfl (by decide) ?_
    refine pw_putI 75 rfl rfl (by first | assumption | exact ⟨by decide, rfl⟩) rfl (by decide) ?_
    refine pw_aload_n 76 rfl rfl rfl ?_
    refine pw_getR 79 rfl rfl (by first | assumption | exact ⟨by decide, rfl⟩) rfl ?_
    refine pw_getR 82 rfl rfl (by first | assumption | exact ⟨by decide, rfl⟩) rfl ?_
    refine pw_cV0 85 rfl rfl (by first | assumption | exact ⟨by decide, rfl⟩) rfl (Nat.le_of_ble_eq_true rfl) rfl rfl (Nat.le_of_ble_eq_true rfl) (c_Book_size s3 (x6.sort none).2.1.2.1 ?_)
    refine pw_pI ?_
    skip
    refine pw_iret rfl rfl (kk.go ?_ (x6.sort none))
    intro x hx
    rw [st_ne _ _ _ _ (by omega), f6 x (by omega), f5 x (by omega), f4 x (by omega), f3 x (by omega) (by omega), f2 x (by omega) (by omega), f1 x (by omega)]
end APQ
end
section
/-- a number as a place below a bound -/
def ix (x : Int32) (b : Nat) : Option Nat := if x < 0 then none else if x.toNatClampNeg < b then some x.toNatClampNeg else none
theorem ix_some {b j : Nat} (h : j < b) (hb : b < 2 ^ 31) : ix (nI j) b = some j := by
  unfold ix
  rw [if_neg (nI_pos (by omega)), nI_clamp (by omega), if_pos h]
theorem ix_none {b : Nat} {x : Int32} (h : ∀ j, j < b → x ≠ nI j) : ix x b = none := by
  unfold ix
  rcases i_cases x with hx | ⟨j, hj, rfl⟩
  · rw [if_pos hx]
  · rw [if_neg (nI_pos hj), nI_clamp hj, if_neg (fun q => h j q rfl)]
theorem ix_ex {b : Nat} (hb : b < 2 ^ 31) (x : Int32) : (∃ j, j < b ∧ x = nI j ∧ ix x b = some j) ∨ ((∀ j, j < b → x ≠ nI j) ∧ ix x b = none) := by
  by_cases h : ∃ j, j < b ∧ x = nI j
  · obtain ⟨j, hj, rfl⟩ := h
    exact Or.inl ⟨j, hj, rfl, ix_some hj hb⟩
  · have h2 : ∀ j, j < b → x ≠ nI j := fun j hj e => h ⟨j, hj, e⟩
    exact Or.inr ⟨h2, ix_none h2⟩
theorem ts_out {pc n : Nat} {d : Int} {offs : Array Int} {x : Int32} (q : Nat) (h : ∀ j, j < n + 1 → x ≠ nI j) (hn : n < 1000) (hq : (pc : Int) + d = q) : pmTs pc d 0 n offs x = some q := by
  unfold pmTs
  have h1 : x.toInt < 0 ∨ (n : Int) < x.toInt := by
    rcases i_cases x with hx | ⟨j, hj, rfl⟩
    · exact Or.inl (neg_int hx)
    · refine Or.inr ?_
      rw [nI_int hj]
      have : ¬ j < n + 1 := fun q => h j q rfl
      omega
  simp only [if_pos h1, Option.bind_some]
  rw [if_pos (by omega), hq]; rfl
def vRule (a : aW) : Int32 × aW := match rdR a.tp 0 with
  | (some r, q) => if cur a.tp q = none then (if a.rs.length = 10 then (-3, wTp a []) else (nI a.rs.length, wNow (wTp a []) ((a.ls, a.ss, a.on + 2 ^ a.rs.length), a.rs ++ [r], []))) else ((-20) - nI (sk a.tp q), wTp a [])
  | (none, q) => ((-20) - nI (sk a.tp q), wTp a [])
def vOf (a : aW) (r w : Int32) : Int32 := match ix r a.rs.length with
  | none => -1
  | some j => if w = nI 0 then nI (gR a.rs j).1 else if w = nI 1 then nI (pPh a.rs j).length else if w = nI 2 then nI (pGf a.rs j).length else if w = nI 3 then nI (if a.on.testBit j then 1 else 0) else if w = nI 4 then (a.us a.on).getD j 0 else -1
def vSpelt (a : aW) (r w x : Int32) : Int32 := match ix r a.rs.length, ix w 2, ix x 6 with
  | some j, some 0, some i => if i < (pPh a.rs j).length then (pPh a.rs j).getD i 0 else -4
  | some j, some _, some i => if i < (pGf a.rs j).length then (giv (gR a.rs j).1 (pGf a.rs j)).getD i 0 else -4
  | _, _, _ => -1
def vAt (a : aW) (p w : Int32) : Int32 := match ix p a.ls.length, ix w 2 with
  | some i, some 0 => a.ls.getD i 0
  | some i, some _ => a.ss.getD i 0
  | _, _ => -1
section APR
variable {sh : pmS} {M : pmM} {N : pmN} {Q : pmPost} {k : Nat} {a : aW}
theorem c_rule (hb : isApp sh k) (hw : wfW a) (hx : appIs M N k a) (kk : pst k sh M N Q (.int (vRule a).1) (vRule a).2) : PW mX10_rule 0 [.ref k, .null, .null, .null] [] sh M N Q := by
  obtain ⟨b0, b1, b2, b3, b4, b5, b6, b7, b8, b9, b10⟩ := hb
  have t0 := b1.1
  have t1 := b1.2
  have t1' := t1.1
  have s0 := b2.1
  have s3 := b2.2.2.1
  have s3' := s3.1
  have b5' := b5.1
  have d0 := b5.2.2 0 (by decide)
  have d0' := d0.1
  have hl := hw.1
  have ht := hw.2.1
  have hok := rdR_ok (tp := a.tp) (p := 0) (Nat.zero_le _)
  have h10 : a.rs.length ≤ 10 := hx.2.1.2.1.2.1
  unfold vRule at kk
  have fin : ∀ (M3 M0 : pmM) (p : Nat), (∀ x, (x < k ∨ k + 323 ≤ x) → M3 x = M x) → p ≤ a.tp.length → M3 (k + 1) 1 = nI p → appIs M3 N k a → pst k sh M N Q (.int ((-20) - nI (sk a.tp p))) (wTp a []) → PW mX10_rule 44 [.ref k, .ref (k + 234 + 7 + 5 * 0), .int (nI 0), .null] [] sh M3 N Q := by
    intro M3 M0 p f3 hp p3 x3 kk
    refine pw_aload_n 45 rfl rfl rfl ?_
    refine pw_getR 48 rfl rfl (by first | assumption | exact ⟨by decide, rfl⟩) rfl ?_
    refine pw_cV0 51 rfl rfl (by first | assumption | exact ⟨by decide, rfl⟩) rfl (Nat.le_of_ble_eq_true rfl) rfl rfl (Nat.le_of_ble_eq_true rfl) (c_Tape_fault b1 hl x3.1 hp p3 (fun M4 f4 => ?_))
    refine pw_pI ?_
    have x4 := x3.tap f4
    refine pw_istore3 52 rfl rfl rfl ?_
    refine pw_aload_n 53 rfl rfl rfl ?_
    refine pw_getR 56 rfl rfl (by first | assumption | exact ⟨by decide, rfl⟩) rfl ?_
    refine pw_getR 59 rfl rfl (by first | assumption | exact ⟨by decide, rfl⟩) rfl ?_
    refine pw_cV0 62 rfl rfl (by first | assumption | exact ⟨by decide, rfl⟩) rfl (Nat.le_of_ble_eq_true rfl) rfl rfl (Nat.le_of_ble_eq_true rfl) (c_Row_clear t1 (fun M5 f5 r5 => ?_))
    refine pw_pV ?_
    refine pw_iload_n 63 rfl rfl rfl ?_
    refine pw_if_ne_f 66 rfl rfl (by decide) ?_
    refine pw_iload_n 67 rfl rfl rfl ?_
    refine pw_iret rfl rfl (kk.go ?_ (x4.tape (f5.wk (by omega) (by omega)) r5))
    intro x hx
    rw [f5 x (by omega), f4 x (by omega), f3 x hx]
  refine pw_aload_n 1 rfl rfl rfl ?_
  refine pw_getR 4 rfl rfl (by first | assumption | exact ⟨by decide, rfl⟩) rfl ?_
  refine pw_iconst (v := nI 0) 5 rfl rfl (by decide) ?_
  refine pw_cV1 8 rfl rfl (by first | assumption | exact ⟨by decide, rfl⟩) rfl (Nat.le_of_ble_eq_true rfl) rfl rfl (Nat.le_of_ble_eq_true rfl) (c_Book_get b5 (i := 0) (by decide) ?_)
  refine pw_pR ?_
  refine pw_astore1 9 rfl rfl rfl ?_
  refine pw_aload_n 10 rfl rfl rfl ?_
  refine pw_getR 13 rfl rfl (by first | assumption | exact ⟨by decide, rfl⟩) rfl ?_
  refine pw_cV0 16 rfl rfl (by first | assumption | exact ⟨by decide, rfl⟩) rfl (Nat.le_of_ble_eq_true rfl) rfl rfl (Nat.le_of_ble_eq_true rfl) (c_Tape_rewind b1 (fun M1 f1 p1 => ?_))
  refine pw_pV ?_
  have x1 := hx.tap f1
  refine pw_aload_n 17 rfl rfl rfl ?_
  refine pw_getR 20 rfl rfl (by first | assumption | exact ⟨by decide, rfl⟩) rfl ?_
  refine pw_aload_n 21 rfl rfl rfl ?_
  refine pw_cV1 24 rfl rfl (by first | assumption | exact ⟨by decide, rfl⟩) rfl (Nat.le_of_ble_eq_true rfl) rfl rfl (Nat.le_of_ble_eq_true rfl) (c_Tape_readRule b1 hl x1.1 (Nat.zero_le _) p1 d0 (by omega) (fun M2 f2 p2 e2 => ?_) (fun r M2 f2 p2 e2 r2 => ?_))
  · refine pw_pI ?_
    have x2 := x1.mvs (fun x h1 h2 => f2 x h1 (by omega))
    skip
    refine pw_if_eq_t 42 rfl rfl (by decide) ?_
    refine pw_iconst (v := nI 0) 43 rfl rfl (by decide) ?_
    refine pw_istore2 44 rfl rfl rfl ?_
    have e : rdR a.tp 0 = (none, (rdR a.tp 0).2) := Prod.ext e2 rfl
    rw [e] at kk
    exact fin M2 M (rdR a.tp 0).2 (fun x hx => by rw [f2 x (by omega) (by omega), f1 x (by omega)]) hok.2 p2 x2 kk
  · refine pw_pI ?_
    have x2 := x1.mvs (fun x h1 h2 => f2 x h1 (by omega))
    have e : rdR a.tp 0 = (some r, (rdR a.tp 0).2) := Prod.ext e2 rfl
    rw [e] at kk
    skip
    refine pw_if_eq_f 27 rfl rfl (by decide) ?_
    refine pw_aload_n 28 rfl rfl rfl ?_
    refine pw_getR 31 rfl rfl (by first | assumption | exact ⟨by decide, rfl⟩) rfl ?_
    refine pw_cV0 34 rfl rfl (by first | assumption | exact ⟨by decide, rfl⟩) rfl (Nat.le_of_ble_eq_true rfl) rfl rfl (Nat.le_of_ble_eq_true rfl) (c_Tape_next b1 hl x2.1 hok.2 p2 (fun M3 f3 p3 => ?_))
    refine pw_pI ?_
    have x3 := x2.tap f3
    have f13 : ∀ x, (x < k ∨ k + 323 ≤ x) → M3 x = M x := fun x hx => by rw [f3 x (by omega), f2 x (by omega) (by omega), f1 x (by omega)]
    refine pw_iconst (v := (-1)) 35 rfl rfl (by decide) ?_
    refine pw_icmp_ne 42 38 rfl rfl rfl (fun q => ?_) (fun q => ?_)
    · have q : ¬ cur a.tp (rdR a.tp 0).2 = none := fun e => q ((cX_end ht).mpr e)
      simp only [if_neg q] at kk
      refine pw_iconst (v := nI 0) 43 rfl rfl (by decide) ?_
      refine pw_istore2 44 rfl rfl rfl ?_
      refine fin M3 M (sk a.tp (rdR a.tp 0).2) f13 (sk_le hok.2) p3 x3 ?_
      rw [sk_idem]
      exact kk
    · have q : cur a.tp (rdR a.tp 0).2 = none := (cX_end ht).mp (Decidable.not_not.mp q)
      simp only [if_pos q] at kk
      refine pw_iconst (v := nI 1) 39 rfl rfl (by decide) ?_
      refine pw_goto rfl 43 rfl ?_
      refine pw_istore2 44 rfl rfl rfl ?_
      refine pw_aload_n 45 rfl rfl rfl ?_
      refine pw_getR 48 rfl rfl (by first | assumption | exact ⟨by decide, rfl⟩) rfl ?_
      refine pw_cV0 51 rfl rfl (by first | assumption | exact ⟨by decide, rfl⟩) rfl (Nat.le_of_ble_eq_true rfl) rfl rfl (Nat.le_of_ble_eq_true rfl) (c_Tape_fault b1 hl x3.1 (sk_le hok.2) p3 (fun M4 f4 => ?_))
      refine pw_pI ?_
      have x4 := x3.tap f4
      refine pw_istore3 52 rfl rfl rfl ?_
      refine pw_aload_n 53 rfl rfl rfl ?_
      refine pw_getR 56 rfl rfl (by first | assumption | exact ⟨by decide, rfl⟩) rfl ?_
      refine pw_getR 59 rfl rfl (by first | assumption | exact ⟨by decide, rfl⟩) rfl ?_
      refine pw_cV0 62 rfl rfl (by first | assumption | exact ⟨by decide, rfl⟩) rfl (Nat.le_of_ble_eq_true rfl) rfl rfl (Nat.le_of_ble_eq_true rfl) (c_Row_clear t1 (fun M5 f5 r5 => ?_))
      refine pw_pV ?_
      have x5 := x4.tape (f5.wk (by omega) (by omega)) r5
      have f15 : ∀ x, (x < k ∨ k + 323 ≤ x) → M5 x = M x := fun x hx => by rw [f5 x (by omega), f4 x (by omega), f13 x hx]
      refine pw_iload_n 63 rfl rfl rfl ?_
      refine pw_if_ne_t 68 rfl rfl (by decide) ?_
      refine pw_aload_n 69 rfl rfl rfl ?_
      refine pw_getR 72 rfl rfl (by first | assumption | exact ⟨by decide, rfl⟩) rfl ?_
      refine pw_aload_n 73 rfl rfl rfl ?_
      refine pw_cV1 76 rfl rfl (by first | assumption | exact ⟨by decide, rfl⟩) rfl (Nat.le_of_ble_eq_true rfl) rfl rfl (Nat.le_of_ble_eq_true rfl) (c_State_addRule b2 x5.2.1 hw.2.2.1 d0 (((r2.mv f3 (by omega)).mv f4 (by omega)).mv f5 (by omega)) (hok.1 r e2) (by omega) (fun e10 => ?_) (fun M6 l10 f6 r6 => ?_))
      · refine pw_pI ?_
        have e10 : a.rs.length = 10 := e10
        rw [if_pos e10] at kk
        skip
        refine pw_if_eq_t 94 rfl rfl (by decide) ?_
        refine pw_bipush (v := (-3)) 96 rfl rfl (by decide) ?_
        exact pw_iret rfl rfl (kk.go (fun x hx => f15 x hx) x5)
      · refine pw_pI ?_
        have l10 : a.rs.length < 10 := l10
        rw [if_neg (by omega)] at kk
        have x6 := x5.now (f6.wk (by omega) (by omega)) r6
        skip
        refine pw_if_eq_f 79 rfl rfl (by decide) ?_
        refine pw_aload_n 80 rfl rfl rfl ?_
        refine pw_getR 83 rfl rfl (by first | assumption | exact ⟨by decide, rfl⟩) rfl ?_
        refine pw_getR 86 rfl rfl (by first | assumption | exact ⟨by decide, rfl⟩) rfl ?_
        refine pw_cV0 89 rfl rfl (by first | assumption | exact ⟨by decide, rfl⟩) rfl (Nat.le_of_ble_eq_true rfl) rfl rfl (Nat.le_of_ble_eq_true rfl) (c_Book_size s3 x6.2.1.2.1 ?_)
        refine pw_pI ?_
        have e9 : (a.rs ++ [r]).length = a.rs.length + 1 := by rw [List.length_append]; rfl
        rw [show nI ((wTp a []).now.2.1 ++ [r]).length = nI (a.rs.length + 1) from congrArg nI e9]
        refine pw_iconst (v := nI 1) 90 rfl rfl (by decide) ?_
        first | refine pw_isubN 91 rfl rfl (by with_reducible rfl) (by with_reducible rfl) (by omega) ?_ | refine pw_isub 91 rfl rfl ?_
        refine pw_goto rfl 96 rfl ?_
        rw [Nat.add_sub_cancel]
        exact pw_iret rfl rfl (kk.go (fun x hx => by rw [f6 x (by omega), f15 x hx]) x6)
theorem c_of {r w : Int32} (hb : isApp sh k) (hw : wfW a) (hx : appIs M N k a) (kk : pst k sh M N Q (.int (vOf a r w)) a) : PW mX10_of 0 [.ref k, .int r, .int w, .null] [] sh M N Q := by
  have hb0 := hb
  obtain ⟨b0, b1, b2, b3, b4, b5, b6, b7, b8, b9, b10⟩ := hb
  have s0 := b2.1
  have s1 := b2.2.1.1
  have s3 := b2.2.2.1
  have s3' := s3.1
  have h10 : a.rs.length ≤ 10 := hx.2.1.2.1.2.1
  have hbk : bookIs M (k + 11) a.rs := hx.2.1.2.1
  have hon := wf_on hw hx
  unfold vOf at kk
  refine pw_aload_n 1 rfl rfl rfl ?_
  refine pw_getR 4 rfl rfl (by first | assumption | exact ⟨by decide, rfl⟩) rfl ?_
  refine pw_getR 7 rfl rfl (by first | assumption | exact ⟨by decide, rfl⟩) rfl ?_
  refine pw_iload_n 8 rfl rfl rfl ?_
  refine pw_cV1 11 rfl rfl (by first | assumption | exact ⟨by decide, rfl⟩) rfl (Nat.le_of_ble_eq_true rfl) rfl rfl (Nat.le_of_ble_eq_true rfl) (c_Book_has s3 hbk (fun j hj e => ?_) (fun hn => ?_))
  · refine pw_pI ?_
    subst e
    rw [ix_some hj (by omega)] at kk
    simp only at kk
    have o1 := (s3.2.2 j (by omega)).1
    have o2 := (s3.2.2 j (by omega)).2.1
    have o3 := (s3.2.2 j (by omega)).2.2
    have o2' := o2.1
    have o3' := o3.1
    have e := bk_at hbk hj
    skip
    refine pw_if_ne_t 16 rfl rfl (by decide) ?_
    refine pw_aload_n 17 rfl rfl rfl ?_
    refine pw_getR 20 rfl rfl (by first | assumption | exact ⟨by decide, rfl⟩) rfl ?_
    refine pw_getR 23 rfl rfl (by first | assumption | exact ⟨by decide, rfl⟩) rfl ?_
    refine pw_iload_n 24 rfl rfl rfl ?_
    refine pw_cV1 27 rfl rfl (by first | assumption | exact ⟨by decide, rfl⟩) rfl (Nat.le_of_ble_eq_true rfl) rfl rfl (Nat.le_of_ble_eq_true rfl) (c_Book_get s3 (i := j) (by omega) ?_)
    refine pw_pR ?_
    refine pw_astore3 28 rfl rfl rfl ?_
    refine pw_iload_n 29 rfl rfl rfl ?_
    by_cases q0 : w = nI 0
    · rw [if_pos q0] at kk
      subst q0
      skip
      refine pw_tsw 64 rfl (rfl) ?_
      refine pw_aload_n 65 rfl rfl rfl ?_
      refine pw_getI 68 rfl rfl (by first | assumption | exact ⟨by decide, rfl⟩) rfl ?_
      rw [show M (k + 11 + 7 + 5 * j) 0 = nI (gR a.rs j).1 from e.1.1]
      exact pw_iret rfl rfl (kk.at hx)
    rw [if_neg q0] at kk
    by_cases q1 : w = nI 1
    · rw [if_pos q1] at kk
      subst q1
      skip
      refine pw_tsw 69 rfl (rfl) ?_
      refine pw_aload_n 70 rfl rfl rfl ?_
      refine pw_getR 73 rfl rfl (by first | assumption | exact ⟨by decide, rfl⟩) rfl ?_
      refine pw_cV0 76 rfl rfl (by first | assumption | exact ⟨by decide, rfl⟩) rfl (Nat.le_of_ble_eq_true rfl) rfl rfl (Nat.le_of_ble_eq_true rfl) (c_Row_size o2 e.1.2.1 ?_)
      refine pw_pI ?_
      skip
      exact pw_iret rfl rfl (kk.at hx)
    rw [if_neg q1] at kk
    by_cases q2 : w = nI 2
    · rw [if_pos q2] at kk
      subst q2
      skip
      refine pw_tsw 77 rfl (rfl) ?_
      refine pw_aload_n 78 rfl rfl rfl ?_
      refine pw_getR 81 rfl rfl (by first | assumption | exact ⟨by decide, rfl⟩) rfl ?_
      refine pw_cV0 84 rfl rfl (by first | assumption | exact ⟨by decide, rfl⟩) rfl (Nat.le_of_ble_eq_true rfl) rfl rfl (Nat.le_of_ble_eq_true rfl) (c_Row_size o3 e.1.2.2 ?_)
      refine pw_pI ?_
      skip
      exact pw_iret rfl rfl (kk.at hx)
    rw [if_neg q2] at kk
    by_cases q3 : w = nI 3
    · rw [if_pos q3] at kk
      subst q3
      skip
      refine pw_tsw 85 rfl (rfl) ?_
      refine pw_aload_n 86 rfl rfl rfl ?_
      refine pw_getR 89 rfl rfl (by first | assumption | exact ⟨by decide, rfl⟩) rfl ?_
      refine pw_getR 92 rfl rfl (by first | assumption | exact ⟨by decide, rfl⟩) rfl ?_
      refine pw_getI 95 rfl rfl (by first | assumption | exact ⟨by decide, rfl⟩) rfl ?_
      refine pw_iload_n 96 rfl rfl rfl ?_
      refine pw_ishr 97 rfl rfl ?_
      refine pw_iconst (v := nI 1) 98 rfl rfl (by decide) ?_
      refine pw_iand 99 rfl rfl ?_
      rw [hx.2.1.1.2.1, bit_v _ hon _ (by omega)]
      skip
      exact pw_iret rfl rfl (kk.at hx)
    rw [if_neg q3] at kk
    by_cases q4 : w = nI 4
    · rw [if_pos q4] at kk
      subst q4
      skip
      refine pw_tsw 100 rfl (rfl) ?_
      refine pw_aload_n 101 rfl rfl rfl ?_
      refine pw_iload_n 102 rfl rfl rfl ?_
      refine pw_cV1 105 rfl rfl (by first | assumption | exact ⟨by decide, rfl⟩) rfl (Nat.le_of_ble_eq_true rfl) rfl rfl (Nat.le_of_ble_eq_true rfl) (c_usesOf hb0 hw hx (fun M1 N1 f1 n1 x1 => ?_))
      refine pw_pI ?_
      unfold vUses
      rw [gI_n (by omega)]
      skip
      exact pw_iret rfl rfl (kk M1 N1 f1 n1 x1)
    rw [if_neg q4] at kk
    skip
    refine pw_tsw 106 rfl ((ts_out (n := 4) 106 (fun j hj => by rcases (show j = 0 ∨ j = 1 ∨ j = 2 ∨ j = 3 ∨ j = 4 by omega) with rfl | rfl | rfl | rfl | rfl <;> assumption) (by decide) rfl)) ?_
    refine pw_iconst (v := (-1)) 107 rfl rfl (by decide) ?_
    exact pw_iret rfl rfl (kk.at hx)
  · refine pw_pI ?_
    rw [ix_none hn] at kk
    skip
    refine pw_if_ne_f 14 rfl rfl (by decide) ?_
    refine pw_iconst (v := (-1)) 15 rfl rfl (by decide) ?_
    exact pw_iret rfl rfl (kk.at hx)
end APR
end
section
theorem xor_bit : ∀ s, s < 1024 → ∀ j, j < 10 → nI s ^^^ (nI 1 <<< (nI j &&& 31)) = nI (s ^^^ 2 ^ j) := by decide +kernel
theorem or_bitS : ∀ s, s < 1024 → ∀ j, j < 10 → nI s ||| (nI 1 <<< (nI j &&& 31)) = nI (s ||| 2 ^ j) := by decide +kernel
theorem and_not (x m : Int32) : x &&& (m ^^^ (-1)) = 0 ↔ x = x &&& m := by
  constructor
  · intro h
    have h := congrArg Int32.toBitVec h
    apply Int32.toBitVec_inj.mp
    apply BitVec.eq_of_getLsbD_eq
    intro i hi
    have h2 := congrArg (fun b => b.getLsbD i) h
    simp only [Int32.toBitVec_and, Int32.toBitVec_xor, BitVec.getLsbD_and, BitVec.getLsbD_xor] at h2 ⊢
    have h3 : (Int32.toBitVec (-1)).getLsbD i = true := by
      rw [show Int32.toBitVec (-1) = BitVec.allOnes 32 by decide, BitVec.getLsbD_allOnes]; exact decide_eq_true hi
    have h4 : (Int32.toBitVec 0).getLsbD i = false := by
      rw [show Int32.toBitVec 0 = 0#32 by decide, BitVec.getLsbD_zero]
    rw [h3, h4] at h2
    cases hx : x.toBitVec.getLsbD i <;> cases hm : m.toBitVec.getLsbD i <;> simp [hx, hm] at h2 ⊢
  · intro h
    apply Int32.toBitVec_inj.mp
    apply BitVec.eq_of_getLsbD_eq
    intro i hi
    have h2 := congrArg (fun b => b.getLsbD i) (congrArg Int32.toBitVec h)
    simp only [Int32.toBitVec_and, Int32.toBitVec_xor, BitVec.getLsbD_and, BitVec.getLsbD_xor] at h2 ⊢
    have h3 : (Int32.toBitVec (-1)).getLsbD i = true := by
      rw [show Int32.toBitVec (-1) = BitVec.allOnes 32 by decide, BitVec.getLsbD_allOnes]; exact decide_eq_true hi
    have h4 : (Int32.toBitVec 0).getLsbD i = false := by
      rw [show Int32.toBitVec 0 = 0#32 by decide, BitVec.getLsbD_zero]
    rw [h3, h4]
    cases hx : x.toBitVec.getLsbD i <;> cases hm : m.toBitVec.getLsbD i <;> simp [hx, hm] at h2 ⊢
theorem in_all {j n : Nat} (hj : j < 2 ^ 31) (hn : n ≤ 10) : nI j &&& (nI (2 ^ n - 1) ^^^ (-1)) = 0 ↔ j < 2 ^ n := by
  rw [and_not, and_v, Nat.and_two_pow_sub_one_eq_mod, nI_eq hj (Nat.lt_of_le_of_lt (Nat.mod_le _ _) hj)]
  constructor
  · intro h; rw [h]; exact Nat.mod_lt _ (Nat.two_pow_pos n)
  · intro h; exact (Nat.mod_eq_of_lt h).symm
def vCount (a : aW) (w : Int32) : Int32 := if w = nI 0 then nI a.ls.length else if w = nI 1 then nI a.rs.length else if w = nI 2 then nI a.on else if w = nI 3 then nI (vIdle a) else if w = nI 4 then (if a.ps = none then -4 else nI a.pset) else if w = nI 5 then rI a.ps else if w = nI 6 then nI a.now.2.2.length else -1
abbrev noted (a : aW) : List aM := (a.now.1 :: a.now.2.2).take 8
def vChange (a : aW) (p x : Int32) : Int32 × aW := match ix p a.ls.length with
  | none => (-1, a)
  | some i => if ltr x = false then (-1, a) else if a.ls.getD i 0 = x then (-2, a) else (a.ls.getD i 0, wNow a ((a.ls.set i x, a.ss, a.on), a.rs, noted a))
def vTurn (a : aW) (r : Int32) : Int32 × aW := match ix r a.rs.length with
  | none => (-1, a)
  | some j => (nI (if (a.on ^^^ 2 ^ j).testBit j then 1 else 0), wNow a ((a.ls, a.ss, a.on ^^^ 2 ^ j), a.rs, noted a))
def vPass (a : aW) (s : Int32) : Int32 × aW := match ix s (2 ^ a.rs.length) with
  | none => (-1, a)
  | some j => vGo a j
theorem rI_4 {o : Option Nat} (h : ∀ s, o = some s → s < 1000) : rI o = -4 ↔ o = none := by
  cases o with
  | none => exact ⟨fun _ => rfl, fun _ => rfl⟩
  | some s => exact ⟨fun q => absurd q (nI_m4 (h s rfl)), fun q => by cases q⟩
section APS
variable {sh : pmS} {M : pmM} {N : pmN} {Q : pmPost} {k : Nat} {a : aW}
theorem c_spelt {r w x : Int32} (hb : isApp sh k) (hw : wfW a) (hx : appIs M N k a) (kk : pst k sh M N Q (.int (vSpelt a r w x)) a) : PW mX10_spelt 0 [.ref k, .int r, .int w, .int x, .null, .null] [] sh M N Q := by
  obtain ⟨b0, b1, b2, b3, b4, b5, b6, b7, b8, b9, b10⟩ := hb
  have s0 := b2.1
  have s3 := b2.2.2.1
  have s3' := s3.1
  have h10 : a.rs.length ≤ 10 := hx.2.1.2.1.2.1
  have hbk : bookIs M (k + 11) a.rs := hx.2.1.2.1
  unfold vSpelt at kk
  have bad : pst k sh M N Q (.int (-1)) a → PW mX10_spelt 31 [.ref k, .int r, .int w, .int x, .null, .null] [] sh M N Q := by
    intro kk
    refine pw_iconst (v := (-1)) 32 rfl rfl (by decide) ?_
    exact pw_iret rfl rfl (kk.at hx)
  refine pw_aload_n 1 rfl rfl rfl ?_
  refine pw_getR 4 rfl rfl (by first | assumption | exact ⟨by decide, rfl⟩) rfl ?_
  refine pw_getR 7 rfl rfl (by first | assumption | exact ⟨by decide, rfl⟩) rfl ?_
  refine pw_iload_n 8 rfl rfl rfl ?_
  refine pw_cV1 11 rfl rfl (by first | assumption | exact ⟨by decide, rfl⟩) rfl (Nat.le_of_ble_eq_true rfl) rfl rfl (Nat.le_of_ble_eq_true rfl) (c_Book_has s3 hbk (fun j hj e => ?_) (fun hn => ?_))
  · refine pw_pI ?_
    subst e
    rw [ix_some hj (by omega)] at kk
    have o1 := (s3.2.2 j (by omega)).1
    have o2 := (s3.2.2 j (by omega)).2.1
    have o3 := (s3.2.2 j (by omega)).2.2
    have o2' := o2.1
    have o3' := o3.1
    have e := bk_at hbk hj
    have l1 : (pPh a.rs j).length ≤ 6 := e.2.2.2.1
    have l2 : (pGf a.rs j).length ≤ 6 := e.2.2.2.2
    have l1' : (gR a.rs j).2.1.length ≤ 6 := e.2.2.2.1
    have l2' : (gR a.rs j).2.2.length ≤ 6 := e.2.2.2.2
    skip
    refine pw_if_eq_f 14 rfl rfl (by decide) ?_
    refine pw_iload_n 15 rfl rfl rfl ?_
    refine pw_iconst (v := nI 2) 16 rfl rfl (by decide) ?_
    refine pw_cS2 19 rfl rfl rfl (Nat.le_of_ble_eq_true rfl) rfl rfl (Nat.le_of_ble_eq_true rfl) (c_isWithin (by decide) (fun i hi e1 => ?_) (fun hn => ?_))
    · refine pw_pI ?_
      subst e1
      rw [ix_some hi (by decide)] at kk
      skip
      refine pw_if_eq_f 22 rfl rfl (by decide) ?_
      refine pw_iload_n 23 rfl rfl rfl ?_
      refine pw_bipush (v := nI 6) 25 rfl rfl (by decide) ?_
      refine pw_cS2 28 rfl rfl rfl (Nat.le_of_ble_eq_true rfl) rfl rfl (Nat.le_of_ble_eq_true rfl) (c_isWithin (by decide) (fun t ht e2 => ?_) (fun hn => ?_))
      · refine pw_pI ?_
        subst e2
        rw [ix_some ht (by decide)] at kk
        skip
        refine pw_if_ne_t 33 rfl rfl (by decide) ?_
        refine pw_aload_n 34 rfl rfl rfl ?_
        refine pw_getR 37 rfl rfl (by first | assumption | exact ⟨by decide, rfl⟩) rfl ?_
        refine pw_getR 40 rfl rfl (by first | assumption | exact ⟨by decide, rfl⟩) rfl ?_
        refine pw_iload_n 41 rfl rfl rfl ?_
        refine pw_cV1 44 rfl rfl (by first | assumption | exact ⟨by decide, rfl⟩) rfl (Nat.le_of_ble_eq_true rfl) rfl rfl (Nat.le_of_ble_eq_true rfl) (c_Book_get s3 (i := j) (by omega) ?_)
        refine pw_pR ?_
        refine pw_astore4 46 rfl rfl rfl ?_
        refine pw_iload_n 47 rfl rfl rfl ?_
        by_cases q : i = 0
        · subst q
          simp only at kk
          skip
          refine pw_if_ne_f 50 rfl rfl (by decide) ?_
          refine pw_aload 52 rfl rfl rfl ?_
          refine pw_getR 55 rfl rfl (by first | assumption | exact ⟨by decide, rfl⟩) rfl ?_
          refine pw_goto rfl 63 rfl ?_
          refine pw_astore5 65 rfl rfl rfl ?_
          refine pw_iload_n 66 rfl rfl rfl ?_
          refine pw_aload 68 rfl rfl rfl ?_
          refine pw_cV0 71 rfl rfl (by first | assumption | exact ⟨by decide, rfl⟩) rfl (Nat.le_of_ble_eq_true rfl) rfl rfl (Nat.le_of_ble_eq_true rfl) (c_Row_size o2 e.1.2.1 ?_)
          refine pw_pI ?_
          by_cases q2 : t < (pPh a.rs j).length
          · rw [if_pos q2] at kk
            skip
            refine pw_icmp_lt_t 77 rfl rfl (nI_lt q2 (by omega)) ?_
            refine pw_iload_n 78 rfl rfl rfl ?_
            refine pw_if_ne_f 81 rfl rfl (by decide) ?_
            refine pw_aload 83 rfl rfl rfl ?_
            refine pw_iload_n 84 rfl rfl rfl ?_
            refine pw_cV1 87 rfl rfl (by first | assumption | exact ⟨by decide, rfl⟩) rfl (Nat.le_of_ble_eq_true rfl) rfl rfl (Nat.le_of_ble_eq_true rfl) (c_Row_get o2 e.1.2.1 l1' _ ?_)
            rw [gI_n (by omega)]
            refine pw_pI ?_
            refine pw_goto rfl 101 rfl ?_
            exact pw_iret rfl rfl (kk.at hx)
          · rw [if_neg q2] at kk
            skip
            refine pw_icmp_lt_f 74 rfl rfl (nI_nlt (Nat.le_of_not_lt q2) (by omega)) ?_
            refine pw_bipush (v := (-4)) 76 rfl rfl (by decide) ?_
            exact pw_iret rfl rfl (kk.at hx)
        · have q : i = 1 := by omega
          subst q
          simp only at kk
          skip
          refine pw_if_ne_t 58 rfl rfl (by decide) ?_
          refine pw_aload 60 rfl rfl rfl ?_
          refine pw_getR 63 rfl rfl (by first | assumption | exact ⟨by decide, rfl⟩) rfl ?_
          refine pw_astore5 65 rfl rfl rfl ?_
          refine pw_iload_n 66 rfl rfl rfl ?_
          refine pw_aload 68 rfl rfl rfl ?_
          refine pw_cV0 71 rfl rfl (by first | assumption | exact ⟨by decide, rfl⟩) rfl (Nat.le_of_ble_eq_true rfl) rfl rfl (Nat.le_of_ble_eq_true rfl) (c_Row_size o3 e.1.2.2 ?_)
          refine pw_pI ?_
          by_cases q2 : t < (pGf a.rs j).length
          · rw [if_pos q2] at kk
            skip
            refine pw_icmp_lt_t 77 rfl rfl (nI_lt q2 (by omega)) ?_
            refine pw_iload_n 78 rfl rfl rfl ?_
            refine pw_if_ne_t 90 rfl rfl (by decide) ?_
            refine pw_aload 92 rfl rfl rfl ?_
            refine pw_iload_n 93 rfl rfl rfl ?_
            refine pw_aload 95 rfl rfl rfl ?_
            refine pw_getI 98 rfl rfl (by first | assumption | exact ⟨by decide, rfl⟩) rfl ?_
            rw [show M (k + 11 + 7 + 5 * j) 0 = nI (gR a.rs j).1 from e.1.1]
            refine pw_cV2 101 rfl rfl (by first | assumption | exact ⟨by decide, rfl⟩) rfl (Nat.le_of_ble_eq_true rfl) rfl rfl (Nat.le_of_ble_eq_true rfl) (c_Rule_given (s3.2.2 j (by omega)) e.1 l2' (j := t) q2 e.2.1 ?_)
            refine pw_pI ?_
            skip
            exact pw_iret rfl rfl (kk.at hx)
          · rw [if_neg q2] at kk
            skip
            refine pw_icmp_lt_f 74 rfl rfl (nI_nlt (Nat.le_of_not_lt q2) (by omega)) ?_
            refine pw_bipush (v := (-4)) 76 rfl rfl (by decide) ?_
            exact pw_iret rfl rfl (kk.at hx)
      · refine pw_pI ?_
        rw [ix_none hn] at kk
        skip
        refine pw_if_ne_f 31 rfl rfl (by decide) ?_
        refine bad ?_
        rcases i with _ | _ | i <;> exact kk
    · refine pw_pI ?_
      rw [ix_none hn] at kk
      skip
      refine pw_if_eq_t 31 rfl rfl (by decide) ?_
      exact bad kk
  · refine pw_pI ?_
    rw [ix_none hn] at kk
    skip
    refine pw_if_eq_t 31 rfl rfl (by decide) ?_
    exact bad kk
theorem c_at {p w : Int32} (hb : isApp sh k) (hw : wfW a) (hx : appIs M N k a) (kk : pst k sh M N Q (.int (vAt a p w)) a) : PW mX10_at 0 [.ref k, .int p, .int w, .null] [] sh M N Q := by
  obtain ⟨b0, b1, b2, b3, b4, b5, b6, b7, b8, b9, b10⟩ := hb
  have s0 := b2.1
  have s1 := b2.2.1.1
  have s2 := b2.2.1.2
  have s2' := s2.1
  have l1' := s2.2.1.1
  have l2' := s2.2.2.1
  have hm := hx.2.1.1
  have h60 : a.ls.length ≤ 60 := hm.2.2.1
  have h60' : a.now.1.1.length ≤ 60 := hm.2.2.1
  have h61 : a.ss.length = a.ls.length := hm.2.2.2
  unfold vAt at kk
  have bad : pst k sh M N Q (.int (-1)) a → PW mX10_at 30 [.ref k, .int p, .int w, .ref (k + 4 + 1 + 1)] [] sh M N Q := by
    intro kk
    refine pw_iconst (v := (-1)) 31 rfl rfl (by decide) ?_
    exact pw_iret rfl rfl (kk.at hx)
  refine pw_aload_n 1 rfl rfl rfl ?_
  refine pw_getR 4 rfl rfl (by first | assumption | exact ⟨by decide, rfl⟩) rfl ?_
  refine pw_getR 7 rfl rfl (by first | assumption | exact ⟨by decide, rfl⟩) rfl ?_
  refine pw_getR 10 rfl rfl (by first | assumption | exact ⟨by decide, rfl⟩) rfl ?_
  refine pw_astore3 11 rfl rfl rfl ?_
  refine pw_iload_n 12 rfl rfl rfl ?_
  refine pw_aload_n 13 rfl rfl rfl ?_
  refine pw_cV0 16 rfl rfl (by first | assumption | exact ⟨by decide, rfl⟩) rfl (Nat.le_of_ble_eq_true rfl) rfl rfl (Nat.le_of_ble_eq_true rfl) (c_Line_size s2 hm.1 ?_)
  refine pw_pI ?_
  skip
  refine pw_cS2 19 rfl rfl rfl (Nat.le_of_ble_eq_true rfl) rfl rfl (Nat.le_of_ble_eq_true rfl) (c_isWithin (by omega) (fun i hi e1 => ?_) (fun hn => ?_))
  · refine pw_pI ?_
    subst e1
    rw [ix_some hi (by omega)] at kk
    skip
    refine pw_if_eq_f 22 rfl rfl (by decide) ?_
    refine pw_iload_n 23 rfl rfl rfl ?_
    refine pw_iconst (v := nI 2) 24 rfl rfl (by decide) ?_
    refine pw_cS2 27 rfl rfl rfl (Nat.le_of_ble_eq_true rfl) rfl rfl (Nat.le_of_ble_eq_true rfl) (c_isWithin (by decide) (fun t ht e2 => ?_) (fun hn => ?_))
    · refine pw_pI ?_
      subst e2
      rw [ix_some ht (by decide)] at kk
      skip
      refine pw_if_ne_t 32 rfl rfl (by decide) ?_
      by_cases q : t = 0
      · subst q
        simp only at kk
        refine pw_iload_n 33 rfl rfl rfl ?_
        refine pw_if_ne_f 36 rfl rfl (by decide) ?_
        refine pw_aload_n 37 rfl rfl rfl ?_
        refine pw_getR 40 rfl rfl (by first | assumption | exact ⟨by decide, rfl⟩) rfl ?_
        refine pw_iload_n 41 rfl rfl rfl ?_
        refine pw_cV1 44 rfl rfl (by first | assumption | exact ⟨by decide, rfl⟩) rfl (Nat.le_of_ble_eq_true rfl) rfl rfl (Nat.le_of_ble_eq_true rfl) (c_Row_get s2.2.1 hm.1.1 h60' _ ?_)
        rw [gI_n (by omega)]
        refine pw_pI ?_
        refine pw_goto rfl 55 rfl ?_
        exact pw_iret rfl rfl (kk.at hx)
      · have q : t = 1 := by omega
        subst q
        simp only at kk
        refine pw_iload_n 33 rfl rfl rfl ?_
        refine pw_if_ne_t 47 rfl rfl (by decide) ?_
        refine pw_aload_n 48 rfl rfl rfl ?_
        refine pw_getR 51 rfl rfl (by first | assumption | exact ⟨by decide, rfl⟩) rfl ?_
        refine pw_iload_n 52 rfl rfl rfl ?_
        refine pw_cV1 55 rfl rfl (by first | assumption | exact ⟨by decide, rfl⟩) rfl (Nat.le_of_ble_eq_true rfl) rfl rfl (Nat.le_of_ble_eq_true rfl) (c_Row_get s2.2.2 hm.1.2 (by rw [hm.2.2.2]; exact h60') _ ?_)
        rw [gI_n (by omega)]
        refine pw_pI ?_
        skip
        exact pw_iret rfl rfl (kk.at hx)
    · refine pw_pI ?_
      rw [ix_none hn] at kk
      skip
      refine pw_if_ne_f 30 rfl rfl (by decide) ?_
      exact bad kk
  · refine pw_pI ?_
    have hn2 : ix p a.ls.length = none := ix_none hn
    rw [hn2] at kk
    skip
    refine pw_if_eq_t 30 rfl rfl (by decide) ?_
    exact bad kk
theorem c_count {w : Int32} (hb : isApp sh k) (hw : wfW a) (hx : appIs M N k a) (kk : pst k sh M N Q (.int (vCount a w)) a) : PW mX10_count 0 [.ref k, .int w] [] sh M N Q := by
  have hb0 := hb
  obtain ⟨b0, b1, b2, b3, b4, b5, b6, b7, b8, b9, b10⟩ := hb
  have s0 := b2.1
  have s1 := b2.2.1.1
  have s2 := b2.2.1.2
  have s2' := s2.1
  have s3 := b2.2.2.1
  have s3' := s3.1
  have s4 := b2.2.2.2
  have s4' := s4.1
  unfold vCount at kk
  by_cases q0 : w = nI 0
  · rw [if_pos q0] at kk
    subst q0
    refine pw_iload_n 1 rfl rfl rfl ?_
    refine pw_tsw 44 rfl (rfl) ?_
    refine pw_aload_n 45 rfl rfl rfl ?_
    refine pw_getR 48 rfl rfl (by first | assumption | exact ⟨by decide, rfl⟩) rfl ?_
    refine pw_getR 51 rfl rfl (by first | assumption | exact ⟨by decide, rfl⟩) rfl ?_
    refine pw_getR 54 rfl rfl (by first | assumption | exact ⟨by decide, rfl⟩) rfl ?_
    refine pw_cV0 57 rfl rfl (by first | assumption | exact ⟨by decide, rfl⟩) rfl (Nat.le_of_ble_eq_true rfl) rfl rfl (Nat.le_of_ble_eq_true rfl) (c_Line_size s2 hx.2.1.1.1 ?_)
    refine pw_pI ?_
    skip
    exact pw_iret rfl rfl (kk.at hx)
  rw [if_neg q0] at kk
  by_cases q1 : w = nI 1
  · rw [if_pos q1] at kk
    subst q1
    refine pw_iload_n 1 rfl rfl rfl ?_
    refine pw_tsw 58 rfl (rfl) ?_
    refine pw_aload_n 59 rfl rfl rfl ?_
    refine pw_getR 62 rfl rfl (by first | assumption | exact ⟨by decide, rfl⟩) rfl ?_
    refine pw_getR 65 rfl rfl (by first | assumption | exact ⟨by decide, rfl⟩) rfl ?_
    refine pw_cV0 68 rfl rfl (by first | assumption | exact ⟨by decide, rfl⟩) rfl (Nat.le_of_ble_eq_true rfl) rfl rfl (Nat.le_of_ble_eq_true rfl) (c_Book_size s3 hx.2.1.2.1 ?_)
    refine pw_pI ?_
    skip
    exact pw_iret rfl rfl (kk.at hx)
  rw [if_neg q1] at kk
  by_cases q2 : w = nI 2
  · rw [if_pos q2] at kk
    subst q2
    refine pw_iload_n 1 rfl rfl rfl ?_
    refine pw_tsw 69 rfl (rfl) ?_
    refine pw_aload_n 70 rfl rfl rfl ?_
    refine pw_getR 73 rfl rfl (by first | assumption | exact ⟨by decide, rfl⟩) rfl ?_
    refine pw_getR 76 rfl rfl (by first | assumption | exact ⟨by decide, rfl⟩) rfl ?_
    refine pw_getI 79 rfl rfl (by first | assumption | exact ⟨by decide, rfl⟩) rfl ?_
    rw [hx.2.1.1.2.1]
    exact pw_iret rfl rfl (kk.at hx)
  rw [if_neg q2] at kk
  by_cases q3 : w = nI 3
  · rw [if_pos q3] at kk
    subst q3
    refine pw_iload_n 1 rfl rfl rfl ?_
    refine pw_tsw 80 rfl (rfl) ?_
    refine pw_aload_n 81 rfl rfl rfl ?_
    refine pw_cV0 84 rfl rfl (by first | assumption | exact ⟨by decide, rfl⟩) rfl (Nat.le_of_ble_eq_true rfl) rfl rfl (Nat.le_of_ble_eq_true rfl) (c_idleRules hb0 hw hx (fun M1 N1 f1 n1 x1 => ?_))
    refine pw_pI ?_
    skip
    exact pw_iret rfl rfl (kk M1 N1 f1 n1 x1)
  rw [if_neg q3] at kk
  by_cases q4 : w = nI 4
  · rw [if_pos q4] at kk
    subst q4
    have e4 := rI_4 (o := a.ps) (fun s hs => by have := hw.2.2.2.2.2.1 s hs; omega)
    refine pw_iload_n 1 rfl rfl rfl ?_
    refine pw_tsw 85 rfl (rfl) ?_
    refine pw_aload_n 86 rfl rfl rfl ?_
    refine pw_getI 89 rfl rfl (by first | assumption | exact ⟨by decide, rfl⟩) rfl ?_
    refine pw_bipush (v := (-4)) 91 rfl rfl (by decide) ?_
    rw [hx.2.2.2.2.1]
    refine pw_icmp_ne 99 94 rfl rfl rfl (fun q => ?_) (fun q => ?_)
    · rw [if_neg (fun e => q (e4.mpr e))] at kk
      refine pw_aload_n 100 rfl rfl rfl ?_
      refine pw_getI 103 rfl rfl (by first | assumption | exact ⟨by decide, rfl⟩) rfl ?_
      rw [hx.2.2.2.2.2.1]
      exact pw_iret rfl rfl (kk.at hx)
    · rw [if_pos (e4.mp (Decidable.not_not.mp q))] at kk
      refine pw_bipush (v := (-4)) 96 rfl rfl (by decide) ?_
      refine pw_goto rfl 103 rfl ?_
      exact pw_iret rfl rfl (kk.at hx)
  rw [if_neg q4] at kk
  by_cases q5 : w = nI 5
  · rw [if_pos q5] at kk
    subst q5
    refine pw_iload_n 1 rfl rfl rfl ?_
    refine pw_tsw 104 rfl (rfl) ?_
    refine pw_aload_n 105 rfl rfl rfl ?_
    refine pw_getI 108 rfl rfl (by first | assumption | exact ⟨by decide, rfl⟩) rfl ?_
    rw [hx.2.2.2.2.1]
    exact pw_iret rfl rfl (kk.at hx)
  rw [if_neg q5] at kk
  by_cases q6 : w = nI 6
  · rw [if_pos q6] at kk
    subst q6
    refine pw_iload_n 1 rfl rfl rfl ?_
    refine pw_tsw 109 rfl (rfl) ?_
    refine pw_aload_n 110 rfl rfl rfl ?_
    refine pw_getR 113 rfl rfl (by first | assumption | exact ⟨by decide, rfl⟩) rfl ?_
    refine pw_getR 116 rfl rfl (by first | assumption | exact ⟨by decide, rfl⟩) rfl ?_
    refine pw_cV0 119 rfl rfl (by first | assumption | exact ⟨by decide, rfl⟩) rfl (Nat.le_of_ble_eq_true rfl) rfl rfl (Nat.le_of_ble_eq_true rfl) (c_Hist_size s4 hx.2.1.2.2 ?_)
    refine pw_pI ?_
    skip
    exact pw_iret rfl rfl (kk.at hx)
  rw [if_neg q6] at kk
  refine pw_iload_n 1 rfl rfl rfl ?_
  refine pw_tsw 120 rfl ((ts_out (n := 6) 120 (fun j hj => by rcases (show j = 0 ∨ j = 1 ∨ j = 2 ∨ j = 3 ∨ j = 4 ∨ j = 5 ∨ j = 6 by omega) with rfl | rfl | rfl | rfl | rfl | rfl | rfl <;> assumption) (by decide) rfl)) ?_
  refine pw_iconst (v := (-1)) 121 rfl rfl (by decide) ?_
  exact pw_iret rfl rfl (kk.at hx)
theorem c_change {p x : Int32} (hb : isApp sh k) (hw : wfW a) (hx : appIs M N k a) (kk : pst k sh M N Q (.int (vChange a p x).1) (vChange a p x).2) : PW mX10_change 0 [.ref k, .int p, .int x, .null, .null] [] sh M N Q := by
  obtain ⟨b0, b1, b2, b3, b4, b5, b6, b7, b8, b9, b10⟩ := hb
  have s0 := b2.1
  have s1 := b2.2.1.1
  have s2 := b2.2.1.2
  have s2' := s2.1
  have l1' := s2.2.1.1
  have hm := hx.2.1.1
  have h60 : a.ls.length ≤ 60 := hm.2.2.1
  have h60' : a.now.1.1.length ≤ 60 := hm.2.2.1
  unfold vChange at kk
  have bad : pst k sh M N Q (.int (-1)) a → PW mX10_change 29 [.ref k, .int p, .int x, .ref (k + 4 + 1 + 1), .null] [] sh M N Q := by
    intro kk
    refine pw_iconst (v := (-1)) 30 rfl rfl (by decide) ?_
    exact pw_iret rfl rfl (kk.at hx)
  refine pw_aload_n 1 rfl rfl rfl ?_
  refine pw_getR 4 rfl rfl (by first | assumption | exact ⟨by decide, rfl⟩) rfl ?_
  refine pw_getR 7 rfl rfl (by first | assumption | exact ⟨by decide, rfl⟩) rfl ?_
  refine pw_getR 10 rfl rfl (by first | assumption | exact ⟨by decide, rfl⟩) rfl ?_
  refine pw_astore3 11 rfl rfl rfl ?_
  refine pw_iload_n 12 rfl rfl rfl ?_
  refine pw_aload_n 13 rfl rfl rfl ?_
  refine pw_cV0 16 rfl rfl (by first | assumption | exact ⟨by decide, rfl⟩) rfl (Nat.le_of_ble_eq_true rfl) rfl rfl (Nat.le_of_ble_eq_true rfl) (c_Line_size s2 hm.1 ?_)
  refine pw_pI ?_
  skip
  refine pw_cS2 19 rfl rfl rfl (Nat.le_of_ble_eq_true rfl) rfl rfl (Nat.le_of_ble_eq_true rfl) (c_isWithin (by omega) (fun i hi e1 => ?_) (fun hn => ?_))
  · refine pw_pI ?_
    subst e1
    rw [ix_some hi (by omega)] at kk
    simp only at kk
    skip
    refine pw_if_eq_f 22 rfl rfl (by decide) ?_
    refine pw_iload_n 23 rfl rfl rfl ?_
    refine pw_cS1 26 rfl rfl rfl (Nat.le_of_ble_eq_true rfl) rfl rfl (Nat.le_of_ble_eq_true rfl) (c_isLetter (fun hy => ?_) (fun hn => ?_))
    · refine pw_pI ?_
      rw [if_neg (by rw [hy]; decide)] at kk
      skip
      refine pw_if_ne_t 31 rfl rfl (by decide) ?_
      refine pw_aload_n 32 rfl rfl rfl ?_
      refine pw_getR 35 rfl rfl (by first | assumption | exact ⟨by decide, rfl⟩) rfl ?_
      refine pw_iload_n 36 rfl rfl rfl ?_
      refine pw_cV1 39 rfl rfl (by first | assumption | exact ⟨by decide, rfl⟩) rfl (Nat.le_of_ble_eq_true rfl) rfl rfl (Nat.le_of_ble_eq_true rfl) (c_Row_get s2.2.1 hm.1.1 h60' _ ?_)
      rw [gI_n (by omega)]
      refine pw_pI ?_
      refine pw_istore4 41 rfl rfl rfl ?_
      refine pw_iload 43 rfl rfl rfl ?_
      refine pw_iload_n 44 rfl rfl rfl ?_
      refine pw_icmp_ne 50 47 rfl rfl rfl (fun q => ?_) (fun q => ?_)
      · rw [if_neg q] at kk
        refine pw_aload_n 51 rfl rfl rfl ?_
        refine pw_getR 54 rfl rfl (by first | assumption | exact ⟨by decide, rfl⟩) rfl ?_
        refine pw_cV0 57 rfl rfl (by first | assumption | exact ⟨by decide, rfl⟩) rfl (Nat.le_of_ble_eq_true rfl) rfl rfl (Nat.le_of_ble_eq_true rfl) (c_State_remember b2 hx.2.1 (fun M1 f1 r1 => ?_))
        refine pw_pV ?_
        refine pw_aload_n 58 rfl rfl rfl ?_
        refine pw_getR 61 rfl rfl (by first | assumption | exact ⟨by decide, rfl⟩) rfl ?_
        refine pw_iload_n 62 rfl rfl rfl ?_
        refine pw_iload_n 63 rfl rfl rfl ?_
        refine pw_cV2 66 rfl rfl (by first | assumption | exact ⟨by decide, rfl⟩) rfl (Nat.le_of_ble_eq_true rfl) rfl rfl (Nat.le_of_ble_eq_true rfl) (c_Row_set s2.2.1 r1.1.1.1 h60' (j := i) hi _ (fun M2 f2 r2 => ?_))
        refine pw_pV ?_
        refine pw_iload 68 rfl rfl rfl ?_
        have f12 := (f1.wk (c := k + 5) (d := k + 118) (by omega) (by omega)).tr (f2.wk (by omega) (by omega))
        exact pw_iret rfl rfl (kk.go (f12.wk (by omega) (by omega)) (hx.now f12 (r1.line (f2.wk (by omega) (by omega)) ⟨r2, r1.1.1.2.mv f2 (by omega)⟩ (by rw [List.length_set]; exact h60') (by rw [List.length_set]; exact hm.2.2.2))))
      · rw [if_pos (Decidable.not_not.mp q)] at kk
        refine pw_bipush (v := (-2)) 49 rfl rfl (by decide) ?_
        exact pw_iret rfl rfl (kk.at hx)
    · refine pw_pI ?_
      rw [if_pos hn] at kk
      skip
      refine pw_if_ne_f 29 rfl rfl (by decide) ?_
      exact bad kk
  · refine pw_pI ?_
    have hn2 : ix p a.ls.length = none := ix_none hn
    rw [hn2] at kk
    skip
    refine pw_if_eq_t 29 rfl rfl (by decide) ?_
    exact bad kk
theorem c_turn {r : Int32} (hb : isApp sh k) (hw : wfW a) (hx : appIs M N k a) (kk : pst k sh M N Q (.int (vTurn a r).1) (vTurn a r).2) : PW mX10_turn 0 [.ref k, .int r] [] sh M N Q := by
  obtain ⟨b0, b1, b2, b3, b4, b5, b6, b7, b8, b9, b10⟩ := hb
  have s0 := b2.1
  have s1 := b2.2.1.1
  have s3 := b2.2.2.1
  have s3' := s3.1
  have h10 : a.rs.length ≤ 10 := hx.2.1.2.1.2.1
  have hon := wf_on hw hx
  unfold vTurn at kk
  refine pw_aload_n 1 rfl rfl rfl ?_
  refine pw_getR 4 rfl rfl (by first | assumption | exact ⟨by decide, rfl⟩) rfl ?_
  refine pw_getR 7 rfl rfl (by first | assumption | exact ⟨by decide, rfl⟩) rfl ?_
  refine pw_iload_n 8 rfl rfl rfl ?_
  refine pw_cV1 11 rfl rfl (by first | assumption | exact ⟨by decide, rfl⟩) rfl (Nat.le_of_ble_eq_true rfl) rfl rfl (Nat.le_of_ble_eq_true rfl) (c_Book_has s3 hx.2.1.2.1 (fun j hj e => ?_) (fun hn => ?_))
  · refine pw_pI ?_
    subst e
    have hj : j < a.rs.length := hj
    rw [ix_some hj (by omega)] at kk
    simp only at kk
    have hlt : a.on ^^^ 2 ^ j < 1024 := Nat.xor_lt_two_pow (n := 10) hon (Nat.pow_lt_pow_right (by decide) (by omega))
    skip
    refine pw_if_ne_t 16 rfl rfl (by decide) ?_
    refine pw_aload_n 17 rfl rfl rfl ?_
    refine pw_getR 20 rfl rfl (by first | assumption | exact ⟨by decide, rfl⟩) rfl ?_
    refine pw_cV0 23 rfl rfl (by first | assumption | exact ⟨by decide, rfl⟩) rfl (Nat.le_of_ble_eq_true rfl) rfl rfl (Nat.le_of_ble_eq_true rfl) (c_State_remember b2 hx.2.1 (fun M1 f1 r1 => ?_))
    refine pw_pV ?_
    refine pw_aload_n 24 rfl rfl rfl ?_
    refine pw_getR 27 rfl rfl (by first | assumption | exact ⟨by decide, rfl⟩) rfl ?_
    refine pw_getR 30 rfl rfl (by first | assumption | exact ⟨by decide, rfl⟩) rfl ?_
    refine pw_dup 31 rfl rfl rfl ?_
    refine pw_getI 34 rfl rfl (by first | assumption | exact ⟨by decide, rfl⟩) rfl ?_
    refine pw_iconst (v := nI 1) 35 rfl rfl (by decide) ?_
    refine pw_iload_n 36 rfl rfl rfl ?_
    refine pw_ishl 37 rfl rfl ?_
    refine pw_ixor 38 rfl rfl ?_
    rw [show M1 (k + 4 + 1) 1 = nI a.on from r1.1.2.1, xor_bit _ hon _ (by omega)]
    refine pw_putI 41 rfl rfl (by first | assumption | exact ⟨by decide, rfl⟩) rfl (by decide) ?_
    refine pw_aload_n 42 rfl rfl rfl ?_
    refine pw_getR 45 rfl rfl (by first | assumption | exact ⟨by decide, rfl⟩) rfl ?_
    refine pw_getR 48 rfl rfl (by first | assumption | exact ⟨by decide, rfl⟩) rfl ?_
    refine pw_getI 51 rfl rfl (by first | assumption | exact ⟨by decide, rfl⟩) rfl ?_
    refine pw_iload_n 52 rfl rfl rfl ?_
    refine pw_ishr 53 rfl rfl ?_
    refine pw_iconst (v := nI 1) 54 rfl rfl (by decide) ?_
    refine pw_iand 55 rfl rfl ?_
    rw [st_same, bit_v _ hlt _ (by omega)]
    skip
    have f2 : fr (k + 5) (k + 118) M1 (pmSt M1 (k + 4 + 1) 1 (nI (a.on ^^^ 2 ^ j))) := fr_st M1 1 _ (by omega) (by omega)
    have f12 := (f1.wk (c := k + 5) (d := k + 118) (by omega) (by omega)).tr f2
    exact pw_iret rfl rfl (kk.go (f12.wk (by omega) (by omega)) (hx.now f12 r1.on))
  · refine pw_pI ?_
    have hn2 : ix r a.rs.length = none := ix_none hn
    rw [hn2] at kk
    skip
    refine pw_if_ne_f 14 rfl rfl (by decide) ?_
    refine pw_iconst (v := (-1)) 15 rfl rfl (by decide) ?_
    exact pw_iret rfl rfl (kk.at hx)
theorem c_pass {s : Int32} (hb : isApp sh k) (hw : wfW a) (hx : appIs M N k a) (kk : pst k sh M N Q (.int (vPass a s).1) (vPass a s).2) : PW mX10_pass 0 [.ref k, .int s] [] sh M N Q := by
  have hb0 := hb
  obtain ⟨b0, b1, b2, b3, b4, b5, b6, b7, b8, b9, b10⟩ := hb
  have s0 := b2.1
  have s3 := b2.2.2.1
  have s3' := s3.1
  have h10 : a.rs.length ≤ 10 := hx.2.1.2.1.2.1
  have hp : 2 ^ a.rs.length ≤ 2 ^ 10 := Nat.pow_le_pow_right (by decide) h10
  unfold vPass at kk
  refine pw_iload_n 1 rfl rfl rfl ?_
  refine pw_if_lt 21 4 rfl rfl rfl (fun q => ?_) (fun q => ?_)
  · have hn : ix s (2 ^ a.rs.length) = none := ix_none (fun j hj e => by rw [e] at q; exact nI_pos (by omega) q)
    rw [hn] at kk
    refine pw_iconst (v := (-1)) 22 rfl rfl (by decide) ?_
    exact pw_iret rfl rfl (kk.at hx)
  · obtain ⟨j, hj, rfl⟩ := nI_of q
    refine pw_iload_n 5 rfl rfl rfl ?_
    refine pw_aload_n 6 rfl rfl rfl ?_
    refine pw_getR 9 rfl rfl (by first | assumption | exact ⟨by decide, rfl⟩) rfl ?_
    refine pw_getR 12 rfl rfl (by first | assumption | exact ⟨by decide, rfl⟩) rfl ?_
    refine pw_cV0 15 rfl rfl (by first | assumption | exact ⟨by decide, rfl⟩) rfl (Nat.le_of_ble_eq_true rfl) rfl rfl (Nat.le_of_ble_eq_true rfl) (c_Book_all s3 hx.2.1.2.1 ?_)
    refine pw_pI ?_
    refine pw_iconst (v := (-1)) 16 rfl rfl (by decide) ?_
    refine pw_ixor 17 rfl rfl ?_
    refine pw_iand 18 rfl rfl ?_
    refine pw_if_eq 23 21 rfl rfl rfl (fun q2 => ?_) (fun q2 => ?_)
    · have q2 := (in_all hj h10).mp q2
      rw [ix_some q2 (by omega)] at kk
      refine pw_aload_n 24 rfl rfl rfl ?_
      refine pw_iload_n 25 rfl rfl rfl ?_
      refine pw_cV1 28 rfl rfl (by first | assumption | exact ⟨by decide, rfl⟩) rfl (Nat.le_of_ble_eq_true rfl) rfl rfl (Nat.le_of_ble_eq_true rfl) (c_goThrough hb0 hw hx (fun M1 N1 f1 n1 x1 => ?_))
      refine pw_pI ?_
      skip
      exact pw_iret rfl rfl (kk M1 N1 f1 n1 x1)
    · have hn : ix (nI j) (2 ^ a.rs.length) = none := ix_none (fun i hi e => q2 ((in_all hj h10).mpr (by rw [(nI_eq hj (by omega)).mp e]; exact hi)))
      rw [hn] at kk
      refine pw_iconst (v := (-1)) 22 rfl rfl (by decide) ?_
      exact pw_iret rfl rfl (kk.at hx)
end APS
end
