section
/-- a private method of a class that the tables say can be made, by its rows of tables_1 -/
def lw_okq (q : MethodName × Nat) : Prop := (q.1.cls ≠ "java/lang/invoke/MethodHandle" ∧ q.1.cls ≠ "java/lang/invoke/VarHandle") ∧ Cond.instantiable q.1.cls q.2 ∈ tables_1 ∧ Cond.privateMethod q.1 ∈ tables_1 ∧ Cond.instanceMethod q.1 ∈ tables_1
theorem lw_p0 : lw_okq (⟨"HalvedProof$Reader", "pass", "(I)V"⟩, 5) := ⟨⟨by decide +kernel, by decide +kernel⟩, List.mem_of_getElem? (i := 47) (by decide +kernel), List.mem_of_getElem? (i := 403) (by decide +kernel), List.mem_of_getElem? (i := 404) (by decide +kernel)⟩
theorem lw_p1 : lw_okq (⟨"HalvedProof$Reader", "byteAt", "(I)I"⟩, 5) := ⟨⟨by decide +kernel, by decide +kernel⟩, List.mem_of_getElem? (i := 47) (by decide +kernel), List.mem_of_getElem? (i := 407) (by decide +kernel), List.mem_of_getElem? (i := 408) (by decide +kernel)⟩
theorem lw_p2 : lw_okq (⟨"HalvedProof$Reader", "seesWord", "(Ljava/lang/String;)Z"⟩, 5) := ⟨⟨by decide +kernel, by decide +kernel⟩, List.mem_of_getElem? (i := 47) (by decide +kernel), List.mem_of_getElem? (i := 428) (by decide +kernel), List.mem_of_getElem? (i := 429) (by decide +kernel)⟩
theorem lw_p3 : lw_okq (⟨"HalvedProof$Court", "readSuit", "(LHalvedProof$Reader;)V"⟩, 8) := ⟨⟨by decide +kernel, by decide +kernel⟩, List.mem_of_getElem? (i := 77) (by decide +kernel), List.mem_of_getElem? (i := 483) (by decide +kernel), List.mem_of_getElem? (i := 484) (by decide +kernel)⟩
theorem lw_p4 : lw_okq (⟨"HalvedProof$Reader", "refuseAt", "(II)V"⟩, 5) := ⟨⟨by decide +kernel, by decide +kernel⟩, List.mem_of_getElem? (i := 47) (by decide +kernel), List.mem_of_getElem? (i := 491) (by decide +kernel), List.mem_of_getElem? (i := 492) (by decide +kernel)⟩
theorem lw_p5 : lw_okq (⟨"HalvedProof$Court", "readWitness", "(LHalvedProof$Reader;)V"⟩, 8) := ⟨⟨by decide +kernel, by decide +kernel⟩, List.mem_of_getElem? (i := 77) (by decide +kernel), List.mem_of_getElem? (i := 512) (by decide +kernel), List.mem_of_getElem? (i := 513) (by decide +kernel)⟩
theorem lw_p6 : lw_okq (⟨"HalvedProof$Laws", "readClause", "(LHalvedProof$Reader;)V"⟩, 5) := ⟨⟨by decide +kernel, by decide +kernel⟩, List.mem_of_getElem? (i := 131) (by decide +kernel), List.mem_of_getElem? (i := 553) (by decide +kernel), List.mem_of_getElem? (i := 554) (by decide +kernel)⟩
theorem lw_p7 : lw_okq (⟨"HalvedProof$Laws", "clauseOn", "(I)I"⟩, 5) := ⟨⟨by decide +kernel, by decide +kernel⟩, List.mem_of_getElem? (i := 131) (by decide +kernel), List.mem_of_getElem? (i := 574) (by decide +kernel), List.mem_of_getElem? (i := 575) (by decide +kernel)⟩
theorem lw_p8 : lw_okq (⟨"HalvedProof$Trial", "look", "(I)V"⟩, 3) := ⟨⟨by decide +kernel, by decide +kernel⟩, List.mem_of_getElem? (i := 71) (by decide +kernel), List.mem_of_getElem? (i := 652) (by decide +kernel), List.mem_of_getElem? (i := 653) (by decide +kernel)⟩
theorem lw_p9 : lw_okq (⟨"HalvedProof$Trial", "isCarried", "(I)Z"⟩, 3) := ⟨⟨by decide +kernel, by decide +kernel⟩, List.mem_of_getElem? (i := 71) (by decide +kernel), List.mem_of_getElem? (i := 661) (by decide +kernel), List.mem_of_getElem? (i := 662) (by decide +kernel)⟩
theorem lw_p10 : lw_okq (⟨"HalvedProof$Called", "prepare", "(I)V"⟩, 12) := ⟨⟨by decide +kernel, by decide +kernel⟩, List.mem_of_getElem? (i := 244) (by decide +kernel), List.mem_of_getElem? (i := 717) (by decide +kernel), List.mem_of_getElem? (i := 718) (by decide +kernel)⟩
theorem lw_p11 : lw_okq (⟨"HalvedProof$Called", "clearPlans", "()V"⟩, 12) := ⟨⟨by decide +kernel, by decide +kernel⟩, List.mem_of_getElem? (i := 244) (by decide +kernel), List.mem_of_getElem? (i := 730) (by decide +kernel), List.mem_of_getElem? (i := 731) (by decide +kernel)⟩
theorem lw_p12 : lw_okq (⟨"HalvedProof$Called", "allOfThem", "()I"⟩, 12) := ⟨⟨by decide +kernel, by decide +kernel⟩, List.mem_of_getElem? (i := 244) (by decide +kernel), List.mem_of_getElem? (i := 737) (by decide +kernel), List.mem_of_getElem? (i := 738) (by decide +kernel)⟩
theorem lw_p13 : lw_okq (⟨"HalvedProof$Called", "callOn", "(II)V"⟩, 12) := ⟨⟨by decide +kernel, by decide +kernel⟩, List.mem_of_getElem? (i := 244) (by decide +kernel), List.mem_of_getElem? (i := 741) (by decide +kernel), List.mem_of_getElem? (i := 742) (by decide +kernel)⟩
theorem lw_p14 : lw_okq (⟨"HalvedProof$Called", "addUp", "(I)I"⟩, 12) := ⟨⟨by decide +kernel, by decide +kernel⟩, List.mem_of_getElem? (i := 244) (by decide +kernel), List.mem_of_getElem? (i := 745) (by decide +kernel), List.mem_of_getElem? (i := 746) (by decide +kernel)⟩
theorem lw_p15 : lw_okq (⟨"HalvedProof$Called", "greatest", "()J"⟩, 12) := ⟨⟨by decide +kernel, by decide +kernel⟩, List.mem_of_getElem? (i := 244) (by decide +kernel), List.mem_of_getElem? (i := 753) (by decide +kernel), List.mem_of_getElem? (i := 754) (by decide +kernel)⟩
def lw_privs_1 : List (MethodName × Nat) := [(⟨"HalvedProof$Reader", "pass", "(I)V"⟩, 5), (⟨"HalvedProof$Reader", "byteAt", "(I)I"⟩, 5), (⟨"HalvedProof$Reader", "seesWord", "(Ljava/lang/String;)Z"⟩, 5), (⟨"HalvedProof$Court", "readSuit", "(LHalvedProof$Reader;)V"⟩, 8), (⟨"HalvedProof$Reader", "refuseAt", "(II)V"⟩, 5), (⟨"HalvedProof$Court", "readWitness", "(LHalvedProof$Reader;)V"⟩, 8), (⟨"HalvedProof$Laws", "readClause", "(LHalvedProof$Reader;)V"⟩, 5), (⟨"HalvedProof$Laws", "clauseOn", "(I)I"⟩, 5), (⟨"HalvedProof$Trial", "look", "(I)V"⟩, 3), (⟨"HalvedProof$Trial", "isCarried", "(I)Z"⟩, 3), (⟨"HalvedProof$Called", "prepare", "(I)V"⟩, 12), (⟨"HalvedProof$Called", "clearPlans", "()V"⟩, 12), (⟨"HalvedProof$Called", "allOfThem", "()I"⟩, 12), (⟨"HalvedProof$Called", "callOn", "(II)V"⟩, 12), (⟨"HalvedProof$Called", "addUp", "(I)I"⟩, 12), (⟨"HalvedProof$Called", "greatest", "()J"⟩, 12)]
theorem lw_r1 : ∀ q ∈ lw_privs_1, lw_okq q := List.forall_mem_cons.mpr ⟨lw_p0, List.forall_mem_cons.mpr ⟨lw_p1, List.forall_mem_cons.mpr ⟨lw_p2, List.forall_mem_cons.mpr ⟨lw_p3, List.forall_mem_cons.mpr ⟨lw_p4, List.forall_mem_cons.mpr ⟨lw_p5, List.forall_mem_cons.mpr ⟨lw_p6, List.forall_mem_cons.mpr ⟨lw_p7, List.forall_mem_cons.mpr ⟨lw_p8, List.forall_mem_cons.mpr ⟨lw_p9, List.forall_mem_cons.mpr ⟨lw_p10, List.forall_mem_cons.mpr ⟨lw_p11, List.forall_mem_cons.mpr ⟨lw_p12, List.forall_mem_cons.mpr ⟨lw_p13, List.forall_mem_cons.mpr ⟨lw_p14, List.forall_mem_cons.mpr ⟨lw_p15, fun _ h => absurd h List.not_mem_nil⟩⟩⟩⟩⟩⟩⟩⟩⟩⟩⟩⟩⟩⟩⟩⟩
theorem lw_p16 : lw_okq (⟨"HalvedProof$Called", "fewestSpeakers", "(I)I"⟩, 12) := ⟨⟨by decide +kernel, by decide +kernel⟩, List.mem_of_getElem? (i := 244) (by decide +kernel), List.mem_of_getElem? (i := 774) (by decide +kernel), List.mem_of_getElem? (i := 775) (by decide +kernel)⟩
theorem lw_p17 : lw_okq (⟨"HalvedProof$Called", "suffices", "(JI)Z"⟩, 12) := ⟨⟨by decide +kernel, by decide +kernel⟩, List.mem_of_getElem? (i := 244) (by decide +kernel), List.mem_of_getElem? (i := 778) (by decide +kernel), List.mem_of_getElem? (i := 779) (by decide +kernel)⟩
theorem lw_p18 : lw_okq (⟨"HalvedProof$Called", "setDays", "(II)V"⟩, 12) := ⟨⟨by decide +kernel, by decide +kernel⟩, List.mem_of_getElem? (i := 244) (by decide +kernel), List.mem_of_getElem? (i := 783) (by decide +kernel), List.mem_of_getElem? (i := 784) (by decide +kernel)⟩
theorem lw_p19 : lw_okq (⟨"HalvedProof$Called", "othersMakeUp", "(IIIJ)Z"⟩, 12) := ⟨⟨by decide +kernel, by decide +kernel⟩, List.mem_of_getElem? (i := 244) (by decide +kernel), List.mem_of_getElem? (i := 787) (by decide +kernel), List.mem_of_getElem? (i := 788) (by decide +kernel)⟩
theorem lw_p20 : lw_okq (⟨"HalvedProof$Called", "findWins", "()V"⟩, 12) := ⟨⟨by decide +kernel, by decide +kernel⟩, List.mem_of_getElem? (i := 244) (by decide +kernel), List.mem_of_getElem? (i := 799) (by decide +kernel), List.mem_of_getElem? (i := 800) (by decide +kernel)⟩
theorem lw_p21 : lw_okq (⟨"HalvedProof$Called", "stopsAll", "(I)Z"⟩, 12) := ⟨⟨by decide +kernel, by decide +kernel⟩, List.mem_of_getElem? (i := 244) (by decide +kernel), List.mem_of_getElem? (i := 803) (by decide +kernel), List.mem_of_getElem? (i := 804) (by decide +kernel)⟩
theorem lw_p22 : lw_okq (⟨"HalvedProof$Called", "asWitnesses", "(I)I"⟩, 12) := ⟨⟨by decide +kernel, by decide +kernel⟩, List.mem_of_getElem? (i := 244) (by decide +kernel), List.mem_of_getElem? (i := 807) (by decide +kernel), List.mem_of_getElem? (i := 808) (by decide +kernel)⟩
theorem lw_p23 : lw_okq (⟨"HalvedProof$Duel", "sideWins", "(III)Z"⟩, 5) := ⟨⟨by decide +kernel, by decide +kernel⟩, List.mem_of_getElem? (i := 291) (by decide +kernel), List.mem_of_getElem? (i := 827) (by decide +kernel), List.mem_of_getElem? (i := 828) (by decide +kernel)⟩
theorem lw_p24 : lw_okq (⟨"HalvedProof$Duel", "winsByCalling", "(IIII)Z"⟩, 5) := ⟨⟨by decide +kernel, by decide +kernel⟩, List.mem_of_getElem? (i := 291) (by decide +kernel), List.mem_of_getElem? (i := 834) (by decide +kernel), List.mem_of_getElem? (i := 835) (by decide +kernel)⟩
theorem lw_p25 : lw_okq (⟨"HalvedProof$Today", "speakersNeeded", "(I)I"⟩, 2) := ⟨⟨by decide +kernel, by decide +kernel⟩, List.mem_of_getElem? (i := 313) (by decide +kernel), List.mem_of_getElem? (i := 852) (by decide +kernel), List.mem_of_getElem? (i := 853) (by decide +kernel)⟩
theorem lw_p26 : lw_okq (⟨"HalvedProof$Today", "speakersOf", "(I)I"⟩, 2) := ⟨⟨by decide +kernel, by decide +kernel⟩, List.mem_of_getElem? (i := 313) (by decide +kernel), List.mem_of_getElem? (i := 861) (by decide +kernel), List.mem_of_getElem? (i := 862) (by decide +kernel)⟩
theorem lw_p27 : lw_okq (⟨"HalvedProofModel", "here", "()I"⟩, 53) := ⟨⟨by decide +kernel, by decide +kernel⟩, List.mem_of_getElem? (i := 911) (by decide +kernel), List.mem_of_getElem? (i := 1092) (by decide +kernel), List.mem_of_getElem? (i := 1093) (by decide +kernel)⟩
theorem lw_p28 : lw_okq (⟨"HalvedProofModel", "takeClause", "()I"⟩, 53) := ⟨⟨by decide +kernel, by decide +kernel⟩, List.mem_of_getElem? (i := 911) (by decide +kernel), List.mem_of_getElem? (i := 1096) (by decide +kernel), List.mem_of_getElem? (i := 1097) (by decide +kernel)⟩
theorem lw_p29 : lw_okq (⟨"HalvedProofModel", "readWord", "()V"⟩, 53) := ⟨⟨by decide +kernel, by decide +kernel⟩, List.mem_of_getElem? (i := 911) (by decide +kernel), List.mem_of_getElem? (i := 1100) (by decide +kernel), List.mem_of_getElem? (i := 1101) (by decide +kernel)⟩
theorem lw_p30 : lw_okq (⟨"HalvedProofModel", "fails", "(II)I"⟩, 53) := ⟨⟨by decide +kernel, by decide +kernel⟩, List.mem_of_getElem? (i := 911) (by decide +kernel), List.mem_of_getElem? (i := 1116) (by decide +kernel), List.mem_of_getElem? (i := 1117) (by decide +kernel)⟩
theorem lw_p31 : lw_okq (⟨"HalvedProofModel", "takeSuit", "()I"⟩, 53) := ⟨⟨by decide +kernel, by decide +kernel⟩, List.mem_of_getElem? (i := 911) (by decide +kernel), List.mem_of_getElem? (i := 1120) (by decide +kernel), List.mem_of_getElem? (i := 1121) (by decide +kernel)⟩
def lw_privs_2 : List (MethodName × Nat) := [(⟨"HalvedProof$Called", "fewestSpeakers", "(I)I"⟩, 12), (⟨"HalvedProof$Called", "suffices", "(JI)Z"⟩, 12), (⟨"HalvedProof$Called", "setDays", "(II)V"⟩, 12), (⟨"HalvedProof$Called", "othersMakeUp", "(IIIJ)Z"⟩, 12), (⟨"HalvedProof$Called", "findWins", "()V"⟩, 12), (⟨"HalvedProof$Called", "stopsAll", "(I)Z"⟩, 12), (⟨"HalvedProof$Called", "asWitnesses", "(I)I"⟩, 12), (⟨"HalvedProof$Duel", "sideWins", "(III)Z"⟩, 5), (⟨"HalvedProof$Duel", "winsByCalling", "(IIII)Z"⟩, 5), (⟨"HalvedProof$Today", "speakersNeeded", "(I)I"⟩, 2), (⟨"HalvedProof$Today", "speakersOf", "(I)I"⟩, 2), (⟨"HalvedProofModel", "here", "()I"⟩, 53), (⟨"HalvedProofModel", "takeClause", "()I"⟩, 53), (⟨"HalvedProofModel", "readWord", "()V"⟩, 53), (⟨"HalvedProofModel", "fails", "(II)I"⟩, 53), (⟨"HalvedProofModel", "takeSuit", "()I"⟩, 53)]
theorem lw_r2 : ∀ q ∈ lw_privs_2, lw_okq q := List.forall_mem_cons.mpr ⟨lw_p16, List.forall_mem_cons.mpr ⟨lw_p17, List.forall_mem_cons.mpr ⟨lw_p18, List.forall_mem_cons.mpr ⟨lw_p19, List.forall_mem_cons.mpr ⟨lw_p20, List.forall_mem_cons.mpr ⟨lw_p21, List.forall_mem_cons.mpr ⟨lw_p22, List.forall_mem_cons.mpr ⟨lw_p23, List.forall_mem_cons.mpr ⟨lw_p24, List.forall_mem_cons.mpr ⟨lw_p25, List.forall_mem_cons.mpr ⟨lw_p26, List.forall_mem_cons.mpr ⟨lw_p27, List.forall_mem_cons.mpr ⟨lw_p28, List.forall_mem_cons.mpr ⟨lw_p29, List.forall_mem_cons.mpr ⟨lw_p30, List.forall_mem_cons.mpr ⟨lw_p31, fun _ h => absurd h List.not_mem_nil⟩⟩⟩⟩⟩⟩⟩⟩⟩⟩⟩⟩⟩⟩⟩⟩
theorem lw_p32 : lw_okq (⟨"HalvedProofModel", "takeNumber", "(II)I"⟩, 53) := ⟨⟨by decide +kernel, by decide +kernel⟩, List.mem_of_getElem? (i := 911) (by decide +kernel), List.mem_of_getElem? (i := 1124) (by decide +kernel), List.mem_of_getElem? (i := 1125) (by decide +kernel)⟩
theorem lw_p33 : lw_okq (⟨"HalvedProofModel", "takeWitness", "()I"⟩, 53) := ⟨⟨by decide +kernel, by decide +kernel⟩, List.mem_of_getElem? (i := 911) (by decide +kernel), List.mem_of_getElem? (i := 1131) (by decide +kernel), List.mem_of_getElem? (i := 1132) (by decide +kernel)⟩
theorem lw_p34 : lw_okq (⟨"HalvedProofModel", "takeKind", "()I"⟩, 53) := ⟨⟨by decide +kernel, by decide +kernel⟩, List.mem_of_getElem? (i := 911) (by decide +kernel), List.mem_of_getElem? (i := 1135) (by decide +kernel), List.mem_of_getElem? (i := 1136) (by decide +kernel)⟩
theorem lw_p35 : lw_okq (⟨"HalvedProofModel", "takeStop", "()I"⟩, 53) := ⟨⟨by decide +kernel, by decide +kernel⟩, List.mem_of_getElem? (i := 911) (by decide +kernel), List.mem_of_getElem? (i := 1139) (by decide +kernel), List.mem_of_getElem? (i := 1140) (by decide +kernel)⟩
theorem lw_p36 : lw_okq (⟨"HalvedProofModel", "anew", "()V"⟩, 53) := ⟨⟨by decide +kernel, by decide +kernel⟩, List.mem_of_getElem? (i := 911) (by decide +kernel), List.mem_of_getElem? (i := 1143) (by decide +kernel), List.mem_of_getElem? (i := 1144) (by decide +kernel)⟩
theorem lw_p37 : lw_okq (⟨"HalvedProofModel", "takeLaw", "()I"⟩, 53) := ⟨⟨by decide +kernel, by decide +kernel⟩, List.mem_of_getElem? (i := 911) (by decide +kernel), List.mem_of_getElem? (i := 1152) (by decide +kernel), List.mem_of_getElem? (i := 1153) (by decide +kernel)⟩
theorem lw_p38 : lw_okq (⟨"HalvedProofModel", "lawOf", "(II)I"⟩, 53) := ⟨⟨by decide +kernel, by decide +kernel⟩, List.mem_of_getElem? (i := 911) (by decide +kernel), List.mem_of_getElem? (i := 1165) (by decide +kernel), List.mem_of_getElem? (i := 1166) (by decide +kernel)⟩
theorem lw_p39 : lw_okq (⟨"HalvedProofModel", "isSuit", "(I)Z"⟩, 53) := ⟨⟨by decide +kernel, by decide +kernel⟩, List.mem_of_getElem? (i := 911) (by decide +kernel), List.mem_of_getElem? (i := 1173) (by decide +kernel), List.mem_of_getElem? (i := 1174) (by decide +kernel)⟩
theorem lw_p40 : lw_okq (⟨"HalvedProofModel", "witnessesOf", "(I)I"⟩, 53) := ⟨⟨by decide +kernel, by decide +kernel⟩, List.mem_of_getElem? (i := 911) (by decide +kernel), List.mem_of_getElem? (i := 1178) (by decide +kernel), List.mem_of_getElem? (i := 1179) (by decide +kernel)⟩
theorem lw_p41 : lw_okq (⟨"HalvedProofModel", "isWitness", "(I)Z"⟩, 53) := ⟨⟨by decide +kernel, by decide +kernel⟩, List.mem_of_getElem? (i := 911) (by decide +kernel), List.mem_of_getElem? (i := 1186) (by decide +kernel), List.mem_of_getElem? (i := 1187) (by decide +kernel)⟩
theorem lw_p42 : lw_okq (⟨"HalvedProofModel", "freshOn", "(II)I"⟩, 53) := ⟨⟨by decide +kernel, by decide +kernel⟩, List.mem_of_getElem? (i := 911) (by decide +kernel), List.mem_of_getElem? (i := 1190) (by decide +kernel), List.mem_of_getElem? (i := 1191) (by decide +kernel)⟩
theorem lw_p43 : lw_okq (⟨"HalvedProofModel", "mayNow", "(I)Z"⟩, 53) := ⟨⟨by decide +kernel, by decide +kernel⟩, List.mem_of_getElem? (i := 911) (by decide +kernel), List.mem_of_getElem? (i := 1194) (by decide +kernel), List.mem_of_getElem? (i := 1195) (by decide +kernel)⟩
theorem lw_p44 : lw_okq (⟨"HalvedProofModel", "mayOn", "(II)Z"⟩, 53) := ⟨⟨by decide +kernel, by decide +kernel⟩, List.mem_of_getElem? (i := 911) (by decide +kernel), List.mem_of_getElem? (i := 1198) (by decide +kernel), List.mem_of_getElem? (i := 1199) (by decide +kernel)⟩
theorem lw_p45 : lw_okq (⟨"HalvedProofModel", "speak", "(I)V"⟩, 53) := ⟨⟨by decide +kernel, by decide +kernel⟩, List.mem_of_getElem? (i := 911) (by decide +kernel), List.mem_of_getElem? (i := 1211) (by decide +kernel), List.mem_of_getElem? (i := 1212) (by decide +kernel)⟩
theorem lw_p46 : lw_okq (⟨"HalvedProofModel", "lookAt", "(I)V"⟩, 53) := ⟨⟨by decide +kernel, by decide +kernel⟩, List.mem_of_getElem? (i := 911) (by decide +kernel), List.mem_of_getElem? (i := 1215) (by decide +kernel), List.mem_of_getElem? (i := 1216) (by decide +kernel)⟩
theorem lw_p47 : lw_okq (⟨"HalvedProofModel", "isEnough", "(I)Z"⟩, 53) := ⟨⟨by decide +kernel, by decide +kernel⟩, List.mem_of_getElem? (i := 911) (by decide +kernel), List.mem_of_getElem? (i := 1219) (by decide +kernel), List.mem_of_getElem? (i := 1220) (by decide +kernel)⟩
def lw_privs_3 : List (MethodName × Nat) := [(⟨"HalvedProofModel", "takeNumber", "(II)I"⟩, 53), (⟨"HalvedProofModel", "takeWitness", "()I"⟩, 53), (⟨"HalvedProofModel", "takeKind", "()I"⟩, 53), (⟨"HalvedProofModel", "takeStop", "()I"⟩, 53), (⟨"HalvedProofModel", "anew", "()V"⟩, 53), (⟨"HalvedProofModel", "takeLaw", "()I"⟩, 53), (⟨"HalvedProofModel", "lawOf", "(II)I"⟩, 53), (⟨"HalvedProofModel", "isSuit", "(I)Z"⟩, 53), (⟨"HalvedProofModel", "witnessesOf", "(I)I"⟩, 53), (⟨"HalvedProofModel", "isWitness", "(I)Z"⟩, 53), (⟨"HalvedProofModel", "freshOn", "(II)I"⟩, 53), (⟨"HalvedProofModel", "mayNow", "(I)Z"⟩, 53), (⟨"HalvedProofModel", "mayOn", "(II)Z"⟩, 53), (⟨"HalvedProofModel", "speak", "(I)V"⟩, 53), (⟨"HalvedProofModel", "lookAt", "(I)V"⟩, 53), (⟨"HalvedProofModel", "isEnough", "(I)Z"⟩, 53)]
theorem lw_r3 : ∀ q ∈ lw_privs_3, lw_okq q := List.forall_mem_cons.mpr ⟨lw_p32, List.forall_mem_cons.mpr ⟨lw_p33, List.forall_mem_cons.mpr ⟨lw_p34, List.forall_mem_cons.mpr ⟨lw_p35, List.forall_mem_cons.mpr ⟨lw_p36, List.forall_mem_cons.mpr ⟨lw_p37, List.forall_mem_cons.mpr ⟨lw_p38, List.forall_mem_cons.mpr ⟨lw_p39, List.forall_mem_cons.mpr ⟨lw_p40, List.forall_mem_cons.mpr ⟨lw_p41, List.forall_mem_cons.mpr ⟨lw_p42, List.forall_mem_cons.mpr ⟨lw_p43, List.forall_mem_cons.mpr ⟨lw_p44, List.forall_mem_cons.mpr ⟨lw_p45, List.forall_mem_cons.mpr ⟨lw_p46, List.forall_mem_cons.mpr ⟨lw_p47, fun _ h => absurd h List.not_mem_nil⟩⟩⟩⟩⟩⟩⟩⟩⟩⟩⟩⟩⟩⟩⟩⟩
theorem lw_p48 : lw_okq (⟨"HalvedProofModel", "darken", "()V"⟩, 53) := ⟨⟨by decide +kernel, by decide +kernel⟩, List.mem_of_getElem? (i := 911) (by decide +kernel), List.mem_of_getElem? (i := 1232) (by decide +kernel), List.mem_of_getElem? (i := 1233) (by decide +kernel)⟩
theorem lw_p49 : lw_okq (⟨"HalvedProofModel", "halve", "(I)V"⟩, 53) := ⟨⟨by decide +kernel, by decide +kernel⟩, List.mem_of_getElem? (i := 911) (by decide +kernel), List.mem_of_getElem? (i := 1236) (by decide +kernel), List.mem_of_getElem? (i := 1237) (by decide +kernel)⟩
theorem lw_p50 : lw_okq (⟨"HalvedProofModel", "draw", "(I)I"⟩, 53) := ⟨⟨by decide +kernel, by decide +kernel⟩, List.mem_of_getElem? (i := 911) (by decide +kernel), List.mem_of_getElem? (i := 1246) (by decide +kernel), List.mem_of_getElem? (i := 1247) (by decide +kernel)⟩
theorem lw_p51 : lw_okq (⟨"HalvedProofModel", "mostOn", "(II)J"⟩, 53) := ⟨⟨by decide +kernel, by decide +kernel⟩, List.mem_of_getElem? (i := 911) (by decide +kernel), List.mem_of_getElem? (i := 1263) (by decide +kernel), List.mem_of_getElem? (i := 1264) (by decide +kernel)⟩
theorem lw_p52 : lw_okq (⟨"HalvedProofModel", "listOwn", "(I)V"⟩, 53) := ⟨⟨by decide +kernel, by decide +kernel⟩, List.mem_of_getElem? (i := 911) (by decide +kernel), List.mem_of_getElem? (i := 1267) (by decide +kernel), List.mem_of_getElem? (i := 1268) (by decide +kernel)⟩
theorem lw_p53 : lw_okq (⟨"HalvedProofModel", "unsettle", "()V"⟩, 53) := ⟨⟨by decide +kernel, by decide +kernel⟩, List.mem_of_getElem? (i := 911) (by decide +kernel), List.mem_of_getElem? (i := 1271) (by decide +kernel), List.mem_of_getElem? (i := 1272) (by decide +kernel)⟩
theorem lw_p54 : lw_okq (⟨"HalvedProofModel", "findMosts", "(I)V"⟩, 53) := ⟨⟨by decide +kernel, by decide +kernel⟩, List.mem_of_getElem? (i := 911) (by decide +kernel), List.mem_of_getElem? (i := 1275) (by decide +kernel), List.mem_of_getElem? (i := 1276) (by decide +kernel)⟩
theorem lw_p55 : lw_okq (⟨"HalvedProofModel", "callOn", "(I)V"⟩, 53) := ⟨⟨by decide +kernel, by decide +kernel⟩, List.mem_of_getElem? (i := 911) (by decide +kernel), List.mem_of_getElem? (i := 1279) (by decide +kernel), List.mem_of_getElem? (i := 1280) (by decide +kernel)⟩
theorem lw_p56 : lw_okq (⟨"HalvedProofModel", "room", "(I)I"⟩, 53) := ⟨⟨by decide +kernel, by decide +kernel⟩, List.mem_of_getElem? (i := 911) (by decide +kernel), List.mem_of_getElem? (i := 1285) (by decide +kernel), List.mem_of_getElem? (i := 1286) (by decide +kernel)⟩
theorem lw_p57 : lw_okq (⟨"HalvedProofModel", "canCall", "(II)Z"⟩, 53) := ⟨⟨by decide +kernel, by decide +kernel⟩, List.mem_of_getElem? (i := 911) (by decide +kernel), List.mem_of_getElem? (i := 1292) (by decide +kernel), List.mem_of_getElem? (i := 1293) (by decide +kernel)⟩
theorem lw_p58 : lw_okq (⟨"HalvedProofModel", "mayCall", "(II)Z"⟩, 53) := ⟨⟨by decide +kernel, by decide +kernel⟩, List.mem_of_getElem? (i := 911) (by decide +kernel), List.mem_of_getElem? (i := 1299) (by decide +kernel), List.mem_of_getElem? (i := 1300) (by decide +kernel)⟩
theorem lw_p59 : lw_okq (⟨"HalvedProofModel", "valueOf", "(II)J"⟩, 53) := ⟨⟨by decide +kernel, by decide +kernel⟩, List.mem_of_getElem? (i := 911) (by decide +kernel), List.mem_of_getElem? (i := 1303) (by decide +kernel), List.mem_of_getElem? (i := 1304) (by decide +kernel)⟩
theorem lw_p60 : lw_okq (⟨"HalvedProofModel", "greatest", "()J"⟩, 53) := ⟨⟨by decide +kernel, by decide +kernel⟩, List.mem_of_getElem? (i := 911) (by decide +kernel), List.mem_of_getElem? (i := 1307) (by decide +kernel), List.mem_of_getElem? (i := 1308) (by decide +kernel)⟩
theorem lw_p61 : lw_okq (⟨"HalvedProofModel", "wholeBy", "(IIJ)J"⟩, 53) := ⟨⟨by decide +kernel, by decide +kernel⟩, List.mem_of_getElem? (i := 911) (by decide +kernel), List.mem_of_getElem? (i := 1311) (by decide +kernel), List.mem_of_getElem? (i := 1312) (by decide +kernel)⟩
theorem lw_p62 : lw_okq (⟨"HalvedProofModel", "soonestOf", "(I)I"⟩, 53) := ⟨⟨by decide +kernel, by decide +kernel⟩, List.mem_of_getElem? (i := 911) (by decide +kernel), List.mem_of_getElem? (i := 1319) (by decide +kernel), List.mem_of_getElem? (i := 1320) (by decide +kernel)⟩
theorem lw_p63 : lw_okq (⟨"HalvedProofModel", "findPlan", "(I)I"⟩, 53) := ⟨⟨by decide +kernel, by decide +kernel⟩, List.mem_of_getElem? (i := 911) (by decide +kernel), List.mem_of_getElem? (i := 1328) (by decide +kernel), List.mem_of_getElem? (i := 1329) (by decide +kernel)⟩
def lw_privs_4 : List (MethodName × Nat) := [(⟨"HalvedProofModel", "darken", "()V"⟩, 53), (⟨"HalvedProofModel", "halve", "(I)V"⟩, 53), (⟨"HalvedProofModel", "draw", "(I)I"⟩, 53), (⟨"HalvedProofModel", "mostOn", "(II)J"⟩, 53), (⟨"HalvedProofModel", "listOwn", "(I)V"⟩, 53), (⟨"HalvedProofModel", "unsettle", "()V"⟩, 53), (⟨"HalvedProofModel", "findMosts", "(I)V"⟩, 53), (⟨"HalvedProofModel", "callOn", "(I)V"⟩, 53), (⟨"HalvedProofModel", "room", "(I)I"⟩, 53), (⟨"HalvedProofModel", "canCall", "(II)Z"⟩, 53), (⟨"HalvedProofModel", "mayCall", "(II)Z"⟩, 53), (⟨"HalvedProofModel", "valueOf", "(II)J"⟩, 53), (⟨"HalvedProofModel", "greatest", "()J"⟩, 53), (⟨"HalvedProofModel", "wholeBy", "(IIJ)J"⟩, 53), (⟨"HalvedProofModel", "soonestOf", "(I)I"⟩, 53), (⟨"HalvedProofModel", "findPlan", "(I)I"⟩, 53)]
theorem lw_r4 : ∀ q ∈ lw_privs_4, lw_okq q := List.forall_mem_cons.mpr ⟨lw_p48, List.forall_mem_cons.mpr ⟨lw_p49, List.forall_mem_cons.mpr ⟨lw_p50, List.forall_mem_cons.mpr ⟨lw_p51, List.forall_mem_cons.mpr ⟨lw_p52, List.forall_mem_cons.mpr ⟨lw_p53, List.forall_mem_cons.mpr ⟨lw_p54, List.forall_mem_cons.mpr ⟨lw_p55, List.forall_mem_cons.mpr ⟨lw_p56, List.forall_mem_cons.mpr ⟨lw_p57, List.forall_mem_cons.mpr ⟨lw_p58, List.forall_mem_cons.mpr ⟨lw_p59, List.forall_mem_cons.mpr ⟨lw_p60, List.forall_mem_cons.mpr ⟨lw_p61, List.forall_mem_cons.mpr ⟨lw_p62, List.forall_mem_cons.mpr ⟨lw_p63, fun _ h => absurd h List.not_mem_nil⟩⟩⟩⟩⟩⟩⟩⟩⟩⟩⟩⟩⟩⟩⟩⟩
theorem lw_p64 : lw_okq (⟨"HalvedProofModel", "isEnoughBy", "(III)Z"⟩, 53) := ⟨⟨by decide +kernel, by decide +kernel⟩, List.mem_of_getElem? (i := 911) (by decide +kernel), List.mem_of_getElem? (i := 1332) (by decide +kernel), List.mem_of_getElem? (i := 1333) (by decide +kernel)⟩
theorem lw_p65 : lw_okq (⟨"HalvedProofModel", "wantOf", "(IIII)J"⟩, 53) := ⟨⟨by decide +kernel, by decide +kernel⟩, List.mem_of_getElem? (i := 911) (by decide +kernel), List.mem_of_getElem? (i := 1345) (by decide +kernel), List.mem_of_getElem? (i := 1346) (by decide +kernel)⟩
theorem lw_p66 : lw_okq (⟨"HalvedProofModel", "enoughBy", "(I)I"⟩, 53) := ⟨⟨by decide +kernel, by decide +kernel⟩, List.mem_of_getElem? (i := 911) (by decide +kernel), List.mem_of_getElem? (i := 1354) (by decide +kernel), List.mem_of_getElem? (i := 1355) (by decide +kernel)⟩
theorem lw_p67 : lw_okq (⟨"HalvedProofModel", "nextOrder", "(I)Z"⟩, 53) := ⟨⟨by decide +kernel, by decide +kernel⟩, List.mem_of_getElem? (i := 911) (by decide +kernel), List.mem_of_getElem? (i := 1358) (by decide +kernel), List.mem_of_getElem? (i := 1359) (by decide +kernel)⟩
theorem lw_p68 : lw_okq (⟨"HalvedProofModel", "swap", "(II)V"⟩, 53) := ⟨⟨by decide +kernel, by decide +kernel⟩, List.mem_of_getElem? (i := 911) (by decide +kernel), List.mem_of_getElem? (i := 1362) (by decide +kernel), List.mem_of_getElem? (i := 1363) (by decide +kernel)⟩
def lw_privs_5 : List (MethodName × Nat) := [(⟨"HalvedProofModel", "isEnoughBy", "(III)Z"⟩, 53), (⟨"HalvedProofModel", "wantOf", "(IIII)J"⟩, 53), (⟨"HalvedProofModel", "enoughBy", "(I)I"⟩, 53), (⟨"HalvedProofModel", "nextOrder", "(I)Z"⟩, 53), (⟨"HalvedProofModel", "swap", "(II)V"⟩, 53)]
theorem lw_r5 : ∀ q ∈ lw_privs_5, lw_okq q := List.forall_mem_cons.mpr ⟨lw_p64, List.forall_mem_cons.mpr ⟨lw_p65, List.forall_mem_cons.mpr ⟨lw_p66, List.forall_mem_cons.mpr ⟨lw_p67, List.forall_mem_cons.mpr ⟨lw_p68, fun _ h => absurd h List.not_mem_nil⟩⟩⟩⟩⟩
def lw_privs : List (MethodName × Nat) := lw_privs_1 ++ (lw_privs_2 ++ (lw_privs_3 ++ (lw_privs_4 ++ (lw_privs_5))))
def lw_tbl : List Cond := k2_sels lw_privs ++ tables_1
theorem lw_privs_ok : ∀ q ∈ lw_privs, lw_okq q := by
  show ∀ q ∈ lw_privs_1 ++ (lw_privs_2 ++ (lw_privs_3 ++ (lw_privs_4 ++ (lw_privs_5)))), lw_okq q
  exact List.forall_mem_append.mpr ⟨lw_r1, List.forall_mem_append.mpr ⟨lw_r2, List.forall_mem_append.mpr ⟨lw_r3, List.forall_mem_append.mpr ⟨lw_r4, lw_r5⟩⟩⟩⟩
end
section
def RX0 : String := "HalvedProof$Books"
def TX0 : u_T := fun k => match k with
  | 0 => ("HalvedProof$Books", "evenings", "[I", true)
  | _ => ("HalvedProof$Books", "thirds", "[[I", true)
def tyX0 : Nat → FieldType := fun k => match k with
  | 0 => .array .int
  | _ => .array (.array .int)
abbrev wsX00 : List Cond := u_ws RX0 TX0 2
theorem nmX0 : ∀ a, a < 2 → ∀ b, b < 2 → a ≠ b → (TX0 a).2.1 ≠ (TX0 b).2.1 := by decide +kernel
theorem tyX0_ok : ∀ k, k < 2 → parseFieldDescriptor (TX0 k).2.2.1 = some (tyX0 k) := by decide +kernel
abbrev cX0_init : ByteArray := prog_2_method_1_code
def yX0_init : MethodName := ⟨RX0, "<init>", "()V"⟩
abbrev cX0_tearAll : ByteArray := prog_2_method_2_code
def yX0_tearAll : MethodName := ⟨RX0, "tearAll", "()V"⟩
abbrev cX0_append : ByteArray := prog_2_method_3_code
def yX0_append : MethodName := ⟨RX0, "append", "(II)I"⟩
abbrev cX0_firstWrong : ByteArray := prog_2_method_4_code
def yX0_firstWrong : MethodName := ⟨RX0, "firstWrong", "(ILHalvedProof$State;)I"⟩
def RX1 : String := "HalvedProof$Called"
def TX1 : u_T := fun k => match k with
  | 0 => ("HalvedProof$Called", "trial", "LHalvedProof$Trial;", true)
  | 1 => ("HalvedProof$Called", "members", "[I", true)
  | 2 => ("HalvedProof$Called", "worth", "[[J", true)
  | 3 => ("HalvedProof$Called", "room", "[I", true)
  | 4 => ("HalvedProof$Called", "best", "[J", true)
  | 5 => ("HalvedProof$Called", "together", "[J", true)
  | 6 => ("HalvedProof$Called", "wins", "[Z", true)
  | 7 => ("HalvedProof$Called", "planned", "[I", true)
  | 8 => ("HalvedProof$Called", "size", "I", false)
  | 9 => ("HalvedProof$Called", "lastDay", "I", false)
  | 10 => ("HalvedProof$Called", "start", "J", false)
  | _ => ("HalvedProof$Called", "goal", "J", false)
def tyX1 : Nat → FieldType := fun k => match k with
  | 0 => .object "HalvedProof$Trial"
  | 1 => .array .int
  | 2 => .array (.array .long)
  | 3 => .array .int
  | 4 => .array .long
  | 5 => .array .long
  | 6 => .array .boolean
  | 7 => .array .int
  | 8 => .int
  | 9 => .int
  | 10 => .long
  | _ => .long
abbrev wsX10 : List Cond := u_ws RX1 TX1 12
theorem nmX1 : ∀ a, a < 12 → ∀ b, b < 12 → a ≠ b → (TX1 a).2.1 ≠ (TX1 b).2.1 := by decide +kernel
theorem tyX1_ok : ∀ k, k < 12 → parseFieldDescriptor (TX1 k).2.2.1 = some (tyX1 k) := by decide +kernel
abbrev cX1_init : ByteArray := prog_3_method_1_code
def yX1_init : MethodName := ⟨RX1, "<init>", "(LHalvedProof$Trial;)V"⟩
abbrev cX1_mostOn : ByteArray := prog_3_method_2_code
def yX1_mostOn : MethodName := ⟨RX1, "mostOn", "(II)I"⟩
abbrev cX1_soonestOf : ByteArray := prog_3_method_3_code
def yX1_soonestOf : MethodName := ⟨RX1, "soonestOf", "(I)I"⟩
abbrev cX1_plannedDayOf : ByteArray := prog_3_method_4_code
def yX1_plannedDayOf : MethodName := ⟨RX1, "plannedDayOf", "(II)I"⟩
abbrev cX1_fewestToStrike : ByteArray := prog_3_method_5_code
def yX1_fewestToStrike : MethodName := ⟨RX1, "fewestToStrike", "(I)I"⟩
abbrev cX1_prepare : ByteArray := prog_3_method_6_code
def yX1_prepare : MethodName := ⟨RX1, "prepare", "(I)V"⟩
abbrev cX1_allOfThem : ByteArray := prog_3_method_7_code
def yX1_allOfThem : MethodName := ⟨RX1, "allOfThem", "()I"⟩
abbrev cX1_clearPlans : ByteArray := prog_3_method_8_code
def yX1_clearPlans : MethodName := ⟨RX1, "clearPlans", "()V"⟩
abbrev cX1_callOn : ByteArray := prog_3_method_9_code
def yX1_callOn : MethodName := ⟨RX1, "callOn", "(II)V"⟩
abbrev cX1_addUp : ByteArray := prog_3_method_10_code
def yX1_addUp : MethodName := ⟨RX1, "addUp", "(I)I"⟩
abbrev cX1_greatest : ByteArray := prog_3_method_11_code
def yX1_greatest : MethodName := ⟨RX1, "greatest", "()J"⟩
abbrev cX1_suffices : ByteArray := prog_3_method_12_code
def yX1_suffices : MethodName := ⟨RX1, "suffices", "(JI)Z"⟩
abbrev cX1_fewestSpeakers : ByteArray := prog_3_method_13_code
def yX1_fewestSpeakers : MethodName := ⟨RX1, "fewestSpeakers", "(I)I"⟩
abbrev cX1_setDays : ByteArray := prog_3_method_14_code
def yX1_setDays : MethodName := ⟨RX1, "setDays", "(II)V"⟩
abbrev cX1_othersMakeUp : ByteArray := prog_3_method_15_code
def yX1_othersMakeUp : MethodName := ⟨RX1, "othersMakeUp", "(IIIJ)Z"⟩
abbrev cX1_findWins : ByteArray := prog_3_method_16_code
def yX1_findWins : MethodName := ⟨RX1, "findWins", "()V"⟩
abbrev cX1_stopsAll : ByteArray := prog_3_method_17_code
def yX1_stopsAll : MethodName := ⟨RX1, "stopsAll", "(I)Z"⟩
abbrev cX1_asWitnesses : ByteArray := prog_3_method_18_code
def yX1_asWitnesses : MethodName := ⟨RX1, "asWitnesses", "(I)I"⟩
def RX2 : String := "HalvedProof$Court"
def TX2 : u_T := fun k => match k with
  | 0 => ("HalvedProof$Court", "suits", "I", false)
  | 1 => ("HalvedProof$Court", "witnesses", "I", false)
  | 2 => ("HalvedProof$Court", "need", "[I", true)
  | 3 => ("HalvedProof$Court", "lasts", "[I", true)
  | 4 => ("HalvedProof$Court", "hangs", "[I", true)
  | 5 => ("HalvedProof$Court", "suitOf", "[I", true)
  | 6 => ("HalvedProof$Court", "weighs", "[I", true)
  | _ => ("HalvedProof$Court", "kind", "[I", true)
def tyX2 : Nat → FieldType := fun k => match k with
  | 0 => .int
  | 1 => .int
  | 2 => .array .int
  | 3 => .array .int
  | 4 => .array .int
  | 5 => .array .int
  | 6 => .array .int
  | _ => .array .int
abbrev wsX20 : List Cond := u_ws RX2 TX2 8
theorem nmX2 : ∀ a, a < 8 → ∀ b, b < 8 → a ≠ b → (TX2 a).2.1 ≠ (TX2 b).2.1 := by decide +kernel
theorem tyX2_ok : ∀ k, k < 8 → parseFieldDescriptor (TX2 k).2.2.1 = some (tyX2 k) := by decide +kernel
abbrev cX2_init : ByteArray := prog_4_method_1_code
def yX2_init : MethodName := ⟨RX2, "<init>", "()V"⟩
abbrev cX2_hasSuit : ByteArray := prog_4_method_2_code
def yX2_hasSuit : MethodName := ⟨RX2, "hasSuit", "(I)Z"⟩
abbrev cX2_hasWitness : ByteArray := prog_4_method_3_code
def yX2_hasWitness : MethodName := ⟨RX2, "hasWitness", "(I)Z"⟩
abbrev cX2_goalOf : ByteArray := prog_4_method_4_code
def yX2_goalOf : MethodName := ⟨RX2, "goalOf", "(I)I"⟩
abbrev cX2_witnessesOf : ByteArray := prog_4_method_5_code
def yX2_witnessesOf : MethodName := ⟨RX2, "witnessesOf", "(I)I"⟩
abbrev cX2_readFrom : ByteArray := prog_4_method_6_code
def yX2_readFrom : MethodName := ⟨RX2, "readFrom", "(LHalvedProof$Reader;)V"⟩
abbrev cX2_readSuit : ByteArray := prog_4_method_7_code
def yX2_readSuit : MethodName := ⟨RX2, "readSuit", "(LHalvedProof$Reader;)V"⟩
abbrev cX2_readWitness : ByteArray := prog_4_method_8_code
def yX2_readWitness : MethodName := ⟨RX2, "readWitness", "(LHalvedProof$Reader;)V"⟩
abbrev cX2_readKind : ByteArray := prog_4_method_9_code
def yX2_readKind : MethodName := ⟨RX2, "readKind", "(LHalvedProof$Reader;)I"⟩
def RX3 : String := "HalvedProof$Duel"
def TX3 : u_T := fun k => match k with
  | 0 => ("HalvedProof$Duel", "trial", "LHalvedProof$Trial;", true)
  | 1 => ("HalvedProof$Duel", "fresh", "[I", true)
  | 2 => ("HalvedProof$Duel", "pool", "I", false)
  | 3 => ("HalvedProof$Duel", "start", "I", false)
  | _ => ("HalvedProof$Duel", "goal", "I", false)
def tyX3 : Nat → FieldType := fun k => match k with
  | 0 => .object "HalvedProof$Trial"
  | 1 => .array .int
  | 2 => .int
  | 3 => .int
  | _ => .int
abbrev wsX30 : List Cond := u_ws RX3 TX3 5
theorem nmX3 : ∀ a, a < 5 → ∀ b, b < 5 → a ≠ b → (TX3 a).2.1 ≠ (TX3 b).2.1 := by decide +kernel
theorem tyX3_ok : ∀ k, k < 5 → parseFieldDescriptor (TX3 k).2.2.1 = some (tyX3 k) := by decide +kernel
abbrev cX3_init : ByteArray := prog_5_method_1_code
def yX3_init : MethodName := ⟨RX3, "<init>", "(LHalvedProof$Trial;)V"⟩
abbrev cX3_prepare : ByteArray := prog_5_method_2_code
def yX3_prepare : MethodName := ⟨RX3, "prepare", "(I)V"⟩
abbrev cX3_isWon : ByteArray := prog_5_method_3_code
def yX3_isWon : MethodName := ⟨RX3, "isWon", "()Z"⟩
abbrev cX3_bestCall : ByteArray := prog_5_method_4_code
def yX3_bestCall : MethodName := ⟨RX3, "bestCall", "()I"⟩
abbrev cX3_sideWins : ByteArray := prog_5_method_5_code
def yX3_sideWins : MethodName := ⟨RX3, "sideWins", "(III)Z"⟩
abbrev cX3_winsByCalling : ByteArray := prog_5_method_6_code
def yX3_winsByCalling : MethodName := ⟨RX3, "winsByCalling", "(IIII)Z"⟩
abbrev cX3_has : ByteArray := prog_5_method_7_code
def yX3_has : MethodName := ⟨RX3, "has", "(II)Z"⟩
def RX4 : String := "HalvedProof$Laws"
def TX4 : u_T := fun k => match k with
  | 0 => ("HalvedProof$Laws", "clauses", "I", false)
  | 1 => ("HalvedProof$Laws", "from", "[I", true)
  | 2 => ("HalvedProof$Laws", "copies", "[I", true)
  | 3 => ("HalvedProof$Laws", "moon", "[I", true)
  | _ => ("HalvedProof$Laws", "talkers", "[I", true)
def tyX4 : Nat → FieldType := fun k => match k with
  | 0 => .int
  | 1 => .array .int
  | 2 => .array .int
  | 3 => .array .int
  | _ => .array .int
abbrev wsX40 : List Cond := u_ws RX4 TX4 5
theorem nmX4 : ∀ a, a < 5 → ∀ b, b < 5 → a ≠ b → (TX4 a).2.1 ≠ (TX4 b).2.1 := by decide +kernel
theorem tyX4_ok : ∀ k, k < 5 → parseFieldDescriptor (TX4 k).2.2.1 = some (tyX4 k) := by decide +kernel
abbrev cX4_init : ByteArray := prog_6_method_1_code
def yX4_init : MethodName := ⟨RX4, "<init>", "()V"⟩
abbrev cX4_copiesOn : ByteArray := prog_6_method_2_code
def yX4_copiesOn : MethodName := ⟨RX4, "copiesOn", "(I)I"⟩
abbrev cX4_moonOn : ByteArray := prog_6_method_3_code
def yX4_moonOn : MethodName := ⟨RX4, "moonOn", "(I)I"⟩
abbrev cX4_talkersOn : ByteArray := prog_6_method_4_code
def yX4_talkersOn : MethodName := ⟨RX4, "talkersOn", "(I)I"⟩
abbrev cX4_readFrom : ByteArray := prog_6_method_5_code
def yX4_readFrom : MethodName := ⟨RX4, "readFrom", "(LHalvedProof$Reader;)V"⟩
abbrev cX4_readClause : ByteArray := prog_6_method_6_code
def yX4_readClause : MethodName := ⟨RX4, "readClause", "(LHalvedProof$Reader;)V"⟩
abbrev cX4_clauseOn : ByteArray := prog_6_method_7_code
def yX4_clauseOn : MethodName := ⟨RX4, "clauseOn", "(I)I"⟩
def RX5 : String := "HalvedProof$Reader"
def TX5 : u_T := fun k => match k with
  | 0 => ("HalvedProof$Reader", "text", "LHalvedProof$Text;", true)
  | 1 => ("HalvedProof$Reader", "fault", "I", false)
  | 2 => ("HalvedProof$Reader", "faultPlace", "I", false)
  | 3 => ("HalvedProof$Reader", "place", "I", false)
  | _ => ("HalvedProof$Reader", "takenPlace", "I", false)
def tyX5 : Nat → FieldType := fun k => match k with
  | 0 => .object "HalvedProof$Text"
  | 1 => .int
  | 2 => .int
  | 3 => .int
  | _ => .int
abbrev wsX50 : List Cond := u_ws RX5 TX5 5
theorem nmX5 : ∀ a, a < 5 → ∀ b, b < 5 → a ≠ b → (TX5 a).2.1 ≠ (TX5 b).2.1 := by decide +kernel
theorem tyX5_ok : ∀ k, k < 5 → parseFieldDescriptor (TX5 k).2.2.1 = some (tyX5 k) := by decide +kernel
abbrev cX5_init : ByteArray := prog_7_method_1_code
def yX5_init : MethodName := ⟨RX5, "<init>", "(LHalvedProof$Text;)V"⟩
abbrev cX5_start : ByteArray := prog_7_method_2_code
def yX5_start : MethodName := ⟨RX5, "start", "()V"⟩
abbrev cX5_hasMore : ByteArray := prog_7_method_3_code
def yX5_hasMore : MethodName := ⟨RX5, "hasMore", "()Z"⟩
abbrev cX5_isSound : ByteArray := prog_7_method_4_code
def yX5_isSound : MethodName := ⟨RX5, "isSound", "()Z"⟩
abbrev cX5_refuseHere : ByteArray := prog_7_method_5_code
def yX5_refuseHere : MethodName := ⟨RX5, "refuseHere", "(I)V"⟩
abbrev cX5_refuseTaken : ByteArray := prog_7_method_6_code
def yX5_refuseTaken : MethodName := ⟨RX5, "refuseTaken", "(I)V"⟩
abbrev cX5_takesWord : ByteArray := prog_7_method_7_code
def yX5_takesWord : MethodName := ⟨RX5, "takesWord", "(Ljava/lang/String;)Z"⟩
abbrev cX5_takeNumber : ByteArray := prog_7_method_8_code
def yX5_takeNumber : MethodName := ⟨RX5, "takeNumber", "(II)I"⟩
abbrev cX5_takeSemicolon : ByteArray := prog_7_method_9_code
def yX5_takeSemicolon : MethodName := ⟨RX5, "takeSemicolon", "()V"⟩
abbrev cX5_refuseAt : ByteArray := prog_7_method_10_code
def yX5_refuseAt : MethodName := ⟨RX5, "refuseAt", "(II)V"⟩
abbrev cX5_pass : ByteArray := prog_7_method_11_code
def yX5_pass : MethodName := ⟨RX5, "pass", "(I)V"⟩
abbrev cX5_seesWord : ByteArray := prog_7_method_12_code
def yX5_seesWord : MethodName := ⟨RX5, "seesWord", "(Ljava/lang/String;)Z"⟩
abbrev cX5_byteAt : ByteArray := prog_7_method_13_code
def yX5_byteAt : MethodName := ⟨RX5, "byteAt", "(I)I"⟩
abbrev cX5_isFigure : ByteArray := prog_7_method_14_code
def yX5_isFigure : MethodName := ⟨RX5, "isFigure", "(I)Z"⟩
abbrev cX5_isLetter : ByteArray := prog_7_method_15_code
def yX5_isLetter : MethodName := ⟨RX5, "isLetter", "(I)Z"⟩
def RX6 : String := "HalvedProof$State"
def TX6 : u_T := fun k => match k with
  | 0 => ("HalvedProof$State", "day", "I", false)
  | 1 => ("HalvedProof$State", "spoken", "I", false)
  | 2 => ("HalvedProof$State", "drawn", "I", false)
  | 3 => ("HalvedProof$State", "latest", "[I", true)
  | 4 => ("HalvedProof$State", "times", "[I", true)
  | 5 => ("HalvedProof$State", "struck", "[I", true)
  | 6 => ("HalvedProof$State", "whole", "[I", true)
  | 7 => ("HalvedProof$State", "course", "[I", true)
  | 8 => ("HalvedProof$State", "ended", "[I", true)
  | _ => ("HalvedProof$State", "atDusk", "[[I", true)
def tyX6 : Nat → FieldType := fun k => match k with
  | 0 => .int
  | 1 => .int
  | 2 => .int
  | 3 => .array .int
  | 4 => .array .int
  | 5 => .array .int
  | 6 => .array .int
  | 7 => .array .int
  | 8 => .array .int
  | _ => .array (.array .int)
abbrev wsX60 : List Cond := u_ws RX6 TX6 10
theorem nmX6 : ∀ a, a < 10 → ∀ b, b < 10 → a ≠ b → (TX6 a).2.1 ≠ (TX6 b).2.1 := by decide +kernel
theorem tyX6_ok : ∀ k, k < 10 → parseFieldDescriptor (TX6 k).2.2.1 = some (tyX6 k) := by decide +kernel
abbrev cX6_init : ByteArray := prog_8_method_1_code
def yX6_init : MethodName := ⟨RX6, "<init>", "()V"⟩
abbrev cX6_startAgain : ByteArray := prog_8_method_2_code
def yX6_startAgain : MethodName := ⟨RX6, "startAgain", "()V"⟩
abbrev cX6_become : ByteArray := prog_8_method_3_code
def yX6_become : MethodName := ⟨RX6, "become", "(LHalvedProof$State;)V"⟩
abbrev cX6_figure : ByteArray := prog_8_method_4_code
def yX6_figure : MethodName := ⟨RX6, "figure", "(II)I"⟩
abbrev cX6_halve : ByteArray := prog_8_method_5_code
def yX6_halve : MethodName := ⟨RX6, "halve", "(I)V"⟩
abbrev cX6_end : ByteArray := prog_8_method_6_code
def yX6_end : MethodName := ⟨RX6, "end", "(II)V"⟩
abbrev cX6_draw : ByteArray := prog_8_method_7_code
def yX6_draw : MethodName := ⟨RX6, "draw", "(I)I"⟩
def RX7 : String := "HalvedProof$Text"
def TX7 : u_T := fun k => match k with
  | 0 => ("HalvedProof$Text", "bytes", "[B", true)
  | _ => ("HalvedProof$Text", "length", "I", false)
def tyX7 : Nat → FieldType := fun k => match k with
  | 0 => .array .byte
  | _ => .int
abbrev wsX70 : List Cond := u_ws RX7 TX7 2
theorem nmX7 : ∀ a, a < 2 → ∀ b, b < 2 → a ≠ b → (TX7 a).2.1 ≠ (TX7 b).2.1 := by decide +kernel
theorem tyX7_ok : ∀ k, k < 2 → parseFieldDescriptor (TX7 k).2.2.1 = some (tyX7 k) := by decide +kernel
abbrev cX7_init : ByteArray := prog_9_method_1_code
def yX7_init : MethodName := ⟨RX7, "<init>", "()V"⟩
abbrev cX7_append : ByteArray := prog_9_method_2_code
def yX7_append : MethodName := ⟨RX7, "append", "(B)V"⟩
def RX8 : String := "HalvedProof$Today"
def TX8 : u_T := fun k => match k with
  | 0 => ("HalvedProof$Today", "trial", "LHalvedProof$Trial;", true)
  | _ => ("HalvedProof$Today", "speakers", "[I", true)
def tyX8 : Nat → FieldType := fun k => match k with
  | 0 => .object "HalvedProof$Trial"
  | _ => .array .int
abbrev wsX80 : List Cond := u_ws RX8 TX8 2
theorem nmX8 : ∀ a, a < 2 → ∀ b, b < 2 → a ≠ b → (TX8 a).2.1 ≠ (TX8 b).2.1 := by decide +kernel
theorem tyX8_ok : ∀ k, k < 2 → parseFieldDescriptor (TX8 k).2.2.1 = some (tyX8 k) := by decide +kernel
abbrev cX8_init : ByteArray := prog_10_method_1_code
def yX8_init : MethodName := ⟨RX8, "<init>", "(LHalvedProof$Trial;)V"⟩
abbrev cX8_winnableTogether : ByteArray := prog_10_method_2_code
def yX8_winnableTogether : MethodName := ⟨RX8, "winnableTogether", "()I"⟩
abbrev cX8_speakersOf : ByteArray := prog_10_method_3_code
def yX8_speakersOf : MethodName := ⟨RX8, "speakersOf", "(I)I"⟩
abbrev cX8_speakersNeeded : ByteArray := prog_10_method_4_code
def yX8_speakersNeeded : MethodName := ⟨RX8, "speakersNeeded", "(I)I"⟩
def RX9 : String := "HalvedProof$Trial"
def TX9 : u_T := fun k => match k with
  | 0 => ("HalvedProof$Trial", "court", "LHalvedProof$Court;", false)
  | 1 => ("HalvedProof$Trial", "laws", "LHalvedProof$Laws;", false)
  | _ => ("HalvedProof$Trial", "now", "LHalvedProof$State;", true)
def tyX9 : Nat → FieldType := fun k => match k with
  | 0 => .object "HalvedProof$Court"
  | 1 => .object "HalvedProof$Laws"
  | _ => .object "HalvedProof$State"
abbrev wsX90 : List Cond := u_ws RX9 TX9 3
theorem nmX9 : ∀ a, a < 3 → ∀ b, b < 3 → a ≠ b → (TX9 a).2.1 ≠ (TX9 b).2.1 := by decide +kernel
theorem tyX9_ok : ∀ k, k < 3 → parseFieldDescriptor (TX9 k).2.2.1 = some (tyX9 k) := by decide +kernel
abbrev cX9_init : ByteArray := prog_11_method_1_code
def yX9_init : MethodName := ⟨RX9, "<init>", "()V"⟩
abbrev cX9_goesOn : ByteArray := prog_11_method_2_code
def yX9_goesOn : MethodName := ⟨RX9, "goesOn", "(I)Z"⟩
abbrev cX9_freshOn : ByteArray := prog_11_method_3_code
def yX9_freshOn : MethodName := ⟨RX9, "freshOn", "(II)I"⟩
abbrev cX9_mayBeCalled : ByteArray := prog_11_method_4_code
def yX9_mayBeCalled : MethodName := ⟨RX9, "mayBeCalled", "(II)Z"⟩
abbrev cX9_maySpeak : ByteArray := prog_11_method_5_code
def yX9_maySpeak : MethodName := ⟨RX9, "maySpeak", "(I)Z"⟩
abbrev cX9_roomOn : ByteArray := prog_11_method_6_code
def yX9_roomOn : MethodName := ⟨RX9, "roomOn", "(I)I"⟩
abbrev cX9_hear : ByteArray := prog_11_method_7_code
def yX9_hear : MethodName := ⟨RX9, "hear", "(I)I"⟩
abbrev cX9_endDay : ByteArray := prog_11_method_8_code
def yX9_endDay : MethodName := ⟨RX9, "endDay", "()V"⟩
abbrev cX9_passDayByDraws : ByteArray := prog_11_method_9_code
def yX9_passDayByDraws : MethodName := ⟨RX9, "passDayByDraws", "(I)I"⟩
abbrev cX9_look : ByteArray := prog_11_method_10_code
def yX9_look : MethodName := ⟨RX9, "look", "(I)V"⟩
abbrev cX9_isCarried : ByteArray := prog_11_method_11_code
def yX9_isCarried : MethodName := ⟨RX9, "isCarried", "(I)Z"⟩
def RX10 : String := "HalvedProof"
def TX10 : u_T := fun k => match k with
  | 0 => ("HalvedProof", "text", "LHalvedProof$Text;", true)
  | 1 => ("HalvedProof", "reader", "LHalvedProof$Reader;", true)
  | 2 => ("HalvedProof", "trial", "LHalvedProof$Trial;", true)
  | 3 => ("HalvedProof", "called", "LHalvedProof$Called;", true)
  | 4 => ("HalvedProof", "duel", "LHalvedProof$Duel;", true)
  | 5 => ("HalvedProof", "today", "LHalvedProof$Today;", true)
  | 6 => ("HalvedProof", "books", "LHalvedProof$Books;", true)
  | 7 => ("HalvedProof", "images", "[LHalvedProof$State;", true)
  | 8 => ("HalvedProof", "kept", "[Z", true)
  | 9 => ("HalvedProof", "spareCourt", "LHalvedProof$Court;", false)
  | 10 => ("HalvedProof", "spareLaws", "LHalvedProof$Laws;", false)
  | _ => ("HalvedProof", "faultPlace", "I", false)
def tyX10 : Nat → FieldType := fun k => match k with
  | 0 => .object "HalvedProof$Text"
  | 1 => .object "HalvedProof$Reader"
  | 2 => .object "HalvedProof$Trial"
  | 3 => .object "HalvedProof$Called"
  | 4 => .object "HalvedProof$Duel"
  | 5 => .object "HalvedProof$Today"
  | 6 => .object "HalvedProof$Books"
  | 7 => .array (.object "HalvedProof$State")
  | 8 => .array .boolean
  | 9 => .object "HalvedProof$Court"
  | 10 => .object "HalvedProof$Laws"
  | _ => .int
abbrev wsX100 : List Cond := u_ws RX10 TX10 12
theorem nmX10 : ∀ a, a < 12 → ∀ b, b < 12 → a ≠ b → (TX10 a).2.1 ≠ (TX10 b).2.1 := by decide +kernel
theorem tyX10_ok : ∀ k, k < 12 → parseFieldDescriptor (TX10 k).2.2.1 = some (tyX10 k) := by decide +kernel
abbrev cX10_init : ByteArray := prog_1_method_1_code
def yX10_init : MethodName := ⟨RX10, "<init>", "()V"⟩
abbrev cX10_feed : ByteArray := prog_1_method_2_code
def yX10_feed : MethodName := ⟨RX10, "feed", "(IJ)I"⟩
abbrev cX10_court : ByteArray := prog_1_method_3_code
def yX10_court : MethodName := ⟨RX10, "court", "()I"⟩
abbrev cX10_laws : ByteArray := prog_1_method_4_code
def yX10_laws : MethodName := ⟨RX10, "laws", "()I"⟩
abbrev cX10_fault : ByteArray := prog_1_method_5_code
def yX10_fault : MethodName := ⟨RX10, "fault", "()I"⟩
abbrev cX10_told : ByteArray := prog_1_method_6_code
def yX10_told : MethodName := ⟨RX10, "told", "(I)I"⟩
abbrev cX10_suit : ByteArray := prog_1_method_7_code
def yX10_suit : MethodName := ⟨RX10, "suit", "(II)I"⟩
abbrev cX10_witness : ByteArray := prog_1_method_8_code
def yX10_witness : MethodName := ⟨RX10, "witness", "(II)I"⟩
abbrev cX10_weight : ByteArray := prog_1_method_9_code
def yX10_weight : MethodName := ⟨RX10, "weight", "(II)I"⟩
abbrev cX10_say : ByteArray := prog_1_method_10_code
def yX10_say : MethodName := ⟨RX10, "say", "(I)I"⟩
abbrev cX10_strike : ByteArray := prog_1_method_11_code
def yX10_strike : MethodName := ⟨RX10, "strike", "(IZ)I"⟩
abbrev cX10_dusk : ByteArray := prog_1_method_12_code
def yX10_dusk : MethodName := ⟨RX10, "dusk", "(I)I"⟩
abbrev cX10_drift : ByteArray := prog_1_method_13_code
def yX10_drift : MethodName := ⟨RX10, "drift", "(II)I"⟩
abbrev cX10_begin : ByteArray := prog_1_method_14_code
def yX10_begin : MethodName := ⟨RX10, "begin", "()I"⟩
abbrev cX10_most : ByteArray := prog_1_method_15_code
def yX10_most : MethodName := ⟨RX10, "most", "(II)I"⟩
abbrev cX10_soonest : ByteArray := prog_1_method_16_code
def yX10_soonest : MethodName := ⟨RX10, "soonest", "(I)I"⟩
abbrev cX10_plan : ByteArray := prog_1_method_17_code
def yX10_plan : MethodName := ⟨RX10, "plan", "(I)I"⟩
abbrev cX10_cut : ByteArray := prog_1_method_18_code
def yX10_cut : MethodName := ⟨RX10, "cut", "(I)I"⟩
abbrev cX10_turns : ByteArray := prog_1_method_19_code
def yX10_turns : MethodName := ⟨RX10, "turns", "(II)I"⟩
abbrev cX10_many : ByteArray := prog_1_method_20_code
def yX10_many : MethodName := ⟨RX10, "many", "(I)I"⟩
abbrev cX10_write : ByteArray := prog_1_method_21_code
def yX10_write : MethodName := ⟨RX10, "write", "(II)I"⟩
abbrev cX10_tear : ByteArray := prog_1_method_22_code
def yX10_tear : MethodName := ⟨RX10, "tear", "(I)I"⟩
abbrev cX10_judge : ByteArray := prog_1_method_23_code
def yX10_judge : MethodName := ⟨RX10, "judge", "(I)I"⟩
abbrev cX10_evening : ByteArray := prog_1_method_24_code
def yX10_evening : MethodName := ⟨RX10, "evening", "(II)I"⟩
abbrev cX10_seed : ByteArray := prog_1_method_25_code
def yX10_seed : MethodName := ⟨RX10, "seed", "(I)I"⟩
abbrev cX10_keep : ByteArray := prog_1_method_26_code
def yX10_keep : MethodName := ⟨RX10, "keep", "(I)I"⟩
abbrev cX10_goBack : ByteArray := prog_1_method_27_code
def yX10_goBack : MethodName := ⟨RX10, "goBack", "(I)I"⟩
abbrev cX10_oneIf : ByteArray := prog_1_method_28_code
def yX10_oneIf : MethodName := ⟨RX10, "oneIf", "(Z)I"⟩
def RX11 : String := "HalvedProofModel"
def TX11 : u_T := fun k => match k with
  | 0 => ("HalvedProofModel", "suits", "I", false)
  | 1 => ("HalvedProofModel", "need", "[I", true)
  | 2 => ("HalvedProofModel", "falls", "[I", true)
  | 3 => ("HalvedProofModel", "hangs", "[I", true)
  | 4 => ("HalvedProofModel", "witnesses", "I", false)
  | 5 => ("HalvedProofModel", "suitOf", "[I", true)
  | 6 => ("HalvedProofModel", "weightOf", "[I", true)
  | 7 => ("HalvedProofModel", "kindOf", "[I", true)
  | 8 => ("HalvedProofModel", "laws", "I", false)
  | 9 => ("HalvedProofModel", "law", "[I", true)
  | 10 => ("HalvedProofModel", "last", "[I", true)
  | 11 => ("HalvedProofModel", "often", "[I", true)
  | 12 => ("HalvedProofModel", "isStruck", "[Z", true)
  | 13 => ("HalvedProofModel", "day", "I", false)
  | 14 => ("HalvedProofModel", "spoken", "I", false)
  | 15 => ("HalvedProofModel", "how", "[I", true)
  | 16 => ("HalvedProofModel", "howDay", "[I", true)
  | 17 => ("HalvedProofModel", "whole", "[I", true)
  | 18 => ("HalvedProofModel", "figures", "[I", true)
  | 19 => ("HalvedProofModel", "evenings", "[I", true)
  | 20 => ("HalvedProofModel", "seed", "I", false)
  | 21 => ("HalvedProofModel", "text", "[I", true)
  | 22 => ("HalvedProofModel", "texted", "I", false)
  | 23 => ("HalvedProofModel", "faultPlace", "I", false)
  | 24 => ("HalvedProofModel", "at0", "I", false)
  | 25 => ("HalvedProofModel", "said", "J", false)
  | 26 => ("HalvedProofModel", "wordEnd", "I", false)
  | 27 => ("HalvedProofModel", "number", "I", false)
  | 28 => ("HalvedProofModel", "numberAt", "I", false)
  | 29 => ("HalvedProofModel", "readSuits", "I", false)
  | 30 => ("HalvedProofModel", "readNeed", "[I", true)
  | 31 => ("HalvedProofModel", "readFalls", "[I", true)
  | 32 => ("HalvedProofModel", "readHangs", "[I", true)
  | 33 => ("HalvedProofModel", "readWitnesses", "I", false)
  | 34 => ("HalvedProofModel", "readSuitOf", "[I", true)
  | 35 => ("HalvedProofModel", "readWeight", "[I", true)
  | 36 => ("HalvedProofModel", "readKind", "[I", true)
  | 37 => ("HalvedProofModel", "readLaws", "I", false)
  | 38 => ("HalvedProofModel", "readLaw", "[I", true)
  | 39 => ("HalvedProofModel", "own", "[I", true)
  | 40 => ("HalvedProofModel", "owned", "I", false)
  | 41 => ("HalvedProofModel", "settled", "[I", true)
  | 42 => ("HalvedProofModel", "mosts", "[J", true)
  | 43 => ("HalvedProofModel", "then", "[J", true)
  | 44 => ("HalvedProofModel", "wereStruck", "[Z", true)
  | 45 => ("HalvedProofModel", "wants", "[J", true)
  | 46 => ("HalvedProofModel", "order", "[I", true)
  | 47 => ("HalvedProofModel", "booked", "[I", true)
  | 48 => ("HalvedProofModel", "bookRow", "[I", true)
  | 49 => ("HalvedProofModel", "images", "[I", true)
  | 50 => ("HalvedProofModel", "imageFigures", "[I", true)
  | 51 => ("HalvedProofModel", "imageEvenings", "[I", true)
  | _ => ("HalvedProofModel", "isKept", "[Z", true)
def tyX11 : Nat → FieldType := fun k => match k with
  | 0 => .int
  | 1 => .array .int
  | 2 => .array .int
  | 3 => .array .int
  | 4 => .int
  | 5 => .array .int
  | 6 => .array .int
  | 7 => .array .int
  | 8 => .int
  | 9 => .array .int
  | 10 => .array .int
  | 11 => .array .int
  | 12 => .array .boolean
  | 13 => .int
  | 14 => .int
  | 15 => .array .int
  | 16 => .array .int
  | 17 => .array .int
  | 18 => .array .int
  | 19 => .array .int
  | 20 => .int
  | 21 => .array .int
  | 22 => .int
  | 23 => .int
  | 24 => .int
  | 25 => .long
  | 26 => .int
  | 27 => .int
  | 28 => .int
  | 29 => .int
  | 30 => .array .int
  | 31 => .array .int
  | 32 => .array .int
  | 33 => .int
  | 34 => .array .int
  | 35 => .array .int
  | 36 => .array .int
  | 37 => .int
  | 38 => .array .int
  | 39 => .array .int
  | 40 => .int
  | 41 => .array .int
  | 42 => .array .long
  | 43 => .array .long
  | 44 => .array .boolean
  | 45 => .array .long
  | 46 => .array .int
  | 47 => .array .int
  | 48 => .array .int
  | 49 => .array .int
  | 50 => .array .int
  | 51 => .array .int
  | _ => .array .boolean
abbrev wsX110 : List Cond := u_ws RX11 TX11 53
theorem nmX11 : ∀ a, a < 53 → ∀ b, b < 53 → a ≠ b → (TX11 a).2.1 ≠ (TX11 b).2.1 := by decide +kernel
theorem tyX11_ok : ∀ k, k < 53 → parseFieldDescriptor (TX11 k).2.2.1 = some (tyX11 k) := by decide +kernel
abbrev cX11_init : ByteArray := prog_13_method_1_code
def yX11_init : MethodName := ⟨RX11, "<init>", "()V"⟩
abbrev cX11_in : ByteArray := prog_13_method_3_code
def yX11_in : MethodName := ⟨RX11, "in", "(JJJ)Z"⟩
abbrev cX11_has : ByteArray := prog_13_method_4_code
def yX11_has : MethodName := ⟨RX11, "has", "(II)Z"⟩
abbrev cX11_isSuit : ByteArray := prog_13_method_5_code
def yX11_isSuit : MethodName := ⟨RX11, "isSuit", "(I)Z"⟩
abbrev cX11_isWitness : ByteArray := prog_13_method_6_code
def yX11_isWitness : MethodName := ⟨RX11, "isWitness", "(I)Z"⟩
abbrev cX11_bits : ByteArray := prog_13_method_7_code
def yX11_bits : MethodName := ⟨RX11, "bits", "(I)I"⟩
abbrev cX11_feed : ByteArray := prog_13_method_8_code
def yX11_feed : MethodName := ⟨RX11, "feed", "(IJ)I"⟩
abbrev cX11_here : ByteArray := prog_13_method_9_code
def yX11_here : MethodName := ⟨RX11, "here", "()I"⟩
abbrev cX11_fails : ByteArray := prog_13_method_10_code
def yX11_fails : MethodName := ⟨RX11, "fails", "(II)I"⟩
abbrev cX11_readWord : ByteArray := prog_13_method_11_code
def yX11_readWord : MethodName := ⟨RX11, "readWord", "()V"⟩
abbrev cX11_code : ByteArray := prog_13_method_12_code
def yX11_code : MethodName := ⟨RX11, "code", "(IIII)J"⟩
abbrev cX11_longer : ByteArray := prog_13_method_13_code
def yX11_longer : MethodName := ⟨RX11, "longer", "(JI)J"⟩
abbrev cX11_takeNumber : ByteArray := prog_13_method_14_code
def yX11_takeNumber : MethodName := ⟨RX11, "takeNumber", "(II)I"⟩
abbrev cX11_takeStop : ByteArray := prog_13_method_15_code
def yX11_takeStop : MethodName := ⟨RX11, "takeStop", "()I"⟩
abbrev cX11_takeSuit : ByteArray := prog_13_method_16_code
def yX11_takeSuit : MethodName := ⟨RX11, "takeSuit", "()I"⟩
abbrev cX11_takeKind : ByteArray := prog_13_method_17_code
def yX11_takeKind : MethodName := ⟨RX11, "takeKind", "()I"⟩
abbrev cX11_takeWitness : ByteArray := prog_13_method_18_code
def yX11_takeWitness : MethodName := ⟨RX11, "takeWitness", "()I"⟩
abbrev cX11_takeClause : ByteArray := prog_13_method_19_code
def yX11_takeClause : MethodName := ⟨RX11, "takeClause", "()I"⟩
abbrev cX11_court : ByteArray := prog_13_method_20_code
def yX11_court : MethodName := ⟨RX11, "court", "()I"⟩
abbrev cX11_anew : ByteArray := prog_13_method_21_code
def yX11_anew : MethodName := ⟨RX11, "anew", "()V"⟩
abbrev cX11_takeLaw : ByteArray := prog_13_method_22_code
def yX11_takeLaw : MethodName := ⟨RX11, "takeLaw", "()I"⟩
abbrev cX11_laws : ByteArray := prog_13_method_23_code
def yX11_laws : MethodName := ⟨RX11, "laws", "()I"⟩
abbrev cX11_fault : ByteArray := prog_13_method_24_code
def yX11_fault : MethodName := ⟨RX11, "fault", "()I"⟩
abbrev cX11_lawOf : ByteArray := prog_13_method_25_code
def yX11_lawOf : MethodName := ⟨RX11, "lawOf", "(II)I"⟩
abbrev cX11_told : ByteArray := prog_13_method_26_code
def yX11_told : MethodName := ⟨RX11, "told", "(I)I"⟩
abbrev cX11_witnessesOf : ByteArray := prog_13_method_27_code
def yX11_witnessesOf : MethodName := ⟨RX11, "witnessesOf", "(I)I"⟩
abbrev cX11_suit : ByteArray := prog_13_method_28_code
def yX11_suit : MethodName := ⟨RX11, "suit", "(II)I"⟩
abbrev cX11_freshOn : ByteArray := prog_13_method_29_code
def yX11_freshOn : MethodName := ⟨RX11, "freshOn", "(II)I"⟩
abbrev cX11_mayOn : ByteArray := prog_13_method_30_code
def yX11_mayOn : MethodName := ⟨RX11, "mayOn", "(II)Z"⟩
abbrev cX11_mayNow : ByteArray := prog_13_method_31_code
def yX11_mayNow : MethodName := ⟨RX11, "mayNow", "(I)Z"⟩
abbrev cX11_witness : ByteArray := prog_13_method_32_code
def yX11_witness : MethodName := ⟨RX11, "witness", "(II)I"⟩
abbrev cX11_weight : ByteArray := prog_13_method_33_code
def yX11_weight : MethodName := ⟨RX11, "weight", "(II)I"⟩
abbrev cX11_isEnough : ByteArray := prog_13_method_34_code
def yX11_isEnough : MethodName := ⟨RX11, "isEnough", "(I)Z"⟩
abbrev cX11_lookAt : ByteArray := prog_13_method_35_code
def yX11_lookAt : MethodName := ⟨RX11, "lookAt", "(I)V"⟩
abbrev cX11_speak : ByteArray := prog_13_method_36_code
def yX11_speak : MethodName := ⟨RX11, "speak", "(I)V"⟩
abbrev cX11_say : ByteArray := prog_13_method_37_code
def yX11_say : MethodName := ⟨RX11, "say", "(I)I"⟩
abbrev cX11_strike : ByteArray := prog_13_method_38_code
def yX11_strike : MethodName := ⟨RX11, "strike", "(IZ)I"⟩
abbrev cX11_halve : ByteArray := prog_13_method_39_code
def yX11_halve : MethodName := ⟨RX11, "halve", "(I)V"⟩
abbrev cX11_darken : ByteArray := prog_13_method_40_code
def yX11_darken : MethodName := ⟨RX11, "darken", "()V"⟩
abbrev cX11_dusk : ByteArray := prog_13_method_41_code
def yX11_dusk : MethodName := ⟨RX11, "dusk", "(I)I"⟩
abbrev cX11_draw : ByteArray := prog_13_method_42_code
def yX11_draw : MethodName := ⟨RX11, "draw", "(I)I"⟩
abbrev cX11_drift : ByteArray := prog_13_method_43_code
def yX11_drift : MethodName := ⟨RX11, "drift", "(II)I"⟩
abbrev cX11_begin : ByteArray := prog_13_method_44_code
def yX11_begin : MethodName := ⟨RX11, "begin", "()I"⟩
abbrev cX11_listOwn : ByteArray := prog_13_method_45_code
def yX11_listOwn : MethodName := ⟨RX11, "listOwn", "(I)V"⟩
abbrev cX11_mayCall : ByteArray := prog_13_method_46_code
def yX11_mayCall : MethodName := ⟨RX11, "mayCall", "(II)Z"⟩
abbrev cX11_room : ByteArray := prog_13_method_47_code
def yX11_room : MethodName := ⟨RX11, "room", "(I)I"⟩
abbrev cX11_callOn : ByteArray := prog_13_method_48_code
def yX11_callOn : MethodName := ⟨RX11, "callOn", "(I)V"⟩
abbrev cX11_findMosts : ByteArray := prog_13_method_49_code
def yX11_findMosts : MethodName := ⟨RX11, "findMosts", "(I)V"⟩
abbrev cX11_canCall : ByteArray := prog_13_method_50_code
def yX11_canCall : MethodName := ⟨RX11, "canCall", "(II)Z"⟩
abbrev cX11_valueOf : ByteArray := prog_13_method_51_code
def yX11_valueOf : MethodName := ⟨RX11, "valueOf", "(II)J"⟩
abbrev cX11_wholeBy : ByteArray := prog_13_method_52_code
def yX11_wholeBy : MethodName := ⟨RX11, "wholeBy", "(IIJ)J"⟩
abbrev cX11_unsettle : ByteArray := prog_13_method_53_code
def yX11_unsettle : MethodName := ⟨RX11, "unsettle", "()V"⟩
abbrev cX11_greatest : ByteArray := prog_13_method_54_code
def yX11_greatest : MethodName := ⟨RX11, "greatest", "()J"⟩
abbrev cX11_mostOn : ByteArray := prog_13_method_55_code
def yX11_mostOn : MethodName := ⟨RX11, "mostOn", "(II)J"⟩
abbrev cX11_most : ByteArray := prog_13_method_56_code
def yX11_most : MethodName := ⟨RX11, "most", "(II)I"⟩
abbrev cX11_soonestOf : ByteArray := prog_13_method_57_code
def yX11_soonestOf : MethodName := ⟨RX11, "soonestOf", "(I)I"⟩
abbrev cX11_soonest : ByteArray := prog_13_method_58_code
def yX11_soonest : MethodName := ⟨RX11, "soonest", "(I)I"⟩
abbrev cX11_isEnoughBy : ByteArray := prog_13_method_59_code
def yX11_isEnoughBy : MethodName := ⟨RX11, "isEnoughBy", "(III)Z"⟩
abbrev cX11_findPlan : ByteArray := prog_13_method_60_code
def yX11_findPlan : MethodName := ⟨RX11, "findPlan", "(I)I"⟩
abbrev cX11_plan : ByteArray := prog_13_method_61_code
def yX11_plan : MethodName := ⟨RX11, "plan", "(I)I"⟩
abbrev cX11_cut : ByteArray := prog_13_method_62_code
def yX11_cut : MethodName := ⟨RX11, "cut", "(I)I"⟩
abbrev cX11_wantOf : ByteArray := prog_13_method_63_code
def yX11_wantOf : MethodName := ⟨RX11, "wantOf", "(IIII)J"⟩
abbrev cX11_turns : ByteArray := prog_13_method_64_code
def yX11_turns : MethodName := ⟨RX11, "turns", "(II)I"⟩
abbrev cX11_nextOrder : ByteArray := prog_13_method_65_code
def yX11_nextOrder : MethodName := ⟨RX11, "nextOrder", "(I)Z"⟩
abbrev cX11_swap : ByteArray := prog_13_method_66_code
def yX11_swap : MethodName := ⟨RX11, "swap", "(II)V"⟩
abbrev cX11_enoughBy : ByteArray := prog_13_method_67_code
def yX11_enoughBy : MethodName := ⟨RX11, "enoughBy", "(I)I"⟩
abbrev cX11_many : ByteArray := prog_13_method_68_code
def yX11_many : MethodName := ⟨RX11, "many", "(I)I"⟩
abbrev cX11_write : ByteArray := prog_13_method_69_code
def yX11_write : MethodName := ⟨RX11, "write", "(II)I"⟩
abbrev cX11_tear : ByteArray := prog_13_method_70_code
def yX11_tear : MethodName := ⟨RX11, "tear", "(I)I"⟩
abbrev cX11_judge : ByteArray := prog_13_method_71_code
def yX11_judge : MethodName := ⟨RX11, "judge", "(I)I"⟩
abbrev cX11_evening : ByteArray := prog_13_method_72_code
def yX11_evening : MethodName := ⟨RX11, "evening", "(II)I"⟩
abbrev cX11_seed : ByteArray := prog_13_method_73_code
def yX11_seed : MethodName := ⟨RX11, "seed", "(I)I"⟩
abbrev cX11_keep : ByteArray := prog_13_method_74_code
def yX11_keep : MethodName := ⟨RX11, "keep", "(I)I"⟩
abbrev cX11_goBack : ByteArray := prog_13_method_75_code
def yX11_goBack : MethodName := ⟨RX11, "goBack", "(I)I"⟩
def RJ6 : String := "java/lang/Integer"
abbrev cJ6_bitCount_0f7a4 : ByteArray := prog_14_method_49_code
def yJ6_bitCount_0f7a4 : MethodName := ⟨RJ6, "bitCount", "(I)I"⟩
def RJ9 : String := "java/lang/Math"
abbrev cJ9_max_7cf53 : ByteArray := prog_15_method_65_code
def yJ9_max_7cf53 : MethodName := ⟨RJ9, "max", "(II)I"⟩
abbrev cJ9_max_f86c9 : ByteArray := prog_15_method_66_code
def yJ9_max_f86c9 : MethodName := ⟨RJ9, "max", "(JJ)J"⟩
abbrev cJ9_min_7cf53 : ByteArray := prog_15_method_69_code
def yJ9_min_7cf53 : MethodName := ⟨RJ9, "min", "(II)I"⟩
def RJ0 : String := "java/lang/String"
abbrev cJ0_length_8abf5 : ByteArray := prog_16_method_54_code
def yJ0_length_8abf5 : MethodName := ⟨RJ0, "length", "()I"⟩
abbrev cJ0_charAt_5068e : ByteArray := prog_16_method_56_code
def yJ0_charAt_5068e : MethodName := ⟨RJ0, "charAt", "(I)C"⟩
abbrev cJ0_coder_7d493 : ByteArray := prog_16_method_152_code
def yJ0_coder_7d493 : MethodName := ⟨RJ0, "coder", "()B"⟩
abbrev cJ0_isLatin1_aae02 : ByteArray := prog_16_method_154_code
def yJ0_isLatin1_aae02 : MethodName := ⟨RJ0, "isLatin1", "()Z"⟩
abbrev cJ0_checkIndex_df160 : ByteArray := prog_16_method_155_code
def yJ0_checkIndex_df160 : MethodName := ⟨RJ0, "checkIndex", "(II)V"⟩
def RJ1 : String := "java/lang/StringLatin1"
abbrev cJ1_charAt_3b067 : ByteArray := prog_17_method_2_code
def yJ1_charAt_3b067 : MethodName := ⟨RJ1, "charAt", "([BI)C"⟩
def RJ2 : String := "java/lang/StringUTF16"
abbrev cJ2_getChar_3b067 : ByteArray := prog_18_method_5_code
def yJ2_getChar_3b067 : MethodName := ⟨RJ2, "getChar", "([BI)C"⟩
abbrev cJ2_length_9d52b : ByteArray := prog_18_method_6_code
def yJ2_length_9d52b : MethodName := ⟨RJ2, "length", "([B)I"⟩
abbrev cJ2_charAt_3b067 : ByteArray := prog_18_method_83_code
def yJ2_charAt_3b067 : MethodName := ⟨RJ2, "charAt", "([BI)C"⟩
abbrev cJ2_checkIndex_2214a : ByteArray := prog_18_method_91_code
def yJ2_checkIndex_2214a : MethodName := ⟨RJ2, "checkIndex", "(I[B)V"⟩
def RJ10 : String := "java/lang/System"
def RJ7 : String := "java/util/Arrays"
abbrev cJ7_fill_d0a16 : ByteArray := prog_20_method_101_code
def yJ7_fill_d0a16 : MethodName := ⟨RJ7, "fill", "([JJ)V"⟩
abbrev cJ7_fill_53178 : ByteArray := prog_20_method_103_code
def yJ7_fill_53178 : MethodName := ⟨RJ7, "fill", "([II)V"⟩
def RJ3 : String := "jdk/internal/util/Preconditions"
abbrev cJ3_checkIndex_8e157 : ByteArray := prog_21_method_11_code
def yJ3_checkIndex_8e157 : MethodName := ⟨RJ3, "checkIndex", "(IILjava/util/function/BiFunction;)I"⟩
def RL : String := "HalvedProofLaw"
abbrev cL_law : ByteArray := code
def yL_law : MethodName := ⟨RL, "law", "([I)Z"⟩
end
section
section ZA
/-- the words that every method is given -/
def zT : List Cond := lw_tbl.filter goodWord
theorem zT_in {w : Cond} (h : w ∈ lw_tbl) (g : goodWord w = true) : w ∈ zT := List.mem_filter.mpr ⟨h, g⟩
theorem zT_of {w : Cond} (h : w ∈ zT) : w ∈ lw_tbl ∧ goodWord w = true := List.mem_filter.mp h
abbrev classes : List vw_C := [(RX0, TX0, 2), (RX1, TX1, 12), (RX2, TX2, 8), (RX3, TX3, 5), (RX4, TX4, 5), (RX5, TX5, 5), (RX6, TX6, 10), (RX7, TX7, 2), (RX8, TX8, 2), (RX9, TX9, 3), (RX10, TX10, 12), (RX11, TX11, 53)]
def zt (tA : Nat → ClassId) : List (ClassId × FieldType) := [(tA 0, .int), (tA 1, .long), (tA 2, .boolean), (tA 3, .byte), (tA 4, .object "HalvedProof$State"), (tA 5, .array .int), (tA 6, .array .long)]
def zlet {α β : Type} (e : α) (k : α → β) : β := k e
def zjn {α β : Type} (k : α) (f : α → β) : β := f k
def zgd {α : Type} (i : Int32) (n : Nat) (o : Option α) : Option α := if 0 ≤ i.toInt ∧ i.toInt < (n : Int) then o else none
def zgz {α : Type} (v : Int32) (o : Option α) : Option α := if v = 0 ∨ v = 1 then o else none
def znz {α : Type} (y : Int32) (o : Option α) : Option α := if y = 0 then none else o
def znl {α : Type} (y : Int64) (o : Option α) : Option α := if y = 0 then none else o
def zup {α : Type} (f : Nat → α) (k : Nat) (x : α) : Nat → α := fun j => bif Nat.beq j k then x else f j
abbrev Ob : Type := (Nat → Int32) × (Nat → Int64) × (Nat → Nat → Int32) × (Nat → Nat → Int64)
def gi (o : Ob) (k : Nat) : Int32 := o.1 k
def gl (o : Ob) (k : Nat) : Int64 := o.2.1 k
def ga (o : Ob) (k : Nat) : Nat → Int32 := o.2.2.1 k
def gb (o : Ob) (k : Nat) : Nat → Int64 := o.2.2.2 k
def si (o : Ob) (k : Nat) (x : Int32) : Ob := (zup o.1 k x, o.2.1, o.2.2.1, o.2.2.2)
def sl (o : Ob) (k : Nat) (x : Int64) : Ob := (o.1, zup o.2.1 k x, o.2.2.1, o.2.2.2)
def sa (o : Ob) (k : Nat) (f : Nat → Int32) : Ob := (o.1, o.2.1, zup o.2.2.1 k f, o.2.2.2)
def sb (o : Ob) (k : Nat) (f : Nat → Int64) : Ob := (o.1, o.2.1, o.2.2.1, zup o.2.2.2 k f)
def zpr : Nat → List (Option Value) → List (Nat × Value)
  | _, [] => []
  | i, none :: r => zpr (i + 1) r
  | i, some v :: r => (i, v) :: zpr (i + 1) r
theorem zpr_mem : ∀ (lv : List (Option Value)) (k : Nat) (q : Nat × Value), q ∈ zpr k lv ↔ ∃ j, q.1 = k + j ∧ lv[j]? = some (some q.2) := by
  intro lv
  induction lv with
  | nil => intro k q; simp [zpr]
  | cons a r ih =>
    intro k q
    have shift : (∃ j, q.1 = k + 1 + j ∧ r[j]? = some (some q.2)) ↔ (∃ j, q.1 = k + (j + 1) ∧ (a :: r)[j + 1]? = some (some q.2)) := by
      constructor
      · rintro ⟨j, h1, h2⟩; exact ⟨j, by omega, by simpa using h2⟩
      · rintro ⟨j, h1, h2⟩; exact ⟨j, by omega, by simpa using h2⟩
    cases a with
    | none =>
      show q ∈ zpr (k + 1) r ↔ _
      rw [ih (k + 1) q, shift]
      constructor
      · rintro ⟨j, h1, h2⟩; exact ⟨j + 1, h1, h2⟩
      · rintro ⟨j, h1, h2⟩
        cases j with
        | zero => simp at h2
        | succ j => exact ⟨j, h1, h2⟩
    | some v =>
      show q ∈ (k, v) :: zpr (k + 1) r ↔ _
      rw [List.mem_cons, ih (k + 1) q, shift]
      constructor
      · rintro (h | ⟨j, h1, h2⟩)
        · exact ⟨0, by rw [h]; rfl, by rw [h]; rfl⟩
        · exact ⟨j + 1, h1, h2⟩
      · rintro ⟨j, h1, h2⟩
        cases j with
        | zero =>
          left
          have h3 : v = q.2 := by simpa using h2
          rw [h3]
          exact Prod.ext (by simpa using h1) rfl
        | succ j => exact Or.inr ⟨j, h1, h2⟩
def zh (ls : Array Slot) (lv : List (Option Value)) : Prop := ls.size = lv.length ∧ lv_wf ls ∧ ∀ (i : Nat) (v : Value), lv[i]? = some (some v) → ls[i]? = some (.val v)
theorem zh.has {ls : Array Slot} {lv : List (Option Value)} (h : zh ls lv) : lv_has ls lv.length (zpr 0 lv) :=
  ⟨h.1, h.2.1, fun q hq => by
    obtain ⟨j, h1, h2⟩ := (zpr_mem lv 0 q).mp hq
    have : q.1 = j := by omega
    rw [this]
    exact h.2.2 j q.2 h2⟩
def zc2 (lv : List (Option Value)) : Nat → Bool
  | 0 => true
  | j + 1 => match lv[j]? with
    | some (some w) => w.category != 2
    | _ => true
theorem zc2_at {lv : List (Option Value)} {i j : Nat} {w : Value} (h : zc2 lv i = true) (hj : j + 1 = i) (hw : lv[j]? = some (some w)) : ¬ w.category = 2 := by
  subst hj
  simp only [zc2, hw] at h
  simpa using h
theorem zh_st1 {ls' : Array Slot} {lv : List (Option Value)} {i : Nat} {v : Value} (h : lv_has ls' lv.length ((i, v) :: (zpr 0 lv).filter (fun q => !(q.1 == i) && !(q.1 + 1 == i && q.2.category == 2)))) (hc : zc2 lv i = true) : zh ls' (lv.set i (some v)) := by
  refine ⟨by rw [List.length_set]; exact h.1, h.2.1, fun j w hj => ?_⟩
  by_cases e : j = i
  · subst e
    have hl : j < lv.length := by
      have := (List.getElem?_eq_some_iff.mp hj).1
      rwa [List.length_set] at this
    rw [List.getElem?_set_self hl] at hj
    have : v = w := by simpa using hj
    rw [← this]
    exact h.2.2 (j, v) List.mem_cons_self
  · rw [List.getElem?_set_ne (Ne.symm e)] at hj
    refine h.2.2 (j, w) (List.mem_cons_of_mem _ (List.mem_filter.mpr ⟨(zpr_mem lv 0 (j, w)).mpr ⟨j, by omega, hj⟩, ?_⟩))
    have h2 : ¬ (j + 1 = i ∧ w.category = 2) := fun q => zc2_at hc q.1 hj q.2
    simp only [Bool.and_eq_true, Bool.not_eq_true', beq_eq_false_iff_ne, Bool.and_eq_false_iff, ne_eq]
    refine ⟨e, ?_⟩
    by_cases q : j + 1 = i
    · exact Or.inr (fun z => h2 ⟨q, z⟩)
    · exact Or.inl q
theorem zh_st2 {ls' : Array Slot} {lv : List (Option Value)} {i : Nat} {v : Value} (h : lv_has ls' lv.length ((i, v) :: (zpr 0 lv).filter (fun q => !(q.1 == i) && (!(q.1 == i + 1) && !(q.1 + 1 == i && q.2.category == 2))))) (hc : zc2 lv i = true) : zh ls' ((lv.set i (some v)).set (i + 1) none) := by
  refine ⟨by rw [List.length_set, List.length_set]; exact h.1, h.2.1, fun j w hj => ?_⟩
  by_cases e1 : j = i + 1
  · subst e1
    have hl : i + 1 < (lv.set i (some v)).length := by
      have := (List.getElem?_eq_some_iff.mp hj).1
      rwa [List.length_set] at this
    rw [List.getElem?_set_self hl] at hj
    simp at hj
  · rw [List.getElem?_set_ne (Ne.symm e1)] at hj
    by_cases e : j = i
    · subst e
      have hl : j < lv.length := by
        have := (List.getElem?_eq_some_iff.mp hj).1
        rwa [List.length_set] at this
      rw [List.getElem?_set_self hl] at hj
      have : v = w := by simpa using hj
      rw [← this]
      exact h.2.2 (j, v) List.mem_cons_self
    · rw [List.getElem?_set_ne (Ne.symm e)] at hj
      refine h.2.2 (j, w) (List.mem_cons_of_mem _ (List.mem_filter.mpr ⟨(zpr_mem lv 0 (j, w)).mpr ⟨j, by omega, hj⟩, ?_⟩))
      have h2 : ¬ (j + 1 = i ∧ w.category = 2) := fun q => zc2_at hc q.1 hj q.2
      simp only [Bool.and_eq_true, Bool.not_eq_true', beq_eq_false_iff_ne, Bool.and_eq_false_iff, ne_eq]
      refine ⟨e, e1, ?_⟩
      by_cases q : j + 1 = i
      · exact Or.inr (fun z => h2 ⟨q, z⟩)
      · exact Or.inl q
/-- fewer known places -/
def zle : List (Option Value) → List (Option Value) → Prop
  | [], [] => True
  | none :: a, _ :: b => zle a b
  | some v :: a, some w :: b => v = w ∧ zle a b
  | _, _ => False
theorem zle_at : ∀ (a b : List (Option Value)), zle a b → a.length = b.length ∧ ∀ (i : Nat) (v : Value), a[i]? = some (some v) → b[i]? = some (some v) := by
  intro a
  induction a with
  | nil =>
    intro b h
    cases b with
    | nil => exact ⟨rfl, fun i v h => h⟩
    | cons w b => exact absurd h (by simp [zle])
  | cons x a ih =>
    intro b h
    cases b with
    | nil => exact absurd h (by cases x <;> simp [zle])
    | cons w b =>
      cases x with
      | none =>
        obtain ⟨h1, h2⟩ := ih b h
        refine ⟨by simp [h1], fun i v hi => ?_⟩
        cases i with
        | zero => simp at hi
        | succ i => simpa using h2 i v (by simpa using hi)
      | some v0 =>
        cases w with
        | none => exact absurd h (by simp [zle])
        | some w0 =>
          obtain ⟨e, h⟩ := h
          obtain ⟨h1, h2⟩ := ih b h
          refine ⟨by simp [h1], fun i v hi => ?_⟩
          cases i with
          | zero => rw [← e]; simpa using hi
          | succ i => simpa using h2 i v (by simpa using hi)
theorem zh.le {ls : Array Slot} {a b : List (Option Value)} (h : zh ls b) (hl : zle a b) : zh ls a := by
  obtain ⟨h1, h2⟩ := zle_at a b hl
  exact ⟨by rw [h1]; exact h.1, h.2.1, fun i v hi => h.2.2 i v (h2 i v hi)⟩
/-- the locals at a method's start -/
def zent : List Value → Nat → List (Option Value)
  | [], n => List.replicate n none
  | v :: vs, n => match v.category with
    | 2 => some v :: none :: zent vs (n - 2)
    | _ => some v :: zent vs (n - 1)
theorem zent_at : ∀ (vs : List Value) (n k i : Nat) (v : Value), (zent vs n)[i]? = some (some v) → (k + i, v) ∈ lv_args k vs := by
  intro vs
  induction vs with
  | nil =>
    intro n k i v h
    have h1 := List.mem_of_getElem? h
    have h2 := List.eq_of_mem_replicate h1
    cases h2
  | cons w vs ih =>
    intro n k i v h
    rcases lv_cat w with hc | hc
    · have e : zent (w :: vs) n = some w :: zent vs (n - 1) := by simp [zent, hc]
      rw [e] at h
      show _ ∈ (k, w) :: lv_args _ vs
      rw [if_neg (by omega)]
      cases i with
      | zero =>
        have : w = v := by simpa using h
        rw [this]
        exact List.mem_cons_self
      | succ i =>
        have := ih (n - 1) (k + 1) i v (by simpa using h)
        rw [show k + 1 + i = k + (i + 1) by omega] at this
        exact List.mem_cons_of_mem _ this
    · have e : zent (w :: vs) n = some w :: none :: zent vs (n - 2) := by simp [zent, hc]
      rw [e] at h
      show _ ∈ (k, w) :: lv_args _ vs
      rw [if_pos hc]
      cases i with
      | zero =>
        have : w = v := by simpa using h
        rw [this]
        exact List.mem_cons_self
      | succ i =>
        cases i with
        | zero => simp at h
        | succ i =>
          have := ih (n - 2) (k + 2) i v (by simpa using h)
          rw [show k + 2 + i = k + (i + 1 + 1) by omega] at this
          exact List.mem_cons_of_mem _ this
theorem zent_len : ∀ (vs : List Value) (n : Nat), (lg_sl vs).length ≤ n → (zent vs n).length = n := by
  intro vs
  induction vs with
  | nil => intro n h; simp [zent]
  | cons w vs ih =>
    intro n h
    rcases lv_cat w with hc | hc
    · have e : zent (w :: vs) n = some w :: zent vs (n - 1) := by simp [zent, hc]
      have h1 : (lg_sl (w :: vs)).length = (lg_sl vs).length + 1 := by simp [lg_sl, hc]
      rw [e, List.length_cons, ih (n - 1) (by omega)]
      omega
    · have e : zent (w :: vs) n = some w :: none :: zent vs (n - 2) := by simp [zent, hc]
      have h1 : (lg_sl (w :: vs)).length = (lg_sl vs).length + 2 := by simp [lg_sl, hc]
      rw [e, List.length_cons, List.length_cons, ih (n - 2) (by omega)]
      omega
theorem zh_ent {vs : List Value} {n : Nat} (h : (lg_sl vs).length ≤ n) : zh ((lg_sl vs ++ List.replicate (n - (lg_sl vs).length) Slot.unset).toArray) (zent vs n) := by
  have hl := lv_entry vs (n := n) h
  refine ⟨by rw [zent_len vs n h]; exact hl.1, hl.2.1, fun i v hi => ?_⟩
  have := hl.2.2 (0 + i, v) (zent_at vs n 0 i v hi)
  rwa [Nat.zero_add] at this
end ZA
section ZB
abbrev ZX : Type := (Program × Launch × Env × Room × State × MethodId) × (Array Value × List Frame × Method × Code × (State → Prop)) × (Nat → Prop) × Heap
abbrev zp (X : ZX) : Program := X.1.1
abbrev zl (X : ZX) : Launch := X.1.2.1
abbrev ze (X : ZX) : Env := X.1.2.2.1
abbrev zR (X : ZX) : Room := X.1.2.2.2.1
abbrev zs (X : ZX) : State := X.1.2.2.2.2.1
abbrev zm (X : ZX) : MethodId := X.1.2.2.2.2.2
abbrev za (X : ZX) : Array Value := X.2.1.1
abbrev zb (X : ZX) : List Frame := X.2.1.2.1
abbrev zme (X : ZX) : Method := X.2.1.2.2.1
abbrev zc (X : ZX) : Code := X.2.1.2.2.2.1
abbrev zQ (X : ZX) : State → Prop := X.2.1.2.2.2.2
abbrev zA (X : ZX) : Nat → Prop := X.2.2.1
abbrev zH (X : ZX) : Heap := X.2.2.2
/-- a walk from a place, if the pure reading ends well -/
def zY {α : Type} (X : ZX) (D : va_G) (out : α) (o : Option α) (ws : va_W) (pc : Nat) (lv : List (Option Value)) (st : List Value) : Prop :=
  o = some out → ∀ (H : Heap) (locs : List Loc) (ls : Array Slot), va_P D classes ws H → va_D (zA X) ws → va_S (zA X) (zH X) H locs → zh ls lv →
    W (zp X) (zl X) (ze X) (zR X) (zs X) (zm X) (za X) (zb X) (zme X) (zc X) H locs 0 0 (zQ X) (F0 (zm X) pc ls st)
/-- what holds all along a walk -/
def zF (l : Launch) (D : va_G) (tA : Nat → ClassId) (own : String) (cc : ByteArray) (nL : Nat) (rm : Room) (X : ZX) : Prop :=
  (zp X).tables.exec = Jvm.exec ∧ (zc X).code = cc ∧ (zs X).vm.findClass own = some (zm X).cls ∧ (∀ w ∈ zT, w.before (za X) (zs X) = true) ∧ va_K D classes (zt tA) (zs X) ∧
  (∀ q : Nat, (zH X).size ≤ q → zA X q) ∧ (zc X).maxLocals = nL ∧ zl X = l ∧ (zR X).frames = rm.frames ∧ (zR X).locals = rm.locals
variable {l : Launch} {D : va_G} {tA : Nat → ClassId} {own : String} {cc : ByteArray} {nL : Nat} {rm : Room} {X : ZX} {α β : Type} {out : α} {o o1 o2 : Option α} {ws ws' : va_W} {pc : Nat} {lv lv' : List (Option Value)} {st : List Value} {cA : ClassId} {n : Nat} {a : Addr}
theorem y_iconst (F : zF l D tA own cc nL rm X) {z : Int} {v : Int32} (d : decode cc pc = .ok (.iconst z, 1)) (hv : Int32.ofInt z = v) (k : zY X D out o ws (pc + 1) lv (.int v :: st)) : zY X D out o ws pc lv st :=
  fun h H locs ls hP hD hS hl => lv_iconst F.1 F.2.1 d hv (k h H locs ls hP hD hS hl)
theorem y_bipush (F : zF l D tA own cc nL rm X) {z : Int} {v : Int32} (d : decode cc pc = .ok (.bipush z, 2)) (hv : (Int8.ofInt z).toInt32 = v) (k : zY X D out o ws (pc + 2) lv (.int v :: st)) : zY X D out o ws pc lv st :=
  fun h H locs ls hP hD hS hl => lv_bipush F.1 F.2.1 d hv (k h H locs ls hP hD hS hl)
theorem y_sipush (F : zF l D tA own cc nL rm X) {z : Int} {v : Int32} (d : decode cc pc = .ok (.sipush z, 3)) (hv : (Int16.ofInt z).toInt32 = v) (k : zY X D out o ws (pc + 3) lv (.int v :: st)) : zY X D out o ws pc lv st :=
  fun h H locs ls hP hD hS hl => lv_sipush F.1 F.2.1 d hv (k h H locs ls hP hD hS hl)
theorem y_lconst (F : zF l D tA own cc nL rm X) {z : Fin 2} {v : Int64} (d : decode cc pc = .ok (.lconst z, 1)) (hv : Int64.ofNat (z : Nat) = v) (k : zY X D out o ws (pc + 1) lv (.long v :: st)) : zY X D out o ws pc lv st :=
  fun h H locs ls hP hD hS hl => lv_lconst F.1 F.2.1 d hv (k h H locs ls hP hD hS hl)
theorem y_ldc (F : zF l D tA own cc nL rm X) {ix : Nat} {v : Int32} (d : decode cc pc = .ok (.ldc ix, 2)) (w : Cond.constant own ix v ∈ zT) (k : zY X D out o ws (pc + 2) lv (.int v :: st)) : zY X D out o ws pc lv st :=
  fun h H locs ls hP hD hS hl => lv_ldc F.1 F.2.1 F.2.2.1 (F.2.2.2.1 _ w) d (k h H locs ls hP hD hS hl)
theorem y_ldcw (F : zF l D tA own cc nL rm X) {ix : Nat} {v : Int32} (d : decode cc pc = .ok (.ldc_w ix, 3)) (w : Cond.constant own ix v ∈ zT) (k : zY X D out o ws (pc + 3) lv (.int v :: st)) : zY X D out o ws pc lv st :=
  fun h H locs ls hP hD hS hl => lv_ldcw F.1 F.2.1 F.2.2.1 (F.2.2.2.1 _ w) d (k h H locs ls hP hD hS hl)
theorem y_ldc2 (F : zF l D tA own cc nL rm X) {ix : Nat} {v : Int64} (d : decode cc pc = .ok (.ldc2_w ix, 3)) (w : Cond.constantLong own ix v ∈ zT) (k : zY X D out o ws (pc + 3) lv (.long v :: st)) : zY X D out o ws pc lv st :=
  fun h H locs ls hP hD hS hl => lv_ldc2 F.1 F.2.1 F.2.2.1 (F.2.2.2.1 _ w) d (k h H locs ls hP hD hS hl)
theorem y_iload_n (F : zF l D tA own cc nL rm X) {i : Fin 4} {x : Int32} (d : decode cc pc = .ok (.iload_n i, 1)) (hv : lv[(i : Nat)]? = some (some (.int x))) (k : zY X D out o ws (pc + 1) lv (.int x :: st)) : zY X D out o ws pc lv st :=
  fun h H locs ls hP hD hS hl => lv_iload_n F.1 F.2.1 d rfl (hl.2.2 _ _ hv) (k h H locs ls hP hD hS hl)
theorem y_iload (F : zF l D tA own cc nL rm X) {i : Nat} {x : Int32} (d : decode cc pc = .ok (.iload i, 2)) (hv : lv[i]? = some (some (.int x))) (k : zY X D out o ws (pc + 2) lv (.int x :: st)) : zY X D out o ws pc lv st :=
  fun h H locs ls hP hD hS hl => lv_iload F.1 F.2.1 d (hl.2.2 _ _ hv) (k h H locs ls hP hD hS hl)
theorem y_lload_n (F : zF l D tA own cc nL rm X) {i : Fin 4} {x : Int64} (d : decode cc pc = .ok (.lload_n i, 1)) (hv : lv[(i : Nat)]? = some (some (.long x))) (k : zY X D out o ws (pc + 1) lv (.long x :: st)) : zY X D out o ws pc lv st :=
  fun h H locs ls hP hD hS hl => lv_lload_n F.1 F.2.1 d rfl (hl.2.2 _ _ hv) (k h H locs ls hP hD hS hl)
theorem y_lload (F : zF l D tA own cc nL rm X) {i : Nat} {x : Int64} (d : decode cc pc = .ok (.lload i, 2)) (hv : lv[i]? = some (some (.long x))) (k : zY X D out o ws (pc + 2) lv (.long x :: st)) : zY X D out o ws pc lv st :=
  fun h H locs ls hP hD hS hl => lv_lload F.1 F.2.1 d (hl.2.2 _ _ hv) (k h H locs ls hP hD hS hl)
theorem y_aload_n (F : zF l D tA own cc nL rm X) {i : Fin 4} {x : Nat} (d : decode cc pc = .ok (.aload_n i, 1)) (hv : lv[(i : Nat)]? = some (some (.ref x))) (k : zY X D out o ws (pc + 1) lv (.ref x :: st)) : zY X D out o ws pc lv st :=
  fun h H locs ls hP hD hS hl => lv_aload_n F.1 F.2.1 d rfl (hl.2.2 _ _ hv) (k h H locs ls hP hD hS hl)
theorem y_istore_n (F : zF l D tA own cc nL rm X) {i : Fin 4} {x : Int32} (d : decode cc pc = .ok (.istore_n i, 1)) (hi : (i : Nat) < lv.length) (hc : zc2 lv (i : Nat) = true) (hl' : lv.set (i : Nat) (some (.int x)) = lv') (k : zY X D out o ws (pc + 1) lv' st) : zY X D out o ws pc lv (.int x :: st) :=
  fun h H locs ls hP hD hS hl => lv_istore_n F.1 F.2.1 d rfl hl.has hi rfl (fun ls' h' => k h H locs ls' hP hD hS (hl' ▸ zh_st1 h' hc))
theorem y_istore (F : zF l D tA own cc nL rm X) {i : Nat} {x : Int32} (d : decode cc pc = .ok (.istore i, 2)) (hi : i < lv.length) (hc : zc2 lv i = true) (hl' : lv.set i (some (.int x)) = lv') (k : zY X D out o ws (pc + 2) lv' st) : zY X D out o ws pc lv (.int x :: st) :=
  fun h H locs ls hP hD hS hl => lv_istore F.1 F.2.1 d hl.has hi rfl (fun ls' h' => k h H locs ls' hP hD hS (hl' ▸ zh_st1 h' hc))
theorem y_astore_n (F : zF l D tA own cc nL rm X) {i : Fin 4} {x : Nat} (d : decode cc pc = .ok (.astore_n i, 1)) (hi : (i : Nat) < lv.length) (hc : zc2 lv (i : Nat) = true) (hl' : lv.set (i : Nat) (some (.ref x)) = lv') (k : zY X D out o ws (pc + 1) lv' st) : zY X D out o ws pc lv (.ref x :: st) :=
  fun h H locs ls hP hD hS hl => lv_astore_n F.1 F.2.1 d rfl hl.has hi rfl (fun ls' h' => k h H locs ls' hP hD hS (hl' ▸ zh_st1 h' hc))
theorem y_lstore_n (F : zF l D tA own cc nL rm X) {i : Fin 4} {x : Int64} (d : decode cc pc = .ok (.lstore_n i, 1)) (hi : (i : Nat) + 1 < lv.length) (hc : zc2 lv (i : Nat) = true) (hl' : (lv.set (i : Nat) (some (.long x))).set ((i : Nat) + 1) none = lv') (k : zY X D out o ws (pc + 1) lv' st) : zY X D out o ws pc lv (.long x :: st) :=
  fun h H locs ls hP hD hS hl => lv_lstore_n F.1 F.2.1 d rfl hl.has hi rfl (fun ls' h' => k h H locs ls' hP hD hS (hl' ▸ zh_st2 h' hc))
theorem y_lstore (F : zF l D tA own cc nL rm X) {i : Nat} {x : Int64} (d : decode cc pc = .ok (.lstore i, 2)) (hi : i + 1 < lv.length) (hc : zc2 lv i = true) (hl' : (lv.set i (some (.long x))).set (i + 1) none = lv') (k : zY X D out o ws (pc + 2) lv' st) : zY X D out o ws pc lv (.long x :: st) :=
  fun h H locs ls hP hD hS hl => lv_lstore F.1 F.2.1 d hl.has hi rfl (fun ls' h' => k h H locs ls' hP hD hS (hl' ▸ zh_st2 h' hc))
theorem y_iinc (F : zF l D tA own cc nL rm X) {i : Nat} {z : Int} {x v : Int32} {kf : Int32 → Option α} {lf : Int32 → List (Option Value)} (d : decode cc pc = .ok (.iinc i z, 3)) (hx : lv[i]? = some (some (.int x))) (hz : Int32.ofInt z = v) (hc : zc2 lv i = true) (hl' : ∀ y : Int32, lv.set i (some (.int y)) = lf y) (k : ∀ y : Int32, zY X D out (kf y) ws (pc + 3) (lf y) st) : zY X D out (zlet (x + v) kf) ws pc lv st := by
  intro h H locs ls hP hD hS hl
  subst hz
  have hm : (i, Value.int x) ∈ zpr 0 lv := (zpr_mem lv 0 (i, .int x)).mpr ⟨i, by omega, hx⟩
  obtain ⟨j, hj⟩ := List.getElem?_of_mem hm
  exact lv_iinc F.1 F.2.1 d hl.has hj rfl (List.getElem?_eq_some_iff.mp hx).1 rfl (fun ls' h' => k _ h H locs ls' hP hD hS (hl' _ ▸ zh_st1 h' hc))
theorem y_lti {x : Int32} {kf : Int32 → Option α} (k : ∀ y : Int32, zY X D out (kf y) ws pc lv (.int y :: st)) : zY X D out (zlet x kf) ws pc lv (.int x :: st) := k x
theorem y_ltl {x : Int64} {kf : Int64 → Option α} (k : ∀ y : Int64, zY X D out (kf y) ws pc lv (.long y :: st)) : zY X D out (zlet x kf) ws pc lv (.long x :: st) := k x
theorem y_jn {κ : Type} {kd : κ} {f : κ → Option α} (P : κ → Prop) (hd : P kd) (hf : ∀ K : κ, P K → zY X D out (f K) ws pc lv st) : zY X D out (zjn kd f) ws pc lv st := hf kd hd
theorem y_le {lv' : List (Option Value)} (hl : zle lv' lv) (k : zY X D out o ws pc lv' st) : zY X D out o ws pc lv st :=
  fun h H locs ls hP hD hS h2 => k h H locs ls hP hD hS (h2.le hl)
theorem y_none : zY X D out none ws pc lv st := fun h => by cases h
theorem y_iadd (F : zF l D tA own cc nL rm X) {x y : Int32} (d : decode cc pc = .ok (.iadd, 1)) (k : zY X D out o ws (pc + 1) lv (.int (x + y) :: st)) : zY X D out o ws pc lv (.int y :: .int x :: st) :=
  fun h H locs ls hP hD hS hl => lv_iadd F.1 F.2.1 d (k h H locs ls hP hD hS hl)
theorem y_isub (F : zF l D tA own cc nL rm X) {x y : Int32} (d : decode cc pc = .ok (.isub, 1)) (k : zY X D out o ws (pc + 1) lv (.int (x - y) :: st)) : zY X D out o ws pc lv (.int y :: .int x :: st) :=
  fun h H locs ls hP hD hS hl => lv_isub F.1 F.2.1 d (k h H locs ls hP hD hS hl)
theorem y_imul (F : zF l D tA own cc nL rm X) {x y : Int32} (d : decode cc pc = .ok (.imul, 1)) (k : zY X D out o ws (pc + 1) lv (.int (x * y) :: st)) : zY X D out o ws pc lv (.int y :: .int x :: st) :=
  fun h H locs ls hP hD hS hl => lv_imul F.1 F.2.1 d (k h H locs ls hP hD hS hl)
theorem y_iand (F : zF l D tA own cc nL rm X) {x y : Int32} (d : decode cc pc = .ok (.iand, 1)) (k : zY X D out o ws (pc + 1) lv (.int (x &&& y) :: st)) : zY X D out o ws pc lv (.int y :: .int x :: st) :=
  fun h H locs ls hP hD hS hl => lv_iand F.1 F.2.1 d (k h H locs ls hP hD hS hl)
theorem y_ior (F : zF l D tA own cc nL rm X) {x y : Int32} (d : decode cc pc = .ok (.ior, 1)) (k : zY X D out o ws (pc + 1) lv (.int (x ||| y) :: st)) : zY X D out o ws pc lv (.int y :: .int x :: st) :=
  fun h H locs ls hP hD hS hl => lv_ior F.1 F.2.1 d (k h H locs ls hP hD hS hl)
theorem y_ixor (F : zF l D tA own cc nL rm X) {x y : Int32} (d : decode cc pc = .ok (.ixor, 1)) (k : zY X D out o ws (pc + 1) lv (.int (x ^^^ y) :: st)) : zY X D out o ws pc lv (.int y :: .int x :: st) :=
  fun h H locs ls hP hD hS hl => lv_ixor F.1 F.2.1 d (k h H locs ls hP hD hS hl)
theorem y_ishl (F : zF l D tA own cc nL rm X) {x y : Int32} (d : decode cc pc = .ok (.ishl, 1)) (k : zY X D out o ws (pc + 1) lv (.int (x <<< (y &&& 31)) :: st)) : zY X D out o ws pc lv (.int y :: .int x :: st) :=
  fun h H locs ls hP hD hS hl => lv_ishl F.1 F.2.1 d (k h H locs ls hP hD hS hl)
theorem y_ishr (F : zF l D tA own cc nL rm X) {x y : Int32} (d : decode cc pc = .ok (.ishr, 1)) (k : zY X D out o ws (pc + 1) lv (.int (x >>> (y &&& 31)) :: st)) : zY X D out o ws pc lv (.int y :: .int x :: st) :=
  fun h H locs ls hP hD hS hl => lv_ishr F.1 F.2.1 d (k h H locs ls hP hD hS hl)
theorem y_ladd (F : zF l D tA own cc nL rm X) {x y : Int64} (d : decode cc pc = .ok (.ladd, 1)) (k : zY X D out o ws (pc + 1) lv (.long (x + y) :: st)) : zY X D out o ws pc lv (.long y :: .long x :: st) :=
  fun h H locs ls hP hD hS hl => lv_ladd F.1 F.2.1 d (k h H locs ls hP hD hS hl)
theorem y_lsub (F : zF l D tA own cc nL rm X) {x y : Int64} (d : decode cc pc = .ok (.lsub, 1)) (k : zY X D out o ws (pc + 1) lv (.long (x - y) :: st)) : zY X D out o ws pc lv (.long y :: .long x :: st) :=
  fun h H locs ls hP hD hS hl => lv_lsub F.1 F.2.1 d (k h H locs ls hP hD hS hl)
theorem y_lmul (F : zF l D tA own cc nL rm X) {x y : Int64} (d : decode cc pc = .ok (.lmul, 1)) (k : zY X D out o ws (pc + 1) lv (.long (x * y) :: st)) : zY X D out o ws pc lv (.long y :: .long x :: st) :=
  fun h H locs ls hP hD hS hl => lv_lmul F.1 F.2.1 d (k h H locs ls hP hD hS hl)
theorem y_land (F : zF l D tA own cc nL rm X) {x y : Int64} (d : decode cc pc = .ok (.land, 1)) (k : zY X D out o ws (pc + 1) lv (.long (x &&& y) :: st)) : zY X D out o ws pc lv (.long y :: .long x :: st) :=
  fun h H locs ls hP hD hS hl => lv_land F.1 F.2.1 d (k h H locs ls hP hD hS hl)
theorem y_lor (F : zF l D tA own cc nL rm X) {x y : Int64} (d : decode cc pc = .ok (.lor, 1)) (k : zY X D out o ws (pc + 1) lv (.long (x ||| y) :: st)) : zY X D out o ws pc lv (.long y :: .long x :: st) :=
  fun h H locs ls hP hD hS hl => lv_lor F.1 F.2.1 d (k h H locs ls hP hD hS hl)
theorem y_lxor (F : zF l D tA own cc nL rm X) {x y : Int64} (d : decode cc pc = .ok (.lxor, 1)) (k : zY X D out o ws (pc + 1) lv (.long (x ^^^ y) :: st)) : zY X D out o ws pc lv (.long y :: .long x :: st) :=
  fun h H locs ls hP hD hS hl => lv_lxor F.1 F.2.1 d (k h H locs ls hP hD hS hl)
theorem y_lshl (F : zF l D tA own cc nL rm X) {x : Int64} {y : Int32} (d : decode cc pc = .ok (.lshl, 1)) (k : zY X D out o ws (pc + 1) lv (.long (x <<< (y.toInt64 &&& 63)) :: st)) : zY X D out o ws pc lv (.int y :: .long x :: st) :=
  fun h H locs ls hP hD hS hl => lv_lshl F.1 F.2.1 d rfl (k h H locs ls hP hD hS hl)
theorem y_lshr (F : zF l D tA own cc nL rm X) {x : Int64} {y : Int32} (d : decode cc pc = .ok (.lshr, 1)) (k : zY X D out o ws (pc + 1) lv (.long (x >>> (y.toInt64 &&& 63)) :: st)) : zY X D out o ws pc lv (.int y :: .long x :: st) :=
  fun h H locs ls hP hD hS hl => lv_lshr F.1 F.2.1 d rfl (k h H locs ls hP hD hS hl)
theorem y_i2l (F : zF l D tA own cc nL rm X) {x : Int32} (d : decode cc pc = .ok (.i2l, 1)) (k : zY X D out o ws (pc + 1) lv (.long (x.toInt64) :: st)) : zY X D out o ws pc lv (.int x :: st) :=
  fun h H locs ls hP hD hS hl => lv_i2l F.1 F.2.1 d rfl (k h H locs ls hP hD hS hl)
theorem y_l2i (F : zF l D tA own cc nL rm X) {x : Int64} (d : decode cc pc = .ok (.l2i, 1)) (k : zY X D out o ws (pc + 1) lv (.int (x.toInt32) :: st)) : zY X D out o ws pc lv (.long x :: st) :=
  fun h H locs ls hP hD hS hl => lv_l2i F.1 F.2.1 d rfl (k h H locs ls hP hD hS hl)
theorem y_i2b (F : zF l D tA own cc nL rm X) {x : Int32} (d : decode cc pc = .ok (.i2b, 1)) (k : zY X D out o ws (pc + 1) lv (.int (x.toInt8.toInt32) :: st)) : zY X D out o ws pc lv (.int x :: st) :=
  fun h H locs ls hP hD hS hl => lv_i2b F.1 F.2.1 d rfl (k h H locs ls hP hD hS hl)
theorem y_iushr (F : zF l D tA own cc nL rm X) {x y : Int32} (d : decode cc pc = .ok (.iushr, 1)) (k : zY X D out o ws (pc + 1) lv (.int ((x.toUInt32 >>> (y.toUInt32 &&& Int32.toUInt32 31)).toInt32) :: st)) : zY X D out o ws pc lv (.int y :: .int x :: st) :=
  fun h H locs ls hP hD hS hl => lv_iushr F.1 F.2.1 d rfl (k h H locs ls hP hD hS hl)
theorem y_idiv (F : zF l D tA own cc nL rm X) {x y : Int32} (d : decode cc pc = .ok (.idiv, 1)) (k : zY X D out o ws (pc + 1) lv (.int (x / y) :: st)) : zY X D out (znz y o) ws pc lv (.int y :: .int x :: st) := by
  intro h H locs ls hP hD hS hl
  unfold znz at h
  by_cases e : y = 0
  · rw [if_pos e] at h
    cases h
  · rw [if_neg e] at h
    exact lv_idiv F.1 F.2.1 d e (k h H locs ls hP hD hS hl)
theorem y_irem (F : zF l D tA own cc nL rm X) {x y : Int32} (d : decode cc pc = .ok (.irem, 1)) (k : zY X D out o ws (pc + 1) lv (.int (x - x / y * y) :: st)) : zY X D out (znz y o) ws pc lv (.int y :: .int x :: st) := by
  intro h H locs ls hP hD hS hl
  unfold znz at h
  by_cases e : y = 0
  · rw [if_pos e] at h
    cases h
  · rw [if_neg e] at h
    exact lv_irem F.1 F.2.1 d e (k h H locs ls hP hD hS hl)
theorem y_ldiv (F : zF l D tA own cc nL rm X) {x y : Int64} (d : decode cc pc = .ok (.ldiv, 1)) (k : zY X D out o ws (pc + 1) lv (.long (x / y) :: st)) : zY X D out (znl y o) ws pc lv (.long y :: .long x :: st) := by
  intro h H locs ls hP hD hS hl
  unfold znl at h
  by_cases e : y = 0
  · rw [if_pos e] at h
    cases h
  · rw [if_neg e] at h
    exact lv_ldiv F.1 F.2.1 d e (k h H locs ls hP hD hS hl)
theorem y_lrem (F : zF l D tA own cc nL rm X) {x y : Int64} (d : decode cc pc = .ok (.lrem, 1)) (k : zY X D out o ws (pc + 1) lv (.long (x - x / y * y) :: st)) : zY X D out (znl y o) ws pc lv (.long y :: .long x :: st) := by
  intro h H locs ls hP hD hS hl
  unfold znl at h
  by_cases e : y = 0
  · rw [if_pos e] at h
    cases h
  · rw [if_neg e] at h
    exact lv_lrem F.1 F.2.1 d e (k h H locs ls hP hD hS hl)
theorem y_dup (F : zF l D tA own cc nL rm X) {v : Value} (d : decode cc pc = .ok (.dup, 1)) (hv : v.category = 1) (k : zY X D out o ws (pc + 1) lv (v :: v :: st)) : zY X D out o ws pc lv (v :: st) :=
  fun h H locs ls hP hD hS hl => lv_dup F.1 F.2.1 d hv (k h H locs ls hP hD hS hl)
theorem y_dup2 (F : zF l D tA own cc nL rm X) {v w : Value} (d : decode cc pc = .ok (.dup2, 1)) (hv : v.category = 1) (hw : w.category = 1) (k : zY X D out o ws (pc + 1) lv (v :: w :: v :: w :: st)) : zY X D out o ws pc lv (v :: w :: st) :=
  fun h H locs ls hP hD hS hl => lv_dup2_11 F.1 F.2.1 d hv hw (k h H locs ls hP hD hS hl)
theorem y_pop (F : zF l D tA own cc nL rm X) {v : Value} (d : decode cc pc = .ok (.pop, 1)) (hv : v.category = 1) (k : zY X D out o ws (pc + 1) lv st) : zY X D out o ws pc lv (v :: st) :=
  fun h H locs ls hP hD hS hl => lv_pop F.1 F.2.1 d hv (k h H locs ls hP hD hS hl)
theorem y_goto (F : zF l D tA own cc nL rm X) {off : Int} {tgt : Nat} (d : decode cc pc = .ok (.goto off, 3)) (ht : (pc : Int) + off = (tgt : Int)) (k : zY X D out o ws tgt lv st) : zY X D out o ws pc lv st :=
  fun h H locs ls hP hD hS hl => lv_goto F.1 F.2.1 d ht (k h H locs ls hP hD hS hl)
theorem y_if_eq (F : zF l D tA own cc nL rm X) {x : Int32} {off : Int} {tgt : Nat} (d : decode cc pc = .ok (.ifCond .eq off, 3)) (ht : (pc : Int) + off = (tgt : Int)) (kt : zY X D out o1 ws tgt lv st) (kf : zY X D out o2 ws (pc + 3) lv st) : zY X D out (if x = 0 then o1 else o2) ws pc lv (.int x :: st) := by
  intro h H locs ls hP hD hS hl
  exact lv_if_eq F.1 F.2.1 d ht (fun e => kt (by rw [if_pos e] at h; exact h) H locs ls hP hD hS hl) (fun e => kf (by rw [if_neg e] at h; exact h) H locs ls hP hD hS hl)
theorem y_icmp_eq (F : zF l D tA own cc nL rm X) {x y : Int32} {off : Int} {tgt : Nat} (d : decode cc pc = .ok (.if_icmp .eq off, 3)) (ht : (pc : Int) + off = (tgt : Int)) (kt : zY X D out o1 ws tgt lv st) (kf : zY X D out o2 ws (pc + 3) lv st) : zY X D out (if x = y then o1 else o2) ws pc lv (.int y :: .int x :: st) := by
  intro h H locs ls hP hD hS hl
  exact lv_icmp_eq F.1 F.2.1 d ht (fun e => kt (by rw [if_pos e] at h; exact h) H locs ls hP hD hS hl) (fun e => kf (by rw [if_neg e] at h; exact h) H locs ls hP hD hS hl)
theorem y_if_lt (F : zF l D tA own cc nL rm X) {x : Int32} {off : Int} {tgt : Nat} (d : decode cc pc = .ok (.ifCond .lt off, 3)) (ht : (pc : Int) + off = (tgt : Int)) (kt : zY X D out o1 ws tgt lv st) (kf : zY X D out o2 ws (pc + 3) lv st) : zY X D out (if x < 0 then o1 else o2) ws pc lv (.int x :: st) := by
  intro h H locs ls hP hD hS hl
  exact lv_if_lt F.1 F.2.1 d ht (fun e => kt (by rw [if_pos e] at h; exact h) H locs ls hP hD hS hl) (fun e => kf (by rw [if_neg e] at h; exact h) H locs ls hP hD hS hl)
theorem y_icmp_lt (F : zF l D tA own cc nL rm X) {x y : Int32} {off : Int} {tgt : Nat} (d : decode cc pc = .ok (.if_icmp .lt off, 3)) (ht : (pc : Int) + off = (tgt : Int)) (kt : zY X D out o1 ws tgt lv st) (kf : zY X D out o2 ws (pc + 3) lv st) : zY X D out (if x < y then o1 else o2) ws pc lv (.int y :: .int x :: st) := by
  intro h H locs ls hP hD hS hl
  exact lv_icmp_lt F.1 F.2.1 d ht (fun e => kt (by rw [if_pos e] at h; exact h) H locs ls hP hD hS hl) (fun e => kf (by rw [if_neg e] at h; exact h) H locs ls hP hD hS hl)
theorem y_if_ge (F : zF l D tA own cc nL rm X) {x : Int32} {off : Int} {tgt : Nat} (d : decode cc pc = .ok (.ifCond .ge off, 3)) (ht : (pc : Int) + off = (tgt : Int)) (kt : zY X D out o1 ws tgt lv st) (kf : zY X D out o2 ws (pc + 3) lv st) : zY X D out (if 0 ≤ x then o1 else o2) ws pc lv (.int x :: st) := by
  intro h H locs ls hP hD hS hl
  exact lv_if_ge F.1 F.2.1 d ht (fun e => kt (by rw [if_pos e] at h; exact h) H locs ls hP hD hS hl) (fun e => kf (by rw [if_neg e] at h; exact h) H locs ls hP hD hS hl)
theorem y_icmp_ge (F : zF l D tA own cc nL rm X) {x y : Int32} {off : Int} {tgt : Nat} (d : decode cc pc = .ok (.if_icmp .ge off, 3)) (ht : (pc : Int) + off = (tgt : Int)) (kt : zY X D out o1 ws tgt lv st) (kf : zY X D out o2 ws (pc + 3) lv st) : zY X D out (if y ≤ x then o1 else o2) ws pc lv (.int y :: .int x :: st) := by
  intro h H locs ls hP hD hS hl
  exact lv_icmp_ge F.1 F.2.1 d ht (fun e => kt (by rw [if_pos e] at h; exact h) H locs ls hP hD hS hl) (fun e => kf (by rw [if_neg e] at h; exact h) H locs ls hP hD hS hl)
theorem y_if_gt (F : zF l D tA own cc nL rm X) {x : Int32} {off : Int} {tgt : Nat} (d : decode cc pc = .ok (.ifCond .gt off, 3)) (ht : (pc : Int) + off = (tgt : Int)) (kt : zY X D out o1 ws tgt lv st) (kf : zY X D out o2 ws (pc + 3) lv st) : zY X D out (if 0 < x then o1 else o2) ws pc lv (.int x :: st) := by
  intro h H locs ls hP hD hS hl
  exact lv_if_gt F.1 F.2.1 d ht (fun e => kt (by rw [if_pos e] at h; exact h) H locs ls hP hD hS hl) (fun e => kf (by rw [if_neg e] at h; exact h) H locs ls hP hD hS hl)
theorem y_icmp_gt (F : zF l D tA own cc nL rm X) {x y : Int32} {off : Int} {tgt : Nat} (d : decode cc pc = .ok (.if_icmp .gt off, 3)) (ht : (pc : Int) + off = (tgt : Int)) (kt : zY X D out o1 ws tgt lv st) (kf : zY X D out o2 ws (pc + 3) lv st) : zY X D out (if y < x then o1 else o2) ws pc lv (.int y :: .int x :: st) := by
  intro h H locs ls hP hD hS hl
  exact lv_icmp_gt F.1 F.2.1 d ht (fun e => kt (by rw [if_pos e] at h; exact h) H locs ls hP hD hS hl) (fun e => kf (by rw [if_neg e] at h; exact h) H locs ls hP hD hS hl)
theorem y_if_le (F : zF l D tA own cc nL rm X) {x : Int32} {off : Int} {tgt : Nat} (d : decode cc pc = .ok (.ifCond .le off, 3)) (ht : (pc : Int) + off = (tgt : Int)) (kt : zY X D out o1 ws tgt lv st) (kf : zY X D out o2 ws (pc + 3) lv st) : zY X D out (if x ≤ 0 then o1 else o2) ws pc lv (.int x :: st) := by
  intro h H locs ls hP hD hS hl
  exact lv_if_le F.1 F.2.1 d ht (fun e => kt (by rw [if_pos e] at h; exact h) H locs ls hP hD hS hl) (fun e => kf (by rw [if_neg e] at h; exact h) H locs ls hP hD hS hl)
theorem y_icmp_le (F : zF l D tA own cc nL rm X) {x y : Int32} {off : Int} {tgt : Nat} (d : decode cc pc = .ok (.if_icmp .le off, 3)) (ht : (pc : Int) + off = (tgt : Int)) (kt : zY X D out o1 ws tgt lv st) (kf : zY X D out o2 ws (pc + 3) lv st) : zY X D out (if x ≤ y then o1 else o2) ws pc lv (.int y :: .int x :: st) := by
  intro h H locs ls hP hD hS hl
  exact lv_icmp_le F.1 F.2.1 d ht (fun e => kt (by rw [if_pos e] at h; exact h) H locs ls hP hD hS hl) (fun e => kf (by rw [if_neg e] at h; exact h) H locs ls hP hD hS hl)
theorem y_if_ne (F : zF l D tA own cc nL rm X) {x : Int32} {off : Int} {tgt : Nat} (d : decode cc pc = .ok (.ifCond .ne off, 3)) (ht : (pc : Int) + off = (tgt : Int)) (kf : zY X D out o1 ws (pc + 3) lv st) (kt : zY X D out o2 ws tgt lv st) : zY X D out (if x = 0 then o1 else o2) ws pc lv (.int x :: st) := by
  intro h H locs ls hP hD hS hl
  exact lv_if_ne F.1 F.2.1 d ht (fun e => kt (by rw [if_neg e] at h; exact h) H locs ls hP hD hS hl) (fun e => kf (by rw [if_pos e] at h; exact h) H locs ls hP hD hS hl)
theorem y_icmp_ne (F : zF l D tA own cc nL rm X) {x y : Int32} {off : Int} {tgt : Nat} (d : decode cc pc = .ok (.if_icmp .ne off, 3)) (ht : (pc : Int) + off = (tgt : Int)) (kf : zY X D out o1 ws (pc + 3) lv st) (kt : zY X D out o2 ws tgt lv st) : zY X D out (if x = y then o1 else o2) ws pc lv (.int y :: .int x :: st) := by
  intro h H locs ls hP hD hS hl
  exact lv_icmp_ne F.1 F.2.1 d ht (fun e => kt (by rw [if_neg e] at h; exact h) H locs ls hP hD hS hl) (fun e => kf (by rw [if_pos e] at h; exact h) H locs ls hP hD hS hl)
theorem zl_eq (x y : Int64) : lg_cmp x y = 0 ↔ x = y := by
  unfold lg_cmp
  by_cases h1 : y < x
  · have h2 : ¬ x = y := fun e => by rw [e] at h1; exact Int64.lt_irrefl h1
    simp [h1, h2]
  · by_cases h2 : x = y
    · simp [h2]
    · simp [h1, h2]
theorem zl_ge (x y : Int64) : 0 ≤ lg_cmp x y ↔ y ≤ x := lg_cmp_ge x y
theorem zl_lt (x y : Int64) : lg_cmp x y < 0 ↔ x < y := by
  rw [← Int32.not_le, zl_ge, Int64.not_le]
theorem zl_gt (x y : Int64) : 0 < lg_cmp x y ↔ y < x := by
  unfold lg_cmp
  by_cases h1 : y < x
  · simp [h1]
  · by_cases h2 : x = y
    · simp [h2]
    · simp [h1, h2]
theorem zl_le (x y : Int64) : lg_cmp x y ≤ 0 ↔ x ≤ y := by
  rw [← Int32.not_lt, zl_gt, Int64.not_lt]
theorem y_lcmp_eq (F : zF l D tA own cc nL rm X) {x y : Int64} {off : Int} {tgt : Nat} (d0 : decode cc pc = .ok (.lcmp, 1)) (d : decode cc (pc + 1) = .ok (.ifCond .eq off, 3)) (ht : ((pc + 1 : Nat) : Int) + off = (tgt : Int)) (kt : zY X D out o1 ws tgt lv st) (kf : zY X D out o2 ws (pc + 4) lv st) : zY X D out (if x = y then o1 else o2) ws pc lv (.long y :: .long x :: st) := by
  intro h H locs ls hP hD hS hl
  exact W.lcmp F.1 F.2.1 d0 (lv_if_eq F.1 F.2.1 d ht (fun e => kt (by rw [if_pos ((zl_eq x y).mp e)] at h; exact h) H locs ls hP hD hS hl) (fun e => kf (by rw [if_neg (fun z => e ((zl_eq x y).mpr z))] at h; exact h) H locs ls hP hD hS hl))
theorem y_lcmp_lt (F : zF l D tA own cc nL rm X) {x y : Int64} {off : Int} {tgt : Nat} (d0 : decode cc pc = .ok (.lcmp, 1)) (d : decode cc (pc + 1) = .ok (.ifCond .lt off, 3)) (ht : ((pc + 1 : Nat) : Int) + off = (tgt : Int)) (kt : zY X D out o1 ws tgt lv st) (kf : zY X D out o2 ws (pc + 4) lv st) : zY X D out (if x < y then o1 else o2) ws pc lv (.long y :: .long x :: st) := by
  intro h H locs ls hP hD hS hl
  exact W.lcmp F.1 F.2.1 d0 (lv_if_lt F.1 F.2.1 d ht (fun e => kt (by rw [if_pos ((zl_lt x y).mp e)] at h; exact h) H locs ls hP hD hS hl) (fun e => kf (by rw [if_neg (fun z => e ((zl_lt x y).mpr z))] at h; exact h) H locs ls hP hD hS hl))
theorem y_lcmp_ge (F : zF l D tA own cc nL rm X) {x y : Int64} {off : Int} {tgt : Nat} (d0 : decode cc pc = .ok (.lcmp, 1)) (d : decode cc (pc + 1) = .ok (.ifCond .ge off, 3)) (ht : ((pc + 1 : Nat) : Int) + off = (tgt : Int)) (kt : zY X D out o1 ws tgt lv st) (kf : zY X D out o2 ws (pc + 4) lv st) : zY X D out (if y ≤ x then o1 else o2) ws pc lv (.long y :: .long x :: st) := by
  intro h H locs ls hP hD hS hl
  exact W.lcmp F.1 F.2.1 d0 (lv_if_ge F.1 F.2.1 d ht (fun e => kt (by rw [if_pos ((zl_ge x y).mp e)] at h; exact h) H locs ls hP hD hS hl) (fun e => kf (by rw [if_neg (fun z => e ((zl_ge x y).mpr z))] at h; exact h) H locs ls hP hD hS hl))
theorem y_lcmp_gt (F : zF l D tA own cc nL rm X) {x y : Int64} {off : Int} {tgt : Nat} (d0 : decode cc pc = .ok (.lcmp, 1)) (d : decode cc (pc + 1) = .ok (.ifCond .gt off, 3)) (ht : ((pc + 1 : Nat) : Int) + off = (tgt : Int)) (kt : zY X D out o1 ws tgt lv st) (kf : zY X D out o2 ws (pc + 4) lv st) : zY X D out (if y < x then o1 else o2) ws pc lv (.long y :: .long x :: st) := by
  intro h H locs ls hP hD hS hl
  exact W.lcmp F.1 F.2.1 d0 (lv_if_gt F.1 F.2.1 d ht (fun e => kt (by rw [if_pos ((zl_gt x y).mp e)] at h; exact h) H locs ls hP hD hS hl) (fun e => kf (by rw [if_neg (fun z => e ((zl_gt x y).mpr z))] at h; exact h) H locs ls hP hD hS hl))
theorem y_lcmp_le (F : zF l D tA own cc nL rm X) {x y : Int64} {off : Int} {tgt : Nat} (d0 : decode cc pc = .ok (.lcmp, 1)) (d : decode cc (pc + 1) = .ok (.ifCond .le off, 3)) (ht : ((pc + 1 : Nat) : Int) + off = (tgt : Int)) (kt : zY X D out o1 ws tgt lv st) (kf : zY X D out o2 ws (pc + 4) lv st) : zY X D out (if x ≤ y then o1 else o2) ws pc lv (.long y :: .long x :: st) := by
  intro h H locs ls hP hD hS hl
  exact W.lcmp F.1 F.2.1 d0 (lv_if_le F.1 F.2.1 d ht (fun e => kt (by rw [if_pos ((zl_le x y).mp e)] at h; exact h) H locs ls hP hD hS hl) (fun e => kf (by rw [if_neg (fun z => e ((zl_le x y).mpr z))] at h; exact h) H locs ls hP hD hS hl))
theorem y_lcmp_ne (F : zF l D tA own cc nL rm X) {x y : Int64} {off : Int} {tgt : Nat} (d0 : decode cc pc = .ok (.lcmp, 1)) (d : decode cc (pc + 1) = .ok (.ifCond .ne off, 3)) (ht : ((pc + 1 : Nat) : Int) + off = (tgt : Int)) (kf : zY X D out o1 ws (pc + 4) lv st) (kt : zY X D out o2 ws tgt lv st) : zY X D out (if x = y then o1 else o2) ws pc lv (.long y :: .long x :: st) := by
  intro h H locs ls hP hD hS hl
  exact W.lcmp F.1 F.2.1 d0 (lv_if_ne F.1 F.2.1 d ht (fun e => kt (by rw [if_neg (fun z => e ((zl_eq x y).mpr z))] at h; exact h) H locs ls hP hD hS hl) (fun e => kf (by rw [if_pos ((zl_eq x y).mp e)] at h; exact h) H locs ls hP hD hS hl))
theorem zin_of {i : Int32} (h : 0 ≤ i.toInt ∧ i.toInt < (n : Int)) : vp_in i n := vp_in_iff.mpr h
theorem y_gd {i : Int32} (k : vp_in i n → zY X D out o ws pc lv st) : zY X D out (zgd i n o) ws pc lv st := by
  intro h
  unfold zgd at h
  by_cases e : 0 ≤ i.toInt ∧ i.toInt < (n : Int)
  · rw [if_pos e] at h
    exact k (zin_of e) h
  · rw [if_neg e] at h
    cases h
/-- a class's field by a word of the constant pool -/
def zFl (own : String) (ix ci k : Nat) (C : String) (T : u_T) (N : Nat) (ty : Nat → FieldType) : Prop :=
  classes[ci]? = some (C, T, N) ∧ (∀ w ∈ u_ws C T N, w ∈ zT) ∧ (∀ k, k < N → parseFieldDescriptor (T k).2.2.1 = some (ty k)) ∧ (∀ a, a < N → ∀ b, b < N → a ≠ b → (T a).2.1 ≠ (T b).2.1) ∧ k < N ∧ Cond.fieldLink own ix (T k).1 (T k).2.1 (T k).2.2.1 ∈ zT
theorem y_get (F : zF l D tA own cc nL rm X) {ix ci k N : Nat} {C : String} {T : u_T} {ty : Nat → FieldType} (d : decode cc pc = .ok (.getfield ix, 3)) (w : zFl own ix ci k C T N ty) (q0 : Nat) {fs : List Value} {v : Value} (he : ws[q0]? = some (a, .inr (ci, fs))) (hv : fs[k]? = some v) (kk : zY X D out o ws (pc + 3) lv (v :: st)) : zY X D out o ws pc lv (.ref a :: st) :=
  fun h H locs ls hP hD hS hl => va_get F.1 F.2.1 F.2.2.2.1 w.2.1 F.2.2.1 F.2.2.2.2.1 hP q0 he w.1 k w.2.2.2.2.1 (F.2.2.2.1 _ w.2.2.2.2.2) (fun _ h => h) hv d (kk h H locs ls hP hD hS hl)
theorem y_put (F : zF l D tA own cc nL rm X) {ix ci k N : Nat} {C : String} {T : u_T} {ty : Nat → FieldType} (d : decode cc pc = .ok (.putfield ix, 3)) (w : zFl own ix ci k C T N ty) (q0 : Nat) {fs : List Value} {v : Value} (he : ws[q0]? = some (a, .inr (ci, fs))) (hfin : (T k).2.2.2 = false) (hn : narrow (ty k) v = v) (hfit : fits (ty k) v = true) (hk : k < fs.length) {e : β} {kf : β → Option α} (wf : β → va_W) (hw : ws.set q0 (a, .inr (ci, fs.set k v)) = wf e) (kk : ∀ o' : β, zY X D out (kf o') (wf o') (pc + 3) lv st) : zY X D out (zlet e kf) ws pc lv (v :: .ref a :: st) :=
  fun h H locs ls hP hD hS hl => va_put F.1 F.2.1 F.2.2.2.1 w.2.1 ty w.2.2.1 w.2.2.2.1 F.2.2.1 F.2.2.2.2.1 hP hD hS q0 he w.1 k w.2.2.2.2.1 (F.2.2.2.1 _ w.2.2.2.2.2) (fun _ h => h) hfin (w.2.2.1 k w.2.2.2.2.1) hn hfit hk d (fun H1 locs1 hP1 hD1 hS1 => kk e h H1 locs1 ls (hw ▸ hP1) (hw ▸ hD1) hS1 hl)
theorem y_iald (F : zF l D tA own cc nL rm X) (d : decode cc pc = .ok (.iaload, 1)) (q0 : Nat) {f : Nat → Int32} {i : Int32} (ha : ws[q0]? = some (a, .inl (tA 0, n, .inl f))) (kk : zY X D out o ws (pc + 1) lv (.int (f i.toNatClampNeg) :: st)) : zY X D out (zgd i n o) ws pc lv (.int i :: .ref a :: st) :=
  y_gd fun hin h H locs ls hP hD hS hl => va_iald F.1 F.2.1 F.2.2.2.2.1 hP q0 0 ha rfl hin d (kk h H locs ls hP hD hS hl)
theorem y_lald (F : zF l D tA own cc nL rm X) (d : decode cc pc = .ok (.laload, 1)) (q0 : Nat) {f : Nat → Int64} {i : Int32} (ha : ws[q0]? = some (a, .inl (tA 1, n, .inr (.inl f)))) (kk : zY X D out o ws (pc + 1) lv (.long (f i.toNatClampNeg) :: st)) : zY X D out (zgd i n o) ws pc lv (.int i :: .ref a :: st) :=
  y_gd fun hin h H locs ls hP hD hS hl => va_lald F.1 F.2.1 F.2.2.2.2.1 hP q0 1 ha rfl hin d (kk h H locs ls hP hD hS hl)
theorem y_zald (F : zF l D tA own cc nL rm X) (d : decode cc pc = .ok (.baload, 1)) (q0 : Nat) {f : Nat → Int32} {i : Int32} (ha : ws[q0]? = some (a, .inl (tA 2, n, .inl f))) (kk : zY X D out o ws (pc + 1) lv (.int (f i.toNatClampNeg) :: st)) : zY X D out (zgd i n o) ws pc lv (.int i :: .ref a :: st) :=
  y_gd fun hin h H locs ls hP hD hS hl => va_zald F.1 F.2.1 F.2.2.2.2.1 hP q0 2 ha rfl hin d (kk h H locs ls hP hD hS hl)
theorem y_bald (F : zF l D tA own cc nL rm X) (d : decode cc pc = .ok (.baload, 1)) (q0 : Nat) {f : Nat → Int32} {i : Int32} (ha : ws[q0]? = some (a, .inl (tA 3, n, .inl f))) (kk : zY X D out o ws (pc + 1) lv (.int (f i.toNatClampNeg) :: st)) : zY X D out (zgd i n o) ws pc lv (.int i :: .ref a :: st) :=
  y_gd fun hin h H locs ls hP hD hS hl => va_bald F.1 F.2.1 F.2.2.2.2.1 hP q0 3 ha rfl hin d (kk h H locs ls hP hD hS hl)
theorem va_aldr {p : Program} {l : Launch} {e : Env} {R : Room} {s : State} {m : MethodId} {args : Array Value} {below : List Frame} {meth : Method} {c : Code} {H : Heap} {locs : List Loc} {cells slots : Nat} {Q : State → Prop} {cc : ByteArray} {pc : Nat} {ls : Array Slot} {rest : List Value} {D : va_G} {cl : List vw_C} {a : Nat} {tys : List (ClassId × FieldType)} {ws : va_W}
    (hexec : p.tables.exec = Jvm.exec) (hb : c.code = cc) (hK : va_K D cl tys s) (hP : va_P D cl ws H) (q0 t0 : Nat) {cA : ClassId} {ty : FieldType} {n : Nat} {f : Nat → Option Nat} (ha : ws[q0]? = some (a, .inl (cA, n, .inr (.inr (.inr (.inr f)))))) (ht : tys[t0]? = some (cA, ty)) (hty : ty.isReference = true) {i : Int32} (hin : vp_in i n) (hdg : decode cc pc = .ok (.aaload, 1))
    (kk : W p l e R s m args below meth c H locs cells slots Q (F0 m (pc + 1) ls (va_rf (f i.toNatClampNeg) :: rest))) : W p l e R s m args below meth c H locs cells slots Q (F0 m pc ls (.int i :: .ref a :: rest)) := by
  have hlt : i.toNatClampNeg < n := Nat.not_le.mp fun q => hin (Or.inr q)
  exact W.aald (v := va_rf (f i.toNatClampNeg)) (ty := ty) hexec hb (hP q0 _ ha) ((hK.2 t0 _ ht).1 n (fun j => va_rf (f j))) hty (fun q => by cases q) (by show ¬ (i < 0 ∨ (arrV _ _ _).slots.size ≤ _); rw [arrV_size]; exact hin) (by show (arrV _ _ _).slots[_]? = _; rw [arrV_read _ _ hlt]) rfl rfl hdg kk
/-- a row of an array of rows, or an object of an array of objects: its address by its place -/
theorem y_aald (F : zF l D tA own cc nL rm X) (d : decode cc pc = .ok (.aaload, 1)) (q0 t0 : Nat) {ty : FieldType} {g : Nat → Nat} {i : Int32} (ha : ws[q0]? = some (a, .inl (cA, n, .inr (.inr (.inr (.inr (fun j => some (g j)))))))) (ht : (zt tA)[t0]? = some (cA, ty)) (hty : ty.isReference = true) (kk : zY X D out o ws (pc + 1) lv (.ref (g i.toNatClampNeg) :: st)) : zY X D out (zgd i n o) ws pc lv (.int i :: .ref a :: st) :=
  y_gd fun hin h H locs ls hP hD hS hl => va_aldr F.1 F.2.1 F.2.2.2.2.1 hP q0 t0 ha ht hty hin d (kk h H locs ls hP hD hS hl)
theorem y_iast (F : zF l D tA own cc nL rm X) (d : decode cc pc = .ok (.iastore, 1)) (q0 : Nat) {f : Nat → Int32} {i x : Int32} (ha : ws[q0]? = some (a, .inl (tA 0, n, .inl f))) {e : β} {kf : β → Option α} (wf : β → va_W) (hw : ws.set q0 (a, .inl (tA 0, n, .inl (upd f i.toNatClampNeg x))) = wf e) (kk : ∀ o' : β, zY X D out (kf o') (wf o') (pc + 1) lv st) : zY X D out (zgd i n (zlet e kf)) ws pc lv (.int x :: .int i :: .ref a :: st) :=
  y_gd fun hin h H locs ls hP hD hS hl => va_iast F.1 F.2.1 F.2.2.2.2.1 hP hD hS q0 0 ha rfl hin d (fun H1 locs1 hP1 hD1 hS1 => kk e h H1 locs1 ls (hw ▸ hP1) (hw ▸ hD1) hS1 hl)
theorem y_last (F : zF l D tA own cc nL rm X) (d : decode cc pc = .ok (.lastore, 1)) (q0 : Nat) {f : Nat → Int64} {i : Int32} {x : Int64} (ha : ws[q0]? = some (a, .inl (tA 1, n, .inr (.inl f)))) {e : β} {kf : β → Option α} (wf : β → va_W) (hw : ws.set q0 (a, .inl (tA 1, n, .inr (.inl (vp_updL f i.toNatClampNeg x)))) = wf e) (kk : ∀ o' : β, zY X D out (kf o') (wf o') (pc + 1) lv st) : zY X D out (zgd i n (zlet e kf)) ws pc lv (.long x :: .int i :: .ref a :: st) :=
  y_gd fun hin h H locs ls hP hD hS hl => va_last F.1 F.2.1 F.2.2.2.2.1 hP hD hS q0 1 ha rfl hin d (fun H1 locs1 hP1 hD1 hS1 => kk e h H1 locs1 ls (hw ▸ hP1) (hw ▸ hD1) hS1 hl)
theorem y_zast (F : zF l D tA own cc nL rm X) (d : decode cc pc = .ok (.bastore, 1)) (q0 : Nat) {f : Nat → Int32} {i x : Int32} (ha : ws[q0]? = some (a, .inl (tA 2, n, .inl f))) {e : β} {kf : β → Option α} (wf : β → va_W) (hw : ws.set q0 (a, .inl (tA 2, n, .inl (upd f i.toNatClampNeg (vp_nar .boolean x)))) = wf e) (kk : ∀ o' : β, zY X D out (kf o') (wf o') (pc + 1) lv st) : zY X D out (zgd i n (zlet e kf)) ws pc lv (.int x :: .int i :: .ref a :: st) :=
  y_gd fun hin h H locs ls hP hD hS hl => va_zast F.1 F.2.1 F.2.2.2.2.1 hP hD hS q0 2 ha rfl hin d (fun H1 locs1 hP1 hD1 hS1 => kk e h H1 locs1 ls (hw ▸ hP1) (hw ▸ hD1) hS1 hl)
theorem y_bast (F : zF l D tA own cc nL rm X) (d : decode cc pc = .ok (.bastore, 1)) (q0 : Nat) {f : Nat → Int32} {i x : Int32} (ha : ws[q0]? = some (a, .inl (tA 3, n, .inl f))) {e : β} {kf : β → Option α} (wf : β → va_W) (hw : ws.set q0 (a, .inl (tA 3, n, .inl (upd f i.toNatClampNeg (vp_nar .byte x)))) = wf e) (kk : ∀ o' : β, zY X D out (kf o') (wf o') (pc + 1) lv st) : zY X D out (zgd i n (zlet e kf)) ws pc lv (.int x :: .int i :: .ref a :: st) :=
  y_gd fun hin h H locs ls hP hD hS hl => va_bast F.1 F.2.1 F.2.2.2.2.1 hP hD hS q0 3 ha rfl hin d (fun H1 locs1 hP1 hD1 hS1 => kk e h H1 locs1 ls (hw ▸ hP1) (hw ▸ hD1) hS1 hl)
theorem y_alen (F : zF l D tA own cc nL rm X) (d : decode cc pc = .ok (.arraylength, 1)) (q0 t0 : Nat) {x : vp_A} {ty : FieldType} {v : Int32} (ha : ws[q0]? = some (a, .inl (cA, x))) (ht : (zt tA)[t0]? = some (cA, ty)) (hv : Int32.ofNat x.1 = v) (kk : zY X D out o ws (pc + 1) lv (.int v :: st)) : zY X D out o ws pc lv (.ref a :: st) :=
  fun h H locs ls hP hD hS hl => va_alen F.1 F.2.1 F.2.2.2.2.1 hP q0 t0 ha ht hv d (kk h H locs ls hP hD hS hl)
/-- a method's end -/
def zRi (X : ZX) (D : va_G) (cc : ByteArray) (ty : FieldType) (rr : α → Int32) (w1 : α → va_W) (out : α) : Prop :=
  narrow ty (.int (rr out)) = .int (rr out) → ∀ (H : Heap) (locs : List Loc) (pc : Nat) (ls : Array Slot), decode cc pc = .ok (.ireturn, 1) → va_P D classes (w1 out) H → va_D (zA X) (w1 out) → va_S (zA X) (zH X) H locs →
    W (zp X) (zl X) (ze X) (zR X) (zs X) (zm X) (za X) (zb X) (zme X) (zc X) H locs 0 0 (zQ X) (F0 (zm X) pc ls [.int (rr out)])
def zRl (X : ZX) (D : va_G) (cc : ByteArray) (rr : α → Int64) (w1 : α → va_W) (out : α) : Prop :=
  ∀ (H : Heap) (locs : List Loc) (pc : Nat) (ls : Array Slot), decode cc pc = .ok (.lreturn, 1) → va_P D classes (w1 out) H → va_D (zA X) (w1 out) → va_S (zA X) (zH X) H locs →
    W (zp X) (zl X) (ze X) (zR X) (zs X) (zm X) (za X) (zb X) (zme X) (zc X) H locs 0 0 (zQ X) (F0 (zm X) pc ls [.long (rr out)])
def zRv (X : ZX) (D : va_G) (cc : ByteArray) (w1 : α → va_W) (out : α) : Prop :=
  ∀ (H : Heap) (locs : List Loc) (pc : Nat) (ls : Array Slot), decode cc pc = .ok (.return_, 1) → va_P D classes (w1 out) H → va_D (zA X) (w1 out) → va_S (zA X) (zH X) H locs →
    W (zp X) (zl X) (ze X) (zR X) (zs X) (zm X) (za X) (zb X) (zme X) (zc X) H locs 0 0 (zQ X) (F0 (zm X) pc ls [])
theorem y_iret {rr : α → Int32} {w1 : α → va_W} {out' : α} {v : Int32} (hr : zRi X D cc .int rr w1 out) (d : decode cc pc = .ok (.ireturn, 1)) (hv : v = rr out') (hw : ws = w1 out') : zY X D out (some out') ws pc lv [.int v] := by
  intro h H locs ls hP hD hS hl
  have h := Option.some.inj h
  rw [h] at hv hw
  rw [hw] at hP hD
  rw [hv]
  exact hr rfl H locs pc ls d hP hD hS
theorem y_zret {rr : α → Int32} {w1 : α → va_W} {out' : α} {v : Int32} (hr : zRi X D cc .boolean rr w1 out) (d : decode cc pc = .ok (.ireturn, 1)) (hv : v = rr out') (hw : ws = w1 out') : zY X D out (zgz v (some out')) ws pc lv [.int v] := by
  intro h H locs ls hP hD hS hl
  unfold zgz at h
  by_cases e : v = 0 ∨ v = 1
  · rw [if_pos e] at h
    have h := Option.some.inj h
    rw [h] at hv hw
    rw [hw] at hP hD
    have hn : narrow .boolean (.int v) = .int v := by
      rcases e with e | e <;> rw [e] <;> rfl
    rw [hv] at hn ⊢
    exact hr hn H locs pc ls d hP hD hS
  · rw [if_neg e] at h
    cases h
theorem y_lret {rr : α → Int64} {w1 : α → va_W} {out' : α} {v : Int64} (hr : zRl X D cc rr w1 out) (d : decode cc pc = .ok (.lreturn, 1)) (hv : v = rr out') (hw : ws = w1 out') : zY X D out (some out') ws pc lv [.long v] := by
  intro h H locs ls hP hD hS hl
  have h := Option.some.inj h
  rw [h] at hv hw
  rw [hw] at hP hD
  rw [hv]
  exact hr H locs pc ls d hP hD hS
theorem y_vret {w1 : α → va_W} {out' : α} (hr : zRv X D cc w1 out) (d : decode cc pc = .ok (.return_, 1)) (hw : ws = w1 out') : zY X D out (some out') ws pc lv [] := by
  intro h H locs ls hP hD hS hl
  have h := Option.some.inj h
  rw [h] at hw
  rw [hw] at hP hD
  exact hr H locs pc ls d hP hD hS
/-- contracts -/
def zPre (D : va_G) (tA : Nat → ClassId) (av : List Value) (w0 : va_W) (sz : Nat) : Array Value → State → Prop := va_Pc av (fun U => U.heap.size = sz ∧ va_P D classes w0 U.heap ∧ va_K D classes (zt tA) U ∧ va_D (fun _ => True) w0)
def zAt (D : va_G) (w0 w1 : va_W) (sz : Nat) : Unit → State → Prop := fun _ t => va_P D classes w1 t.heap ∧ va_D (va_A w0 sz) w1
def zCi (l : Launch) (D : va_G) (tA : Nat → ClassId) (y : MethodName) (b : ByteArray) (nL : Nat) (ty : FieldType) (rm : Room) (av : List Value) (w0 : va_W) (rr : α → Int32) (w1 : α → va_W) (o : Option α) : Prop :=
  ∀ out : α, o = some out → ∀ sz : Nat, Met l y (.code y b nL (some ty) :: zT) rm (zPre D tA av w0 sz) (va_Qi (fun (r : Int32) (_ : Unit) => r = rr out) (zAt D w0 (w1 out) sz) (va_A w0 sz)) 0 0 (va_A w0 sz)
def zCl (l : Launch) (D : va_G) (tA : Nat → ClassId) (y : MethodName) (b : ByteArray) (nL : Nat) (rm : Room) (av : List Value) (w0 : va_W) (rr : α → Int64) (w1 : α → va_W) (o : Option α) : Prop :=
  ∀ out : α, o = some out → ∀ sz : Nat, Met l y (.code y b nL (some .long) :: zT) rm (zPre D tA av w0 sz) (va_Ql (fun (r : Int64) (_ : Unit) => r = rr out) (zAt D w0 (w1 out) sz) (va_A w0 sz)) 0 0 (va_A w0 sz)
def zCv (l : Launch) (D : va_G) (tA : Nat → ClassId) (y : MethodName) (b : ByteArray) (nL : Nat) (rm : Room) (av : List Value) (w0 : va_W) (w1 : α → va_W) (o : Option α) : Prop :=
  ∀ out : α, o = some out → ∀ sz : Nat, Met l y (.code y b nL none :: zT) rm (zPre D tA av w0 sz) (va_Qv (fun (_ : Unit) => True) (zAt D w0 (w1 out) sz) (va_A w0 sz)) 0 0 (va_A w0 sz)
theorem zCi_of {y : MethodName} {b : ByteArray} {ty : FieldType} {av : List Value} {w0 : va_W} {rr : α → Int32} {w1 : α → va_W} (hy : plainName y.cls = true) (hlen : (lg_sl av).length ≤ nL) {lv0 : List (Option Value)} (hlv : zent av nL = lv0)
    (body : ∀ (X : ZX) (out : α), zF l D tA y.cls b nL rm X → zRi X D b ty rr w1 out → zY X D out o w0 0 lv0 []) : zCi l D tA y b nL ty rm av w0 rr w1 o := by
  intro out ho sz
  refine Met.ofW (cc := b) (maxL := nL) (ret := some ty) hy rfl ?_
  intro p e s m args below meth c s₁ B hml hv
  obtain ⟨rfl, hsz, hP, hK, hD0⟩ := hv
  subst hsz
  have hts := atoms_spec (ws := .code y b nL (some ty) :: zT) B.pre
  have hlocks := B.notSynchronized
  rw [lg_entry_eq]
  refine body ((p, l, e, (headSpec (.code y b nL (some ty) :: zT) rm).room, s, m), (av.toArray, below, meth, c, _), va_A w0 s.heap.size, s.heap) out ⟨B.exec, B.bytes, findClass_of_methodNamed B.named, fun w hw => hts w (List.mem_cons_of_mem _ hw), hK, fun q h => Or.inr h, hml, rfl, rfl, rfl⟩ ?_ ho s.heap [] _ hP hD0.self va_S.rf (hlv ▸ zh_ent hlen)
  intro hn H locs pc ls d hP hD hS
  exact W.zret B.exec B.bytes B.returns hn (fun t ht hW => ⟨⟨rr out, (), rfl, rfl, by rw [ht]; exact hP, hD⟩, hS.F ht⟩) hS.2.2 d hlocks
theorem zCl_of {y : MethodName} {b : ByteArray} {av : List Value} {w0 : va_W} {rr : α → Int64} {w1 : α → va_W} (hy : plainName y.cls = true) (hlen : (lg_sl av).length ≤ nL) {lv0 : List (Option Value)} (hlv : zent av nL = lv0)
    (body : ∀ (X : ZX) (out : α), zF l D tA y.cls b nL rm X → zRl X D b rr w1 out → zY X D out o w0 0 lv0 []) : zCl l D tA y b nL rm av w0 rr w1 o := by
  intro out ho sz
  refine Met.ofW (cc := b) (maxL := nL) (ret := some .long) hy rfl ?_
  intro p e s m args below meth c s₁ B hml hv
  obtain ⟨rfl, hsz, hP, hK, hD0⟩ := hv
  subst hsz
  have hts := atoms_spec (ws := .code y b nL (some .long) :: zT) B.pre
  have hlocks := B.notSynchronized
  rw [lg_entry_eq]
  refine body ((p, l, e, (headSpec (.code y b nL (some .long) :: zT) rm).room, s, m), (av.toArray, below, meth, c, _), va_A w0 s.heap.size, s.heap) out ⟨B.exec, B.bytes, findClass_of_methodNamed B.named, fun w hw => hts w (List.mem_cons_of_mem _ hw), hK, fun q h => Or.inr h, hml, rfl, rfl, rfl⟩ ?_ ho s.heap [] _ hP hD0.self va_S.rf (hlv ▸ zh_ent hlen)
  intro H locs pc ls d hP hD hS
  exact W.lret B.exec B.bytes B.returns (fun t ht hW => ⟨⟨rr out, (), rfl, rfl, by rw [ht]; exact hP, hD⟩, hS.F ht⟩) hS.2.2 d hlocks
theorem zCv_of {y : MethodName} {b : ByteArray} {av : List Value} {w0 : va_W} {w1 : α → va_W} (hy : plainName y.cls = true) (hlen : (lg_sl av).length ≤ nL) {lv0 : List (Option Value)} (hlv : zent av nL = lv0)
    (body : ∀ (X : ZX) (out : α), zF l D tA y.cls b nL rm X → zRv X D b w1 out → zY X D out o w0 0 lv0 []) : zCv l D tA y b nL rm av w0 w1 o := by
  intro out ho sz
  refine Met.ofW (cc := b) (maxL := nL) (ret := none) hy rfl ?_
  intro p e s m args below meth c s₁ B hml hv
  obtain ⟨rfl, hsz, hP, hK, hD0⟩ := hv
  subst hsz
  have hts := atoms_spec (ws := .code y b nL none :: zT) B.pre
  have hlocks := B.notSynchronized
  rw [lg_entry_eq]
  refine body ((p, l, e, (headSpec (.code y b nL none :: zT) rm).room, s, m), (av.toArray, below, meth, c, _), va_A w0 s.heap.size, s.heap) out ⟨B.exec, B.bytes, findClass_of_methodNamed B.named, fun w hw => hts w (List.mem_cons_of_mem _ hw), hK, fun q h => Or.inr h, hml, rfl, rfl, rfl⟩ ?_ ho s.heap [] _ hP hD0.self va_S.rf (hlv ▸ zh_ent hlen)
  intro H locs pc ls d hP hD hS
  exact W.vret B.exec B.bytes B.returns (fun t ht hW => ⟨⟨(), rfl, trivial, by rw [ht]; exact hP, hD⟩, hS.F ht⟩) hS.2.2 d hlocks
end ZB
end
section
section ZCALL
variable {l : Launch} {D : va_G} {tA : Nat → ClassId} {own : String} {cc : ByteArray} {nL : Nat} {rm : Room} {X : ZX} {α β : Type} {out : α} {o o1 o2 : Option α} {ws ws' : va_W} {pc : Nat} {lv lv' : List (Option Value)} {st : List Value} {cA : ClassId} {n : Nat} {a : Addr}
/-- cells at places, put anew -/
def zput : va_W → List Nat → va_W → va_W
  | ws, i :: is, c :: cs => zput (ws.set i c) is cs
  | ws, _, _ => ws
theorem zput_at : ∀ (is : List Nat) (ws w1 : va_W) (k : Nat) (q : Nat × va_E), (zput ws is w1)[k]? = some q → (∃ j : Nat, is[j]? = some k ∧ w1[j]? = some q) ∨ ((is.length = w1.length → k ∉ is) ∧ ws[k]? = some q) := by
  intro is
  induction is with
  | nil =>
    intro ws w1 k q h
    have h : ws[k]? = some q := by cases w1 <;> exact h
    exact Or.inr ⟨fun _ => by simp, h⟩
  | cons i is ih =>
    intro ws w1 k q h
    cases w1 with
    | nil => exact Or.inr ⟨fun z => by simp at z, h⟩
    | cons c cs =>
      have h : (zput (ws.set i c) is cs)[k]? = some q := h
      rcases ih _ _ _ _ h with ⟨j, h1, h2⟩ | ⟨h1, h2⟩
      · exact Or.inl ⟨j + 1, by simpa using h1, by simpa using h2⟩
      · by_cases e : k = i
        · subst e
          have hl : k < ws.length := by
            have := (List.getElem?_eq_some_iff.mp h2).1
            rwa [List.length_set] at this
          rw [List.getElem?_set_self hl] at h2
          exact Or.inl ⟨0, rfl, h2⟩
        · rw [List.getElem?_set_ne (Ne.symm e)] at h2
          refine Or.inr ⟨fun z => ?_, h2⟩
          have z2 : is.length = cs.length := by simpa using z
          intro hm
          rcases List.mem_cons.mp hm with hm | hm
          · exact e hm
          · exact h1 z2 hm
theorem zmap_at {is : List Nat} {ws w : va_W} (hs : is.map (fun i => ws[i]?) = w.map some) : ∀ (k : Nat) (q : Nat × va_E), w[k]? = some q → ∃ i, is[k]? = some i ∧ ws[i]? = some q := by
  intro k q hq
  have h1 : (is.map (fun i => ws[i]?))[k]? = some (some q) := by rw [hs, List.getElem?_map, hq]; rfl
  rw [List.getElem?_map] at h1
  cases hi : is[k]? with
  | none => rw [hi] at h1; cases h1
  | some i => rw [hi] at h1; exact ⟨i, rfl, Option.some.inj h1⟩
theorem zmap_fm {is : List Nat} {ws w : va_W} (hs : is.map (fun i => ws[i]?) = w.map some) : is.filterMap (fun i => ws[i]?) = w := by
  have h1 : is.filterMap (fun i => ws[i]?) = (is.map (fun i => ws[i]?)).filterMap id := by
    rw [List.filterMap_map]; rfl
  rw [h1, hs, List.filterMap_map]
  have : (id ∘ some : Nat × va_E → Option (Nat × va_E)) = some := rfl
  rw [this, List.filterMap_some]
theorem zmap_len {is : List Nat} {ws w : va_W} (hs : is.map (fun i => ws[i]?) = w.map some) : is.length = w.length := by
  have := congrArg List.length hs
  simpa using this
/-- behind a call: what came back lies at its places, all else as it was -/
theorem zjoin {D : va_G} {cl : List vw_C} {A0 : Nat → Prop} {ws wc w1 ws' : va_W} {H H1 : Heap} {is : List Nat} (hP : va_P D cl ws H) (hD : va_D A0 ws) (hC : is.map (fun i => ws[i]?) = wc.map some) (hk : ∀ q : Nat, q < H.size → ¬ va_A wc H.size q → H1[q]? = H[q]?) (hP1 : va_P D cl w1 H1) (hadr : w1.map Prod.fst = wc.map Prod.fst) (hput : zput ws is w1 = ws') : va_P D cl ws' H1 ∧ va_D A0 ws' := by
  subst hput
  have hlen : is.length = w1.length := by
    have := congrArg List.length hadr
    rw [List.length_map, List.length_map] at this
    rw [zmap_len hC, this]
  have adr : ∀ (j : Nat) (q : Nat × va_E), w1[j]? = some q → ∃ q0, wc[j]? = some q0 ∧ q0.1 = q.1 := by
    intro j q hq
    have h1 : (w1.map Prod.fst)[j]? = some q.1 := by rw [List.getElem?_map, hq]; rfl
    rw [hadr, List.getElem?_map] at h1
    cases hw : wc[j]? with
    | none => rw [hw] at h1; cases h1
    | some q0 => rw [hw] at h1; exact ⟨q0, rfl, Option.some.inj h1⟩
  have old : ∀ (k : Nat) (q : Nat × va_E), (zput ws is w1)[k]? = some q → ∃ q0, ws[k]? = some q0 ∧ q0.1 = q.1 := by
    intro k q hq
    rcases zput_at is ws w1 k q hq with ⟨j, h1, h2⟩ | ⟨-, h2⟩
    · obtain ⟨q0, h3, h4⟩ := adr j q h2
      obtain ⟨i, h5, h6⟩ := zmap_at hC j q0 h3
      have e : i = k := Option.some.inj (h5.symm.trans h1)
      subst e
      exact ⟨q0, h6, h4⟩
    · exact ⟨q, h2, rfl⟩
  refine ⟨fun k q hq => ?_, fun i j p q hi hj e => ?_, fun k q hq => ?_⟩
  · rcases zput_at is ws w1 k q hq with ⟨j, h1, h2⟩ | ⟨h1, h2⟩
    · exact hP1 j q h2
    · refine (hP k q h2).kept (hk q.1 (hP k q h2).lt ?_)
      rintro (⟨j, e, h3⟩ | h3)
      · obtain ⟨i, h5, h6⟩ := zmap_at hC j (q.1, e) h3
        have e2 : k = i := hD.1 k i q (q.1, e) h2 h6 rfl
        subst e2
        exact h1 hlen (List.mem_of_getElem? h5)
      · have := (hP k q h2).lt
        omega
  · obtain ⟨p0, h1, h2⟩ := old i p hi
    obtain ⟨q0, h3, h4⟩ := old j q hj
    exact hD.1 i j p0 q0 h1 h3 (h2.trans (e.trans h4.symm))
  · obtain ⟨q0, h1, h2⟩ := old k q hq
    rw [← h2]
    exact hD.2 k q0 h1
theorem zblind {D : va_G} {tA : Nat → ClassId} {av : List Value} {w0 : va_W} {sz : Nat} : FrameBlind (zPre D tA av w0 sz) := by
  intro a U g mk q
  obtain ⟨q0, q1, qP, qK, qD⟩ := q
  exact ⟨q0, q1, qP, va_K.moved (u := U) (U := U.calling g mk a) (Vm.Alike.refl U.vm) qK, qD⟩
/-- a method's words -/
def zMv (own : String) (ix : Nat) (y : MethodName) (b : ByteArray) (n : Nat) (ret : Option FieldType) (np : Nat) : Prop :=
  Cond.methodLink own ix y ∈ zT ∧ Cond.instanceMethod y ∈ zT ∧ Cond.selects y.cls y y ∈ zT ∧ Cond.initialized y.cls ∈ zT ∧ Cond.code y b n ret ∈ zT ∧ (y.cls ≠ "java/lang/invoke/MethodHandle" ∧ y.cls ≠ "java/lang/invoke/VarHandle") ∧ (parseMethodDescriptor y.desc).map (fun d => d.parameters.length) = some np
def zMs (own : String) (ix : Nat) (y : MethodName) (b : ByteArray) (n : Nat) (ret : Option FieldType) (np : Nat) : Prop :=
  Cond.methodLink own ix y ∈ zT ∧ Cond.static y ∈ zT ∧ Cond.initialized y.cls ∈ zT ∧ Cond.code y b n ret ∈ zT ∧ (y.cls ≠ "java/lang/invoke/MethodHandle" ∧ y.cls ≠ "java/lang/invoke/VarHandle") ∧ (parseMethodDescriptor y.desc).map (fun d => d.parameters.length) = some np
theorem zgood {ys : List Cond} (hy : ∀ w ∈ ys, w ∈ zT) : GoodIn zT ys := fun w hw => ⟨hy w hw, good_of_word (zT_of (hy w hw)).2⟩
theorem zwords {s U : State} {args a' : Array Value} (ht : ∀ w ∈ zT, w.before args s = true) (hW : s.WarmedH U.vm) {w : Cond} (hw : w ∈ zT) : w.before a' U = true := word_at hW (good_of_word (zT_of hw).2) (ht w hw)
theorem zcallB (F : zF l D tA own cc nL rm X) {ix : Nat} {y : MethodName} {b : ByteArray} {nY : Nat} {ret : Option FieldType} {np : Nat} {rmY : Room} (hl : Cond.methodLink own ix y ∈ zT) (hi : Cond.initialized y.cls ∈ zT) (hc : Cond.code y b nY ret ∈ zT) (hy : y.cls ≠ "java/lang/invoke/MethodHandle" ∧ y.cls ≠ "java/lang/invoke/VarHandle") (hnp : (parseMethodDescriptor y.desc).map (fun d => d.parameters.length) = some np) (h0 : rmY.cells = 0 ∧ rmY.slots = 0) (hR : rmY.frames + 1 ≤ rm.frames ∧ 8 + (nY + 11) + rmY.locals ≤ rm.locals) :
    CallB (zR X) (zs X) (za X) own ix y b nY ret (.code y b nY ret :: zT) rmY 0 0 np := by
  obtain ⟨-, -, -, hts, -, -, -, -, hf, hlo⟩ := F
  refine ⟨h0.1, h0.2, by rw [hf]; exact hR.1, by rw [hlo]; exact hR.2, fun w hw a' U hW => ?_, List.mem_cons_self, hts _ hc, hts _ hi, hy, fun sig h => ?_, hts _ hl⟩
  · rcases List.mem_cons.mp hw with h | h
    · rw [h]; exact zwords hts hW hc
    · exact zwords hts hW h
  · rw [h] at hnp
    exact (Option.some.inj hnp).symm
theorem zpreV (F : zF l D tA own cc nL rm X) {H : Heap} {ws w0 : va_W} {A : Nat → Prop} {is : List Nat} {av : List Value} (hP : va_P D classes ws H) (hD : va_D A ws) (hC : is.map (fun i => ws[i]?) = w0.map some) (hn : va_nd is = true) : ∀ U : State, U.heap = H → (zs X).WarmedH U.vm → zPre D tA av w0 H.size av.toArray U := by
  intro U hU hW
  exact ⟨rfl, by rw [hU], by rw [hU]; exact hP.sub is (zmap_fm hC), va_K.moved hW.alike F.2.2.2.2.1, (hD.sub is hn hC).weaken (fun _ _ _ _ => trivial)⟩
theorem y_calli (F : zF l D tA own cc nL rm X) {ix nY np ci q0 : Nat} {y : MethodName} {bY : ByteArray} {ty : FieldType} {rmY : Room} {w0 : va_W} {rr : β → Int32} {w1 wf : β → va_W} {oc : Option β} {kf : β → Option α} {b : Addr} {As : List Value} {fs : List Value} {q : vw_C} (hcon : zCi l D tA y bY nY ty rmY (.ref b :: As) w0 rr w1 oc) (d : decode cc pc = .ok (.invokevirtual ix, 3)) (cw : zMv own ix y bY nY (some ty) np)
    (h0 : rmY.cells = 0 ∧ rmY.slots = 0) (hR : rmY.frames + 1 ≤ rm.frames ∧ 8 + (nY + 11) + rmY.locals ≤ rm.locals) (hlen : As.length = np) (hnL : lv.length = nL) {stk : List Value} (hst : stk = As.reverse ++ .ref b :: st) (hcat : (st.map fun v => v.category).sum ≤ 8)
    (hq : classes[ci]? = some q) (hqc : q.1 = y.cls) (he : ws[q0]? = some (b, .inr (ci, fs))) (is : List Nat) (hC : is.map (fun i => ws[i]?) = w0.map some) (hn : va_nd is = true) (hadr : ∀ r : β, (w1 r).map Prod.fst = w0.map Prod.fst) (hput : ∀ r : β, zput ws is (w1 r) = wf r)
    (kk : ∀ r : β, zY X D out (kf r) (wf r) (pc + 3) lv (.int (rr r) :: st)) : zY X D out (oc.bind kf) ws pc lv stk := by
  intro h H locs ls hP hD hS hl
  subst hst
  have ez : zl X = l := F.2.2.2.2.2.2.2.1
  subst ez
  cases hoc : oc with
  | none => rw [hoc] at h; cases h
  | some r =>
    rw [hoc] at h
    have h : kf r = some out := h
    have hF := va_free (wc := w0) hD hS F.2.2.2.2.2.1 is hC
    refine va_calli (va_runV (As := As) (rest := st) (g := F0 (zm X) pc ls (As.reverse ++ .ref b :: st)) (Ts := zT) (C := y.cls) ⟨F.1, F.2.1, rfl, F.2.2.1, F.2.2.2.1⟩ (hcon r hoc H.size) ⟨zcallB F cw.1 cw.2.2.2.1 cw.2.2.2.2.1 cw.2.2.2.2.2.1 cw.2.2.2.2.2.2 h0 hR, F.2.2.2.1 _ cw.2.1, F.2.2.2.1 _ cw.2.2.1⟩ ⟨zblind, hqc ▸ va_recv F.2.2.2.2.1 hP hq he, zpreV F hP hD hC hn⟩ rfl hlen (hl.1.trans (hnL.trans F.2.2.2.2.2.2.1.symm)) rfl (lv_room hcat) d ⟨Nat.zero_le _, Nat.zero_le _⟩) hS (fun q _ h => hF q h) hF (fun r1 u t H1 locs1 ht hvm hw hB hz1 hk1 hS1 => ?_)
    obtain ⟨hP1, hD1⟩ := hB
    rw [ht] at hP1
    obtain ⟨hPj, hDj⟩ := zjoin hP hD hC hk1 hP1 (hadr r) (hput r)
    rw [hw]
    exact kk r h H1 locs1 ls hPj hDj hS1 hl
theorem y_calll (F : zF l D tA own cc nL rm X) {ix nY np ci q0 : Nat} {y : MethodName} {bY : ByteArray} {rmY : Room} {w0 : va_W} {rr : β → Int64} {w1 wf : β → va_W} {oc : Option β} {kf : β → Option α} {b : Addr} {As : List Value} {fs : List Value} {q : vw_C} (hcon : zCl l D tA y bY nY rmY (.ref b :: As) w0 rr w1 oc) (d : decode cc pc = .ok (.invokevirtual ix, 3)) (cw : zMv own ix y bY nY (some .long) np)
    (h0 : rmY.cells = 0 ∧ rmY.slots = 0) (hR : rmY.frames + 1 ≤ rm.frames ∧ 8 + (nY + 11) + rmY.locals ≤ rm.locals) (hlen : As.length = np) (hnL : lv.length = nL) {stk : List Value} (hst : stk = As.reverse ++ .ref b :: st) (hcat : (st.map fun v => v.category).sum ≤ 8)
    (hq : classes[ci]? = some q) (hqc : q.1 = y.cls) (he : ws[q0]? = some (b, .inr (ci, fs))) (is : List Nat) (hC : is.map (fun i => ws[i]?) = w0.map some) (hn : va_nd is = true) (hadr : ∀ r : β, (w1 r).map Prod.fst = w0.map Prod.fst) (hput : ∀ r : β, zput ws is (w1 r) = wf r)
    (kk : ∀ r : β, zY X D out (kf r) (wf r) (pc + 3) lv (.long (rr r) :: st)) : zY X D out (oc.bind kf) ws pc lv stk := by
  intro h H locs ls hP hD hS hl
  subst hst
  have ez : zl X = l := F.2.2.2.2.2.2.2.1
  subst ez
  cases hoc : oc with
  | none => rw [hoc] at h; cases h
  | some r =>
    rw [hoc] at h
    have h : kf r = some out := h
    have hF := va_free (wc := w0) hD hS F.2.2.2.2.2.1 is hC
    refine va_calll (va_runV (As := As) (rest := st) (g := F0 (zm X) pc ls (As.reverse ++ .ref b :: st)) (Ts := zT) (C := y.cls) ⟨F.1, F.2.1, rfl, F.2.2.1, F.2.2.2.1⟩ (hcon r hoc H.size) ⟨zcallB F cw.1 cw.2.2.2.1 cw.2.2.2.2.1 cw.2.2.2.2.2.1 cw.2.2.2.2.2.2 h0 hR, F.2.2.2.1 _ cw.2.1, F.2.2.2.1 _ cw.2.2.1⟩ ⟨zblind, hqc ▸ va_recv F.2.2.2.2.1 hP hq he, zpreV F hP hD hC hn⟩ rfl hlen (hl.1.trans (hnL.trans F.2.2.2.2.2.2.1.symm)) rfl (lv_room hcat) d ⟨Nat.zero_le _, Nat.zero_le _⟩) hS (fun q _ h => hF q h) hF (fun r1 u t H1 locs1 ht hvm hw hB hz1 hk1 hS1 => ?_)
    obtain ⟨hP1, hD1⟩ := hB
    rw [ht] at hP1
    obtain ⟨hPj, hDj⟩ := zjoin hP hD hC hk1 hP1 (hadr r) (hput r)
    rw [hw]
    exact kk r h H1 locs1 ls hPj hDj hS1 hl
theorem y_callv (F : zF l D tA own cc nL rm X) {ix nY np ci q0 : Nat} {y : MethodName} {bY : ByteArray} {rmY : Room} {w0 : va_W} {w1 wf : β → va_W} {oc : Option β} {kf : β → Option α} {b : Addr} {As : List Value} {fs : List Value} {q : vw_C} (hcon : zCv l D tA y bY nY rmY (.ref b :: As) w0 w1 oc) (d : decode cc pc = .ok (.invokevirtual ix, 3)) (cw : zMv own ix y bY nY none np)
    (h0 : rmY.cells = 0 ∧ rmY.slots = 0) (hR : rmY.frames + 1 ≤ rm.frames ∧ 8 + (nY + 11) + rmY.locals ≤ rm.locals) (hlen : As.length = np) (hnL : lv.length = nL) {stk : List Value} (hst : stk = As.reverse ++ .ref b :: st) (hcat : (st.map fun v => v.category).sum ≤ 8)
    (hq : classes[ci]? = some q) (hqc : q.1 = y.cls) (he : ws[q0]? = some (b, .inr (ci, fs))) (is : List Nat) (hC : is.map (fun i => ws[i]?) = w0.map some) (hn : va_nd is = true) (hadr : ∀ r : β, (w1 r).map Prod.fst = w0.map Prod.fst) (hput : ∀ r : β, zput ws is (w1 r) = wf r)
    (kk : ∀ r : β, zY X D out (kf r) (wf r) (pc + 3) lv st) : zY X D out (oc.bind kf) ws pc lv stk := by
  intro h H locs ls hP hD hS hl
  subst hst
  have ez : zl X = l := F.2.2.2.2.2.2.2.1
  subst ez
  cases hoc : oc with
  | none => rw [hoc] at h; cases h
  | some r =>
    rw [hoc] at h
    have h : kf r = some out := h
    have hF := va_free (wc := w0) hD hS F.2.2.2.2.2.1 is hC
    refine va_callv (va_runV (As := As) (rest := st) (g := F0 (zm X) pc ls (As.reverse ++ .ref b :: st)) (Ts := zT) (C := y.cls) ⟨F.1, F.2.1, rfl, F.2.2.1, F.2.2.2.1⟩ (hcon r hoc H.size) ⟨zcallB F cw.1 cw.2.2.2.1 cw.2.2.2.2.1 cw.2.2.2.2.2.1 cw.2.2.2.2.2.2 h0 hR, F.2.2.2.1 _ cw.2.1, F.2.2.2.1 _ cw.2.2.1⟩ ⟨zblind, hqc ▸ va_recv F.2.2.2.2.1 hP hq he, zpreV F hP hD hC hn⟩ rfl hlen (hl.1.trans (hnL.trans F.2.2.2.2.2.2.1.symm)) rfl (lv_room hcat) d ⟨Nat.zero_le _, Nat.zero_le _⟩) hS (fun q _ h => hF q h) hF (fun u t H1 locs1 ht hvm hw hB hz1 hk1 hS1 => ?_)
    obtain ⟨hP1, hD1⟩ := hB
    rw [ht] at hP1
    obtain ⟨hPj, hDj⟩ := zjoin hP hD hC hk1 hP1 (hadr r) (hput r)
    exact kk r h H1 locs1 ls hPj hDj hS1 hl
theorem y_scalli (F : zF l D tA own cc nL rm X) {ix nY np : Nat} {y : MethodName} {bY : ByteArray} {ty : FieldType} {rmY : Room} {w0 : va_W} {rr : β → Int32} {w1 wf : β → va_W} {oc : Option β} {kf : β → Option α} {As : List Value} (hcon : zCi l D tA y bY nY ty rmY As w0 rr w1 oc) (d : decode cc pc = .ok (.invokestatic ix, 3)) (cw : zMs own ix y bY nY (some ty) np)
    (h0 : rmY.cells = 0 ∧ rmY.slots = 0) (hR : rmY.frames + 1 ≤ rm.frames ∧ 8 + (nY + 11) + rmY.locals ≤ rm.locals) (hlen : As.length = np) (hnL : lv.length = nL) {stk : List Value} (hst : stk = As.reverse ++ st) (hcat : (st.map fun v => v.category).sum ≤ 8)
    (is : List Nat) (hC : is.map (fun i => ws[i]?) = w0.map some) (hn : va_nd is = true) (hadr : ∀ r : β, (w1 r).map Prod.fst = w0.map Prod.fst) (hput : ∀ r : β, zput ws is (w1 r) = wf r)
    (kk : ∀ r : β, zY X D out (kf r) (wf r) (pc + 3) lv (.int (rr r) :: st)) : zY X D out (oc.bind kf) ws pc lv stk := by
  intro h H locs ls hP hD hS hl
  subst hst
  have ez : zl X = l := F.2.2.2.2.2.2.2.1
  subst ez
  cases hoc : oc with
  | none => rw [hoc] at h; cases h
  | some r =>
    rw [hoc] at h
    have h : kf r = some out := h
    have hF := va_free (wc := w0) hD hS F.2.2.2.2.2.1 is hC
    refine va_calli (va_runS (As := As) (rest := st) (g := F0 (zm X) pc ls (As.reverse ++ st)) (Ts := zT) ⟨F.1, F.2.1, rfl, F.2.2.1, F.2.2.2.1⟩ (hcon r hoc H.size) ⟨zcallB F cw.1 cw.2.2.1 cw.2.2.2.1 cw.2.2.2.2.1 cw.2.2.2.2.2 h0 hR, F.2.2.2.1 _ cw.2.1⟩ ⟨zblind, zpreV F hP hD hC hn⟩ rfl hlen (hl.1.trans (hnL.trans F.2.2.2.2.2.2.1.symm)) rfl (lv_room hcat) d ⟨Nat.zero_le _, Nat.zero_le _⟩) hS (fun q _ h => hF q h) hF (fun r1 u t H1 locs1 ht hvm hw hB hz1 hk1 hS1 => ?_)
    obtain ⟨hP1, hD1⟩ := hB
    rw [ht] at hP1
    obtain ⟨hPj, hDj⟩ := zjoin hP hD hC hk1 hP1 (hadr r) (hput r)
    rw [hw]
    exact kk r h H1 locs1 ls hPj hDj hS1 hl
theorem y_scalll (F : zF l D tA own cc nL rm X) {ix nY np : Nat} {y : MethodName} {bY : ByteArray} {rmY : Room} {w0 : va_W} {rr : β → Int64} {w1 wf : β → va_W} {oc : Option β} {kf : β → Option α} {As : List Value} (hcon : zCl l D tA y bY nY rmY As w0 rr w1 oc) (d : decode cc pc = .ok (.invokestatic ix, 3)) (cw : zMs own ix y bY nY (some .long) np)
    (h0 : rmY.cells = 0 ∧ rmY.slots = 0) (hR : rmY.frames + 1 ≤ rm.frames ∧ 8 + (nY + 11) + rmY.locals ≤ rm.locals) (hlen : As.length = np) (hnL : lv.length = nL) {stk : List Value} (hst : stk = As.reverse ++ st) (hcat : (st.map fun v => v.category).sum ≤ 8)
    (is : List Nat) (hC : is.map (fun i => ws[i]?) = w0.map some) (hn : va_nd is = true) (hadr : ∀ r : β, (w1 r).map Prod.fst = w0.map Prod.fst) (hput : ∀ r : β, zput ws is (w1 r) = wf r)
    (kk : ∀ r : β, zY X D out (kf r) (wf r) (pc + 3) lv (.long (rr r) :: st)) : zY X D out (oc.bind kf) ws pc lv stk := by
  intro h H locs ls hP hD hS hl
  subst hst
  have ez : zl X = l := F.2.2.2.2.2.2.2.1
  subst ez
  cases hoc : oc with
  | none => rw [hoc] at h; cases h
  | some r =>
    rw [hoc] at h
    have h : kf r = some out := h
    have hF := va_free (wc := w0) hD hS F.2.2.2.2.2.1 is hC
    refine va_calll (va_runS (As := As) (rest := st) (g := F0 (zm X) pc ls (As.reverse ++ st)) (Ts := zT) ⟨F.1, F.2.1, rfl, F.2.2.1, F.2.2.2.1⟩ (hcon r hoc H.size) ⟨zcallB F cw.1 cw.2.2.1 cw.2.2.2.1 cw.2.2.2.2.1 cw.2.2.2.2.2 h0 hR, F.2.2.2.1 _ cw.2.1⟩ ⟨zblind, zpreV F hP hD hC hn⟩ rfl hlen (hl.1.trans (hnL.trans F.2.2.2.2.2.2.1.symm)) rfl (lv_room hcat) d ⟨Nat.zero_le _, Nat.zero_le _⟩) hS (fun q _ h => hF q h) hF (fun r1 u t H1 locs1 ht hvm hw hB hz1 hk1 hS1 => ?_)
    obtain ⟨hP1, hD1⟩ := hB
    rw [ht] at hP1
    obtain ⟨hPj, hDj⟩ := zjoin hP hD hC hk1 hP1 (hadr r) (hput r)
    rw [hw]
    exact kk r h H1 locs1 ls hPj hDj hS1 hl
theorem y_scallv (F : zF l D tA own cc nL rm X) {ix nY np : Nat} {y : MethodName} {bY : ByteArray} {rmY : Room} {w0 : va_W} {w1 wf : β → va_W} {oc : Option β} {kf : β → Option α} {As : List Value} (hcon : zCv l D tA y bY nY rmY As w0 w1 oc) (d : decode cc pc = .ok (.invokestatic ix, 3)) (cw : zMs own ix y bY nY none np)
    (h0 : rmY.cells = 0 ∧ rmY.slots = 0) (hR : rmY.frames + 1 ≤ rm.frames ∧ 8 + (nY + 11) + rmY.locals ≤ rm.locals) (hlen : As.length = np) (hnL : lv.length = nL) {stk : List Value} (hst : stk = As.reverse ++ st) (hcat : (st.map fun v => v.category).sum ≤ 8)
    (is : List Nat) (hC : is.map (fun i => ws[i]?) = w0.map some) (hn : va_nd is = true) (hadr : ∀ r : β, (w1 r).map Prod.fst = w0.map Prod.fst) (hput : ∀ r : β, zput ws is (w1 r) = wf r)
    (kk : ∀ r : β, zY X D out (kf r) (wf r) (pc + 3) lv st) : zY X D out (oc.bind kf) ws pc lv stk := by
  intro h H locs ls hP hD hS hl
  subst hst
  have ez : zl X = l := F.2.2.2.2.2.2.2.1
  subst ez
  cases hoc : oc with
  | none => rw [hoc] at h; cases h
  | some r =>
    rw [hoc] at h
    have h : kf r = some out := h
    have hF := va_free (wc := w0) hD hS F.2.2.2.2.2.1 is hC
    refine va_callv (va_runS (As := As) (rest := st) (g := F0 (zm X) pc ls (As.reverse ++ st)) (Ts := zT) ⟨F.1, F.2.1, rfl, F.2.2.1, F.2.2.2.1⟩ (hcon r hoc H.size) ⟨zcallB F cw.1 cw.2.2.1 cw.2.2.2.1 cw.2.2.2.2.1 cw.2.2.2.2.2 h0 hR, F.2.2.2.1 _ cw.2.1⟩ ⟨zblind, zpreV F hP hD hC hn⟩ rfl hlen (hl.1.trans (hnL.trans F.2.2.2.2.2.2.1.symm)) rfl (lv_room hcat) d ⟨Nat.zero_le _, Nat.zero_le _⟩) hS (fun q _ h => hF q h) hF (fun u t H1 locs1 ht hvm hw hB hz1 hk1 hS1 => ?_)
    obtain ⟨hP1, hD1⟩ := hB
    rw [ht] at hP1
    obtain ⟨hPj, hDj⟩ := zjoin hP hD hC hk1 hP1 (hadr r) (hput r)
    exact kk r h H1 locs1 ls hPj hDj hS1 hl
theorem y_calliW (F : zF l D tA own cc nL rm X) {ix nY np ci q0 : Nat} {y : MethodName} {bY : ByteArray} {ty : FieldType} {rmY : Room} {rr : β → Int32} {w1 : β → va_W} {oc : Option β} {kf : β → Option α} {b : Addr} {As : List Value} {fs : List Value} {q : vw_C} (hcon : zCi l D tA y bY nY ty rmY (.ref b :: As) ws rr w1 oc) (d : decode cc pc = .ok (.invokevirtual ix, 3)) (cw : zMv own ix y bY nY (some ty) np)
    (h0 : rmY.cells = 0 ∧ rmY.slots = 0) (hR : rmY.frames + 1 ≤ rm.frames ∧ 8 + (nY + 11) + rmY.locals ≤ rm.locals) (hlen : As.length = np) (hnL : lv.length = nL) {stk : List Value} (hst : stk = As.reverse ++ .ref b :: st) (hcat : (st.map fun v => v.category).sum ≤ 8)
    (hq : classes[ci]? = some q) (hqc : q.1 = y.cls) (he : ws[q0]? = some (b, .inr (ci, fs)))
    (kk : ∀ r : β, zY X D out (kf r) (w1 r) (pc + 3) lv (.int (rr r) :: st)) : zY X D out (oc.bind kf) ws pc lv stk := by
  intro h H locs ls hP hD hS hl
  subst hst
  have ez : zl X = l := F.2.2.2.2.2.2.2.1
  subst ez
  cases hoc : oc with
  | none => rw [hoc] at h; cases h
  | some r =>
    rw [hoc] at h
    have h : kf r = some out := h
    have hF : ∀ q : Nat, va_A ws H.size q → zA X q := fun q h => by
      rcases h with ⟨k, e, h⟩ | h
      · exact hD.2 k _ h
      · exact F.2.2.2.2.2.1 q (Nat.le_trans hS.1 h)
    refine va_calli (va_runV (As := As) (rest := st) (g := F0 (zm X) pc ls (As.reverse ++ .ref b :: st)) (Ts := zT) (C := y.cls) ⟨F.1, F.2.1, rfl, F.2.2.1, F.2.2.2.1⟩ (hcon r hoc H.size) ⟨zcallB F cw.1 cw.2.2.2.1 cw.2.2.2.2.1 cw.2.2.2.2.2.1 cw.2.2.2.2.2.2 h0 hR, F.2.2.2.1 _ cw.2.1, F.2.2.2.1 _ cw.2.2.1⟩ ⟨zblind, hqc ▸ va_recv F.2.2.2.2.1 hP hq he, fun U hU hW => ⟨rfl, by rw [hU], by rw [hU]; exact hP, va_K.moved hW.alike F.2.2.2.2.1, hD.weaken (fun _ _ _ _ => trivial)⟩⟩ rfl hlen (hl.1.trans (hnL.trans F.2.2.2.2.2.2.1.symm)) rfl (lv_room hcat) d ⟨Nat.zero_le _, Nat.zero_le _⟩) hS (fun q _ h => hF q h) hF (fun r1 u t H1 locs1 ht hvm hw hB hz1 hk1 hS1 => ?_)
    obtain ⟨hP1, hD1⟩ := hB
    rw [ht] at hP1
    rw [hw]
    exact kk r h H1 locs1 ls hP1 (hD1.weaken (fun k q _ h => hF q.1 h)) hS1 hl
theorem y_calllW (F : zF l D tA own cc nL rm X) {ix nY np ci q0 : Nat} {y : MethodName} {bY : ByteArray} {rmY : Room} {rr : β → Int64} {w1 : β → va_W} {oc : Option β} {kf : β → Option α} {b : Addr} {As : List Value} {fs : List Value} {q : vw_C} (hcon : zCl l D tA y bY nY rmY (.ref b :: As) ws rr w1 oc) (d : decode cc pc = .ok (.invokevirtual ix, 3)) (cw : zMv own ix y bY nY (some .long) np)
    (h0 : rmY.cells = 0 ∧ rmY.slots = 0) (hR : rmY.frames + 1 ≤ rm.frames ∧ 8 + (nY + 11) + rmY.locals ≤ rm.locals) (hlen : As.length = np) (hnL : lv.length = nL) {stk : List Value} (hst : stk = As.reverse ++ .ref b :: st) (hcat : (st.map fun v => v.category).sum ≤ 8)
    (hq : classes[ci]? = some q) (hqc : q.1 = y.cls) (he : ws[q0]? = some (b, .inr (ci, fs)))
    (kk : ∀ r : β, zY X D out (kf r) (w1 r) (pc + 3) lv (.long (rr r) :: st)) : zY X D out (oc.bind kf) ws pc lv stk := by
  intro h H locs ls hP hD hS hl
  subst hst
  have ez : zl X = l := F.2.2.2.2.2.2.2.1
  subst ez
  cases hoc : oc with
  | none => rw [hoc] at h; cases h
  | some r =>
    rw [hoc] at h
    have h : kf r = some out := h
    have hF : ∀ q : Nat, va_A ws H.size q → zA X q := fun q h => by
      rcases h with ⟨k, e, h⟩ | h
      · exact hD.2 k _ h
      · exact F.2.2.2.2.2.1 q (Nat.le_trans hS.1 h)
    refine va_calll (va_runV (As := As) (rest := st) (g := F0 (zm X) pc ls (As.reverse ++ .ref b :: st)) (Ts := zT) (C := y.cls) ⟨F.1, F.2.1, rfl, F.2.2.1, F.2.2.2.1⟩ (hcon r hoc H.size) ⟨zcallB F cw.1 cw.2.2.2.1 cw.2.2.2.2.1 cw.2.2.2.2.2.1 cw.2.2.2.2.2.2 h0 hR, F.2.2.2.1 _ cw.2.1, F.2.2.2.1 _ cw.2.2.1⟩ ⟨zblind, hqc ▸ va_recv F.2.2.2.2.1 hP hq he, fun U hU hW => ⟨rfl, by rw [hU], by rw [hU]; exact hP, va_K.moved hW.alike F.2.2.2.2.1, hD.weaken (fun _ _ _ _ => trivial)⟩⟩ rfl hlen (hl.1.trans (hnL.trans F.2.2.2.2.2.2.1.symm)) rfl (lv_room hcat) d ⟨Nat.zero_le _, Nat.zero_le _⟩) hS (fun q _ h => hF q h) hF (fun r1 u t H1 locs1 ht hvm hw hB hz1 hk1 hS1 => ?_)
    obtain ⟨hP1, hD1⟩ := hB
    rw [ht] at hP1
    rw [hw]
    exact kk r h H1 locs1 ls hP1 (hD1.weaken (fun k q _ h => hF q.1 h)) hS1 hl
theorem y_callvW (F : zF l D tA own cc nL rm X) {ix nY np ci q0 : Nat} {y : MethodName} {bY : ByteArray} {rmY : Room} {w1 : β → va_W} {oc : Option β} {kf : β → Option α} {b : Addr} {As : List Value} {fs : List Value} {q : vw_C} (hcon : zCv l D tA y bY nY rmY (.ref b :: As) ws w1 oc) (d : decode cc pc = .ok (.invokevirtual ix, 3)) (cw : zMv own ix y bY nY none np)
    (h0 : rmY.cells = 0 ∧ rmY.slots = 0) (hR : rmY.frames + 1 ≤ rm.frames ∧ 8 + (nY + 11) + rmY.locals ≤ rm.locals) (hlen : As.length = np) (hnL : lv.length = nL) {stk : List Value} (hst : stk = As.reverse ++ .ref b :: st) (hcat : (st.map fun v => v.category).sum ≤ 8)
    (hq : classes[ci]? = some q) (hqc : q.1 = y.cls) (he : ws[q0]? = some (b, .inr (ci, fs)))
    (kk : ∀ r : β, zY X D out (kf r) (w1 r) (pc + 3) lv st) : zY X D out (oc.bind kf) ws pc lv stk := by
  intro h H locs ls hP hD hS hl
  subst hst
  have ez : zl X = l := F.2.2.2.2.2.2.2.1
  subst ez
  cases hoc : oc with
  | none => rw [hoc] at h; cases h
  | some r =>
    rw [hoc] at h
    have h : kf r = some out := h
    have hF : ∀ q : Nat, va_A ws H.size q → zA X q := fun q h => by
      rcases h with ⟨k, e, h⟩ | h
      · exact hD.2 k _ h
      · exact F.2.2.2.2.2.1 q (Nat.le_trans hS.1 h)
    refine va_callv (va_runV (As := As) (rest := st) (g := F0 (zm X) pc ls (As.reverse ++ .ref b :: st)) (Ts := zT) (C := y.cls) ⟨F.1, F.2.1, rfl, F.2.2.1, F.2.2.2.1⟩ (hcon r hoc H.size) ⟨zcallB F cw.1 cw.2.2.2.1 cw.2.2.2.2.1 cw.2.2.2.2.2.1 cw.2.2.2.2.2.2 h0 hR, F.2.2.2.1 _ cw.2.1, F.2.2.2.1 _ cw.2.2.1⟩ ⟨zblind, hqc ▸ va_recv F.2.2.2.2.1 hP hq he, fun U hU hW => ⟨rfl, by rw [hU], by rw [hU]; exact hP, va_K.moved hW.alike F.2.2.2.2.1, hD.weaken (fun _ _ _ _ => trivial)⟩⟩ rfl hlen (hl.1.trans (hnL.trans F.2.2.2.2.2.2.1.symm)) rfl (lv_room hcat) d ⟨Nat.zero_le _, Nat.zero_le _⟩) hS (fun q _ h => hF q h) hF (fun u t H1 locs1 ht hvm hw hB hz1 hk1 hS1 => ?_)
    obtain ⟨hP1, hD1⟩ := hB
    rw [ht] at hP1
    skip
    exact kk r h H1 locs1 ls hP1 (hD1.weaken (fun k q _ h => hF q.1 h)) hS1 hl
theorem y_scalliP (F : zF l D tA own cc nL rm X) {ix nY np : Nat} {y : MethodName} {bY : ByteArray} {ty : FieldType} {rmY : Room} {rr : β → Int32} {oc : Option β} {kf : β → Option α} {As : List Value} (hcon : zCi l D tA y bY nY ty rmY As [] rr (fun _ => []) oc) (d : decode cc pc = .ok (.invokestatic ix, 3)) (cw : zMs own ix y bY nY (some ty) np)
    (h0 : rmY.cells = 0 ∧ rmY.slots = 0) (hR : rmY.frames + 1 ≤ rm.frames ∧ 8 + (nY + 11) + rmY.locals ≤ rm.locals) (hlen : As.length = np) (hnL : lv.length = nL) {stk : List Value} (hst : stk = As.reverse ++ st) (hcat : (st.map fun v => v.category).sum ≤ 8)
    (kk : ∀ r : β, zY X D out (kf r) ws (pc + 3) lv (.int (rr r) :: st)) : zY X D out (oc.bind kf) ws pc lv stk :=
  y_scalli F (wf := fun _ => ws) hcon d cw h0 hR hlen hnL hst hcat [] rfl rfl (fun _ => rfl) (fun _ => by cases ws <;> rfl) kk
theorem y_scalllP (F : zF l D tA own cc nL rm X) {ix nY np : Nat} {y : MethodName} {bY : ByteArray} {rmY : Room} {rr : β → Int64} {oc : Option β} {kf : β → Option α} {As : List Value} (hcon : zCl l D tA y bY nY rmY As [] rr (fun _ => []) oc) (d : decode cc pc = .ok (.invokestatic ix, 3)) (cw : zMs own ix y bY nY (some .long) np)
    (h0 : rmY.cells = 0 ∧ rmY.slots = 0) (hR : rmY.frames + 1 ≤ rm.frames ∧ 8 + (nY + 11) + rmY.locals ≤ rm.locals) (hlen : As.length = np) (hnL : lv.length = nL) {stk : List Value} (hst : stk = As.reverse ++ st) (hcat : (st.map fun v => v.category).sum ≤ 8)
    (kk : ∀ r : β, zY X D out (kf r) ws (pc + 3) lv (.long (rr r) :: st)) : zY X D out (oc.bind kf) ws pc lv stk :=
  y_scalll F (wf := fun _ => ws) hcon d cw h0 hR hlen hnL hst hcat [] rfl rfl (fun _ => rfl) (fun _ => by cases ws <;> rfl) kk
theorem y_mmax (F : zF l D tA own cc nL rm X) {ix : Nat} {x y : Int32} (d : decode cc pc = .ok (.invokestatic ix, 3)) (w : Cond.methodLink own ix Lib.Math.max.name ∈ zT ∧ Cond.static Lib.Math.max.name ∈ zT ∧ Cond.initialized "java/lang/Math" ∈ zT ∧ Cond.code Lib.Math.max.name Lib.Math.max.code 2 (some .int) ∈ zT) (hR : 1 ≤ rm.frames ∧ (st.map fun v => v.category).sum + 13 ≤ rm.locals) (hnL : lv.length = nL) (kk : zY X D out o ws (pc + 3) lv (.int (if x < y then y else x) :: st)) : zY X D out o ws pc lv (.int y :: .int x :: st) :=
  fun h H locs ls hP hD hS hl => va_mmax F.1 F.2.1 (F.2.2.2.2.2.2.1.trans (hnL.symm.trans hl.1.symm)) F.2.2.1 (F.2.2.2.1 _ w.1) (F.2.2.2.1 _ w.2.1) (F.2.2.2.1 _ w.2.2.1) (F.2.2.2.1 _ w.2.2.2) (by rw [F.2.2.2.2.2.2.2.2.1]; exact hR.1) (by rw [F.2.2.2.2.2.2.2.2.2]; exact hR.2) (Nat.zero_le _) (Nat.zero_le _) d (kk h H locs ls hP hD hS hl)
theorem y_mmin (F : zF l D tA own cc nL rm X) {ix : Nat} {x y : Int32} (d : decode cc pc = .ok (.invokestatic ix, 3)) (w : Cond.methodLink own ix Lib.Math.min.name ∈ zT ∧ Cond.static Lib.Math.min.name ∈ zT ∧ Cond.initialized "java/lang/Math" ∈ zT ∧ Cond.code Lib.Math.min.name Lib.Math.min.code 2 (some .int) ∈ zT) (hR : 1 ≤ rm.frames ∧ (st.map fun v => v.category).sum + 13 ≤ rm.locals) (hnL : lv.length = nL) (kk : zY X D out o ws (pc + 3) lv (.int (if y < x then y else x) :: st)) : zY X D out o ws pc lv (.int y :: .int x :: st) :=
  fun h H locs ls hP hD hS hl => va_mmin F.1 F.2.1 (F.2.2.2.2.2.2.1.trans (hnL.symm.trans hl.1.symm)) F.2.2.1 (F.2.2.2.1 _ w.1) (F.2.2.2.1 _ w.2.1) (F.2.2.2.1 _ w.2.2.1) (F.2.2.2.1 _ w.2.2.2) (by rw [F.2.2.2.2.2.2.2.2.1]; exact hR.1) (by rw [F.2.2.2.2.2.2.2.2.2]; exact hR.2) (Nat.zero_le _) (Nat.zero_le _) d (kk h H locs ls hP hD hS hl)
theorem y_mmaxl (F : zF l D tA own cc nL rm X) {ix : Nat} {x y : Int64} (d : decode cc pc = .ok (.invokestatic ix, 3)) (w : Cond.methodLink own ix Lib.MathLoose.max_long.x ∈ zT ∧ Cond.static Lib.MathLoose.max_long.x ∈ zT ∧ Cond.initialized "java/lang/Math" ∈ zT ∧ Cond.code Lib.MathLoose.max_long.x Lib.MathLoose.max_long.code 4 (some .long) ∈ zT) (hR : 1 ≤ rm.frames ∧ (st.map fun v => v.category).sum + 15 ≤ rm.locals) (hnL : lv.length = nL) (kk : zY X D out o ws (pc + 3) lv (.long (if y < x then x else y) :: st)) : zY X D out o ws pc lv (.long y :: .long x :: st) :=
  fun h H locs ls hP hD hS hl => va_mmax_long F.1 F.2.1 (F.2.2.2.2.2.2.1.trans (hnL.symm.trans hl.1.symm)) F.2.2.1 (F.2.2.2.1 _ w.1) (F.2.2.2.1 _ w.2.1) (F.2.2.2.1 _ w.2.2.1) (F.2.2.2.1 _ w.2.2.2) (by rw [F.2.2.2.2.2.2.2.2.1]; exact hR.1) (by rw [F.2.2.2.2.2.2.2.2.2]; exact hR.2) (Nat.zero_le _) (Nat.zero_le _) d (kk h H locs ls hP hD hS hl)
end ZCALL
end
section
theorem zin_X11 : ∀ w ∈ u_ws RX11 TX11 53, w ∈ zT := by
  intro w hw
  obtain ⟨k, hk, rfl⟩ := List.mem_map.mp hw
  have hk := List.mem_range.mp hk
  match k, hk with
  | 0, _ => exact zT_in (List.mem_of_getElem? (i := 1038) (by decide +kernel)) rfl
  | 1, _ => exact zT_in (List.mem_of_getElem? (i := 1040) (by decide +kernel)) rfl
  | 2, _ => exact zT_in (List.mem_of_getElem? (i := 1042) (by decide +kernel)) rfl
  | 3, _ => exact zT_in (List.mem_of_getElem? (i := 1044) (by decide +kernel)) rfl
  | 4, _ => exact zT_in (List.mem_of_getElem? (i := 1046) (by decide +kernel)) rfl
  | 5, _ => exact zT_in (List.mem_of_getElem? (i := 1048) (by decide +kernel)) rfl
  | 6, _ => exact zT_in (List.mem_of_getElem? (i := 1050) (by decide +kernel)) rfl
  | 7, _ => exact zT_in (List.mem_of_getElem? (i := 1052) (by decide +kernel)) rfl
  | 8, _ => exact zT_in (List.mem_of_getElem? (i := 1054) (by decide +kernel)) rfl
  | 9, _ => exact zT_in (List.mem_of_getElem? (i := 1056) (by decide +kernel)) rfl
  | 10, _ => exact zT_in (List.mem_of_getElem? (i := 1058) (by decide +kernel)) rfl
  | 11, _ => exact zT_in (List.mem_of_getElem? (i := 1060) (by decide +kernel)) rfl
  | 12, _ => exact zT_in (List.mem_of_getElem? (i := 1062) (by decide +kernel)) rfl
  | 13, _ => exact zT_in (List.mem_of_getElem? (i := 1064) (by decide +kernel)) rfl
  | 14, _ => exact zT_in (List.mem_of_getElem? (i := 1066) (by decide +kernel)) rfl
  | 15, _ => exact zT_in (List.mem_of_getElem? (i := 1068) (by decide +kernel)) rfl
  | 16, _ => exact zT_in (List.mem_of_getElem? (i := 1070) (by decide +kernel)) rfl
  | 17, _ => exact zT_in (List.mem_of_getElem? (i := 1072) (by decide +kernel)) rfl
  | 18, _ => exact zT_in (List.mem_of_getElem? (i := 1074) (by decide +kernel)) rfl
  | 19, _ => exact zT_in (List.mem_of_getElem? (i := 1076) (by decide +kernel)) rfl
  | 20, _ => exact zT_in (List.mem_of_getElem? (i := 1078) (by decide +kernel)) rfl
  | 21, _ => exact zT_in (List.mem_of_getElem? (i := 1080) (by decide +kernel)) rfl
  | 22, _ => exact zT_in (List.mem_of_getElem? (i := 1082) (by decide +kernel)) rfl
  | 23, _ => exact zT_in (List.mem_of_getElem? (i := 1084) (by decide +kernel)) rfl
  | 24, _ => exact zT_in (List.mem_of_getElem? (i := 1086) (by decide +kernel)) rfl
  | 25, _ => exact zT_in (List.mem_of_getElem? (i := 1088) (by decide +kernel)) rfl
  | 26, _ => exact zT_in (List.mem_of_getElem? (i := 1090) (by decide +kernel)) rfl
  | 27, _ => exact zT_in (List.mem_of_getElem? (i := 1092) (by decide +kernel)) rfl
  | 28, _ => exact zT_in (List.mem_of_getElem? (i := 1094) (by decide +kernel)) rfl
  | 29, _ => exact zT_in (List.mem_of_getElem? (i := 1096) (by decide +kernel)) rfl
  | 30, _ => exact zT_in (List.mem_of_getElem? (i := 1098) (by decide +kernel)) rfl
  | 31, _ => exact zT_in (List.mem_of_getElem? (i := 1100) (by decide +kernel)) rfl
  | 32, _ => exact zT_in (List.mem_of_getElem? (i := 1102) (by decide +kernel)) rfl
  | 33, _ => exact zT_in (List.mem_of_getElem? (i := 1104) (by decide +kernel)) rfl
  | 34, _ => exact zT_in (List.mem_of_getElem? (i := 1106) (by decide +kernel)) rfl
  | 35, _ => exact zT_in (List.mem_of_getElem? (i := 1108) (by decide +kernel)) rfl
  | 36, _ => exact zT_in (List.mem_of_getElem? (i := 1110) (by decide +kernel)) rfl
  | 37, _ => exact zT_in (List.mem_of_getElem? (i := 1112) (by decide +kernel)) rfl
  | 38, _ => exact zT_in (List.mem_of_getElem? (i := 1114) (by decide +kernel)) rfl
  | 39, _ => exact zT_in (List.mem_of_getElem? (i := 1116) (by decide +kernel)) rfl
  | 40, _ => exact zT_in (List.mem_of_getElem? (i := 1118) (by decide +kernel)) rfl
  | 41, _ => exact zT_in (List.mem_of_getElem? (i := 1120) (by decide +kernel)) rfl
  | 42, _ => exact zT_in (List.mem_of_getElem? (i := 1122) (by decide +kernel)) rfl
  | 43, _ => exact zT_in (List.mem_of_getElem? (i := 1124) (by decide +kernel)) rfl
  | 44, _ => exact zT_in (List.mem_of_getElem? (i := 1126) (by decide +kernel)) rfl
  | 45, _ => exact zT_in (List.mem_of_getElem? (i := 1128) (by decide +kernel)) rfl
  | 46, _ => exact zT_in (List.mem_of_getElem? (i := 1130) (by decide +kernel)) rfl
  | 47, _ => exact zT_in (List.mem_of_getElem? (i := 1132) (by decide +kernel)) rfl
  | 48, _ => exact zT_in (List.mem_of_getElem? (i := 1134) (by decide +kernel)) rfl
  | 49, _ => exact zT_in (List.mem_of_getElem? (i := 1136) (by decide +kernel)) rfl
  | 50, _ => exact zT_in (List.mem_of_getElem? (i := 1138) (by decide +kernel)) rfl
  | 51, _ => exact zT_in (List.mem_of_getElem? (i := 1140) (by decide +kernel)) rfl
  | 52, _ => exact zT_in (List.mem_of_getElem? (i := 1142) (by decide +kernel)) rfl
  | n + 53, h => exact absurd h (by omega)
theorem kF_X11_124 : zFl RX11 124 11 0 RX11 TX11 53 tyX11 := ⟨rfl, zin_X11, tyX11_ok, nmX11, Nat.le_of_ble_eq_true rfl, zT_in (List.mem_of_getElem? (i := 985) (by decide +kernel)) rfl⟩
theorem kM_X11_127 : zMs RX11 127 yX11_in cX11_in 6 (some .boolean) 3 := ⟨zT_in (List.mem_of_getElem? (i := 1150) (by decide +kernel)) rfl, zT_in (List.mem_of_getElem? (i := 1151) (by decide +kernel)) rfl, zT_in (List.mem_of_getElem? (i := 82) (by decide +kernel)) rfl, zT_in (List.mem_of_getElem? (i := 1152) (by decide +kernel)) rfl, by decide +kernel, by decide +kernel⟩
theorem kF_X11_131 : zFl RX11 131 11 4 RX11 TX11 53 tyX11 := ⟨rfl, zin_X11, tyX11_ok, nmX11, Nat.le_of_ble_eq_true rfl, zT_in (List.mem_of_getElem? (i := 989) (by decide +kernel)) rfl⟩
theorem kC_X11_134 : Cond.constantLong RX11 134 (8) ∈ zT := zT_in (List.mem_of_getElem? (i := 1149) (by decide +kernel)) rfl
theorem kF_X11_137 : zFl RX11 137 11 22 RX11 TX11 53 tyX11 := ⟨rfl, zin_X11, tyX11_ok, nmX11, Nat.le_of_ble_eq_true rfl, zT_in (List.mem_of_getElem? (i := 1007) (by decide +kernel)) rfl⟩
theorem kF_X11_56 : zFl RX11 56 11 21 RX11 TX11 53 tyX11 := ⟨rfl, zin_X11, tyX11_ok, nmX11, Nat.le_of_ble_eq_true rfl, zT_in (List.mem_of_getElem? (i := 1006) (by decide +kernel)) rfl⟩
theorem kC_X11_141 : Cond.constantLong RX11 141 (255) ∈ zT := zT_in (List.mem_of_getElem? (i := 1155) (by decide +kernel)) rfl
theorem kC_X11_140 : Cond.constant RX11 140 (-1000000004) ∈ zT := zT_in (List.mem_of_getElem? (i := 1154) (by decide +kernel)) rfl
theorem kC_X11_136 : Cond.constant RX11 136 (-1000000002) ∈ zT := zT_in (List.mem_of_getElem? (i := 1153) (by decide +kernel)) rfl
theorem kF_X11_143 : zFl RX11 143 11 24 RX11 TX11 53 tyX11 := ⟨rfl, zin_X11, tyX11_ok, nmX11, Nat.le_of_ble_eq_true rfl, zT_in (List.mem_of_getElem? (i := 1009) (by decide +kernel)) rfl⟩
theorem kF_X11_59 : zFl RX11 59 11 23 RX11 TX11 53 tyX11 := ⟨rfl, zin_X11, tyX11_ok, nmX11, Nat.le_of_ble_eq_true rfl, zT_in (List.mem_of_getElem? (i := 1008) (by decide +kernel)) rfl⟩
theorem kM_X11_146 : zMv RX11 146 yX11_here cX11_here 1 (some .int) 0 := ⟨zT_in (List.mem_of_getElem? (i := 1160) (by decide +kernel)) rfl, zT_in (List.mem_of_getElem? (i := 1162) (by decide +kernel)) rfl, zT_in (List.mem_of_getElem? (i := 27) (by decide +kernel)) rfl, zT_in (List.mem_of_getElem? (i := 82) (by decide +kernel)) rfl, zT_in (List.mem_of_getElem? (i := 1163) (by decide +kernel)) rfl, by decide +kernel, by decide +kernel⟩
theorem kF_X11_150 : zFl RX11 150 11 25 RX11 TX11 53 tyX11 := ⟨rfl, zin_X11, tyX11_ok, nmX11, Nat.le_of_ble_eq_true rfl, zT_in (List.mem_of_getElem? (i := 1010) (by decide +kernel)) rfl⟩
theorem kF_X11_154 : zFl RX11 154 11 26 RX11 TX11 53 tyX11 := ⟨rfl, zin_X11, tyX11_ok, nmX11, Nat.le_of_ble_eq_true rfl, zT_in (List.mem_of_getElem? (i := 1011) (by decide +kernel)) rfl⟩
theorem kC_X11_157 : Cond.constantLong RX11 157 (97) ∈ zT := zT_in (List.mem_of_getElem? (i := 1172) (by decide +kernel)) rfl
theorem kC_X11_159 : Cond.constantLong RX11 159 (122) ∈ zT := zT_in (List.mem_of_getElem? (i := 1173) (by decide +kernel)) rfl
theorem kC_X11_161 : Cond.constantLong RX11 161 (1000000000000) ∈ zT := zT_in (List.mem_of_getElem? (i := 1174) (by decide +kernel)) rfl
theorem kC_X11_165 : Cond.constantLong RX11 165 (27) ∈ zT := zT_in (List.mem_of_getElem? (i := 1176) (by decide +kernel)) rfl
theorem kC_X11_167 : Cond.constantLong RX11 167 (96) ∈ zT := zT_in (List.mem_of_getElem? (i := 1177) (by decide +kernel)) rfl
theorem kC_X11_163 : Cond.constantLong RX11 163 (2000000000000) ∈ zT := zT_in (List.mem_of_getElem? (i := 1175) (by decide +kernel)) rfl
theorem kC_X11_169 : Cond.constantLong RX11 169 (48) ∈ zT := zT_in (List.mem_of_getElem? (i := 1196) (by decide +kernel)) rfl
theorem kC_X11_171 : Cond.constantLong RX11 171 (57) ∈ zT := zT_in (List.mem_of_getElem? (i := 1197) (by decide +kernel)) rfl
theorem kF_X11_177 : zFl RX11 177 11 28 RX11 TX11 53 tyX11 := ⟨rfl, zin_X11, tyX11_ok, nmX11, Nat.le_of_ble_eq_true rfl, zT_in (List.mem_of_getElem? (i := 1013) (by decide +kernel)) rfl⟩
theorem kF_X11_180 : zFl RX11 180 11 27 RX11 TX11 53 tyX11 := ⟨rfl, zin_X11, tyX11_ok, nmX11, Nat.le_of_ble_eq_true rfl, zT_in (List.mem_of_getElem? (i := 1012) (by decide +kernel)) rfl⟩
theorem kM_X11_173 : zMv RX11 173 yX11_fails cX11_fails 3 (some .int) 2 := ⟨zT_in (List.mem_of_getElem? (i := 1184) (by decide +kernel)) rfl, zT_in (List.mem_of_getElem? (i := 1186) (by decide +kernel)) rfl, zT_in (List.mem_of_getElem? (i := 30) (by decide +kernel)) rfl, zT_in (List.mem_of_getElem? (i := 82) (by decide +kernel)) rfl, zT_in (List.mem_of_getElem? (i := 1187) (by decide +kernel)) rfl, by decide +kernel, by decide +kernel⟩
theorem kM_X11_183 : zMv RX11 183 yX11_takeNumber cX11_takeNumber 4 (some .int) 2 := ⟨zT_in (List.mem_of_getElem? (i := 1192) (by decide +kernel)) rfl, zT_in (List.mem_of_getElem? (i := 1194) (by decide +kernel)) rfl, zT_in (List.mem_of_getElem? (i := 32) (by decide +kernel)) rfl, zT_in (List.mem_of_getElem? (i := 82) (by decide +kernel)) rfl, zT_in (List.mem_of_getElem? (i := 1195) (by decide +kernel)) rfl, by decide +kernel, by decide +kernel⟩
theorem kF_X11_63 : zFl RX11 63 11 30 RX11 TX11 53 tyX11 := ⟨rfl, zin_X11, tyX11_ok, nmX11, Nat.le_of_ble_eq_true rfl, zT_in (List.mem_of_getElem? (i := 1015) (by decide +kernel)) rfl⟩
theorem kF_X11_186 : zFl RX11 186 11 29 RX11 TX11 53 tyX11 := ⟨rfl, zin_X11, tyX11_ok, nmX11, Nat.le_of_ble_eq_true rfl, zT_in (List.mem_of_getElem? (i := 1014) (by decide +kernel)) rfl⟩
theorem kF_X11_66 : zFl RX11 66 11 31 RX11 TX11 53 tyX11 := ⟨rfl, zin_X11, tyX11_ok, nmX11, Nat.le_of_ble_eq_true rfl, zT_in (List.mem_of_getElem? (i := 1016) (by decide +kernel)) rfl⟩
theorem kF_X11_69 : zFl RX11 69 11 32 RX11 TX11 53 tyX11 := ⟨rfl, zin_X11, tyX11_ok, nmX11, Nat.le_of_ble_eq_true rfl, zT_in (List.mem_of_getElem? (i := 1017) (by decide +kernel)) rfl⟩
theorem kM_X11_189 : zMv RX11 189 yX11_readWord cX11_readWord 2 none 0 := ⟨zT_in (List.mem_of_getElem? (i := 1168) (by decide +kernel)) rfl, zT_in (List.mem_of_getElem? (i := 1170) (by decide +kernel)) rfl, zT_in (List.mem_of_getElem? (i := 29) (by decide +kernel)) rfl, zT_in (List.mem_of_getElem? (i := 82) (by decide +kernel)) rfl, zT_in (List.mem_of_getElem? (i := 1171) (by decide +kernel)) rfl, by decide +kernel, by decide +kernel⟩
theorem kC_X11_192 : Cond.constantLong RX11 192 (419) ∈ zT := zT_in (List.mem_of_getElem? (i := 1198) (by decide +kernel)) rfl
theorem kM_X11_194 : zMs RX11 194 yX11_code cX11_code 4 (some .long) 4 := ⟨zT_in (List.mem_of_getElem? (i := 1178) (by decide +kernel)) rfl, zT_in (List.mem_of_getElem? (i := 1179) (by decide +kernel)) rfl, zT_in (List.mem_of_getElem? (i := 82) (by decide +kernel)) rfl, zT_in (List.mem_of_getElem? (i := 1180) (by decide +kernel)) rfl, by decide +kernel, by decide +kernel⟩
theorem kM_X11_198 : zMs RX11 198 yX11_longer cX11_longer 3 (some .long) 2 := ⟨zT_in (List.mem_of_getElem? (i := 1181) (by decide +kernel)) rfl, zT_in (List.mem_of_getElem? (i := 1182) (by decide +kernel)) rfl, zT_in (List.mem_of_getElem? (i := 82) (by decide +kernel)) rfl, zT_in (List.mem_of_getElem? (i := 1183) (by decide +kernel)) rfl, by decide +kernel, by decide +kernel⟩
theorem kF_X11_78 : zFl RX11 78 11 36 RX11 TX11 53 tyX11 := ⟨rfl, zin_X11, tyX11_ok, nmX11, Nat.le_of_ble_eq_true rfl, zT_in (List.mem_of_getElem? (i := 1021) (by decide +kernel)) rfl⟩
theorem kF_X11_202 : zFl RX11 202 11 33 RX11 TX11 53 tyX11 := ⟨rfl, zin_X11, tyX11_ok, nmX11, Nat.le_of_ble_eq_true rfl, zT_in (List.mem_of_getElem? (i := 1018) (by decide +kernel)) rfl⟩
theorem kF_X11_72 : zFl RX11 72 11 34 RX11 TX11 53 tyX11 := ⟨rfl, zin_X11, tyX11_ok, nmX11, Nat.le_of_ble_eq_true rfl, zT_in (List.mem_of_getElem? (i := 1019) (by decide +kernel)) rfl⟩
theorem kF_X11_75 : zFl RX11 75 11 35 RX11 TX11 53 tyX11 := ⟨rfl, zin_X11, tyX11_ok, nmX11, Nat.le_of_ble_eq_true rfl, zT_in (List.mem_of_getElem? (i := 1020) (by decide +kernel)) rfl⟩
theorem kM_X11_205 : zMv RX11 205 yX11_takeKind cX11_takeKind 2 (some .int) 0 := ⟨zT_in (List.mem_of_getElem? (i := 1203) (by decide +kernel)) rfl, zT_in (List.mem_of_getElem? (i := 1205) (by decide +kernel)) rfl, zT_in (List.mem_of_getElem? (i := 34) (by decide +kernel)) rfl, zT_in (List.mem_of_getElem? (i := 82) (by decide +kernel)) rfl, zT_in (List.mem_of_getElem? (i := 1206) (by decide +kernel)) rfl, by decide +kernel, by decide +kernel⟩
theorem kM_X11_214 : zMv RX11 214 yX11_takeStop cX11_takeStop 1 (some .int) 0 := ⟨zT_in (List.mem_of_getElem? (i := 1207) (by decide +kernel)) rfl, zT_in (List.mem_of_getElem? (i := 1209) (by decide +kernel)) rfl, zT_in (List.mem_of_getElem? (i := 35) (by decide +kernel)) rfl, zT_in (List.mem_of_getElem? (i := 82) (by decide +kernel)) rfl, zT_in (List.mem_of_getElem? (i := 1210) (by decide +kernel)) rfl, by decide +kernel, by decide +kernel⟩
theorem kM_X11_211 : zMv RX11 211 yX11_takeWitness cX11_takeWitness 4 (some .int) 0 := ⟨zT_in (List.mem_of_getElem? (i := 1199) (by decide +kernel)) rfl, zT_in (List.mem_of_getElem? (i := 1201) (by decide +kernel)) rfl, zT_in (List.mem_of_getElem? (i := 33) (by decide +kernel)) rfl, zT_in (List.mem_of_getElem? (i := 82) (by decide +kernel)) rfl, zT_in (List.mem_of_getElem? (i := 1202) (by decide +kernel)) rfl, by decide +kernel, by decide +kernel⟩
theorem kM_X11_208 : zMv RX11 208 yX11_takeSuit cX11_takeSuit 2 (some .int) 0 := ⟨zT_in (List.mem_of_getElem? (i := 1188) (by decide +kernel)) rfl, zT_in (List.mem_of_getElem? (i := 1190) (by decide +kernel)) rfl, zT_in (List.mem_of_getElem? (i := 31) (by decide +kernel)) rfl, zT_in (List.mem_of_getElem? (i := 82) (by decide +kernel)) rfl, zT_in (List.mem_of_getElem? (i := 1191) (by decide +kernel)) rfl, by decide +kernel, by decide +kernel⟩
theorem kF_X11_223 : zFl RX11 223 11 13 RX11 TX11 53 tyX11 := ⟨rfl, zin_X11, tyX11_ok, nmX11, Nat.le_of_ble_eq_true rfl, zT_in (List.mem_of_getElem? (i := 998) (by decide +kernel)) rfl⟩
theorem kF_X11_226 : zFl RX11 226 11 14 RX11 TX11 53 tyX11 := ⟨rfl, zin_X11, tyX11_ok, nmX11, Nat.le_of_ble_eq_true rfl, zT_in (List.mem_of_getElem? (i := 999) (by decide +kernel)) rfl⟩
theorem kF_X11_50 : zFl RX11 50 11 18 RX11 TX11 53 tyX11 := ⟨rfl, zin_X11, tyX11_ok, nmX11, Nat.le_of_ble_eq_true rfl, zT_in (List.mem_of_getElem? (i := 1003) (by decide +kernel)) rfl⟩
theorem kF_X11_41 : zFl RX11 41 11 15 RX11 TX11 53 tyX11 := ⟨rfl, zin_X11, tyX11_ok, nmX11, Nat.le_of_ble_eq_true rfl, zT_in (List.mem_of_getElem? (i := 1000) (by decide +kernel)) rfl⟩
theorem kF_X11_44 : zFl RX11 44 11 16 RX11 TX11 53 tyX11 := ⟨rfl, zin_X11, tyX11_ok, nmX11, Nat.le_of_ble_eq_true rfl, zT_in (List.mem_of_getElem? (i := 1001) (by decide +kernel)) rfl⟩
theorem kF_X11_47 : zFl RX11 47 11 17 RX11 TX11 53 tyX11 := ⟨rfl, zin_X11, tyX11_ok, nmX11, Nat.le_of_ble_eq_true rfl, zT_in (List.mem_of_getElem? (i := 1002) (by decide +kernel)) rfl⟩
theorem kF_X11_31 : zFl RX11 31 11 10 RX11 TX11 53 tyX11 := ⟨rfl, zin_X11, tyX11_ok, nmX11, Nat.le_of_ble_eq_true rfl, zT_in (List.mem_of_getElem? (i := 995) (by decide +kernel)) rfl⟩
theorem kF_X11_34 : zFl RX11 34 11 11 RX11 TX11 53 tyX11 := ⟨rfl, zin_X11, tyX11_ok, nmX11, Nat.le_of_ble_eq_true rfl, zT_in (List.mem_of_getElem? (i := 996) (by decide +kernel)) rfl⟩
theorem kF_X11_37 : zFl RX11 37 11 12 RX11 TX11 53 tyX11 := ⟨rfl, zin_X11, tyX11_ok, nmX11, Nat.le_of_ble_eq_true rfl, zT_in (List.mem_of_getElem? (i := 997) (by decide +kernel)) rfl⟩
theorem kM_X11_220 : zMv RX11 220 yX11_anew cX11_anew 2 none 0 := ⟨zT_in (List.mem_of_getElem? (i := 1211) (by decide +kernel)) rfl, zT_in (List.mem_of_getElem? (i := 1213) (by decide +kernel)) rfl, zT_in (List.mem_of_getElem? (i := 36) (by decide +kernel)) rfl, zT_in (List.mem_of_getElem? (i := 82) (by decide +kernel)) rfl, zT_in (List.mem_of_getElem? (i := 1214) (by decide +kernel)) rfl, by decide +kernel, by decide +kernel⟩
theorem kF_X11_121 : zFl RX11 121 11 52 RX11 TX11 53 tyX11 := ⟨rfl, zin_X11, tyX11_ok, nmX11, Nat.le_of_ble_eq_true rfl, zT_in (List.mem_of_getElem? (i := 1037) (by decide +kernel)) rfl⟩
theorem kF_X11_19 : zFl RX11 19 11 5 RX11 TX11 53 tyX11 := ⟨rfl, zin_X11, tyX11_ok, nmX11, Nat.le_of_ble_eq_true rfl, zT_in (List.mem_of_getElem? (i := 990) (by decide +kernel)) rfl⟩
theorem kF_X11_22 : zFl RX11 22 11 6 RX11 TX11 53 tyX11 := ⟨rfl, zin_X11, tyX11_ok, nmX11, Nat.le_of_ble_eq_true rfl, zT_in (List.mem_of_getElem? (i := 991) (by decide +kernel)) rfl⟩
theorem kF_X11_25 : zFl RX11 25 11 7 RX11 TX11 53 tyX11 := ⟨rfl, zin_X11, tyX11_ok, nmX11, Nat.le_of_ble_eq_true rfl, zT_in (List.mem_of_getElem? (i := 992) (by decide +kernel)) rfl⟩
theorem kF_X11_7 : zFl RX11 7 11 1 RX11 TX11 53 tyX11 := ⟨rfl, zin_X11, tyX11_ok, nmX11, Nat.le_of_ble_eq_true rfl, zT_in (List.mem_of_getElem? (i := 986) (by decide +kernel)) rfl⟩
theorem kF_X11_13 : zFl RX11 13 11 2 RX11 TX11 53 tyX11 := ⟨rfl, zin_X11, tyX11_ok, nmX11, Nat.le_of_ble_eq_true rfl, zT_in (List.mem_of_getElem? (i := 987) (by decide +kernel)) rfl⟩
theorem kF_X11_16 : zFl RX11 16 11 3 RX11 TX11 53 tyX11 := ⟨rfl, zin_X11, tyX11_ok, nmX11, Nat.le_of_ble_eq_true rfl, zT_in (List.mem_of_getElem? (i := 988) (by decide +kernel)) rfl⟩
theorem kF_X11_106 : zFl RX11 106 11 47 RX11 TX11 53 tyX11 := ⟨rfl, zin_X11, tyX11_ok, nmX11, Nat.le_of_ble_eq_true rfl, zT_in (List.mem_of_getElem? (i := 1032) (by decide +kernel)) rfl⟩
theorem kM_X11_217 : zMv RX11 217 yX11_takeClause cX11_takeClause 3 (some .int) 0 := ⟨zT_in (List.mem_of_getElem? (i := 1164) (by decide +kernel)) rfl, zT_in (List.mem_of_getElem? (i := 1166) (by decide +kernel)) rfl, zT_in (List.mem_of_getElem? (i := 28) (by decide +kernel)) rfl, zT_in (List.mem_of_getElem? (i := 82) (by decide +kernel)) rfl, zT_in (List.mem_of_getElem? (i := 1167) (by decide +kernel)) rfl, by decide +kernel, by decide +kernel⟩
theorem kF_X11_229 : zFl RX11 229 11 37 RX11 TX11 53 tyX11 := ⟨rfl, zin_X11, tyX11_ok, nmX11, Nat.le_of_ble_eq_true rfl, zT_in (List.mem_of_getElem? (i := 1022) (by decide +kernel)) rfl⟩
theorem kF_X11_81 : zFl RX11 81 11 38 RX11 TX11 53 tyX11 := ⟨rfl, zin_X11, tyX11_ok, nmX11, Nat.le_of_ble_eq_true rfl, zT_in (List.mem_of_getElem? (i := 1023) (by decide +kernel)) rfl⟩
theorem kF_X11_236 : zFl RX11 236 11 8 RX11 TX11 53 tyX11 := ⟨rfl, zin_X11, tyX11_ok, nmX11, Nat.le_of_ble_eq_true rfl, zT_in (List.mem_of_getElem? (i := 993) (by decide +kernel)) rfl⟩
theorem kF_X11_28 : zFl RX11 28 11 9 RX11 TX11 53 tyX11 := ⟨rfl, zin_X11, tyX11_ok, nmX11, Nat.le_of_ble_eq_true rfl, zT_in (List.mem_of_getElem? (i := 994) (by decide +kernel)) rfl⟩
theorem kM_X11_233 : zMv RX11 233 yX11_takeLaw cX11_takeLaw 3 (some .int) 0 := ⟨zT_in (List.mem_of_getElem? (i := 1220) (by decide +kernel)) rfl, zT_in (List.mem_of_getElem? (i := 1222) (by decide +kernel)) rfl, zT_in (List.mem_of_getElem? (i := 37) (by decide +kernel)) rfl, zT_in (List.mem_of_getElem? (i := 82) (by decide +kernel)) rfl, zT_in (List.mem_of_getElem? (i := 1223) (by decide +kernel)) rfl, by decide +kernel, by decide +kernel⟩
theorem kC_X11_232 : Cond.constant RX11 232 (-1000000003) ∈ zT := zT_in (List.mem_of_getElem? (i := 1219) (by decide +kernel)) rfl
theorem kC_X11_239 : Cond.constantLong RX11 239 (6) ∈ zT := zT_in (List.mem_of_getElem? (i := 1232) (by decide +kernel)) rfl
theorem kM_X11_241 : zMv RX11 241 yX11_lawOf cX11_lawOf 5 (some .int) 2 := ⟨zT_in (List.mem_of_getElem? (i := 1233) (by decide +kernel)) rfl, zT_in (List.mem_of_getElem? (i := 1235) (by decide +kernel)) rfl, zT_in (List.mem_of_getElem? (i := 38) (by decide +kernel)) rfl, zT_in (List.mem_of_getElem? (i := 82) (by decide +kernel)) rfl, zT_in (List.mem_of_getElem? (i := 1236) (by decide +kernel)) rfl, by decide +kernel, by decide +kernel⟩
theorem kM_X11_244 : zMv RX11 244 yX11_isSuit cX11_isSuit 2 (some .boolean) 1 := ⟨zT_in (List.mem_of_getElem? (i := 1241) (by decide +kernel)) rfl, zT_in (List.mem_of_getElem? (i := 1243) (by decide +kernel)) rfl, zT_in (List.mem_of_getElem? (i := 39) (by decide +kernel)) rfl, zT_in (List.mem_of_getElem? (i := 82) (by decide +kernel)) rfl, zT_in (List.mem_of_getElem? (i := 1244) (by decide +kernel)) rfl, by decide +kernel, by decide +kernel⟩
theorem kM_X11_249 : zMv RX11 249 yX11_witnessesOf cX11_witnessesOf 4 (some .int) 1 := ⟨zT_in (List.mem_of_getElem? (i := 1246) (by decide +kernel)) rfl, zT_in (List.mem_of_getElem? (i := 1248) (by decide +kernel)) rfl, zT_in (List.mem_of_getElem? (i := 40) (by decide +kernel)) rfl, zT_in (List.mem_of_getElem? (i := 82) (by decide +kernel)) rfl, zT_in (List.mem_of_getElem? (i := 1249) (by decide +kernel)) rfl, by decide +kernel, by decide +kernel⟩
theorem kC_X11_248 : Cond.constant RX11 248 (-1000000001) ∈ zT := zT_in (List.mem_of_getElem? (i := 1245) (by decide +kernel)) rfl
theorem kM_X11_253 : zMv RX11 253 yX11_mayOn cX11_mayOn 4 (some .boolean) 2 := ⟨zT_in (List.mem_of_getElem? (i := 1266) (by decide +kernel)) rfl, zT_in (List.mem_of_getElem? (i := 1268) (by decide +kernel)) rfl, zT_in (List.mem_of_getElem? (i := 44) (by decide +kernel)) rfl, zT_in (List.mem_of_getElem? (i := 82) (by decide +kernel)) rfl, zT_in (List.mem_of_getElem? (i := 1269) (by decide +kernel)) rfl, by decide +kernel, by decide +kernel⟩
theorem kM_X11_257 : zMv RX11 257 yX11_isWitness cX11_isWitness 2 (some .boolean) 1 := ⟨zT_in (List.mem_of_getElem? (i := 1254) (by decide +kernel)) rfl, zT_in (List.mem_of_getElem? (i := 1256) (by decide +kernel)) rfl, zT_in (List.mem_of_getElem? (i := 41) (by decide +kernel)) rfl, zT_in (List.mem_of_getElem? (i := 82) (by decide +kernel)) rfl, zT_in (List.mem_of_getElem? (i := 1257) (by decide +kernel)) rfl, by decide +kernel, by decide +kernel⟩
theorem kM_X11_260 : zMv RX11 260 yX11_freshOn cX11_freshOn 4 (some .int) 2 := ⟨zT_in (List.mem_of_getElem? (i := 1258) (by decide +kernel)) rfl, zT_in (List.mem_of_getElem? (i := 1260) (by decide +kernel)) rfl, zT_in (List.mem_of_getElem? (i := 42) (by decide +kernel)) rfl, zT_in (List.mem_of_getElem? (i := 82) (by decide +kernel)) rfl, zT_in (List.mem_of_getElem? (i := 1261) (by decide +kernel)) rfl, by decide +kernel, by decide +kernel⟩
theorem kM_X11_263 : zMv RX11 263 yX11_mayNow cX11_mayNow 2 (some .boolean) 1 := ⟨zT_in (List.mem_of_getElem? (i := 1262) (by decide +kernel)) rfl, zT_in (List.mem_of_getElem? (i := 1264) (by decide +kernel)) rfl, zT_in (List.mem_of_getElem? (i := 43) (by decide +kernel)) rfl, zT_in (List.mem_of_getElem? (i := 82) (by decide +kernel)) rfl, zT_in (List.mem_of_getElem? (i := 1265) (by decide +kernel)) rfl, by decide +kernel, by decide +kernel⟩
theorem kC_X11_266 : Cond.constantLong RX11 266 (399) ∈ zT := zT_in (List.mem_of_getElem? (i := 1274) (by decide +kernel)) rfl
theorem kM_X11_268 : zMv RX11 268 yX11_isEnough cX11_isEnough 2 (some .boolean) 1 := ⟨zT_in (List.mem_of_getElem? (i := 1287) (by decide +kernel)) rfl, zT_in (List.mem_of_getElem? (i := 1289) (by decide +kernel)) rfl, zT_in (List.mem_of_getElem? (i := 47) (by decide +kernel)) rfl, zT_in (List.mem_of_getElem? (i := 82) (by decide +kernel)) rfl, zT_in (List.mem_of_getElem? (i := 1290) (by decide +kernel)) rfl, by decide +kernel, by decide +kernel⟩
theorem kM_X11_271 : zMv RX11 271 yX11_lookAt cX11_lookAt 2 none 1 := ⟨zT_in (List.mem_of_getElem? (i := 1283) (by decide +kernel)) rfl, zT_in (List.mem_of_getElem? (i := 1285) (by decide +kernel)) rfl, zT_in (List.mem_of_getElem? (i := 46) (by decide +kernel)) rfl, zT_in (List.mem_of_getElem? (i := 82) (by decide +kernel)) rfl, zT_in (List.mem_of_getElem? (i := 1286) (by decide +kernel)) rfl, by decide +kernel, by decide +kernel⟩
theorem kM_X11_275 : zMv RX11 275 yX11_speak cX11_speak 2 none 1 := ⟨zT_in (List.mem_of_getElem? (i := 1279) (by decide +kernel)) rfl, zT_in (List.mem_of_getElem? (i := 1281) (by decide +kernel)) rfl, zT_in (List.mem_of_getElem? (i := 45) (by decide +kernel)) rfl, zT_in (List.mem_of_getElem? (i := 82) (by decide +kernel)) rfl, zT_in (List.mem_of_getElem? (i := 1282) (by decide +kernel)) rfl, by decide +kernel, by decide +kernel⟩
theorem kM_X11_278 : zMv RX11 278 yX11_halve cX11_halve 3 none 1 := ⟨zT_in (List.mem_of_getElem? (i := 1304) (by decide +kernel)) rfl, zT_in (List.mem_of_getElem? (i := 1306) (by decide +kernel)) rfl, zT_in (List.mem_of_getElem? (i := 49) (by decide +kernel)) rfl, zT_in (List.mem_of_getElem? (i := 82) (by decide +kernel)) rfl, zT_in (List.mem_of_getElem? (i := 1307) (by decide +kernel)) rfl, by decide +kernel, by decide +kernel⟩
theorem kF_X11_53 : zFl RX11 53 11 19 RX11 TX11 53 tyX11 := ⟨rfl, zin_X11, tyX11_ok, nmX11, Nat.le_of_ble_eq_true rfl, zT_in (List.mem_of_getElem? (i := 1004) (by decide +kernel)) rfl⟩
theorem kC_X11_281 : Cond.constantLong RX11 281 (400) ∈ zT := zT_in (List.mem_of_getElem? (i := 1299) (by decide +kernel)) rfl
theorem kM_X11_283 : zMv RX11 283 yX11_darken cX11_darken 2 none 0 := ⟨zT_in (List.mem_of_getElem? (i := 1300) (by decide +kernel)) rfl, zT_in (List.mem_of_getElem? (i := 1302) (by decide +kernel)) rfl, zT_in (List.mem_of_getElem? (i := 48) (by decide +kernel)) rfl, zT_in (List.mem_of_getElem? (i := 82) (by decide +kernel)) rfl, zT_in (List.mem_of_getElem? (i := 1303) (by decide +kernel)) rfl, by decide +kernel, by decide +kernel⟩
theorem kF_X11_286 : zFl RX11 286 11 20 RX11 TX11 53 tyX11 := ⟨rfl, zin_X11, tyX11_ok, nmX11, Nat.le_of_ble_eq_true rfl, zT_in (List.mem_of_getElem? (i := 1005) (by decide +kernel)) rfl⟩
theorem kC_X11_289 : Cond.constantLong RX11 289 (1103515245) ∈ zT := zT_in (List.mem_of_getElem? (i := 1318) (by decide +kernel)) rfl
theorem kC_X11_291 : Cond.constantLong RX11 291 (12345) ∈ zT := zT_in (List.mem_of_getElem? (i := 1319) (by decide +kernel)) rfl
theorem kC_X11_293 : Cond.constantLong RX11 293 (2147483648) ∈ zT := zT_in (List.mem_of_getElem? (i := 1320) (by decide +kernel)) rfl
theorem kC_X11_295 : Cond.constant RX11 295 (65536) ∈ zT := zT_in (List.mem_of_getElem? (i := 1321) (by decide +kernel)) rfl
theorem kC_X11_296 : Cond.constantLong RX11 296 (60) ∈ zT := zT_in (List.mem_of_getElem? (i := 1312) (by decide +kernel)) rfl
theorem kC_X11_298 : Cond.constantLong RX11 298 (100) ∈ zT := zT_in (List.mem_of_getElem? (i := 1313) (by decide +kernel)) rfl
theorem kM_X11_300 : zMv RX11 300 yX11_draw cX11_draw 2 (some .int) 1 := ⟨zT_in (List.mem_of_getElem? (i := 1314) (by decide +kernel)) rfl, zT_in (List.mem_of_getElem? (i := 1316) (by decide +kernel)) rfl, zT_in (List.mem_of_getElem? (i := 50) (by decide +kernel)) rfl, zT_in (List.mem_of_getElem? (i := 82) (by decide +kernel)) rfl, zT_in (List.mem_of_getElem? (i := 1317) (by decide +kernel)) rfl, by decide +kernel, by decide +kernel⟩
theorem kF_X11_303 : zFl RX11 303 11 40 RX11 TX11 53 tyX11 := ⟨rfl, zin_X11, tyX11_ok, nmX11, Nat.le_of_ble_eq_true rfl, zT_in (List.mem_of_getElem? (i := 1025) (by decide +kernel)) rfl⟩
theorem kF_X11_84 : zFl RX11 84 11 39 RX11 TX11 53 tyX11 := ⟨rfl, zin_X11, tyX11_ok, nmX11, Nat.le_of_ble_eq_true rfl, zT_in (List.mem_of_getElem? (i := 1024) (by decide +kernel)) rfl⟩
theorem kF_X11_87 : zFl RX11 87 11 41 RX11 TX11 53 tyX11 := ⟨rfl, zin_X11, tyX11_ok, nmX11, Nat.le_of_ble_eq_true rfl, zT_in (List.mem_of_getElem? (i := 1026) (by decide +kernel)) rfl⟩
theorem kM_X11_326 : zMs RX11 326 yX11_has cX11_has 2 (some .boolean) 2 := ⟨zT_in (List.mem_of_getElem? (i := 1364) (by decide +kernel)) rfl, zT_in (List.mem_of_getElem? (i := 1365) (by decide +kernel)) rfl, zT_in (List.mem_of_getElem? (i := 82) (by decide +kernel)) rfl, zT_in (List.mem_of_getElem? (i := 1366) (by decide +kernel)) rfl, by decide +kernel, by decide +kernel⟩
theorem kM_X11_329 : zMv RX11 329 yX11_mayCall cX11_mayCall 3 (some .boolean) 2 := ⟨zT_in (List.mem_of_getElem? (i := 1367) (by decide +kernel)) rfl, zT_in (List.mem_of_getElem? (i := 1369) (by decide +kernel)) rfl, zT_in (List.mem_of_getElem? (i := 58) (by decide +kernel)) rfl, zT_in (List.mem_of_getElem? (i := 82) (by decide +kernel)) rfl, zT_in (List.mem_of_getElem? (i := 1370) (by decide +kernel)) rfl, by decide +kernel, by decide +kernel⟩
theorem kM_X11_310 : zMv RX11 310 yX11_room cX11_room 3 (some .int) 1 := ⟨zT_in (List.mem_of_getElem? (i := 1353) (by decide +kernel)) rfl, zT_in (List.mem_of_getElem? (i := 1355) (by decide +kernel)) rfl, zT_in (List.mem_of_getElem? (i := 56) (by decide +kernel)) rfl, zT_in (List.mem_of_getElem? (i := 82) (by decide +kernel)) rfl, zT_in (List.mem_of_getElem? (i := 1356) (by decide +kernel)) rfl, by decide +kernel, by decide +kernel⟩
theorem kF_X11_90 : zFl RX11 90 11 42 RX11 TX11 53 tyX11 := ⟨rfl, zin_X11, tyX11_ok, nmX11, Nat.le_of_ble_eq_true rfl, zT_in (List.mem_of_getElem? (i := 1027) (by decide +kernel)) rfl⟩
theorem kF_X11_94 : zFl RX11 94 11 43 RX11 TX11 53 tyX11 := ⟨rfl, zin_X11, tyX11_ok, nmX11, Nat.le_of_ble_eq_true rfl, zT_in (List.mem_of_getElem? (i := 1028) (by decide +kernel)) rfl⟩
theorem kM_X11_313 : zMs RX11 313 yX11_bits cX11_bits 3 (some .int) 1 := ⟨zT_in (List.mem_of_getElem? (i := 1357) (by decide +kernel)) rfl, zT_in (List.mem_of_getElem? (i := 1358) (by decide +kernel)) rfl, zT_in (List.mem_of_getElem? (i := 82) (by decide +kernel)) rfl, zT_in (List.mem_of_getElem? (i := 1359) (by decide +kernel)) rfl, by decide +kernel, by decide +kernel⟩
theorem kM_X11_316 : zMv RX11 316 yX11_canCall cX11_canCall 5 (some .boolean) 2 := ⟨zT_in (List.mem_of_getElem? (i := 1360) (by decide +kernel)) rfl, zT_in (List.mem_of_getElem? (i := 1362) (by decide +kernel)) rfl, zT_in (List.mem_of_getElem? (i := 57) (by decide +kernel)) rfl, zT_in (List.mem_of_getElem? (i := 82) (by decide +kernel)) rfl, zT_in (List.mem_of_getElem? (i := 1363) (by decide +kernel)) rfl, by decide +kernel, by decide +kernel⟩
theorem kM_X11_319 : zMv RX11 319 yX11_valueOf cX11_valueOf 6 (some .long) 2 := ⟨zT_in (List.mem_of_getElem? (i := 1371) (by decide +kernel)) rfl, zT_in (List.mem_of_getElem? (i := 1373) (by decide +kernel)) rfl, zT_in (List.mem_of_getElem? (i := 59) (by decide +kernel)) rfl, zT_in (List.mem_of_getElem? (i := 82) (by decide +kernel)) rfl, zT_in (List.mem_of_getElem? (i := 1374) (by decide +kernel)) rfl, by decide +kernel, by decide +kernel⟩
theorem kC_X11_308 : Cond.constantLong RX11 308 (2) ∈ zT := zT_in (List.mem_of_getElem? (i := 1352) (by decide +kernel)) rfl
theorem kC_X11_306 : Cond.constantLong RX11 306 (-1) ∈ zT := zT_in (List.mem_of_getElem? (i := 1351) (by decide +kernel)) rfl
theorem kM_X11_323 : zMv RX11 323 yX11_callOn cX11_callOn 8 none 1 := ⟨zT_in (List.mem_of_getElem? (i := 1347) (by decide +kernel)) rfl, zT_in (List.mem_of_getElem? (i := 1349) (by decide +kernel)) rfl, zT_in (List.mem_of_getElem? (i := 55) (by decide +kernel)) rfl, zT_in (List.mem_of_getElem? (i := 82) (by decide +kernel)) rfl, zT_in (List.mem_of_getElem? (i := 1350) (by decide +kernel)) rfl, by decide +kernel, by decide +kernel⟩
theorem kM_X11_332 : zMv RX11 332 yX11_listOwn cX11_listOwn 3 none 1 := ⟨zT_in (List.mem_of_getElem? (i := 1335) (by decide +kernel)) rfl, zT_in (List.mem_of_getElem? (i := 1337) (by decide +kernel)) rfl, zT_in (List.mem_of_getElem? (i := 52) (by decide +kernel)) rfl, zT_in (List.mem_of_getElem? (i := 82) (by decide +kernel)) rfl, zT_in (List.mem_of_getElem? (i := 1338) (by decide +kernel)) rfl, by decide +kernel, by decide +kernel⟩
theorem kM_X11_335 : zMv RX11 335 yX11_unsettle cX11_unsettle 2 none 0 := ⟨zT_in (List.mem_of_getElem? (i := 1339) (by decide +kernel)) rfl, zT_in (List.mem_of_getElem? (i := 1341) (by decide +kernel)) rfl, zT_in (List.mem_of_getElem? (i := 53) (by decide +kernel)) rfl, zT_in (List.mem_of_getElem? (i := 82) (by decide +kernel)) rfl, zT_in (List.mem_of_getElem? (i := 1342) (by decide +kernel)) rfl, by decide +kernel, by decide +kernel⟩
theorem kM_X11_338 : zMv RX11 338 yX11_findMosts cX11_findMosts 3 none 1 := ⟨zT_in (List.mem_of_getElem? (i := 1343) (by decide +kernel)) rfl, zT_in (List.mem_of_getElem? (i := 1345) (by decide +kernel)) rfl, zT_in (List.mem_of_getElem? (i := 54) (by decide +kernel)) rfl, zT_in (List.mem_of_getElem? (i := 82) (by decide +kernel)) rfl, zT_in (List.mem_of_getElem? (i := 1346) (by decide +kernel)) rfl, by decide +kernel, by decide +kernel⟩
theorem kM_X11_341 : zMv RX11 341 yX11_greatest cX11_greatest 4 (some .long) 0 := ⟨zT_in (List.mem_of_getElem? (i := 1375) (by decide +kernel)) rfl, zT_in (List.mem_of_getElem? (i := 1377) (by decide +kernel)) rfl, zT_in (List.mem_of_getElem? (i := 60) (by decide +kernel)) rfl, zT_in (List.mem_of_getElem? (i := 82) (by decide +kernel)) rfl, zT_in (List.mem_of_getElem? (i := 1378) (by decide +kernel)) rfl, by decide +kernel, by decide +kernel⟩
theorem kM_X11_345 : zMv RX11 345 yX11_wholeBy cX11_wholeBy 8 (some .long) 3 := ⟨zT_in (List.mem_of_getElem? (i := 1379) (by decide +kernel)) rfl, zT_in (List.mem_of_getElem? (i := 1381) (by decide +kernel)) rfl, zT_in (List.mem_of_getElem? (i := 61) (by decide +kernel)) rfl, zT_in (List.mem_of_getElem? (i := 82) (by decide +kernel)) rfl, zT_in (List.mem_of_getElem? (i := 1382) (by decide +kernel)) rfl, by decide +kernel, by decide +kernel⟩
theorem kC_X11_349 : Cond.constantLong RX11 349 (30) ∈ zT := zT_in (List.mem_of_getElem? (i := 1330) (by decide +kernel)) rfl
theorem kM_X11_351 : zMv RX11 351 yX11_mostOn cX11_mostOn 3 (some .long) 2 := ⟨zT_in (List.mem_of_getElem? (i := 1331) (by decide +kernel)) rfl, zT_in (List.mem_of_getElem? (i := 1333) (by decide +kernel)) rfl, zT_in (List.mem_of_getElem? (i := 51) (by decide +kernel)) rfl, zT_in (List.mem_of_getElem? (i := 82) (by decide +kernel)) rfl, zT_in (List.mem_of_getElem? (i := 1334) (by decide +kernel)) rfl, by decide +kernel, by decide +kernel⟩
theorem kC_X11_354 : Cond.constantLong RX11 354 (3) ∈ zT := zT_in (List.mem_of_getElem? (i := 1391) (by decide +kernel)) rfl
theorem kM_X11_356 : zMv RX11 356 yX11_soonestOf cX11_soonestOf 3 (some .int) 1 := ⟨zT_in (List.mem_of_getElem? (i := 1387) (by decide +kernel)) rfl, zT_in (List.mem_of_getElem? (i := 1389) (by decide +kernel)) rfl, zT_in (List.mem_of_getElem? (i := 62) (by decide +kernel)) rfl, zT_in (List.mem_of_getElem? (i := 82) (by decide +kernel)) rfl, zT_in (List.mem_of_getElem? (i := 1390) (by decide +kernel)) rfl, by decide +kernel, by decide +kernel⟩
theorem kM_X11_359 : zMv RX11 359 yX11_isEnoughBy cX11_isEnoughBy 4 (some .boolean) 3 := ⟨zT_in (List.mem_of_getElem? (i := 1400) (by decide +kernel)) rfl, zT_in (List.mem_of_getElem? (i := 1402) (by decide +kernel)) rfl, zT_in (List.mem_of_getElem? (i := 64) (by decide +kernel)) rfl, zT_in (List.mem_of_getElem? (i := 82) (by decide +kernel)) rfl, zT_in (List.mem_of_getElem? (i := 1403) (by decide +kernel)) rfl, by decide +kernel, by decide +kernel⟩
theorem kM_X11_363 : zMv RX11 363 yX11_findPlan cX11_findPlan 6 (some .int) 1 := ⟨zT_in (List.mem_of_getElem? (i := 1396) (by decide +kernel)) rfl, zT_in (List.mem_of_getElem? (i := 1398) (by decide +kernel)) rfl, zT_in (List.mem_of_getElem? (i := 63) (by decide +kernel)) rfl, zT_in (List.mem_of_getElem? (i := 82) (by decide +kernel)) rfl, zT_in (List.mem_of_getElem? (i := 1399) (by decide +kernel)) rfl, by decide +kernel, by decide +kernel⟩
theorem kF_X11_97 : zFl RX11 97 11 44 RX11 TX11 53 tyX11 := ⟨rfl, zin_X11, tyX11_ok, nmX11, Nat.le_of_ble_eq_true rfl, zT_in (List.mem_of_getElem? (i := 1029) (by decide +kernel)) rfl⟩
theorem kF_X11_100 : zFl RX11 100 11 45 RX11 TX11 53 tyX11 := ⟨rfl, zin_X11, tyX11_ok, nmX11, Nat.le_of_ble_eq_true rfl, zT_in (List.mem_of_getElem? (i := 1030) (by decide +kernel)) rfl⟩
theorem kC_X11_368 : Cond.constantLong RX11 368 (-1152921504606846976) ∈ zT := zT_in (List.mem_of_getElem? (i := 1417) (by decide +kernel)) rfl
theorem kC_X11_366 : Cond.constantLong RX11 366 (1152921504606846976) ∈ zT := zT_in (List.mem_of_getElem? (i := 1412) (by decide +kernel)) rfl
theorem kM_X11_370 : zMv RX11 370 yX11_wantOf cX11_wantOf 16 (some .long) 4 := ⟨zT_in (List.mem_of_getElem? (i := 1413) (by decide +kernel)) rfl, zT_in (List.mem_of_getElem? (i := 1415) (by decide +kernel)) rfl, zT_in (List.mem_of_getElem? (i := 65) (by decide +kernel)) rfl, zT_in (List.mem_of_getElem? (i := 82) (by decide +kernel)) rfl, zT_in (List.mem_of_getElem? (i := 1416) (by decide +kernel)) rfl, by decide +kernel, by decide +kernel⟩
theorem kF_X11_103 : zFl RX11 103 11 46 RX11 TX11 53 tyX11 := ⟨rfl, zin_X11, tyX11_ok, nmX11, Nat.le_of_ble_eq_true rfl, zT_in (List.mem_of_getElem? (i := 1031) (by decide +kernel)) rfl⟩
theorem kM_X11_373 : zMv RX11 373 yX11_swap cX11_swap 4 none 2 := ⟨zT_in (List.mem_of_getElem? (i := 1430) (by decide +kernel)) rfl, zT_in (List.mem_of_getElem? (i := 1432) (by decide +kernel)) rfl, zT_in (List.mem_of_getElem? (i := 68) (by decide +kernel)) rfl, zT_in (List.mem_of_getElem? (i := 82) (by decide +kernel)) rfl, zT_in (List.mem_of_getElem? (i := 1433) (by decide +kernel)) rfl, by decide +kernel, by decide +kernel⟩
theorem kM_X11_377 : zMv RX11 377 yX11_enoughBy cX11_enoughBy 9 (some .int) 1 := ⟨zT_in (List.mem_of_getElem? (i := 1422) (by decide +kernel)) rfl, zT_in (List.mem_of_getElem? (i := 1424) (by decide +kernel)) rfl, zT_in (List.mem_of_getElem? (i := 66) (by decide +kernel)) rfl, zT_in (List.mem_of_getElem? (i := 82) (by decide +kernel)) rfl, zT_in (List.mem_of_getElem? (i := 1425) (by decide +kernel)) rfl, by decide +kernel, by decide +kernel⟩
theorem kM_X11_380 : zMv RX11 380 yX11_nextOrder cX11_nextOrder 6 (some .boolean) 1 := ⟨zT_in (List.mem_of_getElem? (i := 1426) (by decide +kernel)) rfl, zT_in (List.mem_of_getElem? (i := 1428) (by decide +kernel)) rfl, zT_in (List.mem_of_getElem? (i := 67) (by decide +kernel)) rfl, zT_in (List.mem_of_getElem? (i := 82) (by decide +kernel)) rfl, zT_in (List.mem_of_getElem? (i := 1429) (by decide +kernel)) rfl, by decide +kernel, by decide +kernel⟩
theorem kC_X11_383 : Cond.constantLong RX11 383 (99999) ∈ zT := zT_in (List.mem_of_getElem? (i := 1438) (by decide +kernel)) rfl
theorem kF_X11_109 : zFl RX11 109 11 48 RX11 TX11 53 tyX11 := ⟨rfl, zin_X11, tyX11_ok, nmX11, Nat.le_of_ble_eq_true rfl, zT_in (List.mem_of_getElem? (i := 1033) (by decide +kernel)) rfl⟩
theorem kF_X11_112 : zFl RX11 112 11 49 RX11 TX11 53 tyX11 := ⟨rfl, zin_X11, tyX11_ok, nmX11, Nat.le_of_ble_eq_true rfl, zT_in (List.mem_of_getElem? (i := 1034) (by decide +kernel)) rfl⟩
theorem kF_X11_115 : zFl RX11 115 11 50 RX11 TX11 53 tyX11 := ⟨rfl, zin_X11, tyX11_ok, nmX11, Nat.le_of_ble_eq_true rfl, zT_in (List.mem_of_getElem? (i := 1035) (by decide +kernel)) rfl⟩
theorem kF_X11_118 : zFl RX11 118 11 51 RX11 TX11 53 tyX11 := ⟨rfl, zin_X11, tyX11_ok, nmX11, Nat.le_of_ble_eq_true rfl, zT_in (List.mem_of_getElem? (i := 1036) (by decide +kernel)) rfl⟩
end
section
theorem dX11_in_0 : decode cX11_in 0 = .ok (.lload_n 0, 1) := by decide +kernel
theorem dX11_in_1 : decode cX11_in 1 = .ok (.lload_n 2, 1) := by decide +kernel
theorem dX11_in_2 : decode cX11_in 2 = .ok (.lcmp, 1) := by decide +kernel
theorem dX11_in_3 : decode cX11_in 3 = .ok (.ifCond .lt 14, 3) := by decide +kernel
theorem dX11_in_6 : decode cX11_in 6 = .ok (.lload_n 0, 1) := by decide +kernel
theorem dX11_in_7 : decode cX11_in 7 = .ok (.lload 4, 2) := by decide +kernel
theorem dX11_in_9 : decode cX11_in 9 = .ok (.lcmp, 1) := by decide +kernel
theorem dX11_in_10 : decode cX11_in 10 = .ok (.ifCond .gt 7, 3) := by decide +kernel
theorem dX11_in_13 : decode cX11_in 13 = .ok (.iconst 1, 1) := by decide +kernel
theorem dX11_in_14 : decode cX11_in 14 = .ok (.goto 4, 3) := by decide +kernel
theorem dX11_in_17 : decode cX11_in 17 = .ok (.iconst 0, 1) := by decide +kernel
theorem dX11_in_18 : decode cX11_in 18 = .ok (.ireturn, 1) := by decide +kernel
theorem dX11_has_0 : decode cX11_has 0 = .ok (.iload_n 0, 1) := by decide +kernel
theorem dX11_has_1 : decode cX11_has 1 = .ok (.iload_n 1, 1) := by decide +kernel
theorem dX11_has_2 : decode cX11_has 2 = .ok (.ishr, 1) := by decide +kernel
theorem dX11_has_3 : decode cX11_has 3 = .ok (.iconst 1, 1) := by decide +kernel
theorem dX11_has_4 : decode cX11_has 4 = .ok (.iand, 1) := by decide +kernel
theorem dX11_has_5 : decode cX11_has 5 = .ok (.iconst 1, 1) := by decide +kernel
theorem dX11_has_6 : decode cX11_has 6 = .ok (.if_icmp .ne 7, 3) := by decide +kernel
theorem dX11_has_9 : decode cX11_has 9 = .ok (.iconst 1, 1) := by decide +kernel
theorem dX11_has_10 : decode cX11_has 10 = .ok (.goto 4, 3) := by decide +kernel
theorem dX11_has_13 : decode cX11_has 13 = .ok (.iconst 0, 1) := by decide +kernel
theorem dX11_has_14 : decode cX11_has 14 = .ok (.ireturn, 1) := by decide +kernel
theorem dX11_isSuit_0 : decode cX11_isSuit 0 = .ok (.iload_n 1, 1) := by decide +kernel
theorem dX11_isSuit_1 : decode cX11_isSuit 1 = .ok (.i2l, 1) := by decide +kernel
theorem dX11_isSuit_2 : decode cX11_isSuit 2 = .ok (.lconst 0, 1) := by decide +kernel
theorem dX11_isSuit_3 : decode cX11_isSuit 3 = .ok (.aload_n 0, 1) := by decide +kernel
theorem dX11_isSuit_4 : decode cX11_isSuit 4 = .ok (.getfield 124, 3) := by decide +kernel
theorem dX11_isSuit_7 : decode cX11_isSuit 7 = .ok (.iconst 1, 1) := by decide +kernel
theorem dX11_isSuit_8 : decode cX11_isSuit 8 = .ok (.isub, 1) := by decide +kernel
theorem dX11_isSuit_9 : decode cX11_isSuit 9 = .ok (.i2l, 1) := by decide +kernel
theorem dX11_isSuit_10 : decode cX11_isSuit 10 = .ok (.invokestatic 127, 3) := by decide +kernel
theorem dX11_isSuit_13 : decode cX11_isSuit 13 = .ok (.ireturn, 1) := by decide +kernel
theorem dX11_isWitness_0 : decode cX11_isWitness 0 = .ok (.iload_n 1, 1) := by decide +kernel
theorem dX11_isWitness_1 : decode cX11_isWitness 1 = .ok (.i2l, 1) := by decide +kernel
theorem dX11_isWitness_2 : decode cX11_isWitness 2 = .ok (.lconst 0, 1) := by decide +kernel
theorem dX11_isWitness_3 : decode cX11_isWitness 3 = .ok (.aload_n 0, 1) := by decide +kernel
theorem dX11_isWitness_4 : decode cX11_isWitness 4 = .ok (.getfield 131, 3) := by decide +kernel
theorem dX11_isWitness_7 : decode cX11_isWitness 7 = .ok (.iconst 1, 1) := by decide +kernel
theorem dX11_isWitness_8 : decode cX11_isWitness 8 = .ok (.isub, 1) := by decide +kernel
theorem dX11_isWitness_9 : decode cX11_isWitness 9 = .ok (.i2l, 1) := by decide +kernel
theorem dX11_isWitness_10 : decode cX11_isWitness 10 = .ok (.invokestatic 127, 3) := by decide +kernel
theorem dX11_isWitness_13 : decode cX11_isWitness 13 = .ok (.ireturn, 1) := by decide +kernel
theorem dX11_bits_0 : decode cX11_bits 0 = .ok (.iconst 0, 1) := by decide +kernel
theorem dX11_bits_1 : decode cX11_bits 1 = .ok (.istore_n 1, 1) := by decide +kernel
theorem dX11_bits_2 : decode cX11_bits 2 = .ok (.iconst 0, 1) := by decide +kernel
theorem dX11_bits_3 : decode cX11_bits 3 = .ok (.istore_n 2, 1) := by decide +kernel
theorem dX11_bits_4 : decode cX11_bits 4 = .ok (.iload_n 2, 1) := by decide +kernel
theorem dX11_bits_5 : decode cX11_bits 5 = .ok (.bipush 12, 2) := by decide +kernel
theorem dX11_bits_7 : decode cX11_bits 7 = .ok (.if_icmp .ge 17, 3) := by decide +kernel
theorem dX11_bits_10 : decode cX11_bits 10 = .ok (.iload_n 1, 1) := by decide +kernel
theorem dX11_bits_11 : decode cX11_bits 11 = .ok (.iload_n 0, 1) := by decide +kernel
theorem dX11_bits_12 : decode cX11_bits 12 = .ok (.iload_n 2, 1) := by decide +kernel
theorem dX11_bits_13 : decode cX11_bits 13 = .ok (.ishr, 1) := by decide +kernel
theorem dX11_bits_14 : decode cX11_bits 14 = .ok (.iconst 1, 1) := by decide +kernel
theorem dX11_bits_15 : decode cX11_bits 15 = .ok (.iand, 1) := by decide +kernel
theorem dX11_bits_16 : decode cX11_bits 16 = .ok (.iadd, 1) := by decide +kernel
theorem dX11_bits_17 : decode cX11_bits 17 = .ok (.istore_n 1, 1) := by decide +kernel
theorem dX11_bits_18 : decode cX11_bits 18 = .ok (.iinc 2 1, 3) := by decide +kernel
theorem dX11_bits_21 : decode cX11_bits 21 = .ok (.goto (-17), 3) := by decide +kernel
theorem dX11_bits_24 : decode cX11_bits 24 = .ok (.iload_n 1, 1) := by decide +kernel
theorem dX11_bits_25 : decode cX11_bits 25 = .ok (.ireturn, 1) := by decide +kernel
theorem dX11_here_0 : decode cX11_here 0 = .ok (.aload_n 0, 1) := by decide +kernel
theorem dX11_here_1 : decode cX11_here 1 = .ok (.getfield 143, 3) := by decide +kernel
theorem dX11_here_4 : decode cX11_here 4 = .ok (.aload_n 0, 1) := by decide +kernel
theorem dX11_here_5 : decode cX11_here 5 = .ok (.getfield 137, 3) := by decide +kernel
theorem dX11_here_8 : decode cX11_here 8 = .ok (.if_icmp .ge 30, 3) := by decide +kernel
theorem dX11_here_11 : decode cX11_here 11 = .ok (.aload_n 0, 1) := by decide +kernel
theorem dX11_here_12 : decode cX11_here 12 = .ok (.getfield 56, 3) := by decide +kernel
theorem dX11_here_15 : decode cX11_here 15 = .ok (.aload_n 0, 1) := by decide +kernel
theorem dX11_here_16 : decode cX11_here 16 = .ok (.getfield 143, 3) := by decide +kernel
theorem dX11_here_19 : decode cX11_here 19 = .ok (.iaload, 1) := by decide +kernel
theorem dX11_here_20 : decode cX11_here 20 = .ok (.bipush 32, 2) := by decide +kernel
theorem dX11_here_22 : decode cX11_here 22 = .ok (.if_icmp .ne 16, 3) := by decide +kernel
theorem dX11_here_25 : decode cX11_here 25 = .ok (.aload_n 0, 1) := by decide +kernel
theorem dX11_here_26 : decode cX11_here 26 = .ok (.dup, 1) := by decide +kernel
theorem dX11_here_27 : decode cX11_here 27 = .ok (.getfield 143, 3) := by decide +kernel
theorem dX11_here_30 : decode cX11_here 30 = .ok (.iconst 1, 1) := by decide +kernel
theorem dX11_here_31 : decode cX11_here 31 = .ok (.iadd, 1) := by decide +kernel
theorem dX11_here_32 : decode cX11_here 32 = .ok (.putfield 143, 3) := by decide +kernel
theorem dX11_here_35 : decode cX11_here 35 = .ok (.goto (-35), 3) := by decide +kernel
theorem dX11_here_38 : decode cX11_here 38 = .ok (.aload_n 0, 1) := by decide +kernel
theorem dX11_here_39 : decode cX11_here 39 = .ok (.getfield 143, 3) := by decide +kernel
theorem dX11_here_42 : decode cX11_here 42 = .ok (.aload_n 0, 1) := by decide +kernel
theorem dX11_here_43 : decode cX11_here 43 = .ok (.getfield 137, 3) := by decide +kernel
theorem dX11_here_46 : decode cX11_here 46 = .ok (.if_icmp .ge 15, 3) := by decide +kernel
theorem dX11_here_49 : decode cX11_here 49 = .ok (.aload_n 0, 1) := by decide +kernel
theorem dX11_here_50 : decode cX11_here 50 = .ok (.getfield 56, 3) := by decide +kernel
theorem dX11_here_53 : decode cX11_here 53 = .ok (.aload_n 0, 1) := by decide +kernel
theorem dX11_here_54 : decode cX11_here 54 = .ok (.getfield 143, 3) := by decide +kernel
theorem dX11_here_57 : decode cX11_here 57 = .ok (.iaload, 1) := by decide +kernel
theorem dX11_here_58 : decode cX11_here 58 = .ok (.goto 4, 3) := by decide +kernel
theorem dX11_here_61 : decode cX11_here 61 = .ok (.iconst (-1), 1) := by decide +kernel
theorem dX11_here_62 : decode cX11_here 62 = .ok (.ireturn, 1) := by decide +kernel
theorem dX11_lawOf_0 : decode cX11_lawOf 0 = .ok (.iload_n 2, 1) := by decide +kernel
theorem dX11_lawOf_1 : decode cX11_lawOf 1 = .ok (.iconst 1, 1) := by decide +kernel
theorem dX11_lawOf_2 : decode cX11_lawOf 2 = .ok (.if_icmp .ne 7, 3) := by decide +kernel
theorem dX11_lawOf_5 : decode cX11_lawOf 5 = .ok (.iconst 1, 1) := by decide +kernel
theorem dX11_lawOf_6 : decode cX11_lawOf 6 = .ok (.goto 14, 3) := by decide +kernel
theorem dX11_lawOf_9 : decode cX11_lawOf 9 = .ok (.iload_n 2, 1) := by decide +kernel
theorem dX11_lawOf_10 : decode cX11_lawOf 10 = .ok (.iconst 2, 1) := by decide +kernel
theorem dX11_lawOf_11 : decode cX11_lawOf 11 = .ok (.if_icmp .ne 8, 3) := by decide +kernel
theorem dX11_lawOf_14 : decode cX11_lawOf 14 = .ok (.bipush 28, 2) := by decide +kernel
theorem dX11_lawOf_16 : decode cX11_lawOf 16 = .ok (.goto 4, 3) := by decide +kernel
theorem dX11_lawOf_19 : decode cX11_lawOf 19 = .ok (.iconst 2, 1) := by decide +kernel
theorem dX11_lawOf_20 : decode cX11_lawOf 20 = .ok (.istore_n 3, 1) := by decide +kernel
theorem dX11_lawOf_21 : decode cX11_lawOf 21 = .ok (.iconst 0, 1) := by decide +kernel
theorem dX11_lawOf_22 : decode cX11_lawOf 22 = .ok (.istore 4, 2) := by decide +kernel
theorem dX11_lawOf_24 : decode cX11_lawOf 24 = .ok (.iload 4, 2) := by decide +kernel
theorem dX11_lawOf_26 : decode cX11_lawOf 26 = .ok (.aload_n 0, 1) := by decide +kernel
theorem dX11_lawOf_27 : decode cX11_lawOf 27 = .ok (.getfield 236, 3) := by decide +kernel
theorem dX11_lawOf_30 : decode cX11_lawOf 30 = .ok (.if_icmp .ge 38, 3) := by decide +kernel
theorem dX11_lawOf_33 : decode cX11_lawOf 33 = .ok (.aload_n 0, 1) := by decide +kernel
theorem dX11_lawOf_34 : decode cX11_lawOf 34 = .ok (.getfield 28, 3) := by decide +kernel
theorem dX11_lawOf_37 : decode cX11_lawOf 37 = .ok (.iconst 4, 1) := by decide +kernel
theorem dX11_lawOf_38 : decode cX11_lawOf 38 = .ok (.iload 4, 2) := by decide +kernel
theorem dX11_lawOf_40 : decode cX11_lawOf 40 = .ok (.imul, 1) := by decide +kernel
theorem dX11_lawOf_41 : decode cX11_lawOf 41 = .ok (.iaload, 1) := by decide +kernel
theorem dX11_lawOf_42 : decode cX11_lawOf 42 = .ok (.iload_n 1, 1) := by decide +kernel
theorem dX11_lawOf_43 : decode cX11_lawOf 43 = .ok (.if_icmp .gt 17, 3) := by decide +kernel
theorem dX11_lawOf_46 : decode cX11_lawOf 46 = .ok (.aload_n 0, 1) := by decide +kernel
theorem dX11_lawOf_47 : decode cX11_lawOf 47 = .ok (.getfield 28, 3) := by decide +kernel
theorem dX11_lawOf_50 : decode cX11_lawOf 50 = .ok (.iconst 4, 1) := by decide +kernel
theorem dX11_lawOf_51 : decode cX11_lawOf 51 = .ok (.iload 4, 2) := by decide +kernel
theorem dX11_lawOf_53 : decode cX11_lawOf 53 = .ok (.imul, 1) := by decide +kernel
theorem dX11_lawOf_54 : decode cX11_lawOf 54 = .ok (.iload_n 2, 1) := by decide +kernel
theorem dX11_lawOf_55 : decode cX11_lawOf 55 = .ok (.iadd, 1) := by decide +kernel
theorem dX11_lawOf_56 : decode cX11_lawOf 56 = .ok (.iaload, 1) := by decide +kernel
theorem dX11_lawOf_57 : decode cX11_lawOf 57 = .ok (.goto 4, 3) := by decide +kernel
theorem dX11_lawOf_60 : decode cX11_lawOf 60 = .ok (.iload_n 3, 1) := by decide +kernel
theorem dX11_lawOf_61 : decode cX11_lawOf 61 = .ok (.istore_n 3, 1) := by decide +kernel
theorem dX11_lawOf_62 : decode cX11_lawOf 62 = .ok (.iinc 4 1, 3) := by decide +kernel
theorem dX11_lawOf_65 : decode cX11_lawOf 65 = .ok (.goto (-41), 3) := by decide +kernel
theorem dX11_lawOf_68 : decode cX11_lawOf 68 = .ok (.iload_n 3, 1) := by decide +kernel
theorem dX11_lawOf_69 : decode cX11_lawOf 69 = .ok (.ireturn, 1) := by decide +kernel
theorem dX11_isEnough_0 : decode cX11_isEnough 0 = .ok (.aload_n 0, 1) := by decide +kernel
theorem dX11_isEnough_1 : decode cX11_isEnough 1 = .ok (.getfield 47, 3) := by decide +kernel
theorem dX11_isEnough_4 : decode cX11_isEnough 4 = .ok (.iload_n 1, 1) := by decide +kernel
theorem dX11_isEnough_5 : decode cX11_isEnough 5 = .ok (.iaload, 1) := by decide +kernel
theorem dX11_isEnough_6 : decode cX11_isEnough 6 = .ok (.iconst 3, 1) := by decide +kernel
theorem dX11_isEnough_7 : decode cX11_isEnough 7 = .ok (.aload_n 0, 1) := by decide +kernel
theorem dX11_isEnough_8 : decode cX11_isEnough 8 = .ok (.getfield 7, 3) := by decide +kernel
theorem dX11_isEnough_11 : decode cX11_isEnough 11 = .ok (.iload_n 1, 1) := by decide +kernel
theorem dX11_isEnough_12 : decode cX11_isEnough 12 = .ok (.iaload, 1) := by decide +kernel
theorem dX11_isEnough_13 : decode cX11_isEnough 13 = .ok (.imul, 1) := by decide +kernel
theorem dX11_isEnough_14 : decode cX11_isEnough 14 = .ok (.if_icmp .lt 7, 3) := by decide +kernel
theorem dX11_isEnough_17 : decode cX11_isEnough 17 = .ok (.iconst 1, 1) := by decide +kernel
theorem dX11_isEnough_18 : decode cX11_isEnough 18 = .ok (.goto 4, 3) := by decide +kernel
theorem dX11_isEnough_21 : decode cX11_isEnough 21 = .ok (.iconst 0, 1) := by decide +kernel
theorem dX11_isEnough_22 : decode cX11_isEnough 22 = .ok (.ireturn, 1) := by decide +kernel
theorem dX11_lookAt_0 : decode cX11_lookAt 0 = .ok (.aload_n 0, 1) := by decide +kernel
theorem dX11_lookAt_1 : decode cX11_lookAt 1 = .ok (.getfield 41, 3) := by decide +kernel
theorem dX11_lookAt_4 : decode cX11_lookAt 4 = .ok (.iload_n 1, 1) := by decide +kernel
theorem dX11_lookAt_5 : decode cX11_lookAt 5 = .ok (.iaload, 1) := by decide +kernel
theorem dX11_lookAt_6 : decode cX11_lookAt 6 = .ok (.ifCond .ne 52, 3) := by decide +kernel
theorem dX11_lookAt_9 : decode cX11_lookAt 9 = .ok (.aload_n 0, 1) := by decide +kernel
theorem dX11_lookAt_10 : decode cX11_lookAt 10 = .ok (.iload_n 1, 1) := by decide +kernel
theorem dX11_lookAt_11 : decode cX11_lookAt 11 = .ok (.invokevirtual 268, 3) := by decide +kernel
theorem dX11_lookAt_14 : decode cX11_lookAt 14 = .ok (.ifCond .eq 44, 3) := by decide +kernel
theorem dX11_lookAt_17 : decode cX11_lookAt 17 = .ok (.aload_n 0, 1) := by decide +kernel
theorem dX11_lookAt_18 : decode cX11_lookAt 18 = .ok (.getfield 16, 3) := by decide +kernel
theorem dX11_lookAt_21 : decode cX11_lookAt 21 = .ok (.iload_n 1, 1) := by decide +kernel
theorem dX11_lookAt_22 : decode cX11_lookAt 22 = .ok (.iaload, 1) := by decide +kernel
theorem dX11_lookAt_23 : decode cX11_lookAt 23 = .ok (.ifCond .lt 18, 3) := by decide +kernel
theorem dX11_lookAt_26 : decode cX11_lookAt 26 = .ok (.aload_n 0, 1) := by decide +kernel
theorem dX11_lookAt_27 : decode cX11_lookAt 27 = .ok (.getfield 41, 3) := by decide +kernel
theorem dX11_lookAt_30 : decode cX11_lookAt 30 = .ok (.aload_n 0, 1) := by decide +kernel
theorem dX11_lookAt_31 : decode cX11_lookAt 31 = .ok (.getfield 16, 3) := by decide +kernel
theorem dX11_lookAt_34 : decode cX11_lookAt 34 = .ok (.iload_n 1, 1) := by decide +kernel
theorem dX11_lookAt_35 : decode cX11_lookAt 35 = .ok (.iaload, 1) := by decide +kernel
theorem dX11_lookAt_36 : decode cX11_lookAt 36 = .ok (.iaload, 1) := by decide +kernel
theorem dX11_lookAt_37 : decode cX11_lookAt 37 = .ok (.iconst 1, 1) := by decide +kernel
theorem dX11_lookAt_38 : decode cX11_lookAt 38 = .ok (.if_icmp .ne 20, 3) := by decide +kernel
theorem dX11_lookAt_41 : decode cX11_lookAt 41 = .ok (.aload_n 0, 1) := by decide +kernel
theorem dX11_lookAt_42 : decode cX11_lookAt 42 = .ok (.getfield 41, 3) := by decide +kernel
theorem dX11_lookAt_45 : decode cX11_lookAt 45 = .ok (.iload_n 1, 1) := by decide +kernel
theorem dX11_lookAt_46 : decode cX11_lookAt 46 = .ok (.iconst 1, 1) := by decide +kernel
theorem dX11_lookAt_47 : decode cX11_lookAt 47 = .ok (.iastore, 1) := by decide +kernel
theorem dX11_lookAt_48 : decode cX11_lookAt 48 = .ok (.aload_n 0, 1) := by decide +kernel
theorem dX11_lookAt_49 : decode cX11_lookAt 49 = .ok (.getfield 44, 3) := by decide +kernel
theorem dX11_lookAt_52 : decode cX11_lookAt 52 = .ok (.iload_n 1, 1) := by decide +kernel
theorem dX11_lookAt_53 : decode cX11_lookAt 53 = .ok (.aload_n 0, 1) := by decide +kernel
theorem dX11_lookAt_54 : decode cX11_lookAt 54 = .ok (.getfield 223, 3) := by decide +kernel
theorem dX11_lookAt_57 : decode cX11_lookAt 57 = .ok (.iastore, 1) := by decide +kernel
theorem dX11_lookAt_58 : decode cX11_lookAt 58 = .ok (.return_, 1) := by decide +kernel
end
section
section ZM
variable {l : Launch} {D : va_G} {tA : Nat → ClassId}
def WM (tA : Nat → ClassId) (q : Nat → Nat) (o : Ob) : va_W := [(q 0, .inr (11, [.int (gi o 0), .ref (q 1), .ref (q 2), .ref (q 3), .int (gi o 4), .ref (q 4), .ref (q 5), .ref (q 6), .int (gi o 8), .ref (q 7), .ref (q 8), .ref (q 9), .ref (q 10), .int (gi o 13), .int (gi o 14), .ref (q 11), .ref (q 12), .ref (q 13), .ref (q 14), .ref (q 15), .int (gi o 20), .ref (q 16), .int (gi o 22), .int (gi o 23), .int (gi o 24), .long (gl o 25), .int (gi o 26), .int (gi o 27), .int (gi o 28), .int (gi o 29), .ref (q 17), .ref (q 18), .ref (q 19), .int (gi o 33), .ref (q 20), .ref (q 21), .ref (q 22), .int (gi o 37), .ref (q 23), .ref (q 24), .int (gi o 40), .ref (q 25), .ref (q 26), .ref (q 27), .ref (q 28), .ref (q 29), .ref (q 30), .ref (q 31), .ref (q 32), .ref (q 33), .ref (q 34), .ref (q 35), .ref (q 36)])), (q 1, .inl (tA 0, (6, .inl (ga o 1)))), (q 2, .inl (tA 0, (6, .inl (ga o 2)))), (q 3, .inl (tA 0, (6, .inl (ga o 3)))), (q 4, .inl (tA 0, (12, .inl (ga o 5)))), (q 5, .inl (tA 0, (12, .inl (ga o 6)))), (q 6, .inl (tA 0, (12, .inl (ga o 7)))), (q 7, .inl (tA 0, (24, .inl (ga o 9)))), (q 8, .inl (tA 0, (12, .inl (ga o 10)))), (q 9, .inl (tA 0, (12, .inl (ga o 11)))), (q 10, .inl (tA 2, (12, .inl (ga o 12)))), (q 11, .inl (tA 0, (6, .inl (ga o 15)))), (q 12, .inl (tA 0, (6, .inl (ga o 16)))), (q 13, .inl (tA 0, (6, .inl (ga o 17)))), (q 14, .inl (tA 0, (2400, .inl (ga o 18)))), (q 15, .inl (tA 0, (2400, .inl (ga o 19)))), (q 16, .inl (tA 0, (500, .inl (ga o 21)))), (q 17, .inl (tA 0, (6, .inl (ga o 30)))), (q 18, .inl (tA 0, (6, .inl (ga o 31)))), (q 19, .inl (tA 0, (6, .inl (ga o 32)))), (q 20, .inl (tA 0, (12, .inl (ga o 34)))), (q 21, .inl (tA 0, (12, .inl (ga o 35)))), (q 22, .inl (tA 0, (12, .inl (ga o 36)))), (q 23, .inl (tA 0, (24, .inl (ga o 38)))), (q 24, .inl (tA 0, (6, .inl (ga o 39)))), (q 25, .inl (tA 0, (6, .inl (ga o 41)))), (q 26, .inl (tA 1, (64, .inr (.inl (gb o 42))))), (q 27, .inl (tA 1, (64, .inr (.inl (gb o 43))))), (q 28, .inl (tA 2, (12, .inl (ga o 44)))), (q 29, .inl (tA 1, (64, .inr (.inl (gb o 45))))), (q 30, .inl (tA 0, (6, .inl (ga o 46)))), (q 31, .inl (tA 0, (6, .inl (ga o 47)))), (q 32, .inl (tA 0, (360, .inl (ga o 48)))), (q 33, .inl (tA 0, (120, .inl (ga o 49)))), (q 34, .inl (tA 0, (4800, .inl (ga o 50)))), (q 35, .inl (tA 0, (4800, .inl (ga o 51)))), (q 36, .inl (tA 2, (2, .inl (ga o 52))))]
def zfu : Nat := 100000
abbrev rmX11_in : Room := { frames := 0, cells := 0, slots := 0, locals := 0 }
def pX11_in (a0 : Int64) (a2 : Int64) (a4 : Int64) : Option Int32 :=
  if a0 < a2 then (zgz (0 : Int32) (some (0 : Int32)))
  else (if a4 < a0 then (zgz (0 : Int32) (some (0 : Int32)))
  else (zgz (1 : Int32) (some (1 : Int32))))
set_option maxHeartbeats 4000000 in
set_option maxRecDepth 100000 in
theorem c_X11_in {q : Nat → Nat} (a0 : Int64) (a2 : Int64) (a4 : Int64) : zCi l D tA yX11_in cX11_in 6 .boolean rmX11_in [.long a0, .long a2, .long a4] [] (fun (r : Int32) => r) (fun (r : Int32) => []) (pX11_in a0 a2 a4) := by
  refine zCi_of (lv0 := [some (.long a0), none, some (.long a2), none, some (.long a4), none]) (by decide +kernel) (Nat.le_of_ble_eq_true rfl) rfl (fun X out F hr => ?_)
  unfold pX11_in
  refine y_lload_n (pc := 0) F dX11_in_0 rfl ?_
  refine y_lload_n (pc := 1) F dX11_in_1 rfl ?_
  refine y_lcmp_lt (pc := 2) (tgt := 17) F dX11_in_2 dX11_in_3 rfl ?_ ?_
  · refine y_iconst (v := 0) (pc := 17) F dX11_in_17 rfl ?_
    exact y_zret hr dX11_in_18 rfl rfl
  · refine y_lload_n (pc := 6) F dX11_in_6 rfl ?_
    refine y_lload (pc := 7) F dX11_in_7 rfl ?_
    refine y_lcmp_gt (pc := 9) (tgt := 17) F dX11_in_9 dX11_in_10 rfl ?_ ?_
    · refine y_iconst (v := 0) (pc := 17) F dX11_in_17 rfl ?_
      exact y_zret hr dX11_in_18 rfl rfl
    · refine y_iconst (v := 1) (pc := 13) F dX11_in_13 rfl ?_
      refine y_goto (tgt := 18) (pc := 14) F dX11_in_14 rfl ?_
      exact y_zret hr dX11_in_18 rfl rfl
abbrev rmX11_has : Room := { frames := 0, cells := 0, slots := 0, locals := 0 }
def pX11_has (a0 : Int32) (a1 : Int32) : Option Int32 :=
  if ((a0 >>> (a1 &&& 31)) &&& (1 : Int32)) = (1 : Int32) then (zgz (1 : Int32) (some (1 : Int32)))
  else (zgz (0 : Int32) (some (0 : Int32)))
set_option maxHeartbeats 4000000 in
set_option maxRecDepth 100000 in
theorem c_X11_has {q : Nat → Nat} (a0 : Int32) (a1 : Int32) : zCi l D tA yX11_has cX11_has 2 .boolean rmX11_has [.int a0, .int a1] [] (fun (r : Int32) => r) (fun (r : Int32) => []) (pX11_has a0 a1) := by
  refine zCi_of (lv0 := [some (.int a0), some (.int a1)]) (by decide +kernel) (Nat.le_of_ble_eq_true rfl) rfl (fun X out F hr => ?_)
  unfold pX11_has
  refine y_iload_n (pc := 0) F dX11_has_0 rfl ?_
  refine y_iload_n (pc := 1) F dX11_has_1 rfl ?_
  refine y_ishr (pc := 2) F dX11_has_2 ?_
  refine y_iconst (v := 1) (pc := 3) F dX11_has_3 rfl ?_
  refine y_iand (pc := 4) F dX11_has_4 ?_
  refine y_iconst (v := 1) (pc := 5) F dX11_has_5 rfl ?_
  refine y_icmp_ne (pc := 6) (tgt := 13) F dX11_has_6 rfl ?_ ?_
  · refine y_iconst (v := 1) (pc := 9) F dX11_has_9 rfl ?_
    refine y_goto (tgt := 14) (pc := 10) F dX11_has_10 rfl ?_
    exact y_zret hr dX11_has_14 rfl rfl
  · refine y_iconst (v := 0) (pc := 13) F dX11_has_13 rfl ?_
    exact y_zret hr dX11_has_14 rfl rfl
abbrev rmX11_isSuit : Room := { frames := 1, cells := 0, slots := 0, locals := 25 }
def pX11_isSuit (o : Ob) (a1 : Int32) : Option Int32 :=
  Option.bind (pX11_in (a1.toInt64) (0 : Int64) (((gi o 0) - (1 : Int32)).toInt64)) fun (r1 : Int32) =>
  zgz r1 (some r1)
set_option maxHeartbeats 4000000 in
set_option maxRecDepth 100000 in
theorem c_X11_isSuit {q : Nat → Nat} (o : Ob) (a1 : Int32) : zCi l D tA yX11_isSuit cX11_isSuit 2 .boolean rmX11_isSuit [.ref (q 0), .int a1] (WM tA q o) (fun (r : Int32) => r) (fun (r : Int32) => (WM tA q o)) (pX11_isSuit o a1) := by
  refine zCi_of (lv0 := [some (.ref (q 0)), some (.int a1)]) (by decide +kernel) (Nat.le_of_ble_eq_true rfl) rfl (fun X out F hr => ?_)
  unfold pX11_isSuit
  refine y_iload_n (pc := 0) F dX11_isSuit_0 rfl ?_
  refine y_i2l (pc := 1) F dX11_isSuit_1 ?_
  refine y_lconst (v := 0) (pc := 2) F dX11_isSuit_2 rfl ?_
  refine y_aload_n (pc := 3) F dX11_isSuit_3 rfl ?_
  refine y_get (pc := 4) F dX11_isSuit_4 kF_X11_124 0 rfl rfl ?_
  refine y_iconst (v := 1) (pc := 7) F dX11_isSuit_7 rfl ?_
  refine y_isub (pc := 8) F dX11_isSuit_8 ?_
  refine y_i2l (pc := 9) F dX11_isSuit_9 ?_
  refine y_scalliP (As := [.long (a1.toInt64), .long (0 : Int64), .long (((gi o 0) - (1 : Int32)).toInt64)]) (st := []) (pc := 10) F (c_X11_in (q := q) (a1.toInt64) (0 : Int64) (((gi o 0) - (1 : Int32)).toInt64)) dX11_isSuit_10 kM_X11_127 ⟨rfl, rfl⟩ ⟨Nat.le_of_ble_eq_true rfl, Nat.le_of_ble_eq_true rfl⟩ rfl rfl rfl (Nat.le_of_ble_eq_true rfl) (fun r1 => ?_)
  exact y_zret hr dX11_isSuit_13 rfl rfl
abbrev rmX11_isWitness : Room := { frames := 1, cells := 0, slots := 0, locals := 25 }
def pX11_isWitness (o : Ob) (a1 : Int32) : Option Int32 :=
  Option.bind (pX11_in (a1.toInt64) (0 : Int64) (((gi o 4) - (1 : Int32)).toInt64)) fun (r1 : Int32) =>
  zgz r1 (some r1)
set_option maxHeartbeats 4000000 in
set_option maxRecDepth 100000 in
theorem c_X11_isWitness {q : Nat → Nat} (o : Ob) (a1 : Int32) : zCi l D tA yX11_isWitness cX11_isWitness 2 .boolean rmX11_isWitness [.ref (q 0), .int a1] (WM tA q o) (fun (r : Int32) => r) (fun (r : Int32) => (WM tA q o)) (pX11_isWitness o a1) := by
  refine zCi_of (lv0 := [some (.ref (q 0)), some (.int a1)]) (by decide +kernel) (Nat.le_of_ble_eq_true rfl) rfl (fun X out F hr => ?_)
  unfold pX11_isWitness
  refine y_iload_n (pc := 0) F dX11_isWitness_0 rfl ?_
  refine y_i2l (pc := 1) F dX11_isWitness_1 ?_
  refine y_lconst (v := 0) (pc := 2) F dX11_isWitness_2 rfl ?_
  refine y_aload_n (pc := 3) F dX11_isWitness_3 rfl ?_
  refine y_get (pc := 4) F dX11_isWitness_4 kF_X11_131 0 rfl rfl ?_
  refine y_iconst (v := 1) (pc := 7) F dX11_isWitness_7 rfl ?_
  refine y_isub (pc := 8) F dX11_isWitness_8 ?_
  refine y_i2l (pc := 9) F dX11_isWitness_9 ?_
  refine y_scalliP (As := [.long (a1.toInt64), .long (0 : Int64), .long (((gi o 4) - (1 : Int32)).toInt64)]) (st := []) (pc := 10) F (c_X11_in (q := q) (a1.toInt64) (0 : Int64) (((gi o 4) - (1 : Int32)).toInt64)) dX11_isWitness_10 kM_X11_127 ⟨rfl, rfl⟩ ⟨Nat.le_of_ble_eq_true rfl, Nat.le_of_ble_eq_true rfl⟩ rfl rfl rfl (Nat.le_of_ble_eq_true rfl) (fun r1 => ?_)
  exact y_zret hr dX11_isWitness_13 rfl rfl
abbrev rmX11_bits : Room := { frames := 0, cells := 0, slots := 0, locals := 0 }
def lX11_bits_4 (a0 : Int32) : Nat → Int32 → Int32 → Option Int32
  | 0, _, _ => none
  | f + 1, x1, x2 =>
    if (12 : Int32) ≤ x2 then (some x1)
    else (zlet ((x1 + ((a0 >>> (x2 &&& 31)) &&& (1 : Int32)))) fun (x3 : Int32) =>
    zlet (x2 + (1 : Int32)) fun (x4 : Int32) =>
    lX11_bits_4 a0 f x3 x4)
def pX11_bits (a0 : Int32) : Option Int32 :=
  lX11_bits_4 a0 zfu (0 : Int32) (0 : Int32)
set_option maxHeartbeats 4000000 in
set_option maxRecDepth 100000 in
theorem wlX11_bits_4 {X : ZX} {out : Int32} (q : Nat → Nat) (a0 : Int32) (F : zF l D tA RX11 cX11_bits 3 rmX11_bits X) (hr : zRi X D cX11_bits .int (fun (r : Int32) => r) (fun (r : Int32) => []) out) : ∀ (f : Nat) (x1 : Int32) (x2 : Int32), zY X D out (lX11_bits_4 a0 f x1 x2) [] 4 [some (.int a0), some (.int x1), some (.int x2)] [] := by
  intro f
  induction f with
  | zero =>
    intro x1 x2
    exact y_none
  | succ f ih =>
    intro x1 x2
    rw [lX11_bits_4.eq_2]
    refine y_iload_n (pc := 4) F dX11_bits_4 rfl ?_
    refine y_bipush (v := 12) (pc := 5) F dX11_bits_5 rfl ?_
    refine y_icmp_ge (pc := 7) (tgt := 24) F dX11_bits_7 rfl ?_ ?_
    · refine y_iload_n (pc := 24) F dX11_bits_24 rfl ?_
      exact y_iret hr dX11_bits_25 rfl rfl
    · refine y_iload_n (pc := 10) F dX11_bits_10 rfl ?_
      refine y_iload_n (pc := 11) F dX11_bits_11 rfl ?_
      refine y_iload_n (pc := 12) F dX11_bits_12 rfl ?_
      refine y_ishr (pc := 13) F dX11_bits_13 ?_
      refine y_iconst (v := 1) (pc := 14) F dX11_bits_14 rfl ?_
      refine y_iand (pc := 15) F dX11_bits_15 ?_
      refine y_iadd (pc := 16) F dX11_bits_16 ?_
      refine y_lti (fun x3 => ?_)
      refine y_istore_n (lv' := [some (.int a0), some (.int x3), some (.int x2)]) (pc := 17) F dX11_bits_17 (Nat.le_of_ble_eq_true rfl) rfl rfl ?_
      refine y_iinc (v := 1) (lf := fun (x4 : Int32) => [some (.int a0), some (.int x3), some (.int x4)]) (pc := 18) F dX11_bits_18 rfl rfl rfl (fun _ => rfl) (fun x4 => ?_)
      refine y_goto (tgt := 4) (pc := 21) F dX11_bits_21 rfl ?_
      exact ih x3 x4
set_option maxHeartbeats 4000000 in
set_option maxRecDepth 100000 in
theorem c_X11_bits {q : Nat → Nat} (a0 : Int32) : zCi l D tA yX11_bits cX11_bits 3 .int rmX11_bits [.int a0] [] (fun (r : Int32) => r) (fun (r : Int32) => []) (pX11_bits a0) := by
  refine zCi_of (lv0 := [some (.int a0), none, none]) (by decide +kernel) (Nat.le_of_ble_eq_true rfl) rfl (fun X out F hr => ?_)
  unfold pX11_bits
  refine y_iconst (v := 0) (pc := 0) F dX11_bits_0 rfl ?_
  refine y_istore_n (lv' := [some (.int a0), some (.int (0 : Int32)), none]) (pc := 1) F dX11_bits_1 (Nat.le_of_ble_eq_true rfl) rfl rfl ?_
  refine y_iconst (v := 0) (pc := 2) F dX11_bits_2 rfl ?_
  refine y_istore_n (lv' := [some (.int a0), some (.int (0 : Int32)), some (.int (0 : Int32))]) (pc := 3) F dX11_bits_3 (Nat.le_of_ble_eq_true rfl) rfl rfl ?_
  exact wlX11_bits_4 q a0 F hr zfu (0 : Int32) (0 : Int32)
abbrev rmX11_here : Room := { frames := 0, cells := 0, slots := 0, locals := 0 }
def lX11_here_0 (K38 : Ob → Option (Int32 × Ob)) : Nat → Ob → Option (Int32 × Ob)
  | 0, _ => none
  | f + 1, o2 =>
    if (gi o2 22) ≤ (gi o2 24) then (K38 o2)
    else (zgd (gi o2 24) 500 <| if (ga o2 21 ((gi o2 24).toNatClampNeg)) = (32 : Int32) then (zlet (si o2 24 ((gi o2 24) + (1 : Int32))) fun (o3 : Ob) =>
    lX11_here_0 K38 f o3)
    else (K38 o2))
def pX11_here (o : Ob) : Option (Int32 × Ob) :=
  zjn (fun (o1 : Ob) =>
  if (gi o1 22) ≤ (gi o1 24) then (some ((-1 : Int32), o1))
  else (zgd (gi o1 24) 500 <| some ((ga o1 21 ((gi o1 24).toNatClampNeg)), o1))) fun (K38 : Ob → Option (Int32 × Ob)) =>
  lX11_here_0 K38 zfu o
set_option maxHeartbeats 4000000 in
set_option maxRecDepth 100000 in
theorem wlX11_here_0 {X : ZX} {out : (Int32 × Ob)} (q : Nat → Nat) (F : zF l D tA RX11 cX11_here 1 rmX11_here X) (hr : zRi X D cX11_here .int (fun (r : Int32 × Ob) => (r.1)) (fun (r : Int32 × Ob) => (WM tA q (r.2))) out) {K38 : Ob → Option (Int32 × Ob)} (hK38 : ∀ (o1 : Ob), zY X D out (K38 o1) (WM tA q o1) 38 [some (.ref (q 0))] []) : ∀ (f : Nat) (o2 : Ob), zY X D out (lX11_here_0 K38 f o2) (WM tA q o2) 0 [some (.ref (q 0))] [] := by
  intro f
  induction f with
  | zero =>
    intro o2
    exact y_none
  | succ f ih =>
    intro o2
    rw [lX11_here_0.eq_2]
    refine y_aload_n (pc := 0) F dX11_here_0 rfl ?_
    refine y_get (pc := 1) F dX11_here_1 kF_X11_143 0 rfl rfl ?_
    refine y_aload_n (pc := 4) F dX11_here_4 rfl ?_
    refine y_get (pc := 5) F dX11_here_5 kF_X11_137 0 rfl rfl ?_
    refine y_icmp_ge (pc := 8) (tgt := 38) F dX11_here_8 rfl ?_ ?_
    · exact hK38 o2
    · refine y_aload_n (pc := 11) F dX11_here_11 rfl ?_
      refine y_get (pc := 12) F dX11_here_12 kF_X11_56 0 rfl rfl ?_
      refine y_aload_n (pc := 15) F dX11_here_15 rfl ?_
      refine y_get (pc := 16) F dX11_here_16 kF_X11_143 0 rfl rfl ?_
      refine y_iald (pc := 19) F dX11_here_19 16 rfl ?_
      refine y_bipush (v := 32) (pc := 20) F dX11_here_20 rfl ?_
      refine y_icmp_ne (pc := 22) (tgt := 38) F dX11_here_22 rfl ?_ ?_
      · refine y_aload_n (pc := 25) F dX11_here_25 rfl ?_
        refine y_dup (pc := 26) F dX11_here_26 rfl ?_
        refine y_get (pc := 27) F dX11_here_27 kF_X11_143 0 rfl rfl ?_
        refine y_iconst (v := 1) (pc := 30) F dX11_here_30 rfl ?_
        refine y_iadd (pc := 31) F dX11_here_31 ?_
        refine y_put (pc := 32) F dX11_here_32 kF_X11_143 0 rfl rfl rfl rfl (Nat.le_of_ble_eq_true rfl) (fun (o3 : Ob) => (WM tA q o3)) rfl (fun o3 => ?_)
        refine y_goto (tgt := 0) (pc := 35) F dX11_here_35 rfl ?_
        exact ih o3
      · exact hK38 o2
set_option maxHeartbeats 4000000 in
set_option maxRecDepth 100000 in
theorem c_X11_here {q : Nat → Nat} (o : Ob) : zCi l D tA yX11_here cX11_here 1 .int rmX11_here [.ref (q 0)] (WM tA q o) (fun (r : Int32 × Ob) => (r.1)) (fun (r : Int32 × Ob) => (WM tA q (r.2))) (pX11_here o) := by
  refine zCi_of (lv0 := [some (.ref (q 0))]) (by decide +kernel) (Nat.le_of_ble_eq_true rfl) rfl (fun X out F hr => ?_)
  unfold pX11_here
  refine y_jn (fun (K38 : Ob → Option (Int32 × Ob)) => ∀ (o1 : Ob), zY X D out (K38 o1) (WM tA q o1) 38 [some (.ref (q 0))] []) ?_ ?_
  · intro o1
    refine y_aload_n (pc := 38) F dX11_here_38 rfl ?_
    refine y_get (pc := 39) F dX11_here_39 kF_X11_143 0 rfl rfl ?_
    refine y_aload_n (pc := 42) F dX11_here_42 rfl ?_
    refine y_get (pc := 43) F dX11_here_43 kF_X11_137 0 rfl rfl ?_
    refine y_icmp_ge (pc := 46) (tgt := 61) F dX11_here_46 rfl ?_ ?_
    · refine y_iconst (v := -1) (pc := 61) F dX11_here_61 rfl ?_
      exact y_iret hr dX11_here_62 rfl rfl
    · refine y_aload_n (pc := 49) F dX11_here_49 rfl ?_
      refine y_get (pc := 50) F dX11_here_50 kF_X11_56 0 rfl rfl ?_
      refine y_aload_n (pc := 53) F dX11_here_53 rfl ?_
      refine y_get (pc := 54) F dX11_here_54 kF_X11_143 0 rfl rfl ?_
      refine y_iald (pc := 57) F dX11_here_57 16 rfl ?_
      refine y_goto (tgt := 62) (pc := 58) F dX11_here_58 rfl ?_
      exact y_iret hr dX11_here_62 rfl rfl
  intro K38 hK38
  exact wlX11_here_0 q F hr hK38 zfu o
abbrev rmX11_lawOf : Room := { frames := 0, cells := 0, slots := 0, locals := 0 }
def lX11_lawOf_24 (o : Ob) (a1 : Int32) (a2 : Int32) : Nat → Int32 → Int32 → Option Int32
  | 0, _, _ => none
  | f + 1, x2, x3 =>
    if (gi o 8) ≤ x3 then (some x2)
    else (zgd ((4 : Int32) * x3) 24 <| zjn (fun (x4 : Int32) =>
    zlet (x3 + (1 : Int32)) fun (x5 : Int32) =>
    lX11_lawOf_24 o a1 a2 f x4 x5) fun (K61 : Int32 → Option Int32) =>
    if a1 < (ga o 9 (((4 : Int32) * x3).toNatClampNeg)) then (K61 x2)
    else (zgd (((4 : Int32) * x3) + a2) 24 <| K61 ((ga o 9 ((((4 : Int32) * x3) + a2).toNatClampNeg)))))
def pX11_lawOf (o : Ob) (a1 : Int32) (a2 : Int32) : Option Int32 :=
  zjn (fun (x1 : Int32) =>
  lX11_lawOf_24 o a1 a2 zfu x1 (0 : Int32)) fun (K20 : Int32 → Option Int32) =>
  if a2 = (1 : Int32) then (K20 (1 : Int32))
  else (if a2 = (2 : Int32) then (K20 (28 : Int32))
  else (K20 (2 : Int32)))
set_option maxHeartbeats 4000000 in
set_option maxRecDepth 100000 in
theorem wlX11_lawOf_24 {X : ZX} {out : Int32} (q : Nat → Nat) (o : Ob) (a1 : Int32) (a2 : Int32) (F : zF l D tA RX11 cX11_lawOf 5 rmX11_lawOf X) (hr : zRi X D cX11_lawOf .int (fun (r : Int32) => r) (fun (r : Int32) => (WM tA q o)) out) : ∀ (f : Nat) (x2 : Int32) (x3 : Int32), zY X D out (lX11_lawOf_24 o a1 a2 f x2 x3) (WM tA q o) 24 [some (.ref (q 0)), some (.int a1), some (.int a2), some (.int x2), some (.int x3)] [] := by
  intro f
  induction f with
  | zero =>
    intro x2 x3
    exact y_none
  | succ f ih =>
    intro x2 x3
    rw [lX11_lawOf_24.eq_2]
    refine y_iload (pc := 24) F dX11_lawOf_24 rfl ?_
    refine y_aload_n (pc := 26) F dX11_lawOf_26 rfl ?_
    refine y_get (pc := 27) F dX11_lawOf_27 kF_X11_236 0 rfl rfl ?_
    refine y_icmp_ge (pc := 30) (tgt := 68) F dX11_lawOf_30 rfl ?_ ?_
    · refine y_iload_n (pc := 68) F dX11_lawOf_68 rfl ?_
      exact y_iret hr dX11_lawOf_69 rfl rfl
    · refine y_aload_n (pc := 33) F dX11_lawOf_33 rfl ?_
      refine y_get (pc := 34) F dX11_lawOf_34 kF_X11_28 0 rfl rfl ?_
      refine y_iconst (v := 4) (pc := 37) F dX11_lawOf_37 rfl ?_
      refine y_iload (pc := 38) F dX11_lawOf_38 rfl ?_
      refine y_imul (pc := 40) F dX11_lawOf_40 ?_
      refine y_iald (pc := 41) F dX11_lawOf_41 7 rfl ?_
      refine y_iload_n (pc := 42) F dX11_lawOf_42 rfl ?_
      refine y_jn (fun (K61 : Int32 → Option Int32) => ∀ (x4 : Int32), zY X D out (K61 x4) (WM tA q o) 61 [some (.ref (q 0)), some (.int a1), some (.int a2), none, some (.int x3)] [.int x4]) ?_ ?_
      · intro x4
        refine y_istore_n (lv' := [some (.ref (q 0)), some (.int a1), some (.int a2), some (.int x4), some (.int x3)]) (pc := 61) F dX11_lawOf_61 (Nat.le_of_ble_eq_true rfl) rfl rfl ?_
        refine y_iinc (v := 1) (lf := fun (x5 : Int32) => [some (.ref (q 0)), some (.int a1), some (.int a2), some (.int x4), some (.int x5)]) (pc := 62) F dX11_lawOf_62 rfl rfl rfl (fun _ => rfl) (fun x5 => ?_)
        refine y_goto (tgt := 24) (pc := 65) F dX11_lawOf_65 rfl ?_
        exact ih x4 x5
      intro K61 hK61
      refine y_icmp_gt (pc := 43) (tgt := 60) F dX11_lawOf_43 rfl ?_ ?_
      · refine y_iload_n (pc := 60) F dX11_lawOf_60 rfl ?_
        refine y_le (lv' := [some (.ref (q 0)), some (.int a1), some (.int a2), none, some (.int x3)]) ⟨rfl, ⟨rfl, ⟨rfl, ⟨rfl, trivial⟩⟩⟩⟩ ?_
        exact hK61 x2
      · refine y_aload_n (pc := 46) F dX11_lawOf_46 rfl ?_
        refine y_get (pc := 47) F dX11_lawOf_47 kF_X11_28 0 rfl rfl ?_
        refine y_iconst (v := 4) (pc := 50) F dX11_lawOf_50 rfl ?_
        refine y_iload (pc := 51) F dX11_lawOf_51 rfl ?_
        refine y_imul (pc := 53) F dX11_lawOf_53 ?_
        refine y_iload_n (pc := 54) F dX11_lawOf_54 rfl ?_
        refine y_iadd (pc := 55) F dX11_lawOf_55 ?_
        refine y_iald (pc := 56) F dX11_lawOf_56 7 rfl ?_
        refine y_goto (tgt := 61) (pc := 57) F dX11_lawOf_57 rfl ?_
        refine y_le (lv' := [some (.ref (q 0)), some (.int a1), some (.int a2), none, some (.int x3)]) ⟨rfl, ⟨rfl, ⟨rfl, ⟨rfl, trivial⟩⟩⟩⟩ ?_
        exact hK61 ((ga o 9 ((((4 : Int32) * x3) + a2).toNatClampNeg)))
set_option maxHeartbeats 4000000 in
set_option maxRecDepth 100000 in
theorem c_X11_lawOf {q : Nat → Nat} (o : Ob) (a1 : Int32) (a2 : Int32) : zCi l D tA yX11_lawOf cX11_lawOf 5 .int rmX11_lawOf [.ref (q 0), .int a1, .int a2] (WM tA q o) (fun (r : Int32) => r) (fun (r : Int32) => (WM tA q o)) (pX11_lawOf o a1 a2) := by
  refine zCi_of (lv0 := [some (.ref (q 0)), some (.int a1), some (.int a2), none, none]) (by decide +kernel) (Nat.le_of_ble_eq_true rfl) rfl (fun X out F hr => ?_)
  unfold pX11_lawOf
  refine y_iload_n (pc := 0) F dX11_lawOf_0 rfl ?_
  refine y_iconst (v := 1) (pc := 1) F dX11_lawOf_1 rfl ?_
  refine y_jn (fun (K20 : Int32 → Option Int32) => ∀ (x1 : Int32), zY X D out (K20 x1) (WM tA q o) 20 [some (.ref (q 0)), some (.int a1), some (.int a2), none, none] [.int x1]) ?_ ?_
  · intro x1
    refine y_istore_n (lv' := [some (.ref (q 0)), some (.int a1), some (.int a2), some (.int x1), none]) (pc := 20) F dX11_lawOf_20 (Nat.le_of_ble_eq_true rfl) rfl rfl ?_
    refine y_iconst (v := 0) (pc := 21) F dX11_lawOf_21 rfl ?_
    refine y_istore (lv' := [some (.ref (q 0)), some (.int a1), some (.int a2), some (.int x1), some (.int (0 : Int32))]) (pc := 22) F dX11_lawOf_22 (Nat.le_of_ble_eq_true rfl) rfl rfl ?_
    exact wlX11_lawOf_24 q o a1 a2 F hr zfu x1 (0 : Int32)
  intro K20 hK20
  refine y_icmp_ne (pc := 2) (tgt := 9) F dX11_lawOf_2 rfl ?_ ?_
  · refine y_iconst (v := 1) (pc := 5) F dX11_lawOf_5 rfl ?_
    refine y_goto (tgt := 20) (pc := 6) F dX11_lawOf_6 rfl ?_
    exact hK20 (1 : Int32)
  · refine y_iload_n (pc := 9) F dX11_lawOf_9 rfl ?_
    refine y_iconst (v := 2) (pc := 10) F dX11_lawOf_10 rfl ?_
    refine y_icmp_ne (pc := 11) (tgt := 19) F dX11_lawOf_11 rfl ?_ ?_
    · refine y_bipush (v := 28) (pc := 14) F dX11_lawOf_14 rfl ?_
      refine y_goto (tgt := 20) (pc := 16) F dX11_lawOf_16 rfl ?_
      exact hK20 (28 : Int32)
    · refine y_iconst (v := 2) (pc := 19) F dX11_lawOf_19 rfl ?_
      exact hK20 (2 : Int32)
abbrev rmX11_isEnough : Room := { frames := 0, cells := 0, slots := 0, locals := 0 }
def pX11_isEnough (o : Ob) (a1 : Int32) : Option Int32 :=
  zgd a1 6 <| zgd a1 6 <| if (ga o 17 (a1.toNatClampNeg)) < ((3 : Int32) * (ga o 1 (a1.toNatClampNeg))) then (zgz (0 : Int32) (some (0 : Int32)))
  else (zgz (1 : Int32) (some (1 : Int32)))
set_option maxHeartbeats 4000000 in
set_option maxRecDepth 100000 in
theorem c_X11_isEnough {q : Nat → Nat} (o : Ob) (a1 : Int32) : zCi l D tA yX11_isEnough cX11_isEnough 2 .boolean rmX11_isEnough [.ref (q 0), .int a1] (WM tA q o) (fun (r : Int32) => r) (fun (r : Int32) => (WM tA q o)) (pX11_isEnough o a1) := by
  refine zCi_of (lv0 := [some (.ref (q 0)), some (.int a1)]) (by decide +kernel) (Nat.le_of_ble_eq_true rfl) rfl (fun X out F hr => ?_)
  unfold pX11_isEnough
  refine y_aload_n (pc := 0) F dX11_isEnough_0 rfl ?_
  refine y_get (pc := 1) F dX11_isEnough_1 kF_X11_47 0 rfl rfl ?_
  refine y_iload_n (pc := 4) F dX11_isEnough_4 rfl ?_
  refine y_iald (pc := 5) F dX11_isEnough_5 13 rfl ?_
  refine y_iconst (v := 3) (pc := 6) F dX11_isEnough_6 rfl ?_
  refine y_aload_n (pc := 7) F dX11_isEnough_7 rfl ?_
  refine y_get (pc := 8) F dX11_isEnough_8 kF_X11_7 0 rfl rfl ?_
  refine y_iload_n (pc := 11) F dX11_isEnough_11 rfl ?_
  refine y_iald (pc := 12) F dX11_isEnough_12 1 rfl ?_
  refine y_imul (pc := 13) F dX11_isEnough_13 ?_
  refine y_icmp_lt (pc := 14) (tgt := 21) F dX11_isEnough_14 rfl ?_ ?_
  · refine y_iconst (v := 0) (pc := 21) F dX11_isEnough_21 rfl ?_
    exact y_zret hr dX11_isEnough_22 rfl rfl
  · refine y_iconst (v := 1) (pc := 17) F dX11_isEnough_17 rfl ?_
    refine y_goto (tgt := 22) (pc := 18) F dX11_isEnough_18 rfl ?_
    exact y_zret hr dX11_isEnough_22 rfl rfl
abbrev rmX11_lookAt : Room := { frames := 1, cells := 0, slots := 0, locals := 21 }
def pX11_lookAt (o : Ob) (a1 : Int32) : Option Ob :=
  zgd a1 6 <| if (ga o 15 (a1.toNatClampNeg)) = 0 then (Option.bind (pX11_isEnough o a1) fun (r1 : Int32) =>
  if r1 = 0 then (some o)
  else (zgd a1 6 <| zjn (zgd a1 6 <| zlet (sa o 15 (upd (ga o 15) (a1.toNatClampNeg) (1 : Int32))) fun (o2 : Ob) =>
  zgd a1 6 <| zlet (sa o2 16 (upd (ga o2 16) (a1.toNatClampNeg) (gi o2 13))) fun (o3 : Ob) =>
  some o3) fun (K41 : Option Ob) =>
  if (ga o 3 (a1.toNatClampNeg)) < 0 then (K41)
  else (zgd a1 6 <| zgd (ga o 3 (a1.toNatClampNeg)) 6 <| if (ga o 15 ((ga o 3 (a1.toNatClampNeg)).toNatClampNeg)) = (1 : Int32) then (K41)
  else (some o))))
  else (some o)
set_option maxHeartbeats 4000000 in
set_option maxRecDepth 100000 in
theorem c_X11_lookAt {q : Nat → Nat} (o : Ob) (a1 : Int32) : zCv l D tA yX11_lookAt cX11_lookAt 2 rmX11_lookAt [.ref (q 0), .int a1] (WM tA q o) (fun (r : Ob) => (WM tA q r)) (pX11_lookAt o a1) := by
  refine zCv_of (lv0 := [some (.ref (q 0)), some (.int a1)]) (by decide +kernel) (Nat.le_of_ble_eq_true rfl) rfl (fun X out F hr => ?_)
  unfold pX11_lookAt
  refine y_aload_n (pc := 0) F dX11_lookAt_0 rfl ?_
  refine y_get (pc := 1) F dX11_lookAt_1 kF_X11_41 0 rfl rfl ?_
  refine y_iload_n (pc := 4) F dX11_lookAt_4 rfl ?_
  refine y_iald (pc := 5) F dX11_lookAt_5 11 rfl ?_
  refine y_if_ne (pc := 6) (tgt := 58) F dX11_lookAt_6 rfl ?_ ?_
  · refine y_aload_n (pc := 9) F dX11_lookAt_9 rfl ?_
    refine y_iload_n (pc := 10) F dX11_lookAt_10 rfl ?_
    refine y_calliW (As := [.int a1]) (st := []) (q0 := 0) (pc := 11) F (c_X11_isEnough (q := q) o a1) dX11_lookAt_11 kM_X11_268 ⟨rfl, rfl⟩ ⟨Nat.le_of_ble_eq_true rfl, Nat.le_of_ble_eq_true rfl⟩ rfl rfl rfl (Nat.le_of_ble_eq_true rfl) rfl rfl rfl (fun r1 => ?_)
    refine y_if_eq (pc := 14) (tgt := 58) F dX11_lookAt_14 rfl ?_ ?_
    · exact y_vret hr dX11_lookAt_58 rfl
    · refine y_aload_n (pc := 17) F dX11_lookAt_17 rfl ?_
      refine y_get (pc := 18) F dX11_lookAt_18 kF_X11_16 0 rfl rfl ?_
      refine y_iload_n (pc := 21) F dX11_lookAt_21 rfl ?_
      refine y_iald (pc := 22) F dX11_lookAt_22 3 rfl ?_
      refine y_jn (fun (K41 : Option Ob) => zY X D out (K41) (WM tA q o) 41 [some (.ref (q 0)), some (.int a1)] []) ?_ ?_
      · skip
        refine y_aload_n (pc := 41) F dX11_lookAt_41 rfl ?_
        refine y_get (pc := 42) F dX11_lookAt_42 kF_X11_41 0 rfl rfl ?_
        refine y_iload_n (pc := 45) F dX11_lookAt_45 rfl ?_
        refine y_iconst (v := 1) (pc := 46) F dX11_lookAt_46 rfl ?_
        refine y_iast (pc := 47) F dX11_lookAt_47 11 rfl (fun (o2 : Ob) => (WM tA q o2)) rfl (fun o2 => ?_)
        refine y_aload_n (pc := 48) F dX11_lookAt_48 rfl ?_
        refine y_get (pc := 49) F dX11_lookAt_49 kF_X11_44 0 rfl rfl ?_
        refine y_iload_n (pc := 52) F dX11_lookAt_52 rfl ?_
        refine y_aload_n (pc := 53) F dX11_lookAt_53 rfl ?_
        refine y_get (pc := 54) F dX11_lookAt_54 kF_X11_223 0 rfl rfl ?_
        refine y_iast (pc := 57) F dX11_lookAt_57 12 rfl (fun (o3 : Ob) => (WM tA q o3)) rfl (fun o3 => ?_)
        exact y_vret hr dX11_lookAt_58 rfl
      intro K41 hK41
      refine y_if_lt (pc := 23) (tgt := 41) F dX11_lookAt_23 rfl ?_ ?_
      · exact hK41
      · refine y_aload_n (pc := 26) F dX11_lookAt_26 rfl ?_
        refine y_get (pc := 27) F dX11_lookAt_27 kF_X11_41 0 rfl rfl ?_
        refine y_aload_n (pc := 30) F dX11_lookAt_30 rfl ?_
        refine y_get (pc := 31) F dX11_lookAt_31 kF_X11_16 0 rfl rfl ?_
        refine y_iload_n (pc := 34) F dX11_lookAt_34 rfl ?_
        refine y_iald (pc := 35) F dX11_lookAt_35 3 rfl ?_
        refine y_iald (pc := 36) F dX11_lookAt_36 11 rfl ?_
        refine y_iconst (v := 1) (pc := 37) F dX11_lookAt_37 rfl ?_
        refine y_icmp_ne (pc := 38) (tgt := 58) F dX11_lookAt_38 rfl ?_ ?_
        · exact hK41
        · exact y_vret hr dX11_lookAt_58 rfl
  · exact y_vret hr dX11_lookAt_58 rfl
end ZM
end
