section
/-- a private method of a class that the tables say can be made, by its rows of tables_1 -/
def lw_okq (q : MethodName × Nat) : Prop := (q.1.cls ≠ "java/lang/invoke/MethodHandle" ∧ q.1.cls ≠ "java/lang/invoke/VarHandle") ∧ Cond.instantiable q.1.cls q.2 ∈ tables_1 ∧ Cond.privateMethod q.1 ∈ tables_1 ∧ Cond.instanceMethod q.1 ∈ tables_1
theorem lw_p0 : lw_okq (⟨"HalvedProof$Reader", "pass", "(I)V"⟩, 5) := ⟨⟨by decide +kernel, by decide +kernel⟩, List.mem_of_getElem? (i := 47) (by decide +kernel), List.mem_of_getElem? (i := 403) (by decide +kernel), List.mem_of_getElem? (i := 404) (by decide +kernel)⟩
theorem lw_p1 : lw_okq (⟨"HalvedProof$Reader", "byteAt", "(I)I"⟩, 5) := ⟨⟨by decide +kernel, by decide +kernel⟩, List.mem_of_getElem? (i := 47) (by decide +kernel), List.mem_of_getElem? (i := 407) (by decide +kernel), List.mem_of_getElem? (i := 408) (by decide +kernel)⟩
theorem lw_p2 : lw_okq (⟨"HalvedProof$Reader", "seesWord", "(Ljava/lang/String;)Z"⟩, 5) := ⟨⟨by decide +kernel, by decide +kernel⟩, List.mem_of_getElem? (i := 47) (by decide +kernel), List.mem_of_getElem? (i := 428) (by decide +kernel), List.mem_of_getElem? (i := 429) (by decide +kernel)⟩
theorem lw_p3 : lw_okq (⟨"HalvedProof$Court", "readSuit", "(LHalvedProof$Reader;)V"⟩, 8) := ⟨⟨by decide +kernel, by decide +kernel⟩, List.mem_of_getElem? (i := 77) (by decide +kernel), List.mem_of_getElem? (i := 483) (by decide +kernel), List.mem_of_getElem? (i := 484) (by decide +kernel)⟩
theorem lw_p4 : lw_okq (⟨"HalvedProof$Reader", "refuseAt", "(II)V"⟩, 5) := ⟨⟨by decide +kernel, by decide +kernel⟩, List.mem_of_getElem? (i := 47) (by decide +kernel), List.mem_of_getElem? (i := 491) (by decide +kernel), List.mem_of_getElem? (i := 492) (by decide +kernel)⟩
theorem lw_p5 : lw_okq (⟨"HalvedProof$Court", "readWitness", "(LHalvedProof$Reader;)V"⟩, 8) := ⟨⟨by decide +kernel, by decide +kernel⟩, List.mem_of_getElem? (i := 77) (by decide +kernel), List.mem_of_getElem? (i := 512) (by decide +kernel), List.mem_of_getElem? (i := 513) (by decide +kernel)⟩
theorem lw_p6 : lw_okq (⟨"HalvedProof$Laws", "readClause", "(LHalvedProof$Reader;)V"⟩, 5) := ⟨⟨by decide +kernel, by decide +kernel⟩, List.mem_of_getElem? (i := 131) (by decide +kernel), List.mem_of_getElem? (i := 553) (by decide +kernel), List.mem_of_getElem? (i := 554) (by decide +kernel)⟩
theorem lw_p7 : lw_okq (⟨"HalvedProof$Laws", "clauseOn", "(I)I"⟩, 5) := ⟨⟨by decide +kernel, by decide +kernel⟩, List.mem_of_getElem? (i := 131) (by decide +kernel), List.mem_of_getElem? (i := 574) (by decide +kernel), List.mem_of_getElem? (i := 575) (by decide +kernel)⟩
theorem lw_p8 : lw_okq (⟨"HalvedProof$Trial", "look", "(I)V"⟩, 3) := ⟨⟨by decide +kernel, by decide +kernel⟩, List.mem_of_getElem? (i := 71) (by decide +kernel), List.mem_of_getElem? (i := 652) (by decide +kernel), List.mem_of_getElem? (i := 653) (by decide +kernel)⟩
theorem lw_p9 : lw_okq (⟨"HalvedProof$Trial", "isCarried", "(I)Z"⟩, 3) := ⟨⟨by decide +kernel, by decide +kernel⟩, List.mem_of_getElem? (i := 71) (by decide +kernel), List.mem_of_getElem? (i := 661) (by decide +kernel), List.mem_of_getElem? (i := 662) (by decide +kernel)⟩
theorem lw_p10 : lw_okq (⟨"HalvedProof$Called", "prepare", "(I)V"⟩, 12) := ⟨⟨by decide +kernel, by decide +kernel⟩, List.mem_of_getElem? (i := 244) (by decide +kernel), List.mem_of_getElem? (i := 717) (by decide +kernel), List.mem_of_getElem? (i := 718) (by decide +kernel)⟩
theorem lw_p11 : lw_okq (⟨"HalvedProof$Called", "clearPlans", "()V"⟩, 12) := ⟨⟨by decide +kernel, by decide +kernel⟩, List.mem_of_getElem? (i := 244) (by decide +kernel), List.mem_of_getElem? (i := 730) (by decide +kernel), List.mem_of_getElem? (i := 731) (by decide +kernel)⟩
theorem lw_p12 : lw_okq (⟨"HalvedProof$Called", "allOfThem", "()I"⟩, 12) := ⟨⟨by decide +kernel, by decide +kernel⟩, List.mem_of_getElem? (i := 244) (by decide +kernel), List.mem_of_getElem? (i := 737) (by decide +kernel), List.mem_of_getElem? (i := 738) (by decide +kernel)⟩
theorem lw_p13 : lw_okq (⟨"HalvedProof$Called", "callOn", "(II)V"⟩, 12) := ⟨⟨by decide +kernel, by decide +kernel⟩, List.mem_of_getElem? (i := 244) (by decide +kernel), List.mem_of_getElem? (i := 741) (by decide +kernel), List.mem_of_getElem? (i := 742) (by decide +kernel)⟩
theorem lw_p14 : lw_okq (⟨"HalvedProof$Called", "addUp", "(I)I"⟩, 12) := ⟨⟨by decide +kernel, by decide +kernel⟩, List.mem_of_getElem? (i := 244) (by decide +kernel), List.mem_of_getElem? (i := 745) (by decide +kernel), List.mem_of_getElem? (i := 746) (by decide +kernel)⟩
theorem lw_p15 : lw_okq (⟨"HalvedProof$Called", "greatest", "()J"⟩, 12) := ⟨⟨by decide +kernel, by decide +kernel⟩, List.mem_of_getElem? (i := 244) (by decide +kernel), List.mem_of_getElem? (i := 753) (by decide +kernel), List.mem_of_getElem? (i := 754) (by decide +kernel)⟩
def lw_privs_1 : List (MethodName × Nat) := [(⟨"HalvedProof$Reader", "pass", "(I)V"⟩, 5), (⟨"HalvedProof$Reader", "byteAt", "(I)I"⟩, 5), (⟨"HalvedProof$Reader", "seesWord", "(Ljava/lang/String;)Z"⟩, 5), (⟨"HalvedProof$Court", "readSuit", "(LHalvedProof$Reader;)V"⟩, 8), (⟨"HalvedProof$Reader", "refuseAt", "(II)V"⟩, 5), (⟨"HalvedProof$Court", "readWitness", "(LHalvedProof$Reader;)V"⟩, 8), (⟨"HalvedProof$Laws", "readClause", "(LHalvedProof$Reader;)V"⟩, 5), (⟨"HalvedProof$Laws", "clauseOn", "(I)I"⟩, 5), (⟨"HalvedProof$Trial", "look", "(I)V"⟩, 3), (⟨"HalvedProof$Trial", "isCarried", "(I)Z"⟩, 3), (⟨"HalvedProof$Called", "prepare", "(I)V"⟩, 12), (⟨"HalvedProof$Called", "clearPlans", "()V"⟩, 12), (⟨"HalvedProof$Called", "allOfThem", "()I"⟩, 12), (⟨"HalvedProof$Called", "callOn", "(II)V"⟩, 12), (⟨"HalvedProof$Called", "addUp", "(I)I"⟩, 12), (⟨"HalvedProof$Called", "greatest", "()J"⟩, 12)]
theorem lw_r1 : ∀ q ∈ lw_privs_1, lw_okq q := List.forall_mem_cons.mpr ⟨lw_p0, List.forall_mem_cons.mpr ⟨lw_p1, List.forall_mem_cons.mpr ⟨lw_p2, List.forall_mem_cons.mpr ⟨lw_p3, List.forall_mem_cons.mpr ⟨lw_p4, List.forall_mem_cons.mpr ⟨lw_p5, List.forall_mem_cons.mpr ⟨lw_p6, List.forall_mem_cons.mpr ⟨lw_p7, List.forall_mem_cons.mpr ⟨lw_p8, List.forall_mem_cons.mpr ⟨lw_p9, List.forall_mem_cons.mpr ⟨lw_p10, List.forall_mem_cons.mpr ⟨lw_p11, List.forall_mem_cons.mpr ⟨lw_p12, List.forall_mem_cons.mpr ⟨lw_p13, List.forall_mem_cons.mpr ⟨lw_p14, List.forall_mem_cons.mpr ⟨lw_p15, fun _ h => absurd h List.not_mem_nil⟩⟩⟩⟩⟩⟩⟩⟩⟩⟩⟩⟩⟩⟩⟩⟩
theorem lw_p16 : lw_okq (⟨"HalvedProof$Called", "fewestSpeakers", "(I)I"⟩, 12) := ⟨⟨by decide +kernel, by decide +kernel⟩, List.mem_of_getElem? (i := 244) (by decide +kernel), List.mem_of_getElem? (i := 774) (by decide +kernel), List.mem_of_getElem? (i := 775) (by decide +kernel)⟩
theorem lw_p17 : lw_okq (⟨"HalvedProof$Called", "suffices", "(JI)Z"⟩, 12) := ⟨⟨by decide +kernel, by decide +kernel⟩, List.mem_of_getElem? (i := 244) (by decide +kernel), List.mem_of_getElem? (i := 778) (by decide +kernel), List.mem_of_getElem? (i := 779) (by decide +kernel)⟩
theorem lw_p18 : lw_okq (⟨"HalvedProof$Called", "setDays", "(II)V"⟩, 12) := ⟨⟨by decide +kernel, by decide +kernel⟩, List.mem_of_getElem? (i := 244) (by decide +kernel), List.mem_of_getElem? (i := 783) (by decide +kernel), List.mem_of_getElem? (i := 784) (by decide +kernel)⟩
theorem lw_p19 : lw_okq (⟨"HalvedProof$Called", "othersMakeUp", "(IIIJ)Z"⟩, 12) := ⟨⟨by decide +kernel, by decide +kernel⟩, List.mem_of_getElem? (i := 244) (by decide +kernel), List.mem_of_getElem? (i := 787) (by decide +kernel), List.mem_of_getElem? (i := 788) (by decide +kernel)⟩
theorem lw_p20 : lw_okq (⟨"HalvedProof$Called", "findWins", "()V"⟩, 12) := ⟨⟨by decide +kernel, by decide +kernel⟩, List.mem_of_getElem? (i := 244) (by decide +kernel), List.mem_of_getElem? (i := 799) (by decide +kernel), List.mem_of_getElem? (i := 800) (by decide +kernel)⟩
theorem lw_p21 : lw_okq (⟨"HalvedProof$Called", "stopsAll", "(I)Z"⟩, 12) := ⟨⟨by decide +kernel, by decide +kernel⟩, List.mem_of_getElem? (i := 244) (by decide +kernel), List.mem_of_getElem? (i := 803) (by decide +kernel), List.mem_of_getElem? (i := 804) (by decide +kernel)⟩
theorem lw_p22 : lw_okq (⟨"HalvedProof$Called", "asWitnesses", "(I)I"⟩, 12) := ⟨⟨by decide +kernel, by decide +kernel⟩, List.mem_of_getElem? (i := 244) (by decide +kernel), List.mem_of_getElem? (i := 807) (by decide +kernel), List.mem_of_getElem? (i := 808) (by decide +kernel)⟩
theorem lw_p23 : lw_okq (⟨"HalvedProof$Duel", "sideWins", "(III)Z"⟩, 5) := ⟨⟨by decide +kernel, by decide +kernel⟩, List.mem_of_getElem? (i := 291) (by decide +kernel), List.mem_of_getElem? (i := 827) (by decide +kernel), List.mem_of_getElem? (i := 828) (by decide +kernel)⟩
theorem lw_p24 : lw_okq (⟨"HalvedProof$Duel", "winsByCalling", "(IIII)Z"⟩, 5) := ⟨⟨by decide +kernel, by decide +kernel⟩, List.mem_of_getElem? (i := 291) (by decide +kernel), List.mem_of_getElem? (i := 834) (by decide +kernel), List.mem_of_getElem? (i := 835) (by decide +kernel)⟩
theorem lw_p25 : lw_okq (⟨"HalvedProof$Today", "speakersNeeded", "(I)I"⟩, 2) := ⟨⟨by decide +kernel, by decide +kernel⟩, List.mem_of_getElem? (i := 313) (by decide +kernel), List.mem_of_getElem? (i := 852) (by decide +kernel), List.mem_of_getElem? (i := 853) (by decide +kernel)⟩
theorem lw_p26 : lw_okq (⟨"HalvedProof$Today", "speakersOf", "(I)I"⟩, 2) := ⟨⟨by decide +kernel, by decide +kernel⟩, List.mem_of_getElem? (i := 313) (by decide +kernel), List.mem_of_getElem? (i := 861) (by decide +kernel), List.mem_of_getElem? (i := 862) (by decide +kernel)⟩
theorem lw_p27 : lw_okq (⟨"HalvedProofModel", "here", "()I"⟩, 53) := ⟨⟨by decide +kernel, by decide +kernel⟩, List.mem_of_getElem? (i := 911) (by decide +kernel), List.mem_of_getElem? (i := 1092) (by decide +kernel), List.mem_of_getElem? (i := 1093) (by decide +kernel)⟩
theorem lw_p28 : lw_okq (⟨"HalvedProofModel", "takeClause", "()I"⟩, 53) := ⟨⟨by decide +kernel, by decide +kernel⟩, List.mem_of_getElem? (i := 911) (by decide +kernel), List.mem_of_getElem? (i := 1096) (by decide +kernel), List.mem_of_getElem? (i := 1097) (by decide +kernel)⟩
theorem lw_p29 : lw_okq (⟨"HalvedProofModel", "readWord", "()V"⟩, 53) := ⟨⟨by decide +kernel, by decide +kernel⟩, List.mem_of_getElem? (i := 911) (by decide +kernel), List.mem_of_getElem? (i := 1100) (by decide +kernel), List.mem_of_getElem? (i := 1101) (by decide +kernel)⟩
theorem lw_p30 : lw_okq (⟨"HalvedProofModel", "fails", "(II)I"⟩, 53) := ⟨⟨by decide +kernel, by decide +kernel⟩, List.mem_of_getElem? (i := 911) (by decide +kernel), List.mem_of_getElem? (i := 1116) (by decide +kernel), List.mem_of_getElem? (i := 1117) (by decide +kernel)⟩
theorem lw_p31 : lw_okq (⟨"HalvedProofModel", "takeSuit", "()I"⟩, 53) := ⟨⟨by decide +kernel, by decide +kernel⟩, List.mem_of_getElem? (i := 911) (by decide +kernel), List.mem_of_getElem? (i := 1120) (by decide +kernel), List.mem_of_getElem? (i := 1121) (by decide +kernel)⟩
def lw_privs_2 : List (MethodName × Nat) := [(⟨"HalvedProof$Called", "fewestSpeakers", "(I)I"⟩, 12), (⟨"HalvedProof$Called", "suffices", "(JI)Z"⟩, 12), (⟨"HalvedProof$Called", "setDays", "(II)V"⟩, 12), (⟨"HalvedProof$Called", "othersMakeUp", "(IIIJ)Z"⟩, 12), (⟨"HalvedProof$Called", "findWins", "()V"⟩, 12), (⟨"HalvedProof$Called", "stopsAll", "(I)Z"⟩, 12), (⟨"HalvedProof$Called", "asWitnesses", "(I)I"⟩, 12), (⟨"HalvedProof$Duel", "sideWins", "(III)Z"⟩, 5), (⟨"HalvedProof$Duel", "winsByCalling", "(IIII)Z"⟩, 5), (⟨"HalvedProof$Today", "speakersNeeded", "(I)I"⟩, 2), (⟨"HalvedProof$Today", "speakersOf", "(I)I"⟩, 2), (⟨"HalvedProofModel", "here", "()I"⟩, 53), (⟨"HalvedProofModel", "takeClause", "()I"⟩, 53), (⟨"HalvedProofModel", "readWord", "()V"⟩, 53), (⟨"HalvedProofModel", "fails", "(II)I"⟩, 53), (⟨"HalvedProofModel", "takeSuit", "()I"⟩, 53)]
theorem lw_r2 : ∀ q ∈ lw_privs_2, lw_okq q := List.forall_mem_cons.mpr ⟨lw_p16, List.forall_mem_cons.mpr ⟨lw_p17, List.forall_mem_cons.mpr ⟨lw_p18, List.forall_mem_cons.mpr ⟨lw_p19, List.forall_mem_cons.mpr ⟨lw_p20, List.forall_mem_cons.mpr ⟨lw_p21, List.forall_mem_cons.mpr ⟨lw_p22, List.forall_mem_cons.mpr ⟨lw_p23, List.forall_mem_cons.mpr ⟨lw_p24, List.forall_mem_cons.mpr ⟨lw_p25, List.forall_mem_cons.mpr ⟨lw_p26, List.forall_mem_cons.mpr ⟨lw_p27, List.forall_mem_cons.mpr ⟨lw_p28, List.forall_mem_cons.mpr ⟨lw_p29, List.forall_mem_cons.mpr ⟨lw_p30, List.forall_mem_cons.mpr ⟨lw_p31, fun _ h => absurd h List.not_mem_nil⟩⟩⟩⟩⟩⟩⟩⟩⟩⟩⟩⟩⟩⟩⟩⟩
theorem lw_p32 : lw_okq (⟨"HalvedProofModel", "takeNumber", "(II)I"⟩, 53) := ⟨⟨by decide +kernel, by decide +kernel⟩, List.mem_of_getElem? (i := 911) (by decide +kernel), List.mem_of_getElem? (i := 1124) (by decide +kernel), List.mem_of_getElem? (i := 1125) (by decide +kernel)⟩
theorem lw_p33 : lw_okq (⟨"HalvedProofModel", "takeWitness", "()I"⟩, 53) := ⟨⟨by decide +kernel, by decide +kernel⟩, List.mem_of_getElem? (i := 911) (by decide +kernel), List.mem_of_getElem? (i := 1131) (by decide +kernel), List.mem_of_getElem? (i := 1132) (by decide +kernel)⟩
theorem lw_p34 : lw_okq (⟨"HalvedProofModel", "takeKind", "()I"⟩, 53) := ⟨⟨by decide +kernel, by decide +kernel⟩, List.mem_of_getElem? (i := 911) (by decide +kernel), List.mem_of_getElem? (i := 1135) (by decide +kernel), List.mem_of_getElem? (i := 1136) (by decide +kernel)⟩
theorem lw_p35 : lw_okq (⟨"HalvedProofModel", "takeStop", "()I"⟩, 53) := ⟨⟨by decide +kernel, by decide +kernel⟩, List.mem_of_getElem? (i := 911) (by decide +kernel), List.mem_of_getElem? (i := 1139) (by decide +kernel), List.mem_of_getElem? (i := 1140) (by decide +kernel)⟩
theorem lw_p36 : lw_okq (⟨"HalvedProofModel", "anew", "()V"⟩, 53) := ⟨⟨by decide +kernel, by decide +kernel⟩, List.mem_of_getElem? (i := 911) (by decide +kernel), List.mem_of_getElem? (i := 1143) (by decide +kernel), List.mem_of_getElem? (i := 1144) (by decide +kernel)⟩
theorem lw_p37 : lw_okq (⟨"HalvedProofModel", "takeLaw", "()I"⟩, 53) := ⟨⟨by decide +kernel, by decide +kernel⟩, List.mem_of_getElem? (i := 911) (by decide +kernel), List.mem_of_getElem? (i := 1152) (by decide +kernel), List.mem_of_getElem? (i := 1153) (by decide +kernel)⟩
theorem lw_p38 : lw_okq (⟨"HalvedProofModel", "lawOf", "(II)I"⟩, 53) := ⟨⟨by decide +kernel, by decide +kernel⟩, List.mem_of_getElem? (i := 911) (by decide +kernel), List.mem_of_getElem? (i := 1165) (by decide +kernel), List.mem_of_getElem? (i := 1166) (by decide +kernel)⟩
theorem lw_p39 : lw_okq (⟨"HalvedProofModel", "isSuit", "(I)Z"⟩, 53) := ⟨⟨by decide +kernel, by decide +kernel⟩, List.mem_of_getElem? (i := 911) (by decide +kernel), List.mem_of_getElem? (i := 1173) (by decide +kernel), List.mem_of_getElem? (i := 1174) (by decide +kernel)⟩
theorem lw_p40 : lw_okq (⟨"HalvedProofModel", "witnessesOf", "(I)I"⟩, 53) := ⟨⟨by decide +kernel, by decide +kernel⟩, List.mem_of_getElem? (i := 911) (by decide +kernel), List.mem_of_getElem? (i := 1178) (by decide +kernel), List.mem_of_getElem? (i := 1179) (by decide +kernel)⟩
theorem lw_p41 : lw_okq (⟨"HalvedProofModel", "isWitness", "(I)Z"⟩, 53) := ⟨⟨by decide +kernel, by decide +kernel⟩, List.mem_of_getElem? (i := 911) (by decide +kernel), List.mem_of_getElem? (i := 1186) (by decide +kernel), List.mem_of_getElem? (i := 1187) (by decide +kernel)⟩
theorem lw_p42 : lw_okq (⟨"HalvedProofModel", "freshOn", "(II)I"⟩, 53) := ⟨⟨by decide +kernel, by decide +kernel⟩, List.mem_of_getElem? (i := 911) (by decide +kernel), List.mem_of_getElem? (i := 1190) (by decide +kernel), List.mem_of_getElem? (i := 1191) (by decide +kernel)⟩
theorem lw_p43 : lw_okq (⟨"HalvedProofModel", "mayNow", "(I)Z"⟩, 53) := ⟨⟨by decide +kernel, by decide +kernel⟩, List.mem_of_getElem? (i := 911) (by decide +kernel), List.mem_of_getElem? (i := 1194) (by decide +kernel), List.mem_of_getElem? (i := 1195) (by decide +kernel)⟩
theorem lw_p44 : lw_okq (⟨"HalvedProofModel", "mayOn", "(II)Z"⟩, 53) := ⟨⟨by decide +kernel, by decide +kernel⟩, List.mem_of_getElem? (i := 911) (by decide +kernel), List.mem_of_getElem? (i := 1198) (by decide +kernel), List.mem_of_getElem? (i := 1199) (by decide +kernel)⟩
theorem lw_p45 : lw_okq (⟨"HalvedProofModel", "speak", "(I)V"⟩, 53) := ⟨⟨by decide +kernel, by decide +kernel⟩, List.mem_of_getElem? (i := 911) (by decide +kernel), List.mem_of_getElem? (i := 1211) (by decide +kernel), List.mem_of_getElem? (i := 1212) (by decide +kernel)⟩
theorem lw_p46 : lw_okq (⟨"HalvedProofModel", "lookAt", "(I)V"⟩, 53) := ⟨⟨by decide +kernel, by decide +kernel⟩, List.mem_of_getElem? (i := 911) (by decide +kernel), List.mem_of_getElem? (i := 1215) (by decide +kernel), List.mem_of_getElem? (i := 1216) (by decide +kernel)⟩
theorem lw_p47 : lw_okq (⟨"HalvedProofModel", "isEnough", "(I)Z"⟩, 53) := ⟨⟨by decide +kernel, by decide +kernel⟩, List.mem_of_getElem? (i := 911) (by decide +kernel), List.mem_of_getElem? (i := 1219) (by decide +kernel), List.mem_of_getElem? (i := 1220) (by decide +kernel)⟩
def lw_privs_3 : List (MethodName × Nat) := [(⟨"HalvedProofModel", "takeNumber", "(II)I"⟩, 53), (⟨"HalvedProofModel", "takeWitness", "()I"⟩, 53), (⟨"HalvedProofModel", "takeKind", "()I"⟩, 53), (⟨"HalvedProofModel", "takeStop", "()I"⟩, 53), (⟨"HalvedProofModel", "anew", "()V"⟩, 53), (⟨"HalvedProofModel", "takeLaw", "()I"⟩, 53), (⟨"HalvedProofModel", "lawOf", "(II)I"⟩, 53), (⟨"HalvedProofModel", "isSuit", "(I)Z"⟩, 53), (⟨"HalvedProofModel", "witnessesOf", "(I)I"⟩, 53), (⟨"HalvedProofModel", "isWitness", "(I)Z"⟩, 53), (⟨"HalvedProofModel", "freshOn", "(II)I"⟩, 53), (⟨"HalvedProofModel", "mayNow", "(I)Z"⟩, 53), (⟨"HalvedProofModel", "mayOn", "(II)Z"⟩, 53), (⟨"HalvedProofModel", "speak", "(I)V"⟩, 53), (⟨"HalvedProofModel", "lookAt", "(I)V"⟩, 53), (⟨"HalvedProofModel", "isEnough", "(I)Z"⟩, 53)]
theorem lw_r3 : ∀ q ∈ lw_privs_3, lw_okq q := List.forall_mem_cons.mpr ⟨lw_p32, List.forall_mem_cons.mpr ⟨lw_p33, List.forall_mem_cons.mpr ⟨lw_p34, List.forall_mem_cons.mpr ⟨lw_p35, List.forall_mem_cons.mpr ⟨lw_p36, List.forall_mem_cons.mpr ⟨lw_p37, List.forall_mem_cons.mpr ⟨lw_p38, List.forall_mem_cons.mpr ⟨lw_p39, List.forall_mem_cons.mpr ⟨lw_p40, List.forall_mem_cons.mpr ⟨lw_p41, List.forall_mem_cons.mpr ⟨lw_p42, List.forall_mem_cons.mpr ⟨lw_p43, List.forall_mem_cons.mpr ⟨lw_p44, List.forall_mem_cons.mpr ⟨lw_p45, List.forall_mem_cons.mpr ⟨lw_p46, List.forall_mem_cons.mpr ⟨lw_p47, fun _ h => absurd h List.not_mem_nil⟩⟩⟩⟩⟩⟩⟩⟩⟩⟩⟩⟩⟩⟩⟩⟩
theorem lw_p48 : lw_okq (⟨"HalvedProofModel", "darken", "()V"⟩, 53) := ⟨⟨by decide +kernel, by decide +kernel⟩, List.mem_of_getElem? (i := 911) (by decide +kernel), List.mem_of_getElem? (i := 1232) (by decide +kernel), List.mem_of_getElem? (i := 1233) (by decide +kernel)⟩
theorem lw_p49 : lw_okq (⟨"HalvedProofModel", "halve", "(I)V"⟩, 53) := ⟨⟨by decide +kernel, by decide +kernel⟩, List.mem_of_getElem? (i := 911) (by decide +kernel), List.mem_of_getElem? (i := 1236) (by decide +kernel), List.mem_of_getElem? (i := 1237) (by decide +kernel)⟩
theorem lw_p50 : lw_okq (⟨"HalvedProofModel", "draw", "(I)I"⟩, 53) := ⟨⟨by decide +kernel, by decide +kernel⟩, List.mem_of_getElem? (i := 911) (by decide +kernel), List.mem_of_getElem? (i := 1246) (by decide +kernel), List.mem_of_getElem? (i := 1247) (by decide +kernel)⟩
theorem lw_p51 : lw_okq (⟨"HalvedProofModel", "mostOn", "(II)J"⟩, 53) := ⟨⟨by decide +kernel, by decide +kernel⟩, List.mem_of_getElem? (i := 911) (by decide +kernel), List.mem_of_getElem? (i := 1263) (by decide +kernel), List.mem_of_getElem? (i := 1264) (by decide +kernel)⟩
theorem lw_p52 : lw_okq (⟨"HalvedProofModel", "listOwn", "(I)V"⟩, 53) := ⟨⟨by decide +kernel, by decide +kernel⟩, List.mem_of_getElem? (i := 911) (by decide +kernel), List.mem_of_getElem? (i := 1267) (by decide +kernel), List.mem_of_getElem? (i := 1268) (by decide +kernel)⟩
theorem lw_p53 : lw_okq (⟨"HalvedProofModel", "unsettle", "()V"⟩, 53) := ⟨⟨by decide +kernel, by decide +kernel⟩, List.mem_of_getElem? (i := 911) (by decide +kernel), List.mem_of_getElem? (i := 1271) (by decide +kernel), List.mem_of_getElem? (i := 1272) (by decide +kernel)⟩
theorem lw_p54 : lw_okq (⟨"HalvedProofModel", "findMosts", "(I)V"⟩, 53) := ⟨⟨by decide +kernel, by decide +kernel⟩, List.mem_of_getElem? (i := 911) (by decide +kernel), List.mem_of_getElem? (i := 1275) (by decide +kernel), List.mem_of_getElem? (i := 1276) (by decide +kernel)⟩
theorem lw_p55 : lw_okq (⟨"HalvedProofModel", "callOn", "(I)V"⟩, 53) := ⟨⟨by decide +kernel, by decide +kernel⟩, List.mem_of_getElem? (i := 911) (by decide +kernel), List.mem_of_getElem? (i := 1279) (by decide +kernel), List.mem_of_getElem? (i := 1280) (by decide +kernel)⟩
theorem lw_p56 : lw_okq (⟨"HalvedProofModel", "room", "(I)I"⟩, 53) := ⟨⟨by decide +kernel, by decide +kernel⟩, List.mem_of_getElem? (i := 911) (by decide +kernel), List.mem_of_getElem? (i := 1285) (by decide +kernel), List.mem_of_getElem? (i := 1286) (by decide +kernel)⟩
theorem lw_p57 : lw_okq (⟨"HalvedProofModel", "canCall", "(II)Z"⟩, 53) := ⟨⟨by decide +kernel, by decide +kernel⟩, List.mem_of_getElem? (i := 911) (by decide +kernel), List.mem_of_getElem? (i := 1292) (by decide +kernel), List.mem_of_getElem? (i := 1293) (by decide +kernel)⟩
theorem lw_p58 : lw_okq (⟨"HalvedProofModel", "mayCall", "(II)Z"⟩, 53) := ⟨⟨by decide +kernel, by decide +kernel⟩, List.mem_of_getElem? (i := 911) (by decide +kernel), List.mem_of_getElem? (i := 1299) (by decide +kernel), List.mem_of_getElem? (i := 1300) (by decide +kernel)⟩
theorem lw_p59 : lw_okq (⟨"HalvedProofModel", "valueOf", "(II)J"⟩, 53) := ⟨⟨by decide +kernel, by decide +kernel⟩, List.mem_of_getElem? (i := 911) (by decide +kernel), List.mem_of_getElem? (i := 1303) (by decide +kernel), List.mem_of_getElem? (i := 1304) (by decide +kernel)⟩
theorem lw_p60 : lw_okq (⟨"HalvedProofModel", "greatest", "()J"⟩, 53) := ⟨⟨by decide +kernel, by decide +kernel⟩, List.mem_of_getElem? (i := 911) (by decide +kernel), List.mem_of_getElem? (i := 1307) (by decide +kernel), List.mem_of_getElem? (i := 1308) (by decide +kernel)⟩
theorem lw_p61 : lw_okq (⟨"HalvedProofModel", "wholeBy", "(IIJ)J"⟩, 53) := ⟨⟨by decide +kernel, by decide +kernel⟩, List.mem_of_getElem? (i := 911) (by decide +kernel), List.mem_of_getElem? (i := 1311) (by decide +kernel), List.mem_of_getElem? (i := 1312) (by decide +kernel)⟩
theorem lw_p62 : lw_okq (⟨"HalvedProofModel", "soonestOf", "(I)I"⟩, 53) := ⟨⟨by decide +kernel, by decide +kernel⟩, List.mem_of_getElem? (i := 911) (by decide +kernel), List.mem_of_getElem? (i := 1319) (by decide +kernel), List.mem_of_getElem? (i := 1320) (by decide +kernel)⟩
theorem lw_p63 : lw_okq (⟨"HalvedProofModel", "findPlan", "(I)I"⟩, 53) := ⟨⟨by decide +kernel, by decide +kernel⟩, List.mem_of_getElem? (i := 911) (by decide +kernel), List.mem_of_getElem? (i := 1328) (by decide +kernel), List.mem_of_getElem? (i := 1329) (by decide +kernel)⟩
def lw_privs_4 : List (MethodName × Nat) := [(⟨"HalvedProofModel", "darken", "()V"⟩, 53), (⟨"HalvedProofModel", "halve", "(I)V"⟩, 53), (⟨"HalvedProofModel", "draw", "(I)I"⟩, 53), (⟨"HalvedProofModel", "mostOn", "(II)J"⟩, 53), (⟨"HalvedProofModel", "listOwn", "(I)V"⟩, 53), (⟨"HalvedProofModel", "unsettle", "()V"⟩, 53), (⟨"HalvedProofModel", "findMosts", "(I)V"⟩, 53), (⟨"HalvedProofModel", "callOn", "(I)V"⟩, 53), (⟨"HalvedProofModel", "room", "(I)I"⟩, 53), (⟨"HalvedProofModel", "canCall", "(II)Z"⟩, 53), (⟨"HalvedProofModel", "mayCall", "(II)Z"⟩, 53), (⟨"HalvedProofModel", "valueOf", "(II)J"⟩, 53), (⟨"HalvedProofModel", "greatest", "()J"⟩, 53), (⟨"HalvedProofModel", "wholeBy", "(IIJ)J"⟩, 53), (⟨"HalvedProofModel", "soonestOf", "(I)I"⟩, 53), (⟨"HalvedProofModel", "findPlan", "(I)I"⟩, 53)]
theorem lw_r4 : ∀ q ∈ lw_privs_4, lw_okq q := List.forall_mem_cons.mpr ⟨lw_p48, List.forall_mem_cons.mpr ⟨lw_p49, List.forall_mem_cons.mpr ⟨lw_p50, List.forall_mem_cons.mpr ⟨lw_p51, List.forall_mem_cons.mpr ⟨lw_p52, List.forall_mem_cons.mpr ⟨lw_p53, List.forall_mem_cons.mpr ⟨lw_p54, List.forall_mem_cons.mpr ⟨lw_p55, List.forall_mem_cons.mpr ⟨lw_p56, List.forall_mem_cons.mpr ⟨lw_p57, List.forall_mem_cons.mpr ⟨lw_p58, List.forall_mem_cons.mpr ⟨lw_p59, List.forall_mem_cons.mpr ⟨lw_p60, List.forall_mem_cons.mpr ⟨lw_p61, List.forall_mem_cons.mpr ⟨lw_p62, List.forall_mem_cons.mpr ⟨lw_p63, fun _ h => absurd h List.not_mem_nil⟩⟩⟩⟩⟩⟩⟩⟩⟩⟩⟩⟩⟩⟩⟩⟩
theorem lw_p64 : lw_okq (⟨"HalvedProofModel", "isEnoughBy", "(III)Z"⟩, 53) := ⟨⟨by decide +kernel, by decide +kernel⟩, List.mem_of_getElem? (i := 911) (by decide +kernel), List.mem_of_getElem? (i := 1332) (by decide +kernel), List.mem_of_getElem? (i := 1333) (by decide +kernel)⟩
theorem lw_p65 : lw_okq (⟨"HalvedProofModel", "wantOf", "(IIII)J"⟩, 53) := ⟨⟨by decide +kernel, by decide +kernel⟩, List.mem_of_getElem? (i := 911) (by decide +kernel), List.mem_of_getElem? (i := 1345) (by decide +kernel), List.mem_of_getElem? (i := 1346) (by decide +kernel)⟩
theorem lw_p66 : lw_okq (⟨"HalvedProofModel", "enoughBy", "(I)I"⟩, 53) := ⟨⟨by decide +kernel, by decide +kernel⟩, List.mem_of_getElem? (i := 911) (by decide +kernel), List.mem_of_getElem? (i := 1354) (by decide +kernel), List.mem_of_getElem? (i := 1355) (by decide +kernel)⟩
theorem lw_p67 : lw_okq (⟨"HalvedProofModel", "nextOrder", "(I)Z"⟩, 53) := ⟨⟨by decide +kernel, by decide +kernel⟩, List.mem_of_getElem? (i := 911) (by decide +kernel), List.mem_of_getElem? (i := 1358) (by decide +kernel), List.mem_of_getElem? (i := 1359) (by decide +kernel)⟩
theorem lw_p68 : lw_okq (⟨"HalvedProofModel", "swap", "(II)V"⟩, 53) := ⟨⟨by decide +kernel, by decide +kernel⟩, List.mem_of_getElem? (i := 911) (by decide +kernel), List.mem_of_getElem? (i := 1362) (by decide +kernel), List.mem_of_getElem? (i := 1363) (by decide +kernel)⟩
def lw_privs_5 : List (MethodName × Nat) := [(⟨"HalvedProofModel", "isEnoughBy", "(III)Z"⟩, 53), (⟨"HalvedProofModel", "wantOf", "(IIII)J"⟩, 53), (⟨"HalvedProofModel", "enoughBy", "(I)I"⟩, 53), (⟨"HalvedProofModel", "nextOrder", "(I)Z"⟩, 53), (⟨"HalvedProofModel", "swap", "(II)V"⟩, 53)]
theorem lw_r5 : ∀ q ∈ lw_privs_5, lw_okq q := List.forall_mem_cons.mpr ⟨lw_p64, List.forall_mem_cons.mpr ⟨lw_p65, List.forall_mem_cons.mpr ⟨lw_p66, List.forall_mem_cons.mpr ⟨lw_p67, List.forall_mem_cons.mpr ⟨lw_p68, fun _ h => absurd h List.not_mem_nil⟩⟩⟩⟩⟩
def lw_privs : List (MethodName × Nat) := lw_privs_1 ++ (lw_privs_2 ++ (lw_privs_3 ++ (lw_privs_4 ++ (lw_privs_5))))
def lw_tbl : List Cond := k2_sels lw_privs ++ tables_1
theorem lw_privs_ok : ∀ q ∈ lw_privs, lw_okq q := by
  show ∀ q ∈ lw_privs_1 ++ (lw_privs_2 ++ (lw_privs_3 ++ (lw_privs_4 ++ (lw_privs_5)))), lw_okq q
  exact List.forall_mem_append.mpr ⟨lw_r1, List.forall_mem_append.mpr ⟨lw_r2, List.forall_mem_append.mpr ⟨lw_r3, List.forall_mem_append.mpr ⟨lw_r4, lw_r5⟩⟩⟩⟩
end
section
def RX0 : String := "HalvedProof$Books"
def TX0 : u_T := fun k => match k with
  | 0 => ("HalvedProof$Books", "evenings", "[I", true)
  | _ => ("HalvedProof$Books", "thirds", "[[I", true)
def tyX0 : Nat → FieldType := fun k => match k with
  | 0 => .array .int
  | _ => .array (.array .int)
abbrev wsX00 : List Cond := u_ws RX0 TX0 2
theorem nmX0 : ∀ a, a < 2 → ∀ b, b < 2 → a ≠ b → (TX0 a).2.1 ≠ (TX0 b).2.1 := by decide +kernel
theorem tyX0_ok : ∀ k, k < 2 → parseFieldDescriptor (TX0 k).2.2.1 = some (tyX0 k) := by decide +kernel
abbrev cX0_init : ByteArray := prog_2_method_1_code
def yX0_init : MethodName := ⟨RX0, "<init>", "()V"⟩
abbrev cX0_tearAll : ByteArray := prog_2_method_2_code
def yX0_tearAll : MethodName := ⟨RX0, "tearAll", "()V"⟩
abbrev cX0_append : ByteArray := prog_2_method_3_code
def yX0_append : MethodName := ⟨RX0, "append", "(II)I"⟩
abbrev cX0_firstWrong : ByteArray := prog_2_method_4_code
def yX0_firstWrong : MethodName := ⟨RX0, "firstWrong", "(ILHalvedProof$State;)I"⟩
def RX1 : String := "HalvedProof$Called"
def TX1 : u_T := fun k => match k with
  | 0 => ("HalvedProof$Called", "trial", "LHalvedProof$Trial;", true)
  | 1 => ("HalvedProof$Called", "members", "[I", true)
  | 2 => ("HalvedProof$Called", "worth", "[[J", true)
  | 3 => ("HalvedProof$Called", "room", "[I", true)
  | 4 => ("HalvedProof$Called", "best", "[J", true)
  | 5 => ("HalvedProof$Called", "together", "[J", true)
  | 6 => ("HalvedProof$Called", "wins", "[Z", true)
  | 7 => ("HalvedProof$Called", "planned", "[I", true)
  | 8 => ("HalvedProof$Called", "size", "I", false)
  | 9 => ("HalvedProof$Called", "lastDay", "I", false)
  | 10 => ("HalvedProof$Called", "start", "J", false)
  | _ => ("HalvedProof$Called", "goal", "J", false)
def tyX1 : Nat → FieldType := fun k => match k with
  | 0 => .object "HalvedProof$Trial"
  | 1 => .array .int
  | 2 => .array (.array .long)
  | 3 => .array .int
  | 4 => .array .long
  | 5 => .array .long
  | 6 => .array .boolean
  | 7 => .array .int
  | 8 => .int
  | 9 => .int
  | 10 => .long
  | _ => .long
abbrev wsX10 : List Cond := u_ws RX1 TX1 12
theorem nmX1 : ∀ a, a < 12 → ∀ b, b < 12 → a ≠ b → (TX1 a).2.1 ≠ (TX1 b).2.1 := by decide +kernel
theorem tyX1_ok : ∀ k, k < 12 → parseFieldDescriptor (TX1 k).2.2.1 = some (tyX1 k) := by decide +kernel
abbrev cX1_init : ByteArray := prog_3_method_1_code
def yX1_init : MethodName := ⟨RX1, "<init>", "(LHalvedProof$Trial;)V"⟩
abbrev cX1_mostOn : ByteArray := prog_3_method_2_code
def yX1_mostOn : MethodName := ⟨RX1, "mostOn", "(II)I"⟩
abbrev cX1_soonestOf : ByteArray := prog_3_method_3_code
def yX1_soonestOf : MethodName := ⟨RX1, "soonestOf", "(I)I"⟩
abbrev cX1_plannedDayOf : ByteArray := prog_3_method_4_code
def yX1_plannedDayOf : MethodName := ⟨RX1, "plannedDayOf", "(II)I"⟩
abbrev cX1_fewestToStrike : ByteArray := prog_3_method_5_code
def yX1_fewestToStrike : MethodName := ⟨RX1, "fewestToStrike", "(I)I"⟩
abbrev cX1_prepare : ByteArray := prog_3_method_6_code
def yX1_prepare : MethodName := ⟨RX1, "prepare", "(I)V"⟩
abbrev cX1_allOfThem : ByteArray := prog_3_method_7_code
def yX1_allOfThem : MethodName := ⟨RX1, "allOfThem", "()I"⟩
abbrev cX1_clearPlans : ByteArray := prog_3_method_8_code
def yX1_clearPlans : MethodName := ⟨RX1, "clearPlans", "()V"⟩
abbrev cX1_callOn : ByteArray := prog_3_method_9_code
def yX1_callOn : MethodName := ⟨RX1, "callOn", "(II)V"⟩
abbrev cX1_addUp : ByteArray := prog_3_method_10_code
def yX1_addUp : MethodName := ⟨RX1, "addUp", "(I)I"⟩
abbrev cX1_greatest : ByteArray := prog_3_method_11_code
def yX1_greatest : MethodName := ⟨RX1, "greatest", "()J"⟩
abbrev cX1_suffices : ByteArray := prog_3_method_12_code
def yX1_suffices : MethodName := ⟨RX1, "suffices", "(JI)Z"⟩
abbrev cX1_fewestSpeakers : ByteArray := prog_3_method_13_code
def yX1_fewestSpeakers : MethodName := ⟨RX1, "fewestSpeakers", "(I)I"⟩
abbrev cX1_setDays : ByteArray := prog_3_method_14_code
def yX1_setDays : MethodName := ⟨RX1, "setDays", "(II)V"⟩
abbrev cX1_othersMakeUp : ByteArray := prog_3_method_15_code
def yX1_othersMakeUp : MethodName := ⟨RX1, "othersMakeUp", "(IIIJ)Z"⟩
abbrev cX1_findWins : ByteArray := prog_3_method_16_code
def yX1_findWins : MethodName := ⟨RX1, "findWins", "()V"⟩
abbrev cX1_stopsAll : ByteArray := prog_3_method_17_code
def yX1_stopsAll : MethodName := ⟨RX1, "stopsAll", "(I)Z"⟩
abbrev cX1_asWitnesses : ByteArray := prog_3_method_18_code
def yX1_asWitnesses : MethodName := ⟨RX1, "asWitnesses", "(I)I"⟩
def RX2 : String := "HalvedProof$Court"
def TX2 : u_T := fun k => match k with
  | 0 => ("HalvedProof$Court", "suits", "I", false)
  | 1 => ("HalvedProof$Court", "witnesses", "I", false)
  | 2 => ("HalvedProof$Court", "need", "[I", true)
  | 3 => ("HalvedProof$Court", "lasts", "[I", true)
  | 4 => ("HalvedProof$Court", "hangs", "[I", true)
  | 5 => ("HalvedProof$Court", "suitOf", "[I", true)
  | 6 => ("HalvedProof$Court", "weighs", "[I", true)
  | _ => ("HalvedProof$Court", "kind", "[I", true)
def tyX2 : Nat → FieldType := fun k => match k with
  | 0 => .int
  | 1 => .int
  | 2 => .array .int
  | 3 => .array .int
  | 4 => .array .int
  | 5 => .array .int
  | 6 => .array .int
  | _ => .array .int
abbrev wsX20 : List Cond := u_ws RX2 TX2 8
theorem nmX2 : ∀ a, a < 8 → ∀ b, b < 8 → a ≠ b → (TX2 a).2.1 ≠ (TX2 b).2.1 := by decide +kernel
theorem tyX2_ok : ∀ k, k < 8 → parseFieldDescriptor (TX2 k).2.2.1 = some (tyX2 k) := by decide +kernel
abbrev cX2_init : ByteArray := prog_4_method_1_code
def yX2_init : MethodName := ⟨RX2, "<init>", "()V"⟩
abbrev cX2_hasSuit : ByteArray := prog_4_method_2_code
def yX2_hasSuit : MethodName := ⟨RX2, "hasSuit", "(I)Z"⟩
abbrev cX2_hasWitness : ByteArray := prog_4_method_3_code
def yX2_hasWitness : MethodName := ⟨RX2, "hasWitness", "(I)Z"⟩
abbrev cX2_goalOf : ByteArray := prog_4_method_4_code
def yX2_goalOf : MethodName := ⟨RX2, "goalOf", "(I)I"⟩
abbrev cX2_witnessesOf : ByteArray := prog_4_method_5_code
def yX2_witnessesOf : MethodName := ⟨RX2, "witnessesOf", "(I)I"⟩
abbrev cX2_readFrom : ByteArray := prog_4_method_6_code
def yX2_readFrom : MethodName := ⟨RX2, "readFrom", "(LHalvedProof$Reader;)V"⟩
abbrev cX2_readSuit : ByteArray := prog_4_method_7_code
def yX2_readSuit : MethodName := ⟨RX2, "readSuit", "(LHalvedProof$Reader;)V"⟩
abbrev cX2_readWitness : ByteArray := prog_4_method_8_code
def yX2_readWitness : MethodName := ⟨RX2, "readWitness", "(LHalvedProof$Reader;)V"⟩
abbrev cX2_readKind : ByteArray := prog_4_method_9_code
def yX2_readKind : MethodName := ⟨RX2, "readKind", "(LHalvedProof$Reader;)I"⟩
def RX3 : String := "HalvedProof$Duel"
def TX3 : u_T := fun k => match k with
  | 0 => ("HalvedProof$Duel", "trial", "LHalvedProof$Trial;", true)
  | 1 => ("HalvedProof$Duel", "fresh", "[I", true)
  | 2 => ("HalvedProof$Duel", "pool", "I", false)
  | 3 => ("HalvedProof$Duel", "start", "I", false)
  | _ => ("HalvedProof$Duel", "goal", "I", false)
def tyX3 : Nat → FieldType := fun k => match k with
  | 0 => .object "HalvedProof$Trial"
  | 1 => .array .int
  | 2 => .int
  | 3 => .int
  | _ => .int
abbrev wsX30 : List Cond := u_ws RX3 TX3 5
theorem nmX3 : ∀ a, a < 5 → ∀ b, b < 5 → a ≠ b → (TX3 a).2.1 ≠ (TX3 b).2.1 := by decide +kernel
theorem tyX3_ok : ∀ k, k < 5 → parseFieldDescriptor (TX3 k).2.2.1 = some (tyX3 k) := by decide +kernel
abbrev cX3_init : ByteArray := prog_5_method_1_code
def yX3_init : MethodName := ⟨RX3, "<init>", "(LHalvedProof$Trial;)V"⟩
abbrev cX3_prepare : ByteArray := prog_5_method_2_code
def yX3_prepare : MethodName := ⟨RX3, "prepare", "(I)V"⟩
abbrev cX3_isWon : ByteArray := prog_5_method_3_code
def yX3_isWon : MethodName := ⟨RX3, "isWon", "()Z"⟩
abbrev cX3_bestCall : ByteArray := prog_5_method_4_code
def yX3_bestCall : MethodName := ⟨RX3, "bestCall", "()I"⟩
abbrev cX3_sideWins : ByteArray := prog_5_method_5_code
def yX3_sideWins : MethodName := ⟨RX3, "sideWins", "(III)Z"⟩
abbrev cX3_winsByCalling : ByteArray := prog_5_method_6_code
def yX3_winsByCalling : MethodName := ⟨RX3, "winsByCalling", "(IIII)Z"⟩
abbrev cX3_has : ByteArray := prog_5_method_7_code
def yX3_has : MethodName := ⟨RX3, "has", "(II)Z"⟩
def RX4 : String := "HalvedProof$Laws"
def TX4 : u_T := fun k => match k with
  | 0 => ("HalvedProof$Laws", "clauses", "I", false)
  | 1 => ("HalvedProof$Laws", "from", "[I", true)
  | 2 => ("HalvedProof$Laws", "copies", "[I", true)
  | 3 => ("HalvedProof$Laws", "moon", "[I", true)
  | _ => ("HalvedProof$Laws", "talkers", "[I", true)
def tyX4 : Nat → FieldType := fun k => match k with
  | 0 => .int
  | 1 => .array .int
  | 2 => .array .int
  | 3 => .array .int
  | _ => .array .int
abbrev wsX40 : List Cond := u_ws RX4 TX4 5
theorem nmX4 : ∀ a, a < 5 → ∀ b, b < 5 → a ≠ b → (TX4 a).2.1 ≠ (TX4 b).2.1 := by decide +kernel
theorem tyX4_ok : ∀ k, k < 5 → parseFieldDescriptor (TX4 k).2.2.1 = some (tyX4 k) := by decide +kernel
abbrev cX4_init : ByteArray := prog_6_method_1_code
def yX4_init : MethodName := ⟨RX4, "<init>", "()V"⟩
abbrev cX4_copiesOn : ByteArray := prog_6_method_2_code
def yX4_copiesOn : MethodName := ⟨RX4, "copiesOn", "(I)I"⟩
abbrev cX4_moonOn : ByteArray := prog_6_method_3_code
def yX4_moonOn : MethodName := ⟨RX4, "moonOn", "(I)I"⟩
abbrev cX4_talkersOn : ByteArray := prog_6_method_4_code
def yX4_talkersOn : MethodName := ⟨RX4, "talkersOn", "(I)I"⟩
abbrev cX4_readFrom : ByteArray := prog_6_method_5_code
def yX4_readFrom : MethodName := ⟨RX4, "readFrom", "(LHalvedProof$Reader;)V"⟩
abbrev cX4_readClause : ByteArray := prog_6_method_6_code
def yX4_readClause : MethodName := ⟨RX4, "readClause", "(LHalvedProof$Reader;)V"⟩
abbrev cX4_clauseOn : ByteArray := prog_6_method_7_code
def yX4_clauseOn : MethodName := ⟨RX4, "clauseOn", "(I)I"⟩
def RX5 : String := "HalvedProof$Reader"
def TX5 : u_T := fun k => match k with
  | 0 => ("HalvedProof$Reader", "text", "LHalvedProof$Text;", true)
  | 1 => ("HalvedProof$Reader", "fault", "I", false)
  | 2 => ("HalvedProof$Reader", "faultPlace", "I", false)
  | 3 => ("HalvedProof$Reader", "place", "I", false)
  | _ => ("HalvedProof$Reader", "takenPlace", "I", false)
def tyX5 : Nat → FieldType := fun k => match k with
  | 0 => .object "HalvedProof$Text"
  | 1 => .int
  | 2 => .int
  | 3 => .int
  | _ => .int
abbrev wsX50 : List Cond := u_ws RX5 TX5 5
theorem nmX5 : ∀ a, a < 5 → ∀ b, b < 5 → a ≠ b → (TX5 a).2.1 ≠ (TX5 b).2.1 := by decide +kernel
theorem tyX5_ok : ∀ k, k < 5 → parseFieldDescriptor (TX5 k).2.2.1 = some (tyX5 k) := by decide +kernel
abbrev cX5_init : ByteArray := prog_7_method_1_code
def yX5_init : MethodName := ⟨RX5, "<init>", "(LHalvedProof$Text;)V"⟩
abbrev cX5_start : ByteArray := prog_7_method_2_code
def yX5_start : MethodName := ⟨RX5, "start", "()V"⟩
abbrev cX5_hasMore : ByteArray := prog_7_method_3_code
def yX5_hasMore : MethodName := ⟨RX5, "hasMore", "()Z"⟩
abbrev cX5_isSound : ByteArray := prog_7_method_4_code
def yX5_isSound : MethodName := ⟨RX5, "isSound", "()Z"⟩
abbrev cX5_refuseHere : ByteArray := prog_7_method_5_code
def yX5_refuseHere : MethodName := ⟨RX5, "refuseHere", "(I)V"⟩
abbrev cX5_refuseTaken : ByteArray := prog_7_method_6_code
def yX5_refuseTaken : MethodName := ⟨RX5, "refuseTaken", "(I)V"⟩
abbrev cX5_takesWord : ByteArray := prog_7_method_7_code
def yX5_takesWord : MethodName := ⟨RX5, "takesWord", "(Ljava/lang/String;)Z"⟩
abbrev cX5_takeNumber : ByteArray := prog_7_method_8_code
def yX5_takeNumber : MethodName := ⟨RX5, "takeNumber", "(II)I"⟩
abbrev cX5_takeSemicolon : ByteArray := prog_7_method_9_code
def yX5_takeSemicolon : MethodName := ⟨RX5, "takeSemicolon", "()V"⟩
abbrev cX5_refuseAt : ByteArray := prog_7_method_10_code
def yX5_refuseAt : MethodName := ⟨RX5, "refuseAt", "(II)V"⟩
abbrev cX5_pass : ByteArray := prog_7_method_11_code
def yX5_pass : MethodName := ⟨RX5, "pass", "(I)V"⟩
abbrev cX5_seesWord : ByteArray := prog_7_method_12_code
def yX5_seesWord : MethodName := ⟨RX5, "seesWord", "(Ljava/lang/String;)Z"⟩
abbrev cX5_byteAt : ByteArray := prog_7_method_13_code
def yX5_byteAt : MethodName := ⟨RX5, "byteAt", "(I)I"⟩
abbrev cX5_isFigure : ByteArray := prog_7_method_14_code
def yX5_isFigure : MethodName := ⟨RX5, "isFigure", "(I)Z"⟩
abbrev cX5_isLetter : ByteArray := prog_7_method_15_code
def yX5_isLetter : MethodName := ⟨RX5, "isLetter", "(I)Z"⟩
def RX6 : String := "HalvedProof$State"
def TX6 : u_T := fun k => match k with
  | 0 => ("HalvedProof$State", "day", "I", false)
  | 1 => ("HalvedProof$State", "spoken", "I", false)
  | 2 => ("HalvedProof$State", "drawn", "I", false)
  | 3 => ("HalvedProof$State", "latest", "[I", true)
  | 4 => ("HalvedProof$State", "times", "[I", true)
  | 5 => ("HalvedProof$State", "struck", "[I", true)
  | 6 => ("HalvedProof$State", "whole", "[I", true)
  | 7 => ("HalvedProof$State", "course", "[I", true)
  | 8 => ("HalvedProof$State", "ended", "[I", true)
  | _ => ("HalvedProof$State", "atDusk", "[[I", true)
def tyX6 : Nat → FieldType := fun k => match k with
  | 0 => .int
  | 1 => .int
  | 2 => .int
  | 3 => .array .int
  | 4 => .array .int
  | 5 => .array .int
  | 6 => .array .int
  | 7 => .array .int
  | 8 => .array .int
  | _ => .array (.array .int)
abbrev wsX60 : List Cond := u_ws RX6 TX6 10
theorem nmX6 : ∀ a, a < 10 → ∀ b, b < 10 → a ≠ b → (TX6 a).2.1 ≠ (TX6 b).2.1 := by decide +kernel
theorem tyX6_ok : ∀ k, k < 10 → parseFieldDescriptor (TX6 k).2.2.1 = some (tyX6 k) := by decide +kernel
abbrev cX6_init : ByteArray := prog_8_method_1_code
def yX6_init : MethodName := ⟨RX6, "<init>", "()V"⟩
abbrev cX6_startAgain : ByteArray := prog_8_method_2_code
def yX6_startAgain : MethodName := ⟨RX6, "startAgain", "()V"⟩
abbrev cX6_become : ByteArray := prog_8_method_3_code
def yX6_become : MethodName := ⟨RX6, "become", "(LHalvedProof$State;)V"⟩
abbrev cX6_figure : ByteArray := prog_8_method_4_code
def yX6_figure : MethodName := ⟨RX6, "figure", "(II)I"⟩
abbrev cX6_halve : ByteArray := prog_8_method_5_code
def yX6_halve : MethodName := ⟨RX6, "halve", "(I)V"⟩
abbrev cX6_end : ByteArray := prog_8_method_6_code
def yX6_end : MethodName := ⟨RX6, "end", "(II)V"⟩
abbrev cX6_draw : ByteArray := prog_8_method_7_code
def yX6_draw : MethodName := ⟨RX6, "draw", "(I)I"⟩
def RX7 : String := "HalvedProof$Text"
def TX7 : u_T := fun k => match k with
  | 0 => ("HalvedProof$Text", "bytes", "[B", true)
  | _ => ("HalvedProof$Text", "length", "I", false)
def tyX7 : Nat → FieldType := fun k => match k with
  | 0 => .array .byte
  | _ => .int
abbrev wsX70 : List Cond := u_ws RX7 TX7 2
theorem nmX7 : ∀ a, a < 2 → ∀ b, b < 2 → a ≠ b → (TX7 a).2.1 ≠ (TX7 b).2.1 := by decide +kernel
theorem tyX7_ok : ∀ k, k < 2 → parseFieldDescriptor (TX7 k).2.2.1 = some (tyX7 k) := by decide +kernel
abbrev cX7_init : ByteArray := prog_9_method_1_code
def yX7_init : MethodName := ⟨RX7, "<init>", "()V"⟩
abbrev cX7_append : ByteArray := prog_9_method_2_code
def yX7_append : MethodName := ⟨RX7, "append", "(B)V"⟩
def RX8 : String := "HalvedProof$Today"
def TX8 : u_T := fun k => match k with
  | 0 => ("HalvedProof$Today", "trial", "LHalvedProof$Trial;", true)
  | _ => ("HalvedProof$Today", "speakers", "[I", true)
def tyX8 : Nat → FieldType := fun k => match k with
  | 0 => .object "HalvedProof$Trial"
  | _ => .array .int
abbrev wsX80 : List Cond := u_ws RX8 TX8 2
theorem nmX8 : ∀ a, a < 2 → ∀ b, b < 2 → a ≠ b → (TX8 a).2.1 ≠ (TX8 b).2.1 := by decide +kernel
theorem tyX8_ok : ∀ k, k < 2 → parseFieldDescriptor (TX8 k).2.2.1 = some (tyX8 k) := by decide +kernel
abbrev cX8_init : ByteArray := prog_10_method_1_code
def yX8_init : MethodName := ⟨RX8, "<init>", "(LHalvedProof$Trial;)V"⟩
abbrev cX8_winnableTogether : ByteArray := prog_10_method_2_code
def yX8_winnableTogether : MethodName := ⟨RX8, "winnableTogether", "()I"⟩
abbrev cX8_speakersOf : ByteArray := prog_10_method_3_code
def yX8_speakersOf : MethodName := ⟨RX8, "speakersOf", "(I)I"⟩
abbrev cX8_speakersNeeded : ByteArray := prog_10_method_4_code
def yX8_speakersNeeded : MethodName := ⟨RX8, "speakersNeeded", "(I)I"⟩
def RX9 : String := "HalvedProof$Trial"
def TX9 : u_T := fun k => match k with
  | 0 => ("HalvedProof$Trial", "court", "LHalvedProof$Court;", false)
  | 1 => ("HalvedProof$Trial", "laws", "LHalvedProof$Laws;", false)
  | _ => ("HalvedProof$Trial", "now", "LHalvedProof$State;", true)
def tyX9 : Nat → FieldType := fun k => match k with
  | 0 => .object "HalvedProof$Court"
  | 1 => .object "HalvedProof$Laws"
  | _ => .object "HalvedProof$State"
abbrev wsX90 : List Cond := u_ws RX9 TX9 3
theorem nmX9 : ∀ a, a < 3 → ∀ b, b < 3 → a ≠ b → (TX9 a).2.1 ≠ (TX9 b).2.1 := by decide +kernel
theorem tyX9_ok : ∀ k, k < 3 → parseFieldDescriptor (TX9 k).2.2.1 = some (tyX9 k) := by decide +kernel
abbrev cX9_init : ByteArray := prog_11_method_1_code
def yX9_init : MethodName := ⟨RX9, "<init>", "()V"⟩
abbrev cX9_goesOn : ByteArray := prog_11_method_2_code
def yX9_goesOn : MethodName := ⟨RX9, "goesOn", "(I)Z"⟩
abbrev cX9_freshOn : ByteArray := prog_11_method_3_code
def yX9_freshOn : MethodName := ⟨RX9, "freshOn", "(II)I"⟩
abbrev cX9_mayBeCalled : ByteArray := prog_11_method_4_code
def yX9_mayBeCalled : MethodName := ⟨RX9, "mayBeCalled", "(II)Z"⟩
abbrev cX9_maySpeak : ByteArray := prog_11_method_5_code
def yX9_maySpeak : MethodName := ⟨RX9, "maySpeak", "(I)Z"⟩
abbrev cX9_roomOn : ByteArray := prog_11_method_6_code
def yX9_roomOn : MethodName := ⟨RX9, "roomOn", "(I)I"⟩
abbrev cX9_hear : ByteArray := prog_11_method_7_code
def yX9_hear : MethodName := ⟨RX9, "hear", "(I)I"⟩
abbrev cX9_endDay : ByteArray := prog_11_method_8_code
def yX9_endDay : MethodName := ⟨RX9, "endDay", "()V"⟩
abbrev cX9_passDayByDraws : ByteArray := prog_11_method_9_code
def yX9_passDayByDraws : MethodName := ⟨RX9, "passDayByDraws", "(I)I"⟩
abbrev cX9_look : ByteArray := prog_11_method_10_code
def yX9_look : MethodName := ⟨RX9, "look", "(I)V"⟩
abbrev cX9_isCarried : ByteArray := prog_11_method_11_code
def yX9_isCarried : MethodName := ⟨RX9, "isCarried", "(I)Z"⟩
def RX10 : String := "HalvedProof"
def TX10 : u_T := fun k => match k with
  | 0 => ("HalvedProof", "text", "LHalvedProof$Text;", true)
  | 1 => ("HalvedProof", "reader", "LHalvedProof$Reader;", true)
  | 2 => ("HalvedProof", "trial", "LHalvedProof$Trial;", true)
  | 3 => ("HalvedProof", "called", "LHalvedProof$Called;", true)
  | 4 => ("HalvedProof", "duel", "LHalvedProof$Duel;", true)
  | 5 => ("HalvedProof", "today", "LHalvedProof$Today;", true)
  | 6 => ("HalvedProof", "books", "LHalvedProof$Books;", true)
  | 7 => ("HalvedProof", "images", "[LHalvedProof$State;", true)
  | 8 => ("HalvedProof", "kept", "[Z", true)
  | 9 => ("HalvedProof", "spareCourt", "LHalvedProof$Court;", false)
  | 10 => ("HalvedProof", "spareLaws", "LHalvedProof$Laws;", false)
  | _ => ("HalvedProof", "faultPlace", "I", false)
def tyX10 : Nat → FieldType := fun k => match k with
  | 0 => .object "HalvedProof$Text"
  | 1 => .object "HalvedProof$Reader"
  | 2 => .object "HalvedProof$Trial"
  | 3 => .object "HalvedProof$Called"
  | 4 => .object "HalvedProof$Duel"
  | 5 => .object "HalvedProof$Today"
  | 6 => .object "HalvedProof$Books"
  | 7 => .array (.object "HalvedProof$State")
  | 8 => .array .boolean
  | 9 => .object "HalvedProof$Court"
  | 10 => .object "HalvedProof$Laws"
  | _ => .int
abbrev wsX100 : List Cond := u_ws RX10 TX10 12
theorem nmX10 : ∀ a, a < 12 → ∀ b, b < 12 → a ≠ b → (TX10 a).2.1 ≠ (TX10 b).2.1 := by decide +kernel
theorem tyX10_ok : ∀ k, k < 12 → parseFieldDescriptor (TX10 k).2.2.1 = some (tyX10 k) := by decide +kernel
abbrev cX10_init : ByteArray := prog_1_method_1_code
def yX10_init : MethodName := ⟨RX10, "<init>", "()V"⟩
abbrev cX10_feed : ByteArray := prog_1_method_2_code
def yX10_feed : MethodName := ⟨RX10, "feed", "(IJ)I"⟩
abbrev cX10_court : ByteArray := prog_1_method_3_code
def yX10_court : MethodName := ⟨RX10, "court", "()I"⟩
abbrev cX10_laws : ByteArray := prog_1_method_4_code
def yX10_laws : MethodName := ⟨RX10, "laws", "()I"⟩
abbrev cX10_fault : ByteArray := prog_1_method_5_code
def yX10_fault : MethodName := ⟨RX10, "fault", "()I"⟩
abbrev cX10_told : ByteArray := prog_1_method_6_code
def yX10_told : MethodName := ⟨RX10, "told", "(I)I"⟩
abbrev cX10_suit : ByteArray := prog_1_method_7_code
def yX10_suit : MethodName := ⟨RX10, "suit", "(II)I"⟩
abbrev cX10_witness : ByteArray := prog_1_method_8_code
def yX10_witness : MethodName := ⟨RX10, "witness", "(II)I"⟩
abbrev cX10_weight : ByteArray := prog_1_method_9_code
def yX10_weight : MethodName := ⟨RX10, "weight", "(II)I"⟩
abbrev cX10_say : ByteArray := prog_1_method_10_code
def yX10_say : MethodName := ⟨RX10, "say", "(I)I"⟩
abbrev cX10_strike : ByteArray := prog_1_method_11_code
def yX10_strike : MethodName := ⟨RX10, "strike", "(IZ)I"⟩
abbrev cX10_dusk : ByteArray := prog_1_method_12_code
def yX10_dusk : MethodName := ⟨RX10, "dusk", "(I)I"⟩
abbrev cX10_drift : ByteArray := prog_1_method_13_code
def yX10_drift : MethodName := ⟨RX10, "drift", "(II)I"⟩
abbrev cX10_begin : ByteArray := prog_1_method_14_code
def yX10_begin : MethodName := ⟨RX10, "begin", "()I"⟩
abbrev cX10_most : ByteArray := prog_1_method_15_code
def yX10_most : MethodName := ⟨RX10, "most", "(II)I"⟩
abbrev cX10_soonest : ByteArray := prog_1_method_16_code
def yX10_soonest : MethodName := ⟨RX10, "soonest", "(I)I"⟩
abbrev cX10_plan : ByteArray := prog_1_method_17_code
def yX10_plan : MethodName := ⟨RX10, "plan", "(I)I"⟩
abbrev cX10_cut : ByteArray := prog_1_method_18_code
def yX10_cut : MethodName := ⟨RX10, "cut", "(I)I"⟩
abbrev cX10_turns : ByteArray := prog_1_method_19_code
def yX10_turns : MethodName := ⟨RX10, "turns", "(II)I"⟩
abbrev cX10_many : ByteArray := prog_1_method_20_code
def yX10_many : MethodName := ⟨RX10, "many", "(I)I"⟩
abbrev cX10_write : ByteArray := prog_1_method_21_code
def yX10_write : MethodName := ⟨RX10, "write", "(II)I"⟩
abbrev cX10_tear : ByteArray := prog_1_method_22_code
def yX10_tear : MethodName := ⟨RX10, "tear", "(I)I"⟩
abbrev cX10_judge : ByteArray := prog_1_method_23_code
def yX10_judge : MethodName := ⟨RX10, "judge", "(I)I"⟩
abbrev cX10_evening : ByteArray := prog_1_method_24_code
def yX10_evening : MethodName := ⟨RX10, "evening", "(II)I"⟩
abbrev cX10_seed : ByteArray := prog_1_method_25_code
def yX10_seed : MethodName := ⟨RX10, "seed", "(I)I"⟩
abbrev cX10_keep : ByteArray := prog_1_method_26_code
def yX10_keep : MethodName := ⟨RX10, "keep", "(I)I"⟩
abbrev cX10_goBack : ByteArray := prog_1_method_27_code
def yX10_goBack : MethodName := ⟨RX10, "goBack", "(I)I"⟩
abbrev cX10_oneIf : ByteArray := prog_1_method_28_code
def yX10_oneIf : MethodName := ⟨RX10, "oneIf", "(Z)I"⟩
def RX11 : String := "HalvedProofModel"
def TX11 : u_T := fun k => match k with
  | 0 => ("HalvedProofModel", "suits", "I", false)
  | 1 => ("HalvedProofModel", "need", "[I", true)
  | 2 => ("HalvedProofModel", "falls", "[I", true)
  | 3 => ("HalvedProofModel", "hangs", "[I", true)
  | 4 => ("HalvedProofModel", "witnesses", "I", false)
  | 5 => ("HalvedProofModel", "suitOf", "[I", true)
  | 6 => ("HalvedProofModel", "weightOf", "[I", true)
  | 7 => ("HalvedProofModel", "kindOf", "[I", true)
  | 8 => ("HalvedProofModel", "laws", "I", false)
  | 9 => ("HalvedProofModel", "law", "[I", true)
  | 10 => ("HalvedProofModel", "last", "[I", true)
  | 11 => ("HalvedProofModel", "often", "[I", true)
  | 12 => ("HalvedProofModel", "isStruck", "[Z", true)
  | 13 => ("HalvedProofModel", "day", "I", false)
  | 14 => ("HalvedProofModel", "spoken", "I", false)
  | 15 => ("HalvedProofModel", "how", "[I", true)
  | 16 => ("HalvedProofModel", "howDay", "[I", true)
  | 17 => ("HalvedProofModel", "whole", "[I", true)
  | 18 => ("HalvedProofModel", "figures", "[I", true)
  | 19 => ("HalvedProofModel", "evenings", "[I", true)
  | 20 => ("HalvedProofModel", "seed", "I", false)
  | 21 => ("HalvedProofModel", "text", "[I", true)
  | 22 => ("HalvedProofModel", "texted", "I", false)
  | 23 => ("HalvedProofModel", "faultPlace", "I", false)
  | 24 => ("HalvedProofModel", "at0", "I", false)
  | 25 => ("HalvedProofModel", "said", "J", false)
  | 26 => ("HalvedProofModel", "wordEnd", "I", false)
  | 27 => ("HalvedProofModel", "number", "I", false)
  | 28 => ("HalvedProofModel", "numberAt", "I", false)
  | 29 => ("HalvedProofModel", "readSuits", "I", false)
  | 30 => ("HalvedProofModel", "readNeed", "[I", true)
  | 31 => ("HalvedProofModel", "readFalls", "[I", true)
  | 32 => ("HalvedProofModel", "readHangs", "[I", true)
  | 33 => ("HalvedProofModel", "readWitnesses", "I", false)
  | 34 => ("HalvedProofModel", "readSuitOf", "[I", true)
  | 35 => ("HalvedProofModel", "readWeight", "[I", true)
  | 36 => ("HalvedProofModel", "readKind", "[I", true)
  | 37 => ("HalvedProofModel", "readLaws", "I", false)
  | 38 => ("HalvedProofModel", "readLaw", "[I", true)
  | 39 => ("HalvedProofModel", "own", "[I", true)
  | 40 => ("HalvedProofModel", "owned", "I", false)
  | 41 => ("HalvedProofModel", "settled", "[I", true)
  | 42 => ("HalvedProofModel", "mosts", "[J", true)
  | 43 => ("HalvedProofModel", "then", "[J", true)
  | 44 => ("HalvedProofModel", "wereStruck", "[Z", true)
  | 45 => ("HalvedProofModel", "wants", "[J", true)
  | 46 => ("HalvedProofModel", "order", "[I", true)
  | 47 => ("HalvedProofModel", "booked", "[I", true)
  | 48 => ("HalvedProofModel", "bookRow", "[I", true)
  | 49 => ("HalvedProofModel", "images", "[I", true)
  | 50 => ("HalvedProofModel", "imageFigures", "[I", true)
  | 51 => ("HalvedProofModel", "imageEvenings", "[I", true)
  | _ => ("HalvedProofModel", "isKept", "[Z", true)
def tyX11 : Nat → FieldType := fun k => match k with
  | 0 => .int
  | 1 => .array .int
  | 2 => .array .int
  | 3 => .array .int
  | 4 => .int
  | 5 => .array .int
  | 6 => .array .int
  | 7 => .array .int
  | 8 => .int
  | 9 => .array .int
  | 10 => .array .int
  | 11 => .array .int
  | 12 => .array .boolean
  | 13 => .int
  | 14 => .int
  | 15 => .array .int
  | 16 => .array .int
  | 17 => .array .int
  | 18 => .array .int
  | 19 => .array .int
  | 20 => .int
  | 21 => .array .int
  | 22 => .int
  | 23 => .int
  | 24 => .int
  | 25 => .long
  | 26 => .int
  | 27 => .int
  | 28 => .int
  | 29 => .int
  | 30 => .array .int
  | 31 => .array .int
  | 32 => .array .int
  | 33 => .int
  | 34 => .array .int
  | 35 => .array .int
  | 36 => .array .int
  | 37 => .int
  | 38 => .array .int
  | 39 => .array .int
  | 40 => .int
  | 41 => .array .int
  | 42 => .array .long
  | 43 => .array .long
  | 44 => .array .boolean
  | 45 => .array .long
  | 46 => .array .int
  | 47 => .array .int
  | 48 => .array .int
  | 49 => .array .int
  | 50 => .array .int
  | 51 => .array .int
  | _ => .array .boolean
abbrev wsX110 : List Cond := u_ws RX11 TX11 53
theorem nmX11 : ∀ a, a < 53 → ∀ b, b < 53 → a ≠ b → (TX11 a).2.1 ≠ (TX11 b).2.1 := by decide +kernel
theorem tyX11_ok : ∀ k, k < 53 → parseFieldDescriptor (TX11 k).2.2.1 = some (tyX11 k) := by decide +kernel
abbrev cX11_init : ByteArray := prog_13_method_1_code
def yX11_init : MethodName := ⟨RX11, "<init>", "()V"⟩
abbrev cX11_in : ByteArray := prog_13_method_3_code
def yX11_in : MethodName := ⟨RX11, "in", "(JJJ)Z"⟩
abbrev cX11_has : ByteArray := prog_13_method_4_code
def yX11_has : MethodName := ⟨RX11, "has", "(II)Z"⟩
abbrev cX11_isSuit : ByteArray := prog_13_method_5_code
def yX11_isSuit : MethodName := ⟨RX11, "isSuit", "(I)Z"⟩
abbrev cX11_isWitness : ByteArray := prog_13_method_6_code
def yX11_isWitness : MethodName := ⟨RX11, "isWitness", "(I)Z"⟩
abbrev cX11_bits : ByteArray := prog_13_method_7_code
def yX11_bits : MethodName := ⟨RX11, "bits", "(I)I"⟩
abbrev cX11_feed : ByteArray := prog_13_method_8_code
def yX11_feed : MethodName := ⟨RX11, "feed", "(IJ)I"⟩
abbrev cX11_here : ByteArray := prog_13_method_9_code
def yX11_here : MethodName := ⟨RX11, "here", "()I"⟩
abbrev cX11_fails : ByteArray := prog_13_method_10_code
def yX11_fails : MethodName := ⟨RX11, "fails", "(II)I"⟩
abbrev cX11_readWord : ByteArray := prog_13_method_11_code
def yX11_readWord : MethodName := ⟨RX11, "readWord", "()V"⟩
abbrev cX11_code : ByteArray := prog_13_method_12_code
def yX11_code : MethodName := ⟨RX11, "code", "(IIII)J"⟩
abbrev cX11_longer : ByteArray := prog_13_method_13_code
def yX11_longer : MethodName := ⟨RX11, "longer", "(JI)J"⟩
abbrev cX11_takeNumber : ByteArray := prog_13_method_14_code
def yX11_takeNumber : MethodName := ⟨RX11, "takeNumber", "(II)I"⟩
abbrev cX11_takeStop : ByteArray := prog_13_method_15_code
def yX11_takeStop : MethodName := ⟨RX11, "takeStop", "()I"⟩
abbrev cX11_takeSuit : ByteArray := prog_13_method_16_code
def yX11_takeSuit : MethodName := ⟨RX11, "takeSuit", "()I"⟩
abbrev cX11_takeKind : ByteArray := prog_13_method_17_code
def yX11_takeKind : MethodName := ⟨RX11, "takeKind", "()I"⟩
abbrev cX11_takeWitness : ByteArray := prog_13_method_18_code
def yX11_takeWitness : MethodName := ⟨RX11, "takeWitness", "()I"⟩
abbrev cX11_takeClause : ByteArray := prog_13_method_19_code
def yX11_takeClause : MethodName := ⟨RX11, "takeClause", "()I"⟩
abbrev cX11_court : ByteArray := prog_13_method_20_code
def yX11_court : MethodName := ⟨RX11, "court", "()I"⟩
abbrev cX11_anew : ByteArray := prog_13_method_21_code
def yX11_anew : MethodName := ⟨RX11, "anew", "()V"⟩
abbrev cX11_takeLaw : ByteArray := prog_13_method_22_code
def yX11_takeLaw : MethodName := ⟨RX11, "takeLaw", "()I"⟩
abbrev cX11_laws : ByteArray := prog_13_method_23_code
def yX11_laws : MethodName := ⟨RX11, "laws", "()I"⟩
abbrev cX11_fault : ByteArray := prog_13_method_24_code
def yX11_fault : MethodName := ⟨RX11, "fault", "()I"⟩
abbrev cX11_lawOf : ByteArray := prog_13_method_25_code
def yX11_lawOf : MethodName := ⟨RX11, "lawOf", "(II)I"⟩
abbrev cX11_told : ByteArray := prog_13_method_26_code
def yX11_told : MethodName := ⟨RX11, "told", "(I)I"⟩
abbrev cX11_witnessesOf : ByteArray := prog_13_method_27_code
def yX11_witnessesOf : MethodName := ⟨RX11, "witnessesOf", "(I)I"⟩
abbrev cX11_suit : ByteArray := prog_13_method_28_code
def yX11_suit : MethodName := ⟨RX11, "suit", "(II)I"⟩
abbrev cX11_freshOn : ByteArray := prog_13_method_29_code
def yX11_freshOn : MethodName := ⟨RX11, "freshOn", "(II)I"⟩
abbrev cX11_mayOn : ByteArray := prog_13_method_30_code
def yX11_mayOn : MethodName := ⟨RX11, "mayOn", "(II)Z"⟩
abbrev cX11_mayNow : ByteArray := prog_13_method_31_code
def yX11_mayNow : MethodName := ⟨RX11, "mayNow", "(I)Z"⟩
abbrev cX11_witness : ByteArray := prog_13_method_32_code
def yX11_witness : MethodName := ⟨RX11, "witness", "(II)I"⟩
abbrev cX11_weight : ByteArray := prog_13_method_33_code
def yX11_weight : MethodName := ⟨RX11, "weight", "(II)I"⟩
abbrev cX11_isEnough : ByteArray := prog_13_method_34_code
def yX11_isEnough : MethodName := ⟨RX11, "isEnough", "(I)Z"⟩
abbrev cX11_lookAt : ByteArray := prog_13_method_35_code
def yX11_lookAt : MethodName := ⟨RX11, "lookAt", "(I)V"⟩
abbrev cX11_speak : ByteArray := prog_13_method_36_code
def yX11_speak : MethodName := ⟨RX11, "speak", "(I)V"⟩
abbrev cX11_say : ByteArray := prog_13_method_37_code
def yX11_say : MethodName := ⟨RX11, "say", "(I)I"⟩
abbrev cX11_strike : ByteArray := prog_13_method_38_code
def yX11_strike : MethodName := ⟨RX11, "strike", "(IZ)I"⟩
abbrev cX11_halve : ByteArray := prog_13_method_39_code
def yX11_halve : MethodName := ⟨RX11, "halve", "(I)V"⟩
abbrev cX11_darken : ByteArray := prog_13_method_40_code
def yX11_darken : MethodName := ⟨RX11, "darken", "()V"⟩
abbrev cX11_dusk : ByteArray := prog_13_method_41_code
def yX11_dusk : MethodName := ⟨RX11, "dusk", "(I)I"⟩
abbrev cX11_draw : ByteArray := prog_13_method_42_code
def yX11_draw : MethodName := ⟨RX11, "draw", "(I)I"⟩
abbrev cX11_drift : ByteArray := prog_13_method_43_code
def yX11_drift : MethodName := ⟨RX11, "drift", "(II)I"⟩
abbrev cX11_begin : ByteArray := prog_13_method_44_code
def yX11_begin : MethodName := ⟨RX11, "begin", "()I"⟩
abbrev cX11_listOwn : ByteArray := prog_13_method_45_code
def yX11_listOwn : MethodName := ⟨RX11, "listOwn", "(I)V"⟩
abbrev cX11_mayCall : ByteArray := prog_13_method_46_code
def yX11_mayCall : MethodName := ⟨RX11, "mayCall", "(II)Z"⟩
abbrev cX11_room : ByteArray := prog_13_method_47_code
def yX11_room : MethodName := ⟨RX11, "room", "(I)I"⟩
abbrev cX11_callOn : ByteArray := prog_13_method_48_code
def yX11_callOn : MethodName := ⟨RX11, "callOn", "(I)V"⟩
abbrev cX11_findMosts : ByteArray := prog_13_method_49_code
def yX11_findMosts : MethodName := ⟨RX11, "findMosts", "(I)V"⟩
abbrev cX11_canCall : ByteArray := prog_13_method_50_code
def yX11_canCall : MethodName := ⟨RX11, "canCall", "(II)Z"⟩
abbrev cX11_valueOf : ByteArray := prog_13_method_51_code
def yX11_valueOf : MethodName := ⟨RX11, "valueOf", "(II)J"⟩
abbrev cX11_wholeBy : ByteArray := prog_13_method_52_code
def yX11_wholeBy : MethodName := ⟨RX11, "wholeBy", "(IIJ)J"⟩
abbrev cX11_unsettle : ByteArray := prog_13_method_53_code
def yX11_unsettle : MethodName := ⟨RX11, "unsettle", "()V"⟩
abbrev cX11_greatest : ByteArray := prog_13_method_54_code
def yX11_greatest : MethodName := ⟨RX11, "greatest", "()J"⟩
abbrev cX11_mostOn : ByteArray := prog_13_method_55_code
def yX11_mostOn : MethodName := ⟨RX11, "mostOn", "(II)J"⟩
abbrev cX11_most : ByteArray := prog_13_method_56_code
def yX11_most : MethodName := ⟨RX11, "most", "(II)I"⟩
abbrev cX11_soonestOf : ByteArray := prog_13_method_57_code
def yX11_soonestOf : MethodName := ⟨RX11, "soonestOf", "(I)I"⟩
abbrev cX11_soonest : ByteArray := prog_13_method_58_code
def yX11_soonest : MethodName := ⟨RX11, "soonest", "(I)I"⟩
abbrev cX11_isEnoughBy : ByteArray := prog_13_method_59_code
def yX11_isEnoughBy : MethodName := ⟨RX11, "isEnoughBy", "(III)Z"⟩
abbrev cX11_findPlan : ByteArray := prog_13_method_60_code
def yX11_findPlan : MethodName := ⟨RX11, "findPlan", "(I)I"⟩
abbrev cX11_plan : ByteArray := prog_13_method_61_code
def yX11_plan : MethodName := ⟨RX11, "plan", "(I)I"⟩
abbrev cX11_cut : ByteArray := prog_13_method_62_code
def yX11_cut : MethodName := ⟨RX11, "cut", "(I)I"⟩
abbrev cX11_wantOf : ByteArray := prog_13_method_63_code
def yX11_wantOf : MethodName := ⟨RX11, "wantOf", "(IIII)J"⟩
abbrev cX11_turns : ByteArray := prog_13_method_64_code
def yX11_turns : MethodName := ⟨RX11, "turns", "(II)I"⟩
abbrev cX11_nextOrder : ByteArray := prog_13_method_65_code
def yX11_nextOrder : MethodName := ⟨RX11, "nextOrder", "(I)Z"⟩
abbrev cX11_swap : ByteArray := prog_13_method_66_code
def yX11_swap : MethodName := ⟨RX11, "swap", "(II)V"⟩
abbrev cX11_enoughBy : ByteArray := prog_13_method_67_code
def yX11_enoughBy : MethodName := ⟨RX11, "enoughBy", "(I)I"⟩
abbrev cX11_many : ByteArray := prog_13_method_68_code
def yX11_many : MethodName := ⟨RX11, "many", "(I)I"⟩
abbrev cX11_write : ByteArray := prog_13_method_69_code
def yX11_write : MethodName := ⟨RX11, "write", "(II)I"⟩
abbrev cX11_tear : ByteArray := prog_13_method_70_code
def yX11_tear : MethodName := ⟨RX11, "tear", "(I)I"⟩
abbrev cX11_judge : ByteArray := prog_13_method_71_code
def yX11_judge : MethodName := ⟨RX11, "judge", "(I)I"⟩
abbrev cX11_evening : ByteArray := prog_13_method_72_code
def yX11_evening : MethodName := ⟨RX11, "evening", "(II)I"⟩
abbrev cX11_seed : ByteArray := prog_13_method_73_code
def yX11_seed : MethodName := ⟨RX11, "seed", "(I)I"⟩
abbrev cX11_keep : ByteArray := prog_13_method_74_code
def yX11_keep : MethodName := ⟨RX11, "keep", "(I)I"⟩
abbrev cX11_goBack : ByteArray := prog_13_method_75_code
def yX11_goBack : MethodName := ⟨RX11, "goBack", "(I)I"⟩
def RJ6 : String := "java/lang/Integer"
abbrev cJ6_bitCount_0f7a4 : ByteArray := prog_14_method_49_code
def yJ6_bitCount_0f7a4 : MethodName := ⟨RJ6, "bitCount", "(I)I"⟩
def RJ9 : String := "java/lang/Math"
abbrev cJ9_max_7cf53 : ByteArray := prog_15_method_65_code
def yJ9_max_7cf53 : MethodName := ⟨RJ9, "max", "(II)I"⟩
abbrev cJ9_max_f86c9 : ByteArray := prog_15_method_66_code
def yJ9_max_f86c9 : MethodName := ⟨RJ9, "max", "(JJ)J"⟩
abbrev cJ9_min_7cf53 : ByteArray := prog_15_method_69_code
def yJ9_min_7cf53 : MethodName := ⟨RJ9, "min", "(II)I"⟩
def RJ0 : String := "java/lang/String"
abbrev cJ0_length_8abf5 : ByteArray := prog_16_method_54_code
def yJ0_length_8abf5 : MethodName := ⟨RJ0, "length", "()I"⟩
abbrev cJ0_charAt_5068e : ByteArray := prog_16_method_56_code
def yJ0_charAt_5068e : MethodName := ⟨RJ0, "charAt", "(I)C"⟩
abbrev cJ0_coder_7d493 : ByteArray := prog_16_method_152_code
def yJ0_coder_7d493 : MethodName := ⟨RJ0, "coder", "()B"⟩
abbrev cJ0_isLatin1_aae02 : ByteArray := prog_16_method_154_code
def yJ0_isLatin1_aae02 : MethodName := ⟨RJ0, "isLatin1", "()Z"⟩
abbrev cJ0_checkIndex_df160 : ByteArray := prog_16_method_155_code
def yJ0_checkIndex_df160 : MethodName := ⟨RJ0, "checkIndex", "(II)V"⟩
def RJ1 : String := "java/lang/StringLatin1"
abbrev cJ1_charAt_3b067 : ByteArray := prog_17_method_2_code
def yJ1_charAt_3b067 : MethodName := ⟨RJ1, "charAt", "([BI)C"⟩
def RJ2 : String := "java/lang/StringUTF16"
abbrev cJ2_getChar_3b067 : ByteArray := prog_18_method_5_code
def yJ2_getChar_3b067 : MethodName := ⟨RJ2, "getChar", "([BI)C"⟩
abbrev cJ2_length_9d52b : ByteArray := prog_18_method_6_code
def yJ2_length_9d52b : MethodName := ⟨RJ2, "length", "([B)I"⟩
abbrev cJ2_charAt_3b067 : ByteArray := prog_18_method_83_code
def yJ2_charAt_3b067 : MethodName := ⟨RJ2, "charAt", "([BI)C"⟩
abbrev cJ2_checkIndex_2214a : ByteArray := prog_18_method_91_code
def yJ2_checkIndex_2214a : MethodName := ⟨RJ2, "checkIndex", "(I[B)V"⟩
def RJ10 : String := "java/lang/System"
def RJ7 : String := "java/util/Arrays"
abbrev cJ7_fill_d0a16 : ByteArray := prog_20_method_101_code
def yJ7_fill_d0a16 : MethodName := ⟨RJ7, "fill", "([JJ)V"⟩
abbrev cJ7_fill_53178 : ByteArray := prog_20_method_103_code
def yJ7_fill_53178 : MethodName := ⟨RJ7, "fill", "([II)V"⟩
def RJ3 : String := "jdk/internal/util/Preconditions"
abbrev cJ3_checkIndex_8e157 : ByteArray := prog_21_method_11_code
def yJ3_checkIndex_8e157 : MethodName := ⟨RJ3, "checkIndex", "(IILjava/util/function/BiFunction;)I"⟩
def RL : String := "HalvedProofLaw"
abbrev cL_law : ByteArray := code
def yL_law : MethodName := ⟨RL, "law", "([I)Z"⟩
end
section
theorem dX11_init_0 : decode cX11_init 0 = .ok (.aload_n 0, 1) := by decide +kernel
theorem dX11_init_1 : decode cX11_init 1 = .ok (.invokespecial 1, 3) := by decide +kernel
theorem dX11_init_4 : decode cX11_init 4 = .ok (.aload_n 0, 1) := by decide +kernel
theorem dX11_init_5 : decode cX11_init 5 = .ok (.bipush 6, 2) := by decide +kernel
theorem dX11_init_7 : decode cX11_init 7 = .ok (.newarray .int, 2) := by decide +kernel
theorem dX11_init_9 : decode cX11_init 9 = .ok (.putfield 7, 3) := by decide +kernel
theorem dX11_init_12 : decode cX11_init 12 = .ok (.aload_n 0, 1) := by decide +kernel
theorem dX11_init_13 : decode cX11_init 13 = .ok (.bipush 6, 2) := by decide +kernel
theorem dX11_init_15 : decode cX11_init 15 = .ok (.newarray .int, 2) := by decide +kernel
theorem dX11_init_17 : decode cX11_init 17 = .ok (.putfield 13, 3) := by decide +kernel
theorem dX11_init_20 : decode cX11_init 20 = .ok (.aload_n 0, 1) := by decide +kernel
theorem dX11_init_21 : decode cX11_init 21 = .ok (.bipush 6, 2) := by decide +kernel
theorem dX11_init_23 : decode cX11_init 23 = .ok (.newarray .int, 2) := by decide +kernel
theorem dX11_init_25 : decode cX11_init 25 = .ok (.putfield 16, 3) := by decide +kernel
theorem dX11_init_28 : decode cX11_init 28 = .ok (.aload_n 0, 1) := by decide +kernel
theorem dX11_init_29 : decode cX11_init 29 = .ok (.bipush 12, 2) := by decide +kernel
theorem dX11_init_31 : decode cX11_init 31 = .ok (.newarray .int, 2) := by decide +kernel
theorem dX11_init_33 : decode cX11_init 33 = .ok (.putfield 19, 3) := by decide +kernel
theorem dX11_init_36 : decode cX11_init 36 = .ok (.aload_n 0, 1) := by decide +kernel
theorem dX11_init_37 : decode cX11_init 37 = .ok (.bipush 12, 2) := by decide +kernel
theorem dX11_init_39 : decode cX11_init 39 = .ok (.newarray .int, 2) := by decide +kernel
theorem dX11_init_41 : decode cX11_init 41 = .ok (.putfield 22, 3) := by decide +kernel
theorem dX11_init_44 : decode cX11_init 44 = .ok (.aload_n 0, 1) := by decide +kernel
theorem dX11_init_45 : decode cX11_init 45 = .ok (.bipush 12, 2) := by decide +kernel
theorem dX11_init_47 : decode cX11_init 47 = .ok (.newarray .int, 2) := by decide +kernel
theorem dX11_init_49 : decode cX11_init 49 = .ok (.putfield 25, 3) := by decide +kernel
theorem dX11_init_52 : decode cX11_init 52 = .ok (.aload_n 0, 1) := by decide +kernel
theorem dX11_init_53 : decode cX11_init 53 = .ok (.bipush 24, 2) := by decide +kernel
theorem dX11_init_55 : decode cX11_init 55 = .ok (.newarray .int, 2) := by decide +kernel
theorem dX11_init_57 : decode cX11_init 57 = .ok (.putfield 28, 3) := by decide +kernel
theorem dX11_init_60 : decode cX11_init 60 = .ok (.aload_n 0, 1) := by decide +kernel
theorem dX11_init_61 : decode cX11_init 61 = .ok (.bipush 12, 2) := by decide +kernel
theorem dX11_init_63 : decode cX11_init 63 = .ok (.newarray .int, 2) := by decide +kernel
theorem dX11_init_65 : decode cX11_init 65 = .ok (.putfield 31, 3) := by decide +kernel
theorem dX11_init_68 : decode cX11_init 68 = .ok (.aload_n 0, 1) := by decide +kernel
theorem dX11_init_69 : decode cX11_init 69 = .ok (.bipush 12, 2) := by decide +kernel
theorem dX11_init_71 : decode cX11_init 71 = .ok (.newarray .int, 2) := by decide +kernel
theorem dX11_init_73 : decode cX11_init 73 = .ok (.putfield 34, 3) := by decide +kernel
theorem dX11_init_76 : decode cX11_init 76 = .ok (.aload_n 0, 1) := by decide +kernel
theorem dX11_init_77 : decode cX11_init 77 = .ok (.bipush 12, 2) := by decide +kernel
theorem dX11_init_79 : decode cX11_init 79 = .ok (.newarray .boolean, 2) := by decide +kernel
theorem dX11_init_81 : decode cX11_init 81 = .ok (.putfield 37, 3) := by decide +kernel
theorem dX11_init_84 : decode cX11_init 84 = .ok (.aload_n 0, 1) := by decide +kernel
theorem dX11_init_85 : decode cX11_init 85 = .ok (.bipush 6, 2) := by decide +kernel
theorem dX11_init_87 : decode cX11_init 87 = .ok (.newarray .int, 2) := by decide +kernel
theorem dX11_init_89 : decode cX11_init 89 = .ok (.putfield 41, 3) := by decide +kernel
theorem dX11_init_92 : decode cX11_init 92 = .ok (.aload_n 0, 1) := by decide +kernel
theorem dX11_init_93 : decode cX11_init 93 = .ok (.bipush 6, 2) := by decide +kernel
theorem dX11_init_95 : decode cX11_init 95 = .ok (.newarray .int, 2) := by decide +kernel
theorem dX11_init_97 : decode cX11_init 97 = .ok (.putfield 44, 3) := by decide +kernel
theorem dX11_init_100 : decode cX11_init 100 = .ok (.aload_n 0, 1) := by decide +kernel
theorem dX11_init_101 : decode cX11_init 101 = .ok (.bipush 6, 2) := by decide +kernel
theorem dX11_init_103 : decode cX11_init 103 = .ok (.newarray .int, 2) := by decide +kernel
theorem dX11_init_105 : decode cX11_init 105 = .ok (.putfield 47, 3) := by decide +kernel
theorem dX11_init_108 : decode cX11_init 108 = .ok (.aload_n 0, 1) := by decide +kernel
theorem dX11_init_109 : decode cX11_init 109 = .ok (.sipush 2400, 3) := by decide +kernel
theorem dX11_init_112 : decode cX11_init 112 = .ok (.newarray .int, 2) := by decide +kernel
theorem dX11_init_114 : decode cX11_init 114 = .ok (.putfield 50, 3) := by decide +kernel
theorem dX11_init_117 : decode cX11_init 117 = .ok (.aload_n 0, 1) := by decide +kernel
theorem dX11_init_118 : decode cX11_init 118 = .ok (.sipush 2400, 3) := by decide +kernel
theorem dX11_init_121 : decode cX11_init 121 = .ok (.newarray .int, 2) := by decide +kernel
theorem dX11_init_123 : decode cX11_init 123 = .ok (.putfield 53, 3) := by decide +kernel
theorem dX11_init_126 : decode cX11_init 126 = .ok (.aload_n 0, 1) := by decide +kernel
theorem dX11_init_127 : decode cX11_init 127 = .ok (.sipush 500, 3) := by decide +kernel
theorem dX11_init_130 : decode cX11_init 130 = .ok (.newarray .int, 2) := by decide +kernel
theorem dX11_init_132 : decode cX11_init 132 = .ok (.putfield 56, 3) := by decide +kernel
theorem dX11_init_135 : decode cX11_init 135 = .ok (.aload_n 0, 1) := by decide +kernel
theorem dX11_init_136 : decode cX11_init 136 = .ok (.iconst (-1), 1) := by decide +kernel
theorem dX11_init_137 : decode cX11_init 137 = .ok (.putfield 59, 3) := by decide +kernel
theorem dX11_init_140 : decode cX11_init 140 = .ok (.aload_n 0, 1) := by decide +kernel
theorem dX11_init_141 : decode cX11_init 141 = .ok (.bipush 6, 2) := by decide +kernel
theorem dX11_init_143 : decode cX11_init 143 = .ok (.newarray .int, 2) := by decide +kernel
theorem dX11_init_145 : decode cX11_init 145 = .ok (.putfield 63, 3) := by decide +kernel
theorem dX11_init_148 : decode cX11_init 148 = .ok (.aload_n 0, 1) := by decide +kernel
theorem dX11_init_149 : decode cX11_init 149 = .ok (.bipush 6, 2) := by decide +kernel
theorem dX11_init_151 : decode cX11_init 151 = .ok (.newarray .int, 2) := by decide +kernel
theorem dX11_init_153 : decode cX11_init 153 = .ok (.putfield 66, 3) := by decide +kernel
theorem dX11_init_156 : decode cX11_init 156 = .ok (.aload_n 0, 1) := by decide +kernel
theorem dX11_init_157 : decode cX11_init 157 = .ok (.bipush 6, 2) := by decide +kernel
theorem dX11_init_159 : decode cX11_init 159 = .ok (.newarray .int, 2) := by decide +kernel
theorem dX11_init_161 : decode cX11_init 161 = .ok (.putfield 69, 3) := by decide +kernel
theorem dX11_init_164 : decode cX11_init 164 = .ok (.aload_n 0, 1) := by decide +kernel
theorem dX11_init_165 : decode cX11_init 165 = .ok (.bipush 12, 2) := by decide +kernel
theorem dX11_init_167 : decode cX11_init 167 = .ok (.newarray .int, 2) := by decide +kernel
theorem dX11_init_169 : decode cX11_init 169 = .ok (.putfield 72, 3) := by decide +kernel
theorem dX11_init_172 : decode cX11_init 172 = .ok (.aload_n 0, 1) := by decide +kernel
theorem dX11_init_173 : decode cX11_init 173 = .ok (.bipush 12, 2) := by decide +kernel
theorem dX11_init_175 : decode cX11_init 175 = .ok (.newarray .int, 2) := by decide +kernel
theorem dX11_init_177 : decode cX11_init 177 = .ok (.putfield 75, 3) := by decide +kernel
theorem dX11_init_180 : decode cX11_init 180 = .ok (.aload_n 0, 1) := by decide +kernel
theorem dX11_init_181 : decode cX11_init 181 = .ok (.bipush 12, 2) := by decide +kernel
theorem dX11_init_183 : decode cX11_init 183 = .ok (.newarray .int, 2) := by decide +kernel
theorem dX11_init_185 : decode cX11_init 185 = .ok (.putfield 78, 3) := by decide +kernel
theorem dX11_init_188 : decode cX11_init 188 = .ok (.aload_n 0, 1) := by decide +kernel
theorem dX11_init_189 : decode cX11_init 189 = .ok (.bipush 24, 2) := by decide +kernel
theorem dX11_init_191 : decode cX11_init 191 = .ok (.newarray .int, 2) := by decide +kernel
theorem dX11_init_193 : decode cX11_init 193 = .ok (.putfield 81, 3) := by decide +kernel
theorem dX11_init_196 : decode cX11_init 196 = .ok (.aload_n 0, 1) := by decide +kernel
theorem dX11_init_197 : decode cX11_init 197 = .ok (.bipush 6, 2) := by decide +kernel
theorem dX11_init_199 : decode cX11_init 199 = .ok (.newarray .int, 2) := by decide +kernel
theorem dX11_init_201 : decode cX11_init 201 = .ok (.putfield 84, 3) := by decide +kernel
theorem dX11_init_204 : decode cX11_init 204 = .ok (.aload_n 0, 1) := by decide +kernel
theorem dX11_init_205 : decode cX11_init 205 = .ok (.bipush 6, 2) := by decide +kernel
theorem dX11_init_207 : decode cX11_init 207 = .ok (.newarray .int, 2) := by decide +kernel
theorem dX11_init_209 : decode cX11_init 209 = .ok (.putfield 87, 3) := by decide +kernel
theorem dX11_init_212 : decode cX11_init 212 = .ok (.aload_n 0, 1) := by decide +kernel
theorem dX11_init_213 : decode cX11_init 213 = .ok (.bipush 64, 2) := by decide +kernel
theorem dX11_init_215 : decode cX11_init 215 = .ok (.newarray .long, 2) := by decide +kernel
theorem dX11_init_217 : decode cX11_init 217 = .ok (.putfield 90, 3) := by decide +kernel
theorem dX11_init_220 : decode cX11_init 220 = .ok (.aload_n 0, 1) := by decide +kernel
theorem dX11_init_221 : decode cX11_init 221 = .ok (.bipush 64, 2) := by decide +kernel
theorem dX11_init_223 : decode cX11_init 223 = .ok (.newarray .long, 2) := by decide +kernel
theorem dX11_init_225 : decode cX11_init 225 = .ok (.putfield 94, 3) := by decide +kernel
theorem dX11_init_228 : decode cX11_init 228 = .ok (.aload_n 0, 1) := by decide +kernel
theorem dX11_init_229 : decode cX11_init 229 = .ok (.bipush 12, 2) := by decide +kernel
theorem dX11_init_231 : decode cX11_init 231 = .ok (.newarray .boolean, 2) := by decide +kernel
theorem dX11_init_233 : decode cX11_init 233 = .ok (.putfield 97, 3) := by decide +kernel
theorem dX11_init_236 : decode cX11_init 236 = .ok (.aload_n 0, 1) := by decide +kernel
theorem dX11_init_237 : decode cX11_init 237 = .ok (.bipush 64, 2) := by decide +kernel
theorem dX11_init_239 : decode cX11_init 239 = .ok (.newarray .long, 2) := by decide +kernel
theorem dX11_init_241 : decode cX11_init 241 = .ok (.putfield 100, 3) := by decide +kernel
theorem dX11_init_244 : decode cX11_init 244 = .ok (.aload_n 0, 1) := by decide +kernel
theorem dX11_init_245 : decode cX11_init 245 = .ok (.bipush 6, 2) := by decide +kernel
theorem dX11_init_247 : decode cX11_init 247 = .ok (.newarray .int, 2) := by decide +kernel
theorem dX11_init_249 : decode cX11_init 249 = .ok (.putfield 103, 3) := by decide +kernel
theorem dX11_init_252 : decode cX11_init 252 = .ok (.aload_n 0, 1) := by decide +kernel
theorem dX11_init_253 : decode cX11_init 253 = .ok (.bipush 6, 2) := by decide +kernel
theorem dX11_init_255 : decode cX11_init 255 = .ok (.newarray .int, 2) := by decide +kernel
theorem dX11_init_257 : decode cX11_init 257 = .ok (.putfield 106, 3) := by decide +kernel
theorem dX11_init_260 : decode cX11_init 260 = .ok (.aload_n 0, 1) := by decide +kernel
theorem dX11_init_261 : decode cX11_init 261 = .ok (.sipush 360, 3) := by decide +kernel
theorem dX11_init_264 : decode cX11_init 264 = .ok (.newarray .int, 2) := by decide +kernel
theorem dX11_init_266 : decode cX11_init 266 = .ok (.putfield 109, 3) := by decide +kernel
theorem dX11_init_269 : decode cX11_init 269 = .ok (.aload_n 0, 1) := by decide +kernel
theorem dX11_init_270 : decode cX11_init 270 = .ok (.bipush 120, 2) := by decide +kernel
theorem dX11_init_272 : decode cX11_init 272 = .ok (.newarray .int, 2) := by decide +kernel
theorem dX11_init_274 : decode cX11_init 274 = .ok (.putfield 112, 3) := by decide +kernel
theorem dX11_init_277 : decode cX11_init 277 = .ok (.aload_n 0, 1) := by decide +kernel
theorem dX11_init_278 : decode cX11_init 278 = .ok (.sipush 4800, 3) := by decide +kernel
theorem dX11_init_281 : decode cX11_init 281 = .ok (.newarray .int, 2) := by decide +kernel
theorem dX11_init_283 : decode cX11_init 283 = .ok (.putfield 115, 3) := by decide +kernel
theorem dX11_init_286 : decode cX11_init 286 = .ok (.aload_n 0, 1) := by decide +kernel
theorem dX11_init_287 : decode cX11_init 287 = .ok (.sipush 4800, 3) := by decide +kernel
theorem dX11_init_290 : decode cX11_init 290 = .ok (.newarray .int, 2) := by decide +kernel
theorem dX11_init_292 : decode cX11_init 292 = .ok (.putfield 118, 3) := by decide +kernel
theorem dX11_init_295 : decode cX11_init 295 = .ok (.aload_n 0, 1) := by decide +kernel
theorem dX11_init_296 : decode cX11_init 296 = .ok (.iconst 2, 1) := by decide +kernel
theorem dX11_init_297 : decode cX11_init 297 = .ok (.newarray .boolean, 2) := by decide +kernel
theorem dX11_init_299 : decode cX11_init 299 = .ok (.putfield 121, 3) := by decide +kernel
theorem dX11_init_302 : decode cX11_init 302 = .ok (.aload_n 0, 1) := by decide +kernel
theorem dX11_init_303 : decode cX11_init 303 = .ok (.iconst 0, 1) := by decide +kernel
theorem dX11_init_304 : decode cX11_init 304 = .ok (.putfield 124, 3) := by decide +kernel
theorem dX11_init_307 : decode cX11_init 307 = .ok (.return_, 1) := by decide +kernel
theorem dX11_in_0 : decode cX11_in 0 = .ok (.lload_n 0, 1) := by decide +kernel
theorem dX11_in_1 : decode cX11_in 1 = .ok (.lload_n 2, 1) := by decide +kernel
theorem dX11_in_2 : decode cX11_in 2 = .ok (.lcmp, 1) := by decide +kernel
theorem dX11_in_3 : decode cX11_in 3 = .ok (.ifCond .lt 14, 3) := by decide +kernel
theorem dX11_in_6 : decode cX11_in 6 = .ok (.lload_n 0, 1) := by decide +kernel
theorem dX11_in_7 : decode cX11_in 7 = .ok (.lload 4, 2) := by decide +kernel
theorem dX11_in_9 : decode cX11_in 9 = .ok (.lcmp, 1) := by decide +kernel
theorem dX11_in_10 : decode cX11_in 10 = .ok (.ifCond .gt 7, 3) := by decide +kernel
theorem dX11_in_13 : decode cX11_in 13 = .ok (.iconst 1, 1) := by decide +kernel
theorem dX11_in_14 : decode cX11_in 14 = .ok (.goto 4, 3) := by decide +kernel
theorem dX11_in_17 : decode cX11_in 17 = .ok (.iconst 0, 1) := by decide +kernel
theorem dX11_in_18 : decode cX11_in 18 = .ok (.ireturn, 1) := by decide +kernel
theorem dX11_has_0 : decode cX11_has 0 = .ok (.iload_n 0, 1) := by decide +kernel
theorem dX11_has_1 : decode cX11_has 1 = .ok (.iload_n 1, 1) := by decide +kernel
theorem dX11_has_2 : decode cX11_has 2 = .ok (.ishr, 1) := by decide +kernel
theorem dX11_has_3 : decode cX11_has 3 = .ok (.iconst 1, 1) := by decide +kernel
theorem dX11_has_4 : decode cX11_has 4 = .ok (.iand, 1) := by decide +kernel
theorem dX11_has_5 : decode cX11_has 5 = .ok (.iconst 1, 1) := by decide +kernel
theorem dX11_has_6 : decode cX11_has 6 = .ok (.if_icmp .ne 7, 3) := by decide +kernel
theorem dX11_has_9 : decode cX11_has 9 = .ok (.iconst 1, 1) := by decide +kernel
theorem dX11_has_10 : decode cX11_has 10 = .ok (.goto 4, 3) := by decide +kernel
theorem dX11_has_13 : decode cX11_has 13 = .ok (.iconst 0, 1) := by decide +kernel
theorem dX11_has_14 : decode cX11_has 14 = .ok (.ireturn, 1) := by decide +kernel
theorem dX11_isSuit_0 : decode cX11_isSuit 0 = .ok (.iload_n 1, 1) := by decide +kernel
theorem dX11_isSuit_1 : decode cX11_isSuit 1 = .ok (.i2l, 1) := by decide +kernel
theorem dX11_isSuit_2 : decode cX11_isSuit 2 = .ok (.lconst 0, 1) := by decide +kernel
theorem dX11_isSuit_3 : decode cX11_isSuit 3 = .ok (.aload_n 0, 1) := by decide +kernel
theorem dX11_isSuit_4 : decode cX11_isSuit 4 = .ok (.getfield 124, 3) := by decide +kernel
theorem dX11_isSuit_7 : decode cX11_isSuit 7 = .ok (.iconst 1, 1) := by decide +kernel
theorem dX11_isSuit_8 : decode cX11_isSuit 8 = .ok (.isub, 1) := by decide +kernel
theorem dX11_isSuit_9 : decode cX11_isSuit 9 = .ok (.i2l, 1) := by decide +kernel
theorem dX11_isSuit_10 : decode cX11_isSuit 10 = .ok (.invokestatic 127, 3) := by decide +kernel
theorem dX11_isSuit_13 : decode cX11_isSuit 13 = .ok (.ireturn, 1) := by decide +kernel
theorem dX11_isWitness_0 : decode cX11_isWitness 0 = .ok (.iload_n 1, 1) := by decide +kernel
theorem dX11_isWitness_1 : decode cX11_isWitness 1 = .ok (.i2l, 1) := by decide +kernel
theorem dX11_isWitness_2 : decode cX11_isWitness 2 = .ok (.lconst 0, 1) := by decide +kernel
theorem dX11_isWitness_3 : decode cX11_isWitness 3 = .ok (.aload_n 0, 1) := by decide +kernel
theorem dX11_isWitness_4 : decode cX11_isWitness 4 = .ok (.getfield 131, 3) := by decide +kernel
theorem dX11_isWitness_7 : decode cX11_isWitness 7 = .ok (.iconst 1, 1) := by decide +kernel
theorem dX11_isWitness_8 : decode cX11_isWitness 8 = .ok (.isub, 1) := by decide +kernel
theorem dX11_isWitness_9 : decode cX11_isWitness 9 = .ok (.i2l, 1) := by decide +kernel
theorem dX11_isWitness_10 : decode cX11_isWitness 10 = .ok (.invokestatic 127, 3) := by decide +kernel
theorem dX11_isWitness_13 : decode cX11_isWitness 13 = .ok (.ireturn, 1) := by decide +kernel
theorem dX11_bits_0 : decode cX11_bits 0 = .ok (.iconst 0, 1) := by decide +kernel
theorem dX11_bits_1 : decode cX11_bits 1 = .ok (.istore_n 1, 1) := by decide +kernel
theorem dX11_bits_2 : decode cX11_bits 2 = .ok (.iconst 0, 1) := by decide +kernel
theorem dX11_bits_3 : decode cX11_bits 3 = .ok (.istore_n 2, 1) := by decide +kernel
theorem dX11_bits_4 : decode cX11_bits 4 = .ok (.iload_n 2, 1) := by decide +kernel
theorem dX11_bits_5 : decode cX11_bits 5 = .ok (.bipush 12, 2) := by decide +kernel
theorem dX11_bits_7 : decode cX11_bits 7 = .ok (.if_icmp .ge 17, 3) := by decide +kernel
theorem dX11_bits_10 : decode cX11_bits 10 = .ok (.iload_n 1, 1) := by decide +kernel
theorem dX11_bits_11 : decode cX11_bits 11 = .ok (.iload_n 0, 1) := by decide +kernel
theorem dX11_bits_12 : decode cX11_bits 12 = .ok (.iload_n 2, 1) := by decide +kernel
theorem dX11_bits_13 : decode cX11_bits 13 = .ok (.ishr, 1) := by decide +kernel
theorem dX11_bits_14 : decode cX11_bits 14 = .ok (.iconst 1, 1) := by decide +kernel
theorem dX11_bits_15 : decode cX11_bits 15 = .ok (.iand, 1) := by decide +kernel
theorem dX11_bits_16 : decode cX11_bits 16 = .ok (.iadd, 1) := by decide +kernel
theorem dX11_bits_17 : decode cX11_bits 17 = .ok (.istore_n 1, 1) := by decide +kernel
theorem dX11_bits_18 : decode cX11_bits 18 = .ok (.iinc 2 1, 3) := by decide +kernel
theorem dX11_bits_21 : decode cX11_bits 21 = .ok (.goto (-17), 3) := by decide +kernel
theorem dX11_bits_24 : decode cX11_bits 24 = .ok (.iload_n 1, 1) := by decide +kernel
theorem dX11_bits_25 : decode cX11_bits 25 = .ok (.ireturn, 1) := by decide +kernel
theorem dX11_feed_0 : decode cX11_feed 0 = .ok (.iload_n 1, 1) := by decide +kernel
theorem dX11_feed_1 : decode cX11_feed 1 = .ok (.i2l, 1) := by decide +kernel
theorem dX11_feed_2 : decode cX11_feed 2 = .ok (.lconst 1, 1) := by decide +kernel
theorem dX11_feed_3 : decode cX11_feed 3 = .ok (.ldc2_w 134, 3) := by decide +kernel
theorem dX11_feed_6 : decode cX11_feed 6 = .ok (.invokestatic 127, 3) := by decide +kernel
theorem dX11_feed_9 : decode cX11_feed 9 = .ok (.ifCond .ne 6, 3) := by decide +kernel
theorem dX11_feed_12 : decode cX11_feed 12 = .ok (.ldc 136, 2) := by decide +kernel
theorem dX11_feed_14 : decode cX11_feed 14 = .ok (.ireturn, 1) := by decide +kernel
theorem dX11_feed_15 : decode cX11_feed 15 = .ok (.aload_n 0, 1) := by decide +kernel
theorem dX11_feed_16 : decode cX11_feed 16 = .ok (.getfield 137, 3) := by decide +kernel
theorem dX11_feed_19 : decode cX11_feed 19 = .ok (.iload_n 1, 1) := by decide +kernel
theorem dX11_feed_20 : decode cX11_feed 20 = .ok (.iadd, 1) := by decide +kernel
theorem dX11_feed_21 : decode cX11_feed 21 = .ok (.sipush 500, 3) := by decide +kernel
theorem dX11_feed_24 : decode cX11_feed 24 = .ok (.if_icmp .le 6, 3) := by decide +kernel
theorem dX11_feed_27 : decode cX11_feed 27 = .ok (.ldc 140, 2) := by decide +kernel
theorem dX11_feed_29 : decode cX11_feed 29 = .ok (.ireturn, 1) := by decide +kernel
theorem dX11_feed_30 : decode cX11_feed 30 = .ok (.iload_n 1, 1) := by decide +kernel
theorem dX11_feed_31 : decode cX11_feed 31 = .ok (.iconst 1, 1) := by decide +kernel
theorem dX11_feed_32 : decode cX11_feed 32 = .ok (.isub, 1) := by decide +kernel
theorem dX11_feed_33 : decode cX11_feed 33 = .ok (.istore 4, 2) := by decide +kernel
theorem dX11_feed_35 : decode cX11_feed 35 = .ok (.iload 4, 2) := by decide +kernel
theorem dX11_feed_37 : decode cX11_feed 37 = .ok (.ifCond .lt 40, 3) := by decide +kernel
theorem dX11_feed_40 : decode cX11_feed 40 = .ok (.aload_n 0, 1) := by decide +kernel
theorem dX11_feed_41 : decode cX11_feed 41 = .ok (.getfield 56, 3) := by decide +kernel
theorem dX11_feed_44 : decode cX11_feed 44 = .ok (.aload_n 0, 1) := by decide +kernel
theorem dX11_feed_45 : decode cX11_feed 45 = .ok (.getfield 137, 3) := by decide +kernel
theorem dX11_feed_48 : decode cX11_feed 48 = .ok (.lload_n 2, 1) := by decide +kernel
theorem dX11_feed_49 : decode cX11_feed 49 = .ok (.bipush 8, 2) := by decide +kernel
theorem dX11_feed_51 : decode cX11_feed 51 = .ok (.iload 4, 2) := by decide +kernel
theorem dX11_feed_53 : decode cX11_feed 53 = .ok (.imul, 1) := by decide +kernel
theorem dX11_feed_54 : decode cX11_feed 54 = .ok (.lshr, 1) := by decide +kernel
theorem dX11_feed_55 : decode cX11_feed 55 = .ok (.ldc2_w 141, 3) := by decide +kernel
theorem dX11_feed_58 : decode cX11_feed 58 = .ok (.land, 1) := by decide +kernel
theorem dX11_feed_59 : decode cX11_feed 59 = .ok (.l2i, 1) := by decide +kernel
theorem dX11_feed_60 : decode cX11_feed 60 = .ok (.iastore, 1) := by decide +kernel
theorem dX11_feed_61 : decode cX11_feed 61 = .ok (.aload_n 0, 1) := by decide +kernel
theorem dX11_feed_62 : decode cX11_feed 62 = .ok (.dup, 1) := by decide +kernel
theorem dX11_feed_63 : decode cX11_feed 63 = .ok (.getfield 137, 3) := by decide +kernel
theorem dX11_feed_66 : decode cX11_feed 66 = .ok (.iconst 1, 1) := by decide +kernel
theorem dX11_feed_67 : decode cX11_feed 67 = .ok (.iadd, 1) := by decide +kernel
theorem dX11_feed_68 : decode cX11_feed 68 = .ok (.putfield 137, 3) := by decide +kernel
theorem dX11_feed_71 : decode cX11_feed 71 = .ok (.iinc 4 (-1), 3) := by decide +kernel
theorem dX11_feed_74 : decode cX11_feed 74 = .ok (.goto (-39), 3) := by decide +kernel
theorem dX11_feed_77 : decode cX11_feed 77 = .ok (.aload_n 0, 1) := by decide +kernel
theorem dX11_feed_78 : decode cX11_feed 78 = .ok (.getfield 137, 3) := by decide +kernel
theorem dX11_feed_81 : decode cX11_feed 81 = .ok (.ireturn, 1) := by decide +kernel
theorem dX11_here_0 : decode cX11_here 0 = .ok (.aload_n 0, 1) := by decide +kernel
theorem dX11_here_1 : decode cX11_here 1 = .ok (.getfield 143, 3) := by decide +kernel
theorem dX11_here_4 : decode cX11_here 4 = .ok (.aload_n 0, 1) := by decide +kernel
theorem dX11_here_5 : decode cX11_here 5 = .ok (.getfield 137, 3) := by decide +kernel
theorem dX11_here_8 : decode cX11_here 8 = .ok (.if_icmp .ge 30, 3) := by decide +kernel
theorem dX11_here_11 : decode cX11_here 11 = .ok (.aload_n 0, 1) := by decide +kernel
theorem dX11_here_12 : decode cX11_here 12 = .ok (.getfield 56, 3) := by decide +kernel
theorem dX11_here_15 : decode cX11_here 15 = .ok (.aload_n 0, 1) := by decide +kernel
theorem dX11_here_16 : decode cX11_here 16 = .ok (.getfield 143, 3) := by decide +kernel
theorem dX11_here_19 : decode cX11_here 19 = .ok (.iaload, 1) := by decide +kernel
theorem dX11_here_20 : decode cX11_here 20 = .ok (.bipush 32, 2) := by decide +kernel
theorem dX11_here_22 : decode cX11_here 22 = .ok (.if_icmp .ne 16, 3) := by decide +kernel
theorem dX11_here_25 : decode cX11_here 25 = .ok (.aload_n 0, 1) := by decide +kernel
theorem dX11_here_26 : decode cX11_here 26 = .ok (.dup, 1) := by decide +kernel
theorem dX11_here_27 : decode cX11_here 27 = .ok (.getfield 143, 3) := by decide +kernel
theorem dX11_here_30 : decode cX11_here 30 = .ok (.iconst 1, 1) := by decide +kernel
theorem dX11_here_31 : decode cX11_here 31 = .ok (.iadd, 1) := by decide +kernel
theorem dX11_here_32 : decode cX11_here 32 = .ok (.putfield 143, 3) := by decide +kernel
theorem dX11_here_35 : decode cX11_here 35 = .ok (.goto (-35), 3) := by decide +kernel
theorem dX11_here_38 : decode cX11_here 38 = .ok (.aload_n 0, 1) := by decide +kernel
theorem dX11_here_39 : decode cX11_here 39 = .ok (.getfield 143, 3) := by decide +kernel
theorem dX11_here_42 : decode cX11_here 42 = .ok (.aload_n 0, 1) := by decide +kernel
theorem dX11_here_43 : decode cX11_here 43 = .ok (.getfield 137, 3) := by decide +kernel
theorem dX11_here_46 : decode cX11_here 46 = .ok (.if_icmp .ge 15, 3) := by decide +kernel
theorem dX11_here_49 : decode cX11_here 49 = .ok (.aload_n 0, 1) := by decide +kernel
theorem dX11_here_50 : decode cX11_here 50 = .ok (.getfield 56, 3) := by decide +kernel
theorem dX11_here_53 : decode cX11_here 53 = .ok (.aload_n 0, 1) := by decide +kernel
theorem dX11_here_54 : decode cX11_here 54 = .ok (.getfield 143, 3) := by decide +kernel
theorem dX11_here_57 : decode cX11_here 57 = .ok (.iaload, 1) := by decide +kernel
theorem dX11_here_58 : decode cX11_here 58 = .ok (.goto 4, 3) := by decide +kernel
theorem dX11_here_61 : decode cX11_here 61 = .ok (.iconst (-1), 1) := by decide +kernel
theorem dX11_here_62 : decode cX11_here 62 = .ok (.ireturn, 1) := by decide +kernel
theorem dX11_fails_0 : decode cX11_fails 0 = .ok (.aload_n 0, 1) := by decide +kernel
theorem dX11_fails_1 : decode cX11_fails 1 = .ok (.iload_n 2, 1) := by decide +kernel
theorem dX11_fails_2 : decode cX11_fails 2 = .ok (.putfield 59, 3) := by decide +kernel
theorem dX11_fails_5 : decode cX11_fails 5 = .ok (.iload_n 1, 1) := by decide +kernel
theorem dX11_fails_6 : decode cX11_fails 6 = .ok (.ireturn, 1) := by decide +kernel
theorem dX11_readWord_0 : decode cX11_readWord 0 = .ok (.aload_n 0, 1) := by decide +kernel
theorem dX11_readWord_1 : decode cX11_readWord 1 = .ok (.invokevirtual 146, 3) := by decide +kernel
theorem dX11_readWord_4 : decode cX11_readWord 4 = .ok (.istore_n 1, 1) := by decide +kernel
theorem dX11_readWord_5 : decode cX11_readWord 5 = .ok (.aload_n 0, 1) := by decide +kernel
theorem dX11_readWord_6 : decode cX11_readWord 6 = .ok (.lconst 0, 1) := by decide +kernel
theorem dX11_readWord_7 : decode cX11_readWord 7 = .ok (.putfield 150, 3) := by decide +kernel
theorem dX11_readWord_10 : decode cX11_readWord 10 = .ok (.aload_n 0, 1) := by decide +kernel
theorem dX11_readWord_11 : decode cX11_readWord 11 = .ok (.aload_n 0, 1) := by decide +kernel
theorem dX11_readWord_12 : decode cX11_readWord 12 = .ok (.getfield 143, 3) := by decide +kernel
theorem dX11_readWord_15 : decode cX11_readWord 15 = .ok (.putfield 154, 3) := by decide +kernel
theorem dX11_readWord_18 : decode cX11_readWord 18 = .ok (.aload_n 0, 1) := by decide +kernel
theorem dX11_readWord_19 : decode cX11_readWord 19 = .ok (.getfield 154, 3) := by decide +kernel
theorem dX11_readWord_22 : decode cX11_readWord 22 = .ok (.aload_n 0, 1) := by decide +kernel
theorem dX11_readWord_23 : decode cX11_readWord 23 = .ok (.getfield 137, 3) := by decide +kernel
theorem dX11_readWord_26 : decode cX11_readWord 26 = .ok (.if_icmp .ge 82, 3) := by decide +kernel
theorem dX11_readWord_29 : decode cX11_readWord 29 = .ok (.aload_n 0, 1) := by decide +kernel
theorem dX11_readWord_30 : decode cX11_readWord 30 = .ok (.getfield 56, 3) := by decide +kernel
theorem dX11_readWord_33 : decode cX11_readWord 33 = .ok (.aload_n 0, 1) := by decide +kernel
theorem dX11_readWord_34 : decode cX11_readWord 34 = .ok (.getfield 154, 3) := by decide +kernel
theorem dX11_readWord_37 : decode cX11_readWord 37 = .ok (.iaload, 1) := by decide +kernel
theorem dX11_readWord_38 : decode cX11_readWord 38 = .ok (.i2l, 1) := by decide +kernel
theorem dX11_readWord_39 : decode cX11_readWord 39 = .ok (.ldc2_w 157, 3) := by decide +kernel
theorem dX11_readWord_42 : decode cX11_readWord 42 = .ok (.ldc2_w 159, 3) := by decide +kernel
theorem dX11_readWord_45 : decode cX11_readWord 45 = .ok (.invokestatic 127, 3) := by decide +kernel
theorem dX11_readWord_48 : decode cX11_readWord 48 = .ok (.ifCond .eq 60, 3) := by decide +kernel
theorem dX11_readWord_51 : decode cX11_readWord 51 = .ok (.aload_n 0, 1) := by decide +kernel
theorem dX11_readWord_52 : decode cX11_readWord 52 = .ok (.aload_n 0, 1) := by decide +kernel
theorem dX11_readWord_53 : decode cX11_readWord 53 = .ok (.getfield 150, 3) := by decide +kernel
theorem dX11_readWord_56 : decode cX11_readWord 56 = .ok (.ldc2_w 161, 3) := by decide +kernel
theorem dX11_readWord_59 : decode cX11_readWord 59 = .ok (.lcmp, 1) := by decide +kernel
theorem dX11_readWord_60 : decode cX11_readWord 60 = .ok (.ifCond .le 9, 3) := by decide +kernel
theorem dX11_readWord_63 : decode cX11_readWord 63 = .ok (.ldc2_w 163, 3) := by decide +kernel
theorem dX11_readWord_66 : decode cX11_readWord 66 = .ok (.goto 26, 3) := by decide +kernel
theorem dX11_readWord_69 : decode cX11_readWord 69 = .ok (.ldc2_w 165, 3) := by decide +kernel
theorem dX11_readWord_72 : decode cX11_readWord 72 = .ok (.aload_n 0, 1) := by decide +kernel
theorem dX11_readWord_73 : decode cX11_readWord 73 = .ok (.getfield 150, 3) := by decide +kernel
theorem dX11_readWord_76 : decode cX11_readWord 76 = .ok (.lmul, 1) := by decide +kernel
theorem dX11_readWord_77 : decode cX11_readWord 77 = .ok (.aload_n 0, 1) := by decide +kernel
theorem dX11_readWord_78 : decode cX11_readWord 78 = .ok (.getfield 56, 3) := by decide +kernel
theorem dX11_readWord_81 : decode cX11_readWord 81 = .ok (.aload_n 0, 1) := by decide +kernel
theorem dX11_readWord_82 : decode cX11_readWord 82 = .ok (.getfield 154, 3) := by decide +kernel
theorem dX11_readWord_85 : decode cX11_readWord 85 = .ok (.iaload, 1) := by decide +kernel
theorem dX11_readWord_86 : decode cX11_readWord 86 = .ok (.i2l, 1) := by decide +kernel
theorem dX11_readWord_87 : decode cX11_readWord 87 = .ok (.ladd, 1) := by decide +kernel
theorem dX11_readWord_88 : decode cX11_readWord 88 = .ok (.ldc2_w 167, 3) := by decide +kernel
theorem dX11_readWord_91 : decode cX11_readWord 91 = .ok (.lsub, 1) := by decide +kernel
theorem dX11_readWord_92 : decode cX11_readWord 92 = .ok (.putfield 150, 3) := by decide +kernel
theorem dX11_readWord_95 : decode cX11_readWord 95 = .ok (.aload_n 0, 1) := by decide +kernel
theorem dX11_readWord_96 : decode cX11_readWord 96 = .ok (.dup, 1) := by decide +kernel
theorem dX11_readWord_97 : decode cX11_readWord 97 = .ok (.getfield 154, 3) := by decide +kernel
theorem dX11_readWord_100 : decode cX11_readWord 100 = .ok (.iconst 1, 1) := by decide +kernel
theorem dX11_readWord_101 : decode cX11_readWord 101 = .ok (.iadd, 1) := by decide +kernel
theorem dX11_readWord_102 : decode cX11_readWord 102 = .ok (.putfield 154, 3) := by decide +kernel
theorem dX11_readWord_105 : decode cX11_readWord 105 = .ok (.goto (-87), 3) := by decide +kernel
theorem dX11_readWord_108 : decode cX11_readWord 108 = .ok (.return_, 1) := by decide +kernel
theorem dX11_code_0 : decode cX11_code 0 = .ok (.ldc2_w 165, 3) := by decide +kernel
theorem dX11_code_3 : decode cX11_code 3 = .ok (.ldc2_w 165, 3) := by decide +kernel
theorem dX11_code_6 : decode cX11_code 6 = .ok (.ldc2_w 165, 3) := by decide +kernel
theorem dX11_code_9 : decode cX11_code 9 = .ok (.iload_n 0, 1) := by decide +kernel
theorem dX11_code_10 : decode cX11_code 10 = .ok (.i2l, 1) := by decide +kernel
theorem dX11_code_11 : decode cX11_code 11 = .ok (.ldc2_w 167, 3) := by decide +kernel
theorem dX11_code_14 : decode cX11_code 14 = .ok (.lsub, 1) := by decide +kernel
theorem dX11_code_15 : decode cX11_code 15 = .ok (.lmul, 1) := by decide +kernel
theorem dX11_code_16 : decode cX11_code 16 = .ok (.iload_n 1, 1) := by decide +kernel
theorem dX11_code_17 : decode cX11_code 17 = .ok (.i2l, 1) := by decide +kernel
theorem dX11_code_18 : decode cX11_code 18 = .ok (.ladd, 1) := by decide +kernel
theorem dX11_code_19 : decode cX11_code 19 = .ok (.ldc2_w 167, 3) := by decide +kernel
theorem dX11_code_22 : decode cX11_code 22 = .ok (.lsub, 1) := by decide +kernel
theorem dX11_code_23 : decode cX11_code 23 = .ok (.lmul, 1) := by decide +kernel
theorem dX11_code_24 : decode cX11_code 24 = .ok (.iload_n 2, 1) := by decide +kernel
theorem dX11_code_25 : decode cX11_code 25 = .ok (.i2l, 1) := by decide +kernel
theorem dX11_code_26 : decode cX11_code 26 = .ok (.ladd, 1) := by decide +kernel
theorem dX11_code_27 : decode cX11_code 27 = .ok (.ldc2_w 167, 3) := by decide +kernel
theorem dX11_code_30 : decode cX11_code 30 = .ok (.lsub, 1) := by decide +kernel
theorem dX11_code_31 : decode cX11_code 31 = .ok (.lmul, 1) := by decide +kernel
theorem dX11_code_32 : decode cX11_code 32 = .ok (.iload_n 3, 1) := by decide +kernel
theorem dX11_code_33 : decode cX11_code 33 = .ok (.i2l, 1) := by decide +kernel
theorem dX11_code_34 : decode cX11_code 34 = .ok (.ladd, 1) := by decide +kernel
theorem dX11_code_35 : decode cX11_code 35 = .ok (.ldc2_w 167, 3) := by decide +kernel
theorem dX11_code_38 : decode cX11_code 38 = .ok (.lsub, 1) := by decide +kernel
theorem dX11_code_39 : decode cX11_code 39 = .ok (.lreturn, 1) := by decide +kernel
theorem dX11_longer_0 : decode cX11_longer 0 = .ok (.ldc2_w 165, 3) := by decide +kernel
theorem dX11_longer_3 : decode cX11_longer 3 = .ok (.lload_n 0, 1) := by decide +kernel
theorem dX11_longer_4 : decode cX11_longer 4 = .ok (.lmul, 1) := by decide +kernel
theorem dX11_longer_5 : decode cX11_longer 5 = .ok (.iload_n 2, 1) := by decide +kernel
theorem dX11_longer_6 : decode cX11_longer 6 = .ok (.i2l, 1) := by decide +kernel
theorem dX11_longer_7 : decode cX11_longer 7 = .ok (.ladd, 1) := by decide +kernel
theorem dX11_longer_8 : decode cX11_longer 8 = .ok (.ldc2_w 167, 3) := by decide +kernel
theorem dX11_longer_11 : decode cX11_longer 11 = .ok (.lsub, 1) := by decide +kernel
theorem dX11_longer_12 : decode cX11_longer 12 = .ok (.lreturn, 1) := by decide +kernel
theorem dX11_takeNumber_0 : decode cX11_takeNumber 0 = .ok (.aload_n 0, 1) := by decide +kernel
theorem dX11_takeNumber_1 : decode cX11_takeNumber 1 = .ok (.invokevirtual 146, 3) := by decide +kernel
theorem dX11_takeNumber_4 : decode cX11_takeNumber 4 = .ok (.istore_n 3, 1) := by decide +kernel
theorem dX11_takeNumber_5 : decode cX11_takeNumber 5 = .ok (.iload_n 3, 1) := by decide +kernel
theorem dX11_takeNumber_6 : decode cX11_takeNumber 6 = .ok (.i2l, 1) := by decide +kernel
theorem dX11_takeNumber_7 : decode cX11_takeNumber 7 = .ok (.ldc2_w 169, 3) := by decide +kernel
theorem dX11_takeNumber_10 : decode cX11_takeNumber 10 = .ok (.ldc2_w 171, 3) := by decide +kernel
theorem dX11_takeNumber_13 : decode cX11_takeNumber 13 = .ok (.invokestatic 127, 3) := by decide +kernel
theorem dX11_takeNumber_16 : decode cX11_takeNumber 16 = .ok (.ifCond .ne 13, 3) := by decide +kernel
theorem dX11_takeNumber_19 : decode cX11_takeNumber 19 = .ok (.aload_n 0, 1) := by decide +kernel
theorem dX11_takeNumber_20 : decode cX11_takeNumber 20 = .ok (.iconst 1, 1) := by decide +kernel
theorem dX11_takeNumber_21 : decode cX11_takeNumber 21 = .ok (.aload_n 0, 1) := by decide +kernel
theorem dX11_takeNumber_22 : decode cX11_takeNumber 22 = .ok (.getfield 143, 3) := by decide +kernel
theorem dX11_takeNumber_25 : decode cX11_takeNumber 25 = .ok (.invokevirtual 173, 3) := by decide +kernel
theorem dX11_takeNumber_28 : decode cX11_takeNumber 28 = .ok (.ireturn, 1) := by decide +kernel
theorem dX11_takeNumber_29 : decode cX11_takeNumber 29 = .ok (.aload_n 0, 1) := by decide +kernel
theorem dX11_takeNumber_30 : decode cX11_takeNumber 30 = .ok (.aload_n 0, 1) := by decide +kernel
theorem dX11_takeNumber_31 : decode cX11_takeNumber 31 = .ok (.getfield 143, 3) := by decide +kernel
theorem dX11_takeNumber_34 : decode cX11_takeNumber 34 = .ok (.putfield 177, 3) := by decide +kernel
theorem dX11_takeNumber_37 : decode cX11_takeNumber 37 = .ok (.aload_n 0, 1) := by decide +kernel
theorem dX11_takeNumber_38 : decode cX11_takeNumber 38 = .ok (.iconst 0, 1) := by decide +kernel
theorem dX11_takeNumber_39 : decode cX11_takeNumber 39 = .ok (.putfield 180, 3) := by decide +kernel
theorem dX11_takeNumber_42 : decode cX11_takeNumber 42 = .ok (.aload_n 0, 1) := by decide +kernel
theorem dX11_takeNumber_43 : decode cX11_takeNumber 43 = .ok (.getfield 143, 3) := by decide +kernel
theorem dX11_takeNumber_46 : decode cX11_takeNumber 46 = .ok (.aload_n 0, 1) := by decide +kernel
theorem dX11_takeNumber_47 : decode cX11_takeNumber 47 = .ok (.getfield 137, 3) := by decide +kernel
theorem dX11_takeNumber_50 : decode cX11_takeNumber 50 = .ok (.if_icmp .ge 79, 3) := by decide +kernel
theorem dX11_takeNumber_53 : decode cX11_takeNumber 53 = .ok (.aload_n 0, 1) := by decide +kernel
theorem dX11_takeNumber_54 : decode cX11_takeNumber 54 = .ok (.getfield 56, 3) := by decide +kernel
theorem dX11_takeNumber_57 : decode cX11_takeNumber 57 = .ok (.aload_n 0, 1) := by decide +kernel
theorem dX11_takeNumber_58 : decode cX11_takeNumber 58 = .ok (.getfield 143, 3) := by decide +kernel
theorem dX11_takeNumber_61 : decode cX11_takeNumber 61 = .ok (.iaload, 1) := by decide +kernel
theorem dX11_takeNumber_62 : decode cX11_takeNumber 62 = .ok (.i2l, 1) := by decide +kernel
theorem dX11_takeNumber_63 : decode cX11_takeNumber 63 = .ok (.ldc2_w 169, 3) := by decide +kernel
theorem dX11_takeNumber_66 : decode cX11_takeNumber 66 = .ok (.ldc2_w 171, 3) := by decide +kernel
theorem dX11_takeNumber_69 : decode cX11_takeNumber 69 = .ok (.invokestatic 127, 3) := by decide +kernel
theorem dX11_takeNumber_72 : decode cX11_takeNumber 72 = .ok (.ifCond .eq 57, 3) := by decide +kernel
theorem dX11_takeNumber_75 : decode cX11_takeNumber 75 = .ok (.aload_n 0, 1) := by decide +kernel
theorem dX11_takeNumber_76 : decode cX11_takeNumber 76 = .ok (.aload_n 0, 1) := by decide +kernel
theorem dX11_takeNumber_77 : decode cX11_takeNumber 77 = .ok (.getfield 180, 3) := by decide +kernel
theorem dX11_takeNumber_80 : decode cX11_takeNumber 80 = .ok (.sipush 10000, 3) := by decide +kernel
theorem dX11_takeNumber_83 : decode cX11_takeNumber 83 = .ok (.if_icmp .le 10, 3) := by decide +kernel
theorem dX11_takeNumber_86 : decode cX11_takeNumber 86 = .ok (.aload_n 0, 1) := by decide +kernel
theorem dX11_takeNumber_87 : decode cX11_takeNumber 87 = .ok (.getfield 180, 3) := by decide +kernel
theorem dX11_takeNumber_90 : decode cX11_takeNumber 90 = .ok (.goto 23, 3) := by decide +kernel
theorem dX11_takeNumber_93 : decode cX11_takeNumber 93 = .ok (.bipush 10, 2) := by decide +kernel
theorem dX11_takeNumber_95 : decode cX11_takeNumber 95 = .ok (.aload_n 0, 1) := by decide +kernel
theorem dX11_takeNumber_96 : decode cX11_takeNumber 96 = .ok (.getfield 180, 3) := by decide +kernel
theorem dX11_takeNumber_99 : decode cX11_takeNumber 99 = .ok (.imul, 1) := by decide +kernel
theorem dX11_takeNumber_100 : decode cX11_takeNumber 100 = .ok (.aload_n 0, 1) := by decide +kernel
theorem dX11_takeNumber_101 : decode cX11_takeNumber 101 = .ok (.getfield 56, 3) := by decide +kernel
theorem dX11_takeNumber_104 : decode cX11_takeNumber 104 = .ok (.aload_n 0, 1) := by decide +kernel
theorem dX11_takeNumber_105 : decode cX11_takeNumber 105 = .ok (.getfield 143, 3) := by decide +kernel
theorem dX11_takeNumber_108 : decode cX11_takeNumber 108 = .ok (.iaload, 1) := by decide +kernel
theorem dX11_takeNumber_109 : decode cX11_takeNumber 109 = .ok (.iadd, 1) := by decide +kernel
theorem dX11_takeNumber_110 : decode cX11_takeNumber 110 = .ok (.bipush 48, 2) := by decide +kernel
theorem dX11_takeNumber_112 : decode cX11_takeNumber 112 = .ok (.isub, 1) := by decide +kernel
theorem dX11_takeNumber_113 : decode cX11_takeNumber 113 = .ok (.putfield 180, 3) := by decide +kernel
theorem dX11_takeNumber_116 : decode cX11_takeNumber 116 = .ok (.aload_n 0, 1) := by decide +kernel
theorem dX11_takeNumber_117 : decode cX11_takeNumber 117 = .ok (.dup, 1) := by decide +kernel
theorem dX11_takeNumber_118 : decode cX11_takeNumber 118 = .ok (.getfield 143, 3) := by decide +kernel
theorem dX11_takeNumber_121 : decode cX11_takeNumber 121 = .ok (.iconst 1, 1) := by decide +kernel
theorem dX11_takeNumber_122 : decode cX11_takeNumber 122 = .ok (.iadd, 1) := by decide +kernel
theorem dX11_takeNumber_123 : decode cX11_takeNumber 123 = .ok (.putfield 143, 3) := by decide +kernel
theorem dX11_takeNumber_126 : decode cX11_takeNumber 126 = .ok (.goto (-84), 3) := by decide +kernel
theorem dX11_takeNumber_129 : decode cX11_takeNumber 129 = .ok (.aload_n 0, 1) := by decide +kernel
theorem dX11_takeNumber_130 : decode cX11_takeNumber 130 = .ok (.getfield 143, 3) := by decide +kernel
theorem dX11_takeNumber_133 : decode cX11_takeNumber 133 = .ok (.aload_n 0, 1) := by decide +kernel
theorem dX11_takeNumber_134 : decode cX11_takeNumber 134 = .ok (.getfield 177, 3) := by decide +kernel
theorem dX11_takeNumber_137 : decode cX11_takeNumber 137 = .ok (.isub, 1) := by decide +kernel
theorem dX11_takeNumber_138 : decode cX11_takeNumber 138 = .ok (.iconst 3, 1) := by decide +kernel
theorem dX11_takeNumber_139 : decode cX11_takeNumber 139 = .ok (.if_icmp .gt 18, 3) := by decide +kernel
theorem dX11_takeNumber_142 : decode cX11_takeNumber 142 = .ok (.aload_n 0, 1) := by decide +kernel
theorem dX11_takeNumber_143 : decode cX11_takeNumber 143 = .ok (.getfield 180, 3) := by decide +kernel
theorem dX11_takeNumber_146 : decode cX11_takeNumber 146 = .ok (.i2l, 1) := by decide +kernel
theorem dX11_takeNumber_147 : decode cX11_takeNumber 147 = .ok (.iload_n 1, 1) := by decide +kernel
theorem dX11_takeNumber_148 : decode cX11_takeNumber 148 = .ok (.i2l, 1) := by decide +kernel
theorem dX11_takeNumber_149 : decode cX11_takeNumber 149 = .ok (.iload_n 2, 1) := by decide +kernel
theorem dX11_takeNumber_150 : decode cX11_takeNumber 150 = .ok (.i2l, 1) := by decide +kernel
theorem dX11_takeNumber_151 : decode cX11_takeNumber 151 = .ok (.invokestatic 127, 3) := by decide +kernel
theorem dX11_takeNumber_154 : decode cX11_takeNumber 154 = .ok (.ifCond .ne 15, 3) := by decide +kernel
theorem dX11_takeNumber_157 : decode cX11_takeNumber 157 = .ok (.aload_n 0, 1) := by decide +kernel
theorem dX11_takeNumber_158 : decode cX11_takeNumber 158 = .ok (.iconst 2, 1) := by decide +kernel
theorem dX11_takeNumber_159 : decode cX11_takeNumber 159 = .ok (.aload_n 0, 1) := by decide +kernel
theorem dX11_takeNumber_160 : decode cX11_takeNumber 160 = .ok (.getfield 177, 3) := by decide +kernel
theorem dX11_takeNumber_163 : decode cX11_takeNumber 163 = .ok (.invokevirtual 173, 3) := by decide +kernel
theorem dX11_takeNumber_166 : decode cX11_takeNumber 166 = .ok (.goto 4, 3) := by decide +kernel
theorem dX11_takeNumber_169 : decode cX11_takeNumber 169 = .ok (.iconst 0, 1) := by decide +kernel
theorem dX11_takeNumber_170 : decode cX11_takeNumber 170 = .ok (.ireturn, 1) := by decide +kernel
theorem dX11_takeStop_0 : decode cX11_takeStop 0 = .ok (.aload_n 0, 1) := by decide +kernel
theorem dX11_takeStop_1 : decode cX11_takeStop 1 = .ok (.invokevirtual 146, 3) := by decide +kernel
theorem dX11_takeStop_4 : decode cX11_takeStop 4 = .ok (.bipush 59, 2) := by decide +kernel
theorem dX11_takeStop_6 : decode cX11_takeStop 6 = .ok (.if_icmp .eq 13, 3) := by decide +kernel
theorem dX11_takeStop_9 : decode cX11_takeStop 9 = .ok (.aload_n 0, 1) := by decide +kernel
theorem dX11_takeStop_10 : decode cX11_takeStop 10 = .ok (.iconst 1, 1) := by decide +kernel
theorem dX11_takeStop_11 : decode cX11_takeStop 11 = .ok (.aload_n 0, 1) := by decide +kernel
theorem dX11_takeStop_12 : decode cX11_takeStop 12 = .ok (.getfield 143, 3) := by decide +kernel
theorem dX11_takeStop_15 : decode cX11_takeStop 15 = .ok (.invokevirtual 173, 3) := by decide +kernel
theorem dX11_takeStop_18 : decode cX11_takeStop 18 = .ok (.ireturn, 1) := by decide +kernel
theorem dX11_takeStop_19 : decode cX11_takeStop 19 = .ok (.aload_n 0, 1) := by decide +kernel
theorem dX11_takeStop_20 : decode cX11_takeStop 20 = .ok (.dup, 1) := by decide +kernel
theorem dX11_takeStop_21 : decode cX11_takeStop 21 = .ok (.getfield 143, 3) := by decide +kernel
theorem dX11_takeStop_24 : decode cX11_takeStop 24 = .ok (.iconst 1, 1) := by decide +kernel
theorem dX11_takeStop_25 : decode cX11_takeStop 25 = .ok (.iadd, 1) := by decide +kernel
theorem dX11_takeStop_26 : decode cX11_takeStop 26 = .ok (.putfield 143, 3) := by decide +kernel
theorem dX11_takeStop_29 : decode cX11_takeStop 29 = .ok (.iconst 0, 1) := by decide +kernel
theorem dX11_takeStop_30 : decode cX11_takeStop 30 = .ok (.ireturn, 1) := by decide +kernel
theorem dX11_takeSuit_0 : decode cX11_takeSuit 0 = .ok (.aload_n 0, 1) := by decide +kernel
theorem dX11_takeSuit_1 : decode cX11_takeSuit 1 = .ok (.iconst 1, 1) := by decide +kernel
theorem dX11_takeSuit_2 : decode cX11_takeSuit 2 = .ok (.sipush 999, 3) := by decide +kernel
theorem dX11_takeSuit_5 : decode cX11_takeSuit 5 = .ok (.invokevirtual 183, 3) := by decide +kernel
theorem dX11_takeSuit_8 : decode cX11_takeSuit 8 = .ok (.istore_n 1, 1) := by decide +kernel
theorem dX11_takeSuit_9 : decode cX11_takeSuit 9 = .ok (.aload_n 0, 1) := by decide +kernel
theorem dX11_takeSuit_10 : decode cX11_takeSuit 10 = .ok (.getfield 63, 3) := by decide +kernel
theorem dX11_takeSuit_13 : decode cX11_takeSuit 13 = .ok (.aload_n 0, 1) := by decide +kernel
theorem dX11_takeSuit_14 : decode cX11_takeSuit 14 = .ok (.getfield 186, 3) := by decide +kernel
theorem dX11_takeSuit_17 : decode cX11_takeSuit 17 = .ok (.aload_n 0, 1) := by decide +kernel
theorem dX11_takeSuit_18 : decode cX11_takeSuit 18 = .ok (.getfield 180, 3) := by decide +kernel
theorem dX11_takeSuit_21 : decode cX11_takeSuit 21 = .ok (.iastore, 1) := by decide +kernel
theorem dX11_takeSuit_22 : decode cX11_takeSuit 22 = .ok (.iload_n 1, 1) := by decide +kernel
theorem dX11_takeSuit_23 : decode cX11_takeSuit 23 = .ok (.ifCond .le 7, 3) := by decide +kernel
theorem dX11_takeSuit_26 : decode cX11_takeSuit 26 = .ok (.iload_n 1, 1) := by decide +kernel
theorem dX11_takeSuit_27 : decode cX11_takeSuit 27 = .ok (.goto 11, 3) := by decide +kernel
theorem dX11_takeSuit_30 : decode cX11_takeSuit 30 = .ok (.aload_n 0, 1) := by decide +kernel
theorem dX11_takeSuit_31 : decode cX11_takeSuit 31 = .ok (.iconst 1, 1) := by decide +kernel
theorem dX11_takeSuit_32 : decode cX11_takeSuit 32 = .ok (.sipush 399, 3) := by decide +kernel
theorem dX11_takeSuit_35 : decode cX11_takeSuit 35 = .ok (.invokevirtual 183, 3) := by decide +kernel
theorem dX11_takeSuit_38 : decode cX11_takeSuit 38 = .ok (.istore_n 1, 1) := by decide +kernel
theorem dX11_takeSuit_39 : decode cX11_takeSuit 39 = .ok (.aload_n 0, 1) := by decide +kernel
theorem dX11_takeSuit_40 : decode cX11_takeSuit 40 = .ok (.getfield 66, 3) := by decide +kernel
theorem dX11_takeSuit_43 : decode cX11_takeSuit 43 = .ok (.aload_n 0, 1) := by decide +kernel
theorem dX11_takeSuit_44 : decode cX11_takeSuit 44 = .ok (.getfield 186, 3) := by decide +kernel
theorem dX11_takeSuit_47 : decode cX11_takeSuit 47 = .ok (.aload_n 0, 1) := by decide +kernel
theorem dX11_takeSuit_48 : decode cX11_takeSuit 48 = .ok (.getfield 180, 3) := by decide +kernel
theorem dX11_takeSuit_51 : decode cX11_takeSuit 51 = .ok (.iastore, 1) := by decide +kernel
theorem dX11_takeSuit_52 : decode cX11_takeSuit 52 = .ok (.aload_n 0, 1) := by decide +kernel
theorem dX11_takeSuit_53 : decode cX11_takeSuit 53 = .ok (.getfield 69, 3) := by decide +kernel
theorem dX11_takeSuit_56 : decode cX11_takeSuit 56 = .ok (.aload_n 0, 1) := by decide +kernel
theorem dX11_takeSuit_57 : decode cX11_takeSuit 57 = .ok (.getfield 186, 3) := by decide +kernel
theorem dX11_takeSuit_60 : decode cX11_takeSuit 60 = .ok (.iconst (-1), 1) := by decide +kernel
theorem dX11_takeSuit_61 : decode cX11_takeSuit 61 = .ok (.iastore, 1) := by decide +kernel
theorem dX11_takeSuit_62 : decode cX11_takeSuit 62 = .ok (.iload_n 1, 1) := by decide +kernel
theorem dX11_takeSuit_63 : decode cX11_takeSuit 63 = .ok (.ifCond .ne 51, 3) := by decide +kernel
theorem dX11_takeSuit_66 : decode cX11_takeSuit 66 = .ok (.aload_n 0, 1) := by decide +kernel
theorem dX11_takeSuit_67 : decode cX11_takeSuit 67 = .ok (.invokevirtual 189, 3) := by decide +kernel
theorem dX11_takeSuit_70 : decode cX11_takeSuit 70 = .ok (.aload_n 0, 1) := by decide +kernel
theorem dX11_takeSuit_71 : decode cX11_takeSuit 71 = .ok (.getfield 150, 3) := by decide +kernel
theorem dX11_takeSuit_74 : decode cX11_takeSuit 74 = .ok (.ldc2_w 192, 3) := by decide +kernel
theorem dX11_takeSuit_77 : decode cX11_takeSuit 77 = .ok (.lcmp, 1) := by decide +kernel
theorem dX11_takeSuit_78 : decode cX11_takeSuit 78 = .ok (.ifCond .ne 36, 3) := by decide +kernel
theorem dX11_takeSuit_81 : decode cX11_takeSuit 81 = .ok (.aload_n 0, 1) := by decide +kernel
theorem dX11_takeSuit_82 : decode cX11_takeSuit 82 = .ok (.aload_n 0, 1) := by decide +kernel
theorem dX11_takeSuit_83 : decode cX11_takeSuit 83 = .ok (.getfield 154, 3) := by decide +kernel
theorem dX11_takeSuit_86 : decode cX11_takeSuit 86 = .ok (.putfield 143, 3) := by decide +kernel
theorem dX11_takeSuit_89 : decode cX11_takeSuit 89 = .ok (.aload_n 0, 1) := by decide +kernel
theorem dX11_takeSuit_90 : decode cX11_takeSuit 90 = .ok (.iconst 0, 1) := by decide +kernel
theorem dX11_takeSuit_91 : decode cX11_takeSuit 91 = .ok (.aload_n 0, 1) := by decide +kernel
theorem dX11_takeSuit_92 : decode cX11_takeSuit 92 = .ok (.getfield 186, 3) := by decide +kernel
theorem dX11_takeSuit_95 : decode cX11_takeSuit 95 = .ok (.iconst 1, 1) := by decide +kernel
theorem dX11_takeSuit_96 : decode cX11_takeSuit 96 = .ok (.isub, 1) := by decide +kernel
theorem dX11_takeSuit_97 : decode cX11_takeSuit 97 = .ok (.invokevirtual 183, 3) := by decide +kernel
theorem dX11_takeSuit_100 : decode cX11_takeSuit 100 = .ok (.istore_n 1, 1) := by decide +kernel
theorem dX11_takeSuit_101 : decode cX11_takeSuit 101 = .ok (.aload_n 0, 1) := by decide +kernel
theorem dX11_takeSuit_102 : decode cX11_takeSuit 102 = .ok (.getfield 69, 3) := by decide +kernel
theorem dX11_takeSuit_105 : decode cX11_takeSuit 105 = .ok (.aload_n 0, 1) := by decide +kernel
theorem dX11_takeSuit_106 : decode cX11_takeSuit 106 = .ok (.getfield 186, 3) := by decide +kernel
theorem dX11_takeSuit_109 : decode cX11_takeSuit 109 = .ok (.aload_n 0, 1) := by decide +kernel
theorem dX11_takeSuit_110 : decode cX11_takeSuit 110 = .ok (.getfield 180, 3) := by decide +kernel
theorem dX11_takeSuit_113 : decode cX11_takeSuit 113 = .ok (.iastore, 1) := by decide +kernel
theorem dX11_takeSuit_114 : decode cX11_takeSuit 114 = .ok (.aload_n 0, 1) := by decide +kernel
theorem dX11_takeSuit_115 : decode cX11_takeSuit 115 = .ok (.dup, 1) := by decide +kernel
theorem dX11_takeSuit_116 : decode cX11_takeSuit 116 = .ok (.getfield 186, 3) := by decide +kernel
theorem dX11_takeSuit_119 : decode cX11_takeSuit 119 = .ok (.iconst 1, 1) := by decide +kernel
theorem dX11_takeSuit_120 : decode cX11_takeSuit 120 = .ok (.iadd, 1) := by decide +kernel
theorem dX11_takeSuit_121 : decode cX11_takeSuit 121 = .ok (.putfield 186, 3) := by decide +kernel
theorem dX11_takeSuit_124 : decode cX11_takeSuit 124 = .ok (.iload_n 1, 1) := by decide +kernel
theorem dX11_takeSuit_125 : decode cX11_takeSuit 125 = .ok (.ireturn, 1) := by decide +kernel
theorem dX11_takeKind_0 : decode cX11_takeKind 0 = .ok (.aload_n 0, 1) := by decide +kernel
theorem dX11_takeKind_1 : decode cX11_takeKind 1 = .ok (.invokevirtual 189, 3) := by decide +kernel
theorem dX11_takeKind_4 : decode cX11_takeKind 4 = .ok (.aload_n 0, 1) := by decide +kernel
theorem dX11_takeKind_5 : decode cX11_takeKind 5 = .ok (.getfield 150, 3) := by decide +kernel
theorem dX11_takeKind_8 : decode cX11_takeKind 8 = .ok (.bipush 115, 2) := by decide +kernel
theorem dX11_takeKind_10 : decode cX11_takeKind 10 = .ok (.bipush 119, 2) := by decide +kernel
theorem dX11_takeKind_12 : decode cX11_takeKind 12 = .ok (.bipush 111, 2) := by decide +kernel
theorem dX11_takeKind_14 : decode cX11_takeKind 14 = .ok (.bipush 114, 2) := by decide +kernel
theorem dX11_takeKind_16 : decode cX11_takeKind 16 = .ok (.invokestatic 194, 3) := by decide +kernel
theorem dX11_takeKind_19 : decode cX11_takeKind 19 = .ok (.bipush 110, 2) := by decide +kernel
theorem dX11_takeKind_21 : decode cX11_takeKind 21 = .ok (.invokestatic 198, 3) := by decide +kernel
theorem dX11_takeKind_24 : decode cX11_takeKind 24 = .ok (.lcmp, 1) := by decide +kernel
theorem dX11_takeKind_25 : decode cX11_takeKind 25 = .ok (.ifCond .ne 7, 3) := by decide +kernel
theorem dX11_takeKind_28 : decode cX11_takeKind 28 = .ok (.iconst 0, 1) := by decide +kernel
theorem dX11_takeKind_29 : decode cX11_takeKind 29 = .ok (.goto 103, 3) := by decide +kernel
theorem dX11_takeKind_32 : decode cX11_takeKind 32 = .ok (.aload_n 0, 1) := by decide +kernel
theorem dX11_takeKind_33 : decode cX11_takeKind 33 = .ok (.getfield 150, 3) := by decide +kernel
theorem dX11_takeKind_36 : decode cX11_takeKind 36 = .ok (.bipush 99, 2) := by decide +kernel
theorem dX11_takeKind_38 : decode cX11_takeKind 38 = .ok (.bipush 111, 2) := by decide +kernel
theorem dX11_takeKind_40 : decode cX11_takeKind 40 = .ok (.bipush 112, 2) := by decide +kernel
theorem dX11_takeKind_42 : decode cX11_takeKind 42 = .ok (.bipush 105, 2) := by decide +kernel
theorem dX11_takeKind_44 : decode cX11_takeKind 44 = .ok (.invokestatic 194, 3) := by decide +kernel
theorem dX11_takeKind_47 : decode cX11_takeKind 47 = .ok (.bipush 101, 2) := by decide +kernel
theorem dX11_takeKind_49 : decode cX11_takeKind 49 = .ok (.invokestatic 198, 3) := by decide +kernel
theorem dX11_takeKind_52 : decode cX11_takeKind 52 = .ok (.bipush 100, 2) := by decide +kernel
theorem dX11_takeKind_54 : decode cX11_takeKind 54 = .ok (.invokestatic 198, 3) := by decide +kernel
theorem dX11_takeKind_57 : decode cX11_takeKind 57 = .ok (.lcmp, 1) := by decide +kernel
theorem dX11_takeKind_58 : decode cX11_takeKind 58 = .ok (.ifCond .ne 7, 3) := by decide +kernel
theorem dX11_takeKind_61 : decode cX11_takeKind 61 = .ok (.iconst 1, 1) := by decide +kernel
theorem dX11_takeKind_62 : decode cX11_takeKind 62 = .ok (.goto 70, 3) := by decide +kernel
theorem dX11_takeKind_65 : decode cX11_takeKind 65 = .ok (.aload_n 0, 1) := by decide +kernel
theorem dX11_takeKind_66 : decode cX11_takeKind 66 = .ok (.getfield 150, 3) := by decide +kernel
theorem dX11_takeKind_69 : decode cX11_takeKind 69 = .ok (.bipush 115, 2) := by decide +kernel
theorem dX11_takeKind_71 : decode cX11_takeKind 71 = .ok (.bipush 104, 2) := by decide +kernel
theorem dX11_takeKind_73 : decode cX11_takeKind 73 = .ok (.bipush 111, 2) := by decide +kernel
theorem dX11_takeKind_75 : decode cX11_takeKind 75 = .ok (.bipush 119, 2) := by decide +kernel
theorem dX11_takeKind_77 : decode cX11_takeKind 77 = .ok (.invokestatic 194, 3) := by decide +kernel
theorem dX11_takeKind_80 : decode cX11_takeKind 80 = .ok (.bipush 110, 2) := by decide +kernel
theorem dX11_takeKind_82 : decode cX11_takeKind 82 = .ok (.invokestatic 198, 3) := by decide +kernel
theorem dX11_takeKind_85 : decode cX11_takeKind 85 = .ok (.lcmp, 1) := by decide +kernel
theorem dX11_takeKind_86 : decode cX11_takeKind 86 = .ok (.ifCond .ne 7, 3) := by decide +kernel
theorem dX11_takeKind_89 : decode cX11_takeKind 89 = .ok (.iconst 2, 1) := by decide +kernel
theorem dX11_takeKind_90 : decode cX11_takeKind 90 = .ok (.goto 42, 3) := by decide +kernel
theorem dX11_takeKind_93 : decode cX11_takeKind 93 = .ok (.aload_n 0, 1) := by decide +kernel
theorem dX11_takeKind_94 : decode cX11_takeKind 94 = .ok (.getfield 150, 3) := by decide +kernel
theorem dX11_takeKind_97 : decode cX11_takeKind 97 = .ok (.bipush 97, 2) := by decide +kernel
theorem dX11_takeKind_99 : decode cX11_takeKind 99 = .ok (.bipush 103, 2) := by decide +kernel
theorem dX11_takeKind_101 : decode cX11_takeKind 101 = .ok (.bipush 97, 2) := by decide +kernel
theorem dX11_takeKind_103 : decode cX11_takeKind 103 = .ok (.bipush 105, 2) := by decide +kernel
theorem dX11_takeKind_105 : decode cX11_takeKind 105 = .ok (.invokestatic 194, 3) := by decide +kernel
theorem dX11_takeKind_108 : decode cX11_takeKind 108 = .ok (.bipush 110, 2) := by decide +kernel
theorem dX11_takeKind_110 : decode cX11_takeKind 110 = .ok (.invokestatic 198, 3) := by decide +kernel
theorem dX11_takeKind_113 : decode cX11_takeKind 113 = .ok (.bipush 115, 2) := by decide +kernel
theorem dX11_takeKind_115 : decode cX11_takeKind 115 = .ok (.invokestatic 198, 3) := by decide +kernel
theorem dX11_takeKind_118 : decode cX11_takeKind 118 = .ok (.bipush 116, 2) := by decide +kernel
theorem dX11_takeKind_120 : decode cX11_takeKind 120 = .ok (.invokestatic 198, 3) := by decide +kernel
theorem dX11_takeKind_123 : decode cX11_takeKind 123 = .ok (.lcmp, 1) := by decide +kernel
theorem dX11_takeKind_124 : decode cX11_takeKind 124 = .ok (.ifCond .ne 7, 3) := by decide +kernel
theorem dX11_takeKind_127 : decode cX11_takeKind 127 = .ok (.iconst 3, 1) := by decide +kernel
theorem dX11_takeKind_128 : decode cX11_takeKind 128 = .ok (.goto 4, 3) := by decide +kernel
theorem dX11_takeKind_131 : decode cX11_takeKind 131 = .ok (.iconst (-1), 1) := by decide +kernel
theorem dX11_takeKind_132 : decode cX11_takeKind 132 = .ok (.istore_n 1, 1) := by decide +kernel
theorem dX11_takeKind_133 : decode cX11_takeKind 133 = .ok (.iload_n 1, 1) := by decide +kernel
theorem dX11_takeKind_134 : decode cX11_takeKind 134 = .ok (.ifCond .ge 13, 3) := by decide +kernel
theorem dX11_takeKind_137 : decode cX11_takeKind 137 = .ok (.aload_n 0, 1) := by decide +kernel
theorem dX11_takeKind_138 : decode cX11_takeKind 138 = .ok (.iconst 1, 1) := by decide +kernel
theorem dX11_takeKind_139 : decode cX11_takeKind 139 = .ok (.aload_n 0, 1) := by decide +kernel
theorem dX11_takeKind_140 : decode cX11_takeKind 140 = .ok (.getfield 143, 3) := by decide +kernel
theorem dX11_takeKind_143 : decode cX11_takeKind 143 = .ok (.invokevirtual 173, 3) := by decide +kernel
theorem dX11_takeKind_146 : decode cX11_takeKind 146 = .ok (.ireturn, 1) := by decide +kernel
theorem dX11_takeKind_147 : decode cX11_takeKind 147 = .ok (.aload_n 0, 1) := by decide +kernel
theorem dX11_takeKind_148 : decode cX11_takeKind 148 = .ok (.getfield 78, 3) := by decide +kernel
theorem dX11_takeKind_151 : decode cX11_takeKind 151 = .ok (.aload_n 0, 1) := by decide +kernel
theorem dX11_takeKind_152 : decode cX11_takeKind 152 = .ok (.getfield 202, 3) := by decide +kernel
theorem dX11_takeKind_155 : decode cX11_takeKind 155 = .ok (.iload_n 1, 1) := by decide +kernel
theorem dX11_takeKind_156 : decode cX11_takeKind 156 = .ok (.iastore, 1) := by decide +kernel
theorem dX11_takeKind_157 : decode cX11_takeKind 157 = .ok (.aload_n 0, 1) := by decide +kernel
theorem dX11_takeKind_158 : decode cX11_takeKind 158 = .ok (.aload_n 0, 1) := by decide +kernel
theorem dX11_takeKind_159 : decode cX11_takeKind 159 = .ok (.getfield 154, 3) := by decide +kernel
theorem dX11_takeKind_162 : decode cX11_takeKind 162 = .ok (.putfield 143, 3) := by decide +kernel
theorem dX11_takeKind_165 : decode cX11_takeKind 165 = .ok (.iconst 0, 1) := by decide +kernel
theorem dX11_takeKind_166 : decode cX11_takeKind 166 = .ok (.ireturn, 1) := by decide +kernel
theorem dX11_takeWitness_0 : decode cX11_takeWitness 0 = .ok (.aload_n 0, 1) := by decide +kernel
theorem dX11_takeWitness_1 : decode cX11_takeWitness 1 = .ok (.iconst 0, 1) := by decide +kernel
theorem dX11_takeWitness_2 : decode cX11_takeWitness 2 = .ok (.aload_n 0, 1) := by decide +kernel
theorem dX11_takeWitness_3 : decode cX11_takeWitness 3 = .ok (.getfield 186, 3) := by decide +kernel
theorem dX11_takeWitness_6 : decode cX11_takeWitness 6 = .ok (.iconst 1, 1) := by decide +kernel
theorem dX11_takeWitness_7 : decode cX11_takeWitness 7 = .ok (.isub, 1) := by decide +kernel
theorem dX11_takeWitness_8 : decode cX11_takeWitness 8 = .ok (.invokevirtual 183, 3) := by decide +kernel
theorem dX11_takeWitness_11 : decode cX11_takeWitness 11 = .ok (.istore_n 1, 1) := by decide +kernel
theorem dX11_takeWitness_12 : decode cX11_takeWitness 12 = .ok (.iload_n 1, 1) := by decide +kernel
theorem dX11_takeWitness_13 : decode cX11_takeWitness 13 = .ok (.ifCond .le 5, 3) := by decide +kernel
theorem dX11_takeWitness_16 : decode cX11_takeWitness 16 = .ok (.iload_n 1, 1) := by decide +kernel
theorem dX11_takeWitness_17 : decode cX11_takeWitness 17 = .ok (.ireturn, 1) := by decide +kernel
theorem dX11_takeWitness_18 : decode cX11_takeWitness 18 = .ok (.iconst 0, 1) := by decide +kernel
theorem dX11_takeWitness_19 : decode cX11_takeWitness 19 = .ok (.istore_n 2, 1) := by decide +kernel
theorem dX11_takeWitness_20 : decode cX11_takeWitness 20 = .ok (.iconst 0, 1) := by decide +kernel
theorem dX11_takeWitness_21 : decode cX11_takeWitness 21 = .ok (.istore_n 3, 1) := by decide +kernel
theorem dX11_takeWitness_22 : decode cX11_takeWitness 22 = .ok (.iload_n 3, 1) := by decide +kernel
theorem dX11_takeWitness_23 : decode cX11_takeWitness 23 = .ok (.aload_n 0, 1) := by decide +kernel
theorem dX11_takeWitness_24 : decode cX11_takeWitness 24 = .ok (.getfield 202, 3) := by decide +kernel
theorem dX11_takeWitness_27 : decode cX11_takeWitness 27 = .ok (.if_icmp .ge 30, 3) := by decide +kernel
theorem dX11_takeWitness_30 : decode cX11_takeWitness 30 = .ok (.iload_n 2, 1) := by decide +kernel
theorem dX11_takeWitness_31 : decode cX11_takeWitness 31 = .ok (.aload_n 0, 1) := by decide +kernel
theorem dX11_takeWitness_32 : decode cX11_takeWitness 32 = .ok (.getfield 72, 3) := by decide +kernel
theorem dX11_takeWitness_35 : decode cX11_takeWitness 35 = .ok (.iload_n 3, 1) := by decide +kernel
theorem dX11_takeWitness_36 : decode cX11_takeWitness 36 = .ok (.iaload, 1) := by decide +kernel
theorem dX11_takeWitness_37 : decode cX11_takeWitness 37 = .ok (.aload_n 0, 1) := by decide +kernel
theorem dX11_takeWitness_38 : decode cX11_takeWitness 38 = .ok (.getfield 180, 3) := by decide +kernel
theorem dX11_takeWitness_41 : decode cX11_takeWitness 41 = .ok (.if_icmp .ne 7, 3) := by decide +kernel
theorem dX11_takeWitness_44 : decode cX11_takeWitness 44 = .ok (.iconst 1, 1) := by decide +kernel
theorem dX11_takeWitness_45 : decode cX11_takeWitness 45 = .ok (.goto 4, 3) := by decide +kernel
theorem dX11_takeWitness_48 : decode cX11_takeWitness 48 = .ok (.iconst 0, 1) := by decide +kernel
theorem dX11_takeWitness_49 : decode cX11_takeWitness 49 = .ok (.iadd, 1) := by decide +kernel
theorem dX11_takeWitness_50 : decode cX11_takeWitness 50 = .ok (.istore_n 2, 1) := by decide +kernel
theorem dX11_takeWitness_51 : decode cX11_takeWitness 51 = .ok (.iinc 3 1, 3) := by decide +kernel
theorem dX11_takeWitness_54 : decode cX11_takeWitness 54 = .ok (.goto (-32), 3) := by decide +kernel
theorem dX11_takeWitness_57 : decode cX11_takeWitness 57 = .ok (.iload_n 2, 1) := by decide +kernel
theorem dX11_takeWitness_58 : decode cX11_takeWitness 58 = .ok (.bipush 6, 2) := by decide +kernel
theorem dX11_takeWitness_60 : decode cX11_takeWitness 60 = .ok (.if_icmp .ne 13, 3) := by decide +kernel
theorem dX11_takeWitness_63 : decode cX11_takeWitness 63 = .ok (.aload_n 0, 1) := by decide +kernel
theorem dX11_takeWitness_64 : decode cX11_takeWitness 64 = .ok (.iconst 4, 1) := by decide +kernel
theorem dX11_takeWitness_65 : decode cX11_takeWitness 65 = .ok (.aload_n 0, 1) := by decide +kernel
theorem dX11_takeWitness_66 : decode cX11_takeWitness 66 = .ok (.getfield 177, 3) := by decide +kernel
theorem dX11_takeWitness_69 : decode cX11_takeWitness 69 = .ok (.invokevirtual 173, 3) := by decide +kernel
theorem dX11_takeWitness_72 : decode cX11_takeWitness 72 = .ok (.ireturn, 1) := by decide +kernel
theorem dX11_takeWitness_73 : decode cX11_takeWitness 73 = .ok (.aload_n 0, 1) := by decide +kernel
theorem dX11_takeWitness_74 : decode cX11_takeWitness 74 = .ok (.getfield 72, 3) := by decide +kernel
theorem dX11_takeWitness_77 : decode cX11_takeWitness 77 = .ok (.aload_n 0, 1) := by decide +kernel
theorem dX11_takeWitness_78 : decode cX11_takeWitness 78 = .ok (.getfield 202, 3) := by decide +kernel
theorem dX11_takeWitness_81 : decode cX11_takeWitness 81 = .ok (.aload_n 0, 1) := by decide +kernel
theorem dX11_takeWitness_82 : decode cX11_takeWitness 82 = .ok (.getfield 180, 3) := by decide +kernel
theorem dX11_takeWitness_85 : decode cX11_takeWitness 85 = .ok (.iastore, 1) := by decide +kernel
theorem dX11_takeWitness_86 : decode cX11_takeWitness 86 = .ok (.aload_n 0, 1) := by decide +kernel
theorem dX11_takeWitness_87 : decode cX11_takeWitness 87 = .ok (.iconst 1, 1) := by decide +kernel
theorem dX11_takeWitness_88 : decode cX11_takeWitness 88 = .ok (.bipush 99, 2) := by decide +kernel
theorem dX11_takeWitness_90 : decode cX11_takeWitness 90 = .ok (.invokevirtual 183, 3) := by decide +kernel
theorem dX11_takeWitness_93 : decode cX11_takeWitness 93 = .ok (.istore_n 1, 1) := by decide +kernel
theorem dX11_takeWitness_94 : decode cX11_takeWitness 94 = .ok (.aload_n 0, 1) := by decide +kernel
theorem dX11_takeWitness_95 : decode cX11_takeWitness 95 = .ok (.getfield 75, 3) := by decide +kernel
theorem dX11_takeWitness_98 : decode cX11_takeWitness 98 = .ok (.aload_n 0, 1) := by decide +kernel
theorem dX11_takeWitness_99 : decode cX11_takeWitness 99 = .ok (.getfield 202, 3) := by decide +kernel
theorem dX11_takeWitness_102 : decode cX11_takeWitness 102 = .ok (.aload_n 0, 1) := by decide +kernel
theorem dX11_takeWitness_103 : decode cX11_takeWitness 103 = .ok (.getfield 180, 3) := by decide +kernel
theorem dX11_takeWitness_106 : decode cX11_takeWitness 106 = .ok (.iastore, 1) := by decide +kernel
theorem dX11_takeWitness_107 : decode cX11_takeWitness 107 = .ok (.iload_n 1, 1) := by decide +kernel
theorem dX11_takeWitness_108 : decode cX11_takeWitness 108 = .ok (.ifCond .le 7, 3) := by decide +kernel
theorem dX11_takeWitness_111 : decode cX11_takeWitness 111 = .ok (.iload_n 1, 1) := by decide +kernel
theorem dX11_takeWitness_112 : decode cX11_takeWitness 112 = .ok (.goto 7, 3) := by decide +kernel
theorem dX11_takeWitness_115 : decode cX11_takeWitness 115 = .ok (.aload_n 0, 1) := by decide +kernel
theorem dX11_takeWitness_116 : decode cX11_takeWitness 116 = .ok (.invokevirtual 205, 3) := by decide +kernel
theorem dX11_takeWitness_119 : decode cX11_takeWitness 119 = .ok (.istore_n 1, 1) := by decide +kernel
theorem dX11_takeWitness_120 : decode cX11_takeWitness 120 = .ok (.aload_n 0, 1) := by decide +kernel
theorem dX11_takeWitness_121 : decode cX11_takeWitness 121 = .ok (.dup, 1) := by decide +kernel
theorem dX11_takeWitness_122 : decode cX11_takeWitness 122 = .ok (.getfield 202, 3) := by decide +kernel
theorem dX11_takeWitness_125 : decode cX11_takeWitness 125 = .ok (.iconst 1, 1) := by decide +kernel
theorem dX11_takeWitness_126 : decode cX11_takeWitness 126 = .ok (.iadd, 1) := by decide +kernel
theorem dX11_takeWitness_127 : decode cX11_takeWitness 127 = .ok (.putfield 202, 3) := by decide +kernel
theorem dX11_takeWitness_130 : decode cX11_takeWitness 130 = .ok (.iload_n 1, 1) := by decide +kernel
theorem dX11_takeWitness_131 : decode cX11_takeWitness 131 = .ok (.ireturn, 1) := by decide +kernel
theorem dX11_takeClause_0 : decode cX11_takeClause 0 = .ok (.aload_n 0, 1) := by decide +kernel
theorem dX11_takeClause_1 : decode cX11_takeClause 1 = .ok (.invokevirtual 189, 3) := by decide +kernel
theorem dX11_takeClause_4 : decode cX11_takeClause 4 = .ok (.aload_n 0, 1) := by decide +kernel
theorem dX11_takeClause_5 : decode cX11_takeClause 5 = .ok (.getfield 150, 3) := by decide +kernel
theorem dX11_takeClause_8 : decode cX11_takeClause 8 = .ok (.bipush 115, 2) := by decide +kernel
theorem dX11_takeClause_10 : decode cX11_takeClause 10 = .ok (.bipush 117, 2) := by decide +kernel
theorem dX11_takeClause_12 : decode cX11_takeClause 12 = .ok (.bipush 105, 2) := by decide +kernel
theorem dX11_takeClause_14 : decode cX11_takeClause 14 = .ok (.bipush 116, 2) := by decide +kernel
theorem dX11_takeClause_16 : decode cX11_takeClause 16 = .ok (.invokestatic 194, 3) := by decide +kernel
theorem dX11_takeClause_19 : decode cX11_takeClause 19 = .ok (.lcmp, 1) := by decide +kernel
theorem dX11_takeClause_20 : decode cX11_takeClause 20 = .ok (.ifCond .ne 7, 3) := by decide +kernel
theorem dX11_takeClause_23 : decode cX11_takeClause 23 = .ok (.iconst 1, 1) := by decide +kernel
theorem dX11_takeClause_24 : decode cX11_takeClause 24 = .ok (.goto 4, 3) := by decide +kernel
theorem dX11_takeClause_27 : decode cX11_takeClause 27 = .ok (.iconst 0, 1) := by decide +kernel
theorem dX11_takeClause_28 : decode cX11_takeClause 28 = .ok (.istore_n 1, 1) := by decide +kernel
theorem dX11_takeClause_29 : decode cX11_takeClause 29 = .ok (.iload_n 1, 1) := by decide +kernel
theorem dX11_takeClause_30 : decode cX11_takeClause 30 = .ok (.ifCond .ne 47, 3) := by decide +kernel
theorem dX11_takeClause_33 : decode cX11_takeClause 33 = .ok (.aload_n 0, 1) := by decide +kernel
theorem dX11_takeClause_34 : decode cX11_takeClause 34 = .ok (.getfield 150, 3) := by decide +kernel
theorem dX11_takeClause_37 : decode cX11_takeClause 37 = .ok (.bipush 119, 2) := by decide +kernel
theorem dX11_takeClause_39 : decode cX11_takeClause 39 = .ok (.bipush 105, 2) := by decide +kernel
theorem dX11_takeClause_41 : decode cX11_takeClause 41 = .ok (.bipush 116, 2) := by decide +kernel
theorem dX11_takeClause_43 : decode cX11_takeClause 43 = .ok (.bipush 110, 2) := by decide +kernel
theorem dX11_takeClause_45 : decode cX11_takeClause 45 = .ok (.invokestatic 194, 3) := by decide +kernel
theorem dX11_takeClause_48 : decode cX11_takeClause 48 = .ok (.bipush 101, 2) := by decide +kernel
theorem dX11_takeClause_50 : decode cX11_takeClause 50 = .ok (.invokestatic 198, 3) := by decide +kernel
theorem dX11_takeClause_53 : decode cX11_takeClause 53 = .ok (.bipush 115, 2) := by decide +kernel
theorem dX11_takeClause_55 : decode cX11_takeClause 55 = .ok (.invokestatic 198, 3) := by decide +kernel
theorem dX11_takeClause_58 : decode cX11_takeClause 58 = .ok (.bipush 115, 2) := by decide +kernel
theorem dX11_takeClause_60 : decode cX11_takeClause 60 = .ok (.invokestatic 198, 3) := by decide +kernel
theorem dX11_takeClause_63 : decode cX11_takeClause 63 = .ok (.lcmp, 1) := by decide +kernel
theorem dX11_takeClause_64 : decode cX11_takeClause 64 = .ok (.ifCond .eq 13, 3) := by decide +kernel
theorem dX11_takeClause_67 : decode cX11_takeClause 67 = .ok (.aload_n 0, 1) := by decide +kernel
theorem dX11_takeClause_68 : decode cX11_takeClause 68 = .ok (.iconst 1, 1) := by decide +kernel
theorem dX11_takeClause_69 : decode cX11_takeClause 69 = .ok (.aload_n 0, 1) := by decide +kernel
theorem dX11_takeClause_70 : decode cX11_takeClause 70 = .ok (.getfield 143, 3) := by decide +kernel
theorem dX11_takeClause_73 : decode cX11_takeClause 73 = .ok (.invokevirtual 173, 3) := by decide +kernel
theorem dX11_takeClause_76 : decode cX11_takeClause 76 = .ok (.ireturn, 1) := by decide +kernel
theorem dX11_takeClause_77 : decode cX11_takeClause 77 = .ok (.iload_n 1, 1) := by decide +kernel
theorem dX11_takeClause_78 : decode cX11_takeClause 78 = .ok (.ifCond .eq 15, 3) := by decide +kernel
theorem dX11_takeClause_81 : decode cX11_takeClause 81 = .ok (.aload_n 0, 1) := by decide +kernel
theorem dX11_takeClause_82 : decode cX11_takeClause 82 = .ok (.getfield 186, 3) := by decide +kernel
theorem dX11_takeClause_85 : decode cX11_takeClause 85 = .ok (.bipush 6, 2) := by decide +kernel
theorem dX11_takeClause_87 : decode cX11_takeClause 87 = .ok (.if_icmp .ne 25, 3) := by decide +kernel
theorem dX11_takeClause_90 : decode cX11_takeClause 90 = .ok (.goto 12, 3) := by decide +kernel
theorem dX11_takeClause_93 : decode cX11_takeClause 93 = .ok (.aload_n 0, 1) := by decide +kernel
theorem dX11_takeClause_94 : decode cX11_takeClause 94 = .ok (.getfield 202, 3) := by decide +kernel
theorem dX11_takeClause_97 : decode cX11_takeClause 97 = .ok (.bipush 12, 2) := by decide +kernel
theorem dX11_takeClause_99 : decode cX11_takeClause 99 = .ok (.if_icmp .ne 13, 3) := by decide +kernel
theorem dX11_takeClause_102 : decode cX11_takeClause 102 = .ok (.aload_n 0, 1) := by decide +kernel
theorem dX11_takeClause_103 : decode cX11_takeClause 103 = .ok (.iconst 3, 1) := by decide +kernel
theorem dX11_takeClause_104 : decode cX11_takeClause 104 = .ok (.aload_n 0, 1) := by decide +kernel
theorem dX11_takeClause_105 : decode cX11_takeClause 105 = .ok (.getfield 143, 3) := by decide +kernel
theorem dX11_takeClause_108 : decode cX11_takeClause 108 = .ok (.invokevirtual 173, 3) := by decide +kernel
theorem dX11_takeClause_111 : decode cX11_takeClause 111 = .ok (.ireturn, 1) := by decide +kernel
theorem dX11_takeClause_112 : decode cX11_takeClause 112 = .ok (.aload_n 0, 1) := by decide +kernel
theorem dX11_takeClause_113 : decode cX11_takeClause 113 = .ok (.aload_n 0, 1) := by decide +kernel
theorem dX11_takeClause_114 : decode cX11_takeClause 114 = .ok (.getfield 154, 3) := by decide +kernel
theorem dX11_takeClause_117 : decode cX11_takeClause 117 = .ok (.putfield 143, 3) := by decide +kernel
theorem dX11_takeClause_120 : decode cX11_takeClause 120 = .ok (.iload_n 1, 1) := by decide +kernel
theorem dX11_takeClause_121 : decode cX11_takeClause 121 = .ok (.ifCond .eq 10, 3) := by decide +kernel
theorem dX11_takeClause_124 : decode cX11_takeClause 124 = .ok (.aload_n 0, 1) := by decide +kernel
theorem dX11_takeClause_125 : decode cX11_takeClause 125 = .ok (.invokevirtual 208, 3) := by decide +kernel
theorem dX11_takeClause_128 : decode cX11_takeClause 128 = .ok (.goto 7, 3) := by decide +kernel
theorem dX11_takeClause_131 : decode cX11_takeClause 131 = .ok (.aload_n 0, 1) := by decide +kernel
theorem dX11_takeClause_132 : decode cX11_takeClause 132 = .ok (.invokevirtual 211, 3) := by decide +kernel
theorem dX11_takeClause_135 : decode cX11_takeClause 135 = .ok (.istore_n 2, 1) := by decide +kernel
theorem dX11_takeClause_136 : decode cX11_takeClause 136 = .ok (.iload_n 2, 1) := by decide +kernel
theorem dX11_takeClause_137 : decode cX11_takeClause 137 = .ok (.ifCond .le 7, 3) := by decide +kernel
theorem dX11_takeClause_140 : decode cX11_takeClause 140 = .ok (.iload_n 2, 1) := by decide +kernel
theorem dX11_takeClause_141 : decode cX11_takeClause 141 = .ok (.goto 7, 3) := by decide +kernel
theorem dX11_takeClause_144 : decode cX11_takeClause 144 = .ok (.aload_n 0, 1) := by decide +kernel
theorem dX11_takeClause_145 : decode cX11_takeClause 145 = .ok (.invokevirtual 214, 3) := by decide +kernel
theorem dX11_takeClause_148 : decode cX11_takeClause 148 = .ok (.ireturn, 1) := by decide +kernel
theorem dX11_court_0 : decode cX11_court 0 = .ok (.aload_n 0, 1) := by decide +kernel
theorem dX11_court_1 : decode cX11_court 1 = .ok (.iconst (-1), 1) := by decide +kernel
theorem dX11_court_2 : decode cX11_court 2 = .ok (.putfield 59, 3) := by decide +kernel
theorem dX11_court_5 : decode cX11_court 5 = .ok (.aload_n 0, 1) := by decide +kernel
theorem dX11_court_6 : decode cX11_court 6 = .ok (.iconst 0, 1) := by decide +kernel
theorem dX11_court_7 : decode cX11_court 7 = .ok (.putfield 143, 3) := by decide +kernel
theorem dX11_court_10 : decode cX11_court 10 = .ok (.aload_n 0, 1) := by decide +kernel
theorem dX11_court_11 : decode cX11_court 11 = .ok (.iconst 0, 1) := by decide +kernel
theorem dX11_court_12 : decode cX11_court 12 = .ok (.putfield 186, 3) := by decide +kernel
theorem dX11_court_15 : decode cX11_court 15 = .ok (.aload_n 0, 1) := by decide +kernel
theorem dX11_court_16 : decode cX11_court 16 = .ok (.iconst 0, 1) := by decide +kernel
theorem dX11_court_17 : decode cX11_court 17 = .ok (.putfield 202, 3) := by decide +kernel
theorem dX11_court_20 : decode cX11_court 20 = .ok (.iconst 0, 1) := by decide +kernel
theorem dX11_court_21 : decode cX11_court 21 = .ok (.istore_n 1, 1) := by decide +kernel
theorem dX11_court_22 : decode cX11_court 22 = .ok (.iload_n 1, 1) := by decide +kernel
theorem dX11_court_23 : decode cX11_court 23 = .ok (.ifCond .ne 18, 3) := by decide +kernel
theorem dX11_court_26 : decode cX11_court 26 = .ok (.aload_n 0, 1) := by decide +kernel
theorem dX11_court_27 : decode cX11_court 27 = .ok (.invokevirtual 146, 3) := by decide +kernel
theorem dX11_court_30 : decode cX11_court 30 = .ok (.ifCond .lt 11, 3) := by decide +kernel
theorem dX11_court_33 : decode cX11_court 33 = .ok (.aload_n 0, 1) := by decide +kernel
theorem dX11_court_34 : decode cX11_court 34 = .ok (.invokevirtual 217, 3) := by decide +kernel
theorem dX11_court_37 : decode cX11_court 37 = .ok (.istore_n 1, 1) := by decide +kernel
theorem dX11_court_38 : decode cX11_court 38 = .ok (.goto (-16), 3) := by decide +kernel
theorem dX11_court_41 : decode cX11_court 41 = .ok (.aload_n 0, 1) := by decide +kernel
theorem dX11_court_42 : decode cX11_court 42 = .ok (.iconst 0, 1) := by decide +kernel
theorem dX11_court_43 : decode cX11_court 43 = .ok (.putfield 137, 3) := by decide +kernel
theorem dX11_court_46 : decode cX11_court 46 = .ok (.iload_n 1, 1) := by decide +kernel
theorem dX11_court_47 : decode cX11_court 47 = .ok (.ifCond .le 8, 3) := by decide +kernel
theorem dX11_court_50 : decode cX11_court 50 = .ok (.bipush (-10), 2) := by decide +kernel
theorem dX11_court_52 : decode cX11_court 52 = .ok (.iload_n 1, 1) := by decide +kernel
theorem dX11_court_53 : decode cX11_court 53 = .ok (.isub, 1) := by decide +kernel
theorem dX11_court_54 : decode cX11_court 54 = .ok (.ireturn, 1) := by decide +kernel
theorem dX11_court_55 : decode cX11_court 55 = .ok (.aload_n 0, 1) := by decide +kernel
theorem dX11_court_56 : decode cX11_court 56 = .ok (.aload_n 0, 1) := by decide +kernel
theorem dX11_court_57 : decode cX11_court 57 = .ok (.getfield 186, 3) := by decide +kernel
theorem dX11_court_60 : decode cX11_court 60 = .ok (.putfield 124, 3) := by decide +kernel
theorem dX11_court_63 : decode cX11_court 63 = .ok (.aload_n 0, 1) := by decide +kernel
theorem dX11_court_64 : decode cX11_court 64 = .ok (.aload_n 0, 1) := by decide +kernel
theorem dX11_court_65 : decode cX11_court 65 = .ok (.getfield 202, 3) := by decide +kernel
theorem dX11_court_68 : decode cX11_court 68 = .ok (.putfield 131, 3) := by decide +kernel
theorem dX11_court_71 : decode cX11_court 71 = .ok (.iconst 0, 1) := by decide +kernel
theorem dX11_court_72 : decode cX11_court 72 = .ok (.istore_n 2, 1) := by decide +kernel
theorem dX11_court_73 : decode cX11_court 73 = .ok (.iload_n 2, 1) := by decide +kernel
theorem dX11_court_74 : decode cX11_court 74 = .ok (.bipush 6, 2) := by decide +kernel
theorem dX11_court_76 : decode cX11_court 76 = .ok (.if_icmp .ge 52, 3) := by decide +kernel
theorem dX11_court_79 : decode cX11_court 79 = .ok (.aload_n 0, 1) := by decide +kernel
theorem dX11_court_80 : decode cX11_court 80 = .ok (.getfield 7, 3) := by decide +kernel
theorem dX11_court_83 : decode cX11_court 83 = .ok (.iload_n 2, 1) := by decide +kernel
theorem dX11_court_84 : decode cX11_court 84 = .ok (.aload_n 0, 1) := by decide +kernel
theorem dX11_court_85 : decode cX11_court 85 = .ok (.getfield 63, 3) := by decide +kernel
theorem dX11_court_88 : decode cX11_court 88 = .ok (.iload_n 2, 1) := by decide +kernel
theorem dX11_court_89 : decode cX11_court 89 = .ok (.iaload, 1) := by decide +kernel
theorem dX11_court_90 : decode cX11_court 90 = .ok (.iastore, 1) := by decide +kernel
theorem dX11_court_91 : decode cX11_court 91 = .ok (.aload_n 0, 1) := by decide +kernel
theorem dX11_court_92 : decode cX11_court 92 = .ok (.getfield 13, 3) := by decide +kernel
theorem dX11_court_95 : decode cX11_court 95 = .ok (.iload_n 2, 1) := by decide +kernel
theorem dX11_court_96 : decode cX11_court 96 = .ok (.aload_n 0, 1) := by decide +kernel
theorem dX11_court_97 : decode cX11_court 97 = .ok (.getfield 66, 3) := by decide +kernel
theorem dX11_court_100 : decode cX11_court 100 = .ok (.iload_n 2, 1) := by decide +kernel
theorem dX11_court_101 : decode cX11_court 101 = .ok (.iaload, 1) := by decide +kernel
theorem dX11_court_102 : decode cX11_court 102 = .ok (.iastore, 1) := by decide +kernel
theorem dX11_court_103 : decode cX11_court 103 = .ok (.aload_n 0, 1) := by decide +kernel
theorem dX11_court_104 : decode cX11_court 104 = .ok (.getfield 16, 3) := by decide +kernel
theorem dX11_court_107 : decode cX11_court 107 = .ok (.iload_n 2, 1) := by decide +kernel
theorem dX11_court_108 : decode cX11_court 108 = .ok (.aload_n 0, 1) := by decide +kernel
theorem dX11_court_109 : decode cX11_court 109 = .ok (.getfield 69, 3) := by decide +kernel
theorem dX11_court_112 : decode cX11_court 112 = .ok (.iload_n 2, 1) := by decide +kernel
theorem dX11_court_113 : decode cX11_court 113 = .ok (.iaload, 1) := by decide +kernel
theorem dX11_court_114 : decode cX11_court 114 = .ok (.iastore, 1) := by decide +kernel
theorem dX11_court_115 : decode cX11_court 115 = .ok (.aload_n 0, 1) := by decide +kernel
theorem dX11_court_116 : decode cX11_court 116 = .ok (.getfield 106, 3) := by decide +kernel
theorem dX11_court_119 : decode cX11_court 119 = .ok (.iload_n 2, 1) := by decide +kernel
theorem dX11_court_120 : decode cX11_court 120 = .ok (.iconst 0, 1) := by decide +kernel
theorem dX11_court_121 : decode cX11_court 121 = .ok (.iastore, 1) := by decide +kernel
theorem dX11_court_122 : decode cX11_court 122 = .ok (.iinc 2 1, 3) := by decide +kernel
theorem dX11_court_125 : decode cX11_court 125 = .ok (.goto (-52), 3) := by decide +kernel
theorem dX11_court_128 : decode cX11_court 128 = .ok (.iconst 0, 1) := by decide +kernel
theorem dX11_court_129 : decode cX11_court 129 = .ok (.istore_n 2, 1) := by decide +kernel
theorem dX11_court_130 : decode cX11_court 130 = .ok (.iload_n 2, 1) := by decide +kernel
theorem dX11_court_131 : decode cX11_court 131 = .ok (.bipush 12, 2) := by decide +kernel
theorem dX11_court_133 : decode cX11_court 133 = .ok (.if_icmp .ge 45, 3) := by decide +kernel
theorem dX11_court_136 : decode cX11_court 136 = .ok (.aload_n 0, 1) := by decide +kernel
theorem dX11_court_137 : decode cX11_court 137 = .ok (.getfield 19, 3) := by decide +kernel
theorem dX11_court_140 : decode cX11_court 140 = .ok (.iload_n 2, 1) := by decide +kernel
theorem dX11_court_141 : decode cX11_court 141 = .ok (.aload_n 0, 1) := by decide +kernel
theorem dX11_court_142 : decode cX11_court 142 = .ok (.getfield 72, 3) := by decide +kernel
theorem dX11_court_145 : decode cX11_court 145 = .ok (.iload_n 2, 1) := by decide +kernel
theorem dX11_court_146 : decode cX11_court 146 = .ok (.iaload, 1) := by decide +kernel
theorem dX11_court_147 : decode cX11_court 147 = .ok (.iastore, 1) := by decide +kernel
theorem dX11_court_148 : decode cX11_court 148 = .ok (.aload_n 0, 1) := by decide +kernel
theorem dX11_court_149 : decode cX11_court 149 = .ok (.getfield 22, 3) := by decide +kernel
theorem dX11_court_152 : decode cX11_court 152 = .ok (.iload_n 2, 1) := by decide +kernel
theorem dX11_court_153 : decode cX11_court 153 = .ok (.aload_n 0, 1) := by decide +kernel
theorem dX11_court_154 : decode cX11_court 154 = .ok (.getfield 75, 3) := by decide +kernel
theorem dX11_court_157 : decode cX11_court 157 = .ok (.iload_n 2, 1) := by decide +kernel
theorem dX11_court_158 : decode cX11_court 158 = .ok (.iaload, 1) := by decide +kernel
theorem dX11_court_159 : decode cX11_court 159 = .ok (.iastore, 1) := by decide +kernel
theorem dX11_court_160 : decode cX11_court 160 = .ok (.aload_n 0, 1) := by decide +kernel
theorem dX11_court_161 : decode cX11_court 161 = .ok (.getfield 25, 3) := by decide +kernel
theorem dX11_court_164 : decode cX11_court 164 = .ok (.iload_n 2, 1) := by decide +kernel
theorem dX11_court_165 : decode cX11_court 165 = .ok (.aload_n 0, 1) := by decide +kernel
theorem dX11_court_166 : decode cX11_court 166 = .ok (.getfield 78, 3) := by decide +kernel
theorem dX11_court_169 : decode cX11_court 169 = .ok (.iload_n 2, 1) := by decide +kernel
theorem dX11_court_170 : decode cX11_court 170 = .ok (.iaload, 1) := by decide +kernel
theorem dX11_court_171 : decode cX11_court 171 = .ok (.iastore, 1) := by decide +kernel
theorem dX11_court_172 : decode cX11_court 172 = .ok (.iinc 2 1, 3) := by decide +kernel
theorem dX11_court_175 : decode cX11_court 175 = .ok (.goto (-45), 3) := by decide +kernel
theorem dX11_court_178 : decode cX11_court 178 = .ok (.aload_n 0, 1) := by decide +kernel
theorem dX11_court_179 : decode cX11_court 179 = .ok (.invokevirtual 220, 3) := by decide +kernel
theorem dX11_court_182 : decode cX11_court 182 = .ok (.aload_n 0, 1) := by decide +kernel
theorem dX11_court_183 : decode cX11_court 183 = .ok (.getfield 121, 3) := by decide +kernel
theorem dX11_court_186 : decode cX11_court 186 = .ok (.iconst 0, 1) := by decide +kernel
theorem dX11_court_187 : decode cX11_court 187 = .ok (.iconst 0, 1) := by decide +kernel
theorem dX11_court_188 : decode cX11_court 188 = .ok (.bastore, 1) := by decide +kernel
theorem dX11_court_189 : decode cX11_court 189 = .ok (.aload_n 0, 1) := by decide +kernel
theorem dX11_court_190 : decode cX11_court 190 = .ok (.getfield 121, 3) := by decide +kernel
theorem dX11_court_193 : decode cX11_court 193 = .ok (.iconst 1, 1) := by decide +kernel
theorem dX11_court_194 : decode cX11_court 194 = .ok (.iconst 0, 1) := by decide +kernel
theorem dX11_court_195 : decode cX11_court 195 = .ok (.bastore, 1) := by decide +kernel
theorem dX11_court_196 : decode cX11_court 196 = .ok (.aload_n 0, 1) := by decide +kernel
theorem dX11_court_197 : decode cX11_court 197 = .ok (.getfield 124, 3) := by decide +kernel
theorem dX11_court_200 : decode cX11_court 200 = .ok (.ireturn, 1) := by decide +kernel
theorem dX11_anew_0 : decode cX11_anew 0 = .ok (.aload_n 0, 1) := by decide +kernel
theorem dX11_anew_1 : decode cX11_anew 1 = .ok (.iconst 0, 1) := by decide +kernel
theorem dX11_anew_2 : decode cX11_anew 2 = .ok (.putfield 223, 3) := by decide +kernel
theorem dX11_anew_5 : decode cX11_anew 5 = .ok (.aload_n 0, 1) := by decide +kernel
theorem dX11_anew_6 : decode cX11_anew 6 = .ok (.iconst 0, 1) := by decide +kernel
theorem dX11_anew_7 : decode cX11_anew 7 = .ok (.putfield 226, 3) := by decide +kernel
theorem dX11_anew_10 : decode cX11_anew 10 = .ok (.iconst 0, 1) := by decide +kernel
theorem dX11_anew_11 : decode cX11_anew 11 = .ok (.istore_n 1, 1) := by decide +kernel
theorem dX11_anew_12 : decode cX11_anew 12 = .ok (.iload_n 1, 1) := by decide +kernel
theorem dX11_anew_13 : decode cX11_anew 13 = .ok (.bipush 12, 2) := by decide +kernel
theorem dX11_anew_15 : decode cX11_anew 15 = .ok (.if_icmp .ge 30, 3) := by decide +kernel
theorem dX11_anew_18 : decode cX11_anew 18 = .ok (.aload_n 0, 1) := by decide +kernel
theorem dX11_anew_19 : decode cX11_anew 19 = .ok (.getfield 31, 3) := by decide +kernel
theorem dX11_anew_22 : decode cX11_anew 22 = .ok (.iload_n 1, 1) := by decide +kernel
theorem dX11_anew_23 : decode cX11_anew 23 = .ok (.iconst (-1), 1) := by decide +kernel
theorem dX11_anew_24 : decode cX11_anew 24 = .ok (.iastore, 1) := by decide +kernel
theorem dX11_anew_25 : decode cX11_anew 25 = .ok (.aload_n 0, 1) := by decide +kernel
theorem dX11_anew_26 : decode cX11_anew 26 = .ok (.getfield 34, 3) := by decide +kernel
theorem dX11_anew_29 : decode cX11_anew 29 = .ok (.iload_n 1, 1) := by decide +kernel
theorem dX11_anew_30 : decode cX11_anew 30 = .ok (.iconst 0, 1) := by decide +kernel
theorem dX11_anew_31 : decode cX11_anew 31 = .ok (.iastore, 1) := by decide +kernel
theorem dX11_anew_32 : decode cX11_anew 32 = .ok (.aload_n 0, 1) := by decide +kernel
theorem dX11_anew_33 : decode cX11_anew 33 = .ok (.getfield 37, 3) := by decide +kernel
theorem dX11_anew_36 : decode cX11_anew 36 = .ok (.iload_n 1, 1) := by decide +kernel
theorem dX11_anew_37 : decode cX11_anew 37 = .ok (.iconst 0, 1) := by decide +kernel
theorem dX11_anew_38 : decode cX11_anew 38 = .ok (.bastore, 1) := by decide +kernel
theorem dX11_anew_39 : decode cX11_anew 39 = .ok (.iinc 1 1, 3) := by decide +kernel
theorem dX11_anew_42 : decode cX11_anew 42 = .ok (.goto (-30), 3) := by decide +kernel
theorem dX11_anew_45 : decode cX11_anew 45 = .ok (.iconst 0, 1) := by decide +kernel
theorem dX11_anew_46 : decode cX11_anew 46 = .ok (.istore_n 1, 1) := by decide +kernel
theorem dX11_anew_47 : decode cX11_anew 47 = .ok (.iload_n 1, 1) := by decide +kernel
theorem dX11_anew_48 : decode cX11_anew 48 = .ok (.bipush 6, 2) := by decide +kernel
theorem dX11_anew_50 : decode cX11_anew 50 = .ok (.if_icmp .ge 30, 3) := by decide +kernel
theorem dX11_anew_53 : decode cX11_anew 53 = .ok (.aload_n 0, 1) := by decide +kernel
theorem dX11_anew_54 : decode cX11_anew 54 = .ok (.getfield 41, 3) := by decide +kernel
theorem dX11_anew_57 : decode cX11_anew 57 = .ok (.iload_n 1, 1) := by decide +kernel
theorem dX11_anew_58 : decode cX11_anew 58 = .ok (.iconst 0, 1) := by decide +kernel
theorem dX11_anew_59 : decode cX11_anew 59 = .ok (.iastore, 1) := by decide +kernel
theorem dX11_anew_60 : decode cX11_anew 60 = .ok (.aload_n 0, 1) := by decide +kernel
theorem dX11_anew_61 : decode cX11_anew 61 = .ok (.getfield 44, 3) := by decide +kernel
theorem dX11_anew_64 : decode cX11_anew 64 = .ok (.iload_n 1, 1) := by decide +kernel
theorem dX11_anew_65 : decode cX11_anew 65 = .ok (.iconst (-1), 1) := by decide +kernel
theorem dX11_anew_66 : decode cX11_anew 66 = .ok (.iastore, 1) := by decide +kernel
theorem dX11_anew_67 : decode cX11_anew 67 = .ok (.aload_n 0, 1) := by decide +kernel
theorem dX11_anew_68 : decode cX11_anew 68 = .ok (.getfield 47, 3) := by decide +kernel
theorem dX11_anew_71 : decode cX11_anew 71 = .ok (.iload_n 1, 1) := by decide +kernel
theorem dX11_anew_72 : decode cX11_anew 72 = .ok (.iconst 0, 1) := by decide +kernel
theorem dX11_anew_73 : decode cX11_anew 73 = .ok (.iastore, 1) := by decide +kernel
theorem dX11_anew_74 : decode cX11_anew 74 = .ok (.iinc 1 1, 3) := by decide +kernel
theorem dX11_anew_77 : decode cX11_anew 77 = .ok (.goto (-30), 3) := by decide +kernel
theorem dX11_anew_80 : decode cX11_anew 80 = .ok (.iconst 0, 1) := by decide +kernel
theorem dX11_anew_81 : decode cX11_anew 81 = .ok (.istore_n 1, 1) := by decide +kernel
theorem dX11_anew_82 : decode cX11_anew 82 = .ok (.iload_n 1, 1) := by decide +kernel
theorem dX11_anew_83 : decode cX11_anew 83 = .ok (.sipush 2400, 3) := by decide +kernel
theorem dX11_anew_86 : decode cX11_anew 86 = .ok (.if_icmp .ge 16, 3) := by decide +kernel
theorem dX11_anew_89 : decode cX11_anew 89 = .ok (.aload_n 0, 1) := by decide +kernel
theorem dX11_anew_90 : decode cX11_anew 90 = .ok (.getfield 50, 3) := by decide +kernel
theorem dX11_anew_93 : decode cX11_anew 93 = .ok (.iload_n 1, 1) := by decide +kernel
theorem dX11_anew_94 : decode cX11_anew 94 = .ok (.iconst 0, 1) := by decide +kernel
theorem dX11_anew_95 : decode cX11_anew 95 = .ok (.iastore, 1) := by decide +kernel
theorem dX11_anew_96 : decode cX11_anew 96 = .ok (.iinc 1 1, 3) := by decide +kernel
theorem dX11_anew_99 : decode cX11_anew 99 = .ok (.goto (-17), 3) := by decide +kernel
theorem dX11_anew_102 : decode cX11_anew 102 = .ok (.return_, 1) := by decide +kernel
theorem dX11_takeLaw_0 : decode cX11_takeLaw 0 = .ok (.aload_n 0, 1) := by decide +kernel
theorem dX11_takeLaw_1 : decode cX11_takeLaw 1 = .ok (.invokevirtual 189, 3) := by decide +kernel
theorem dX11_takeLaw_4 : decode cX11_takeLaw 4 = .ok (.aload_n 0, 1) := by decide +kernel
theorem dX11_takeLaw_5 : decode cX11_takeLaw 5 = .ok (.getfield 150, 3) := by decide +kernel
theorem dX11_takeLaw_8 : decode cX11_takeLaw 8 = .ok (.bipush 102, 2) := by decide +kernel
theorem dX11_takeLaw_10 : decode cX11_takeLaw 10 = .ok (.bipush 114, 2) := by decide +kernel
theorem dX11_takeLaw_12 : decode cX11_takeLaw 12 = .ok (.bipush 111, 2) := by decide +kernel
theorem dX11_takeLaw_14 : decode cX11_takeLaw 14 = .ok (.bipush 109, 2) := by decide +kernel
theorem dX11_takeLaw_16 : decode cX11_takeLaw 16 = .ok (.invokestatic 194, 3) := by decide +kernel
theorem dX11_takeLaw_19 : decode cX11_takeLaw 19 = .ok (.lcmp, 1) := by decide +kernel
theorem dX11_takeLaw_20 : decode cX11_takeLaw 20 = .ok (.ifCond .eq 13, 3) := by decide +kernel
theorem dX11_takeLaw_23 : decode cX11_takeLaw 23 = .ok (.aload_n 0, 1) := by decide +kernel
theorem dX11_takeLaw_24 : decode cX11_takeLaw 24 = .ok (.iconst 1, 1) := by decide +kernel
theorem dX11_takeLaw_25 : decode cX11_takeLaw 25 = .ok (.aload_n 0, 1) := by decide +kernel
theorem dX11_takeLaw_26 : decode cX11_takeLaw 26 = .ok (.getfield 143, 3) := by decide +kernel
theorem dX11_takeLaw_29 : decode cX11_takeLaw 29 = .ok (.invokevirtual 173, 3) := by decide +kernel
theorem dX11_takeLaw_32 : decode cX11_takeLaw 32 = .ok (.ireturn, 1) := by decide +kernel
theorem dX11_takeLaw_33 : decode cX11_takeLaw 33 = .ok (.aload_n 0, 1) := by decide +kernel
theorem dX11_takeLaw_34 : decode cX11_takeLaw 34 = .ok (.getfield 229, 3) := by decide +kernel
theorem dX11_takeLaw_37 : decode cX11_takeLaw 37 = .ok (.bipush 6, 2) := by decide +kernel
theorem dX11_takeLaw_39 : decode cX11_takeLaw 39 = .ok (.if_icmp .ne 13, 3) := by decide +kernel
theorem dX11_takeLaw_42 : decode cX11_takeLaw 42 = .ok (.aload_n 0, 1) := by decide +kernel
theorem dX11_takeLaw_43 : decode cX11_takeLaw 43 = .ok (.iconst 3, 1) := by decide +kernel
theorem dX11_takeLaw_44 : decode cX11_takeLaw 44 = .ok (.aload_n 0, 1) := by decide +kernel
theorem dX11_takeLaw_45 : decode cX11_takeLaw 45 = .ok (.getfield 143, 3) := by decide +kernel
theorem dX11_takeLaw_48 : decode cX11_takeLaw 48 = .ok (.invokevirtual 173, 3) := by decide +kernel
theorem dX11_takeLaw_51 : decode cX11_takeLaw 51 = .ok (.ireturn, 1) := by decide +kernel
theorem dX11_takeLaw_52 : decode cX11_takeLaw 52 = .ok (.aload_n 0, 1) := by decide +kernel
theorem dX11_takeLaw_53 : decode cX11_takeLaw 53 = .ok (.aload_n 0, 1) := by decide +kernel
theorem dX11_takeLaw_54 : decode cX11_takeLaw 54 = .ok (.getfield 154, 3) := by decide +kernel
theorem dX11_takeLaw_57 : decode cX11_takeLaw 57 = .ok (.putfield 143, 3) := by decide +kernel
theorem dX11_takeLaw_60 : decode cX11_takeLaw 60 = .ok (.iconst 4, 1) := by decide +kernel
theorem dX11_takeLaw_61 : decode cX11_takeLaw 61 = .ok (.aload_n 0, 1) := by decide +kernel
theorem dX11_takeLaw_62 : decode cX11_takeLaw 62 = .ok (.getfield 229, 3) := by decide +kernel
theorem dX11_takeLaw_65 : decode cX11_takeLaw 65 = .ok (.imul, 1) := by decide +kernel
theorem dX11_takeLaw_66 : decode cX11_takeLaw 66 = .ok (.istore_n 1, 1) := by decide +kernel
theorem dX11_takeLaw_67 : decode cX11_takeLaw 67 = .ok (.aload_n 0, 1) := by decide +kernel
theorem dX11_takeLaw_68 : decode cX11_takeLaw 68 = .ok (.iconst 0, 1) := by decide +kernel
theorem dX11_takeLaw_69 : decode cX11_takeLaw 69 = .ok (.sipush 399, 3) := by decide +kernel
theorem dX11_takeLaw_72 : decode cX11_takeLaw 72 = .ok (.invokevirtual 183, 3) := by decide +kernel
theorem dX11_takeLaw_75 : decode cX11_takeLaw 75 = .ok (.istore_n 2, 1) := by decide +kernel
theorem dX11_takeLaw_76 : decode cX11_takeLaw 76 = .ok (.iload_n 2, 1) := by decide +kernel
theorem dX11_takeLaw_77 : decode cX11_takeLaw 77 = .ok (.ifCond .ne 37, 3) := by decide +kernel
theorem dX11_takeLaw_80 : decode cX11_takeLaw 80 = .ok (.aload_n 0, 1) := by decide +kernel
theorem dX11_takeLaw_81 : decode cX11_takeLaw 81 = .ok (.getfield 229, 3) := by decide +kernel
theorem dX11_takeLaw_84 : decode cX11_takeLaw 84 = .ok (.ifCond .le 30, 3) := by decide +kernel
theorem dX11_takeLaw_87 : decode cX11_takeLaw 87 = .ok (.aload_n 0, 1) := by decide +kernel
theorem dX11_takeLaw_88 : decode cX11_takeLaw 88 = .ok (.getfield 180, 3) := by decide +kernel
theorem dX11_takeLaw_91 : decode cX11_takeLaw 91 = .ok (.aload_n 0, 1) := by decide +kernel
theorem dX11_takeLaw_92 : decode cX11_takeLaw 92 = .ok (.getfield 81, 3) := by decide +kernel
theorem dX11_takeLaw_95 : decode cX11_takeLaw 95 = .ok (.iload_n 1, 1) := by decide +kernel
theorem dX11_takeLaw_96 : decode cX11_takeLaw 96 = .ok (.iconst 4, 1) := by decide +kernel
theorem dX11_takeLaw_97 : decode cX11_takeLaw 97 = .ok (.isub, 1) := by decide +kernel
theorem dX11_takeLaw_98 : decode cX11_takeLaw 98 = .ok (.iaload, 1) := by decide +kernel
theorem dX11_takeLaw_99 : decode cX11_takeLaw 99 = .ok (.if_icmp .gt 15, 3) := by decide +kernel
theorem dX11_takeLaw_102 : decode cX11_takeLaw 102 = .ok (.aload_n 0, 1) := by decide +kernel
theorem dX11_takeLaw_103 : decode cX11_takeLaw 103 = .ok (.iconst 4, 1) := by decide +kernel
theorem dX11_takeLaw_104 : decode cX11_takeLaw 104 = .ok (.aload_n 0, 1) := by decide +kernel
theorem dX11_takeLaw_105 : decode cX11_takeLaw 105 = .ok (.getfield 177, 3) := by decide +kernel
theorem dX11_takeLaw_108 : decode cX11_takeLaw 108 = .ok (.invokevirtual 173, 3) := by decide +kernel
theorem dX11_takeLaw_111 : decode cX11_takeLaw 111 = .ok (.goto 4, 3) := by decide +kernel
theorem dX11_takeLaw_114 : decode cX11_takeLaw 114 = .ok (.iload_n 2, 1) := by decide +kernel
theorem dX11_takeLaw_115 : decode cX11_takeLaw 115 = .ok (.istore_n 2, 1) := by decide +kernel
theorem dX11_takeLaw_116 : decode cX11_takeLaw 116 = .ok (.aload_n 0, 1) := by decide +kernel
theorem dX11_takeLaw_117 : decode cX11_takeLaw 117 = .ok (.getfield 81, 3) := by decide +kernel
theorem dX11_takeLaw_120 : decode cX11_takeLaw 120 = .ok (.iload_n 1, 1) := by decide +kernel
theorem dX11_takeLaw_121 : decode cX11_takeLaw 121 = .ok (.aload_n 0, 1) := by decide +kernel
theorem dX11_takeLaw_122 : decode cX11_takeLaw 122 = .ok (.getfield 180, 3) := by decide +kernel
theorem dX11_takeLaw_125 : decode cX11_takeLaw 125 = .ok (.iastore, 1) := by decide +kernel
theorem dX11_takeLaw_126 : decode cX11_takeLaw 126 = .ok (.iload_n 2, 1) := by decide +kernel
theorem dX11_takeLaw_127 : decode cX11_takeLaw 127 = .ok (.ifCond .le 7, 3) := by decide +kernel
theorem dX11_takeLaw_130 : decode cX11_takeLaw 130 = .ok (.iload_n 2, 1) := by decide +kernel
theorem dX11_takeLaw_131 : decode cX11_takeLaw 131 = .ok (.goto 10, 3) := by decide +kernel
theorem dX11_takeLaw_134 : decode cX11_takeLaw 134 = .ok (.aload_n 0, 1) := by decide +kernel
theorem dX11_takeLaw_135 : decode cX11_takeLaw 135 = .ok (.iconst 0, 1) := by decide +kernel
theorem dX11_takeLaw_136 : decode cX11_takeLaw 136 = .ok (.bipush 6, 2) := by decide +kernel
theorem dX11_takeLaw_138 : decode cX11_takeLaw 138 = .ok (.invokevirtual 183, 3) := by decide +kernel
theorem dX11_takeLaw_141 : decode cX11_takeLaw 141 = .ok (.istore_n 2, 1) := by decide +kernel
theorem dX11_takeLaw_142 : decode cX11_takeLaw 142 = .ok (.aload_n 0, 1) := by decide +kernel
theorem dX11_takeLaw_143 : decode cX11_takeLaw 143 = .ok (.getfield 81, 3) := by decide +kernel
theorem dX11_takeLaw_146 : decode cX11_takeLaw 146 = .ok (.iload_n 1, 1) := by decide +kernel
theorem dX11_takeLaw_147 : decode cX11_takeLaw 147 = .ok (.iconst 1, 1) := by decide +kernel
theorem dX11_takeLaw_148 : decode cX11_takeLaw 148 = .ok (.iadd, 1) := by decide +kernel
theorem dX11_takeLaw_149 : decode cX11_takeLaw 149 = .ok (.aload_n 0, 1) := by decide +kernel
theorem dX11_takeLaw_150 : decode cX11_takeLaw 150 = .ok (.getfield 180, 3) := by decide +kernel
theorem dX11_takeLaw_153 : decode cX11_takeLaw 153 = .ok (.iastore, 1) := by decide +kernel
theorem dX11_takeLaw_154 : decode cX11_takeLaw 154 = .ok (.iload_n 2, 1) := by decide +kernel
theorem dX11_takeLaw_155 : decode cX11_takeLaw 155 = .ok (.ifCond .le 7, 3) := by decide +kernel
theorem dX11_takeLaw_158 : decode cX11_takeLaw 158 = .ok (.iload_n 2, 1) := by decide +kernel
theorem dX11_takeLaw_159 : decode cX11_takeLaw 159 = .ok (.goto 10, 3) := by decide +kernel
theorem dX11_takeLaw_162 : decode cX11_takeLaw 162 = .ok (.aload_n 0, 1) := by decide +kernel
theorem dX11_takeLaw_163 : decode cX11_takeLaw 163 = .ok (.iconst 1, 1) := by decide +kernel
theorem dX11_takeLaw_164 : decode cX11_takeLaw 164 = .ok (.bipush 60, 2) := by decide +kernel
theorem dX11_takeLaw_166 : decode cX11_takeLaw 166 = .ok (.invokevirtual 183, 3) := by decide +kernel
theorem dX11_takeLaw_169 : decode cX11_takeLaw 169 = .ok (.istore_n 2, 1) := by decide +kernel
theorem dX11_takeLaw_170 : decode cX11_takeLaw 170 = .ok (.aload_n 0, 1) := by decide +kernel
theorem dX11_takeLaw_171 : decode cX11_takeLaw 171 = .ok (.getfield 81, 3) := by decide +kernel
theorem dX11_takeLaw_174 : decode cX11_takeLaw 174 = .ok (.iload_n 1, 1) := by decide +kernel
theorem dX11_takeLaw_175 : decode cX11_takeLaw 175 = .ok (.iconst 2, 1) := by decide +kernel
theorem dX11_takeLaw_176 : decode cX11_takeLaw 176 = .ok (.iadd, 1) := by decide +kernel
theorem dX11_takeLaw_177 : decode cX11_takeLaw 177 = .ok (.aload_n 0, 1) := by decide +kernel
theorem dX11_takeLaw_178 : decode cX11_takeLaw 178 = .ok (.getfield 180, 3) := by decide +kernel
theorem dX11_takeLaw_181 : decode cX11_takeLaw 181 = .ok (.iastore, 1) := by decide +kernel
theorem dX11_takeLaw_182 : decode cX11_takeLaw 182 = .ok (.iload_n 2, 1) := by decide +kernel
theorem dX11_takeLaw_183 : decode cX11_takeLaw 183 = .ok (.ifCond .le 7, 3) := by decide +kernel
theorem dX11_takeLaw_186 : decode cX11_takeLaw 186 = .ok (.iload_n 2, 1) := by decide +kernel
theorem dX11_takeLaw_187 : decode cX11_takeLaw 187 = .ok (.goto 10, 3) := by decide +kernel
theorem dX11_takeLaw_190 : decode cX11_takeLaw 190 = .ok (.aload_n 0, 1) := by decide +kernel
theorem dX11_takeLaw_191 : decode cX11_takeLaw 191 = .ok (.iconst 1, 1) := by decide +kernel
theorem dX11_takeLaw_192 : decode cX11_takeLaw 192 = .ok (.bipush 6, 2) := by decide +kernel
theorem dX11_takeLaw_194 : decode cX11_takeLaw 194 = .ok (.invokevirtual 183, 3) := by decide +kernel
theorem dX11_takeLaw_197 : decode cX11_takeLaw 197 = .ok (.istore_n 2, 1) := by decide +kernel
theorem dX11_takeLaw_198 : decode cX11_takeLaw 198 = .ok (.aload_n 0, 1) := by decide +kernel
theorem dX11_takeLaw_199 : decode cX11_takeLaw 199 = .ok (.getfield 81, 3) := by decide +kernel
theorem dX11_takeLaw_202 : decode cX11_takeLaw 202 = .ok (.iload_n 1, 1) := by decide +kernel
theorem dX11_takeLaw_203 : decode cX11_takeLaw 203 = .ok (.iconst 3, 1) := by decide +kernel
theorem dX11_takeLaw_204 : decode cX11_takeLaw 204 = .ok (.iadd, 1) := by decide +kernel
theorem dX11_takeLaw_205 : decode cX11_takeLaw 205 = .ok (.aload_n 0, 1) := by decide +kernel
theorem dX11_takeLaw_206 : decode cX11_takeLaw 206 = .ok (.getfield 180, 3) := by decide +kernel
theorem dX11_takeLaw_209 : decode cX11_takeLaw 209 = .ok (.iastore, 1) := by decide +kernel
theorem dX11_takeLaw_210 : decode cX11_takeLaw 210 = .ok (.aload_n 0, 1) := by decide +kernel
theorem dX11_takeLaw_211 : decode cX11_takeLaw 211 = .ok (.dup, 1) := by decide +kernel
theorem dX11_takeLaw_212 : decode cX11_takeLaw 212 = .ok (.getfield 229, 3) := by decide +kernel
theorem dX11_takeLaw_215 : decode cX11_takeLaw 215 = .ok (.iconst 1, 1) := by decide +kernel
theorem dX11_takeLaw_216 : decode cX11_takeLaw 216 = .ok (.iadd, 1) := by decide +kernel
theorem dX11_takeLaw_217 : decode cX11_takeLaw 217 = .ok (.putfield 229, 3) := by decide +kernel
theorem dX11_takeLaw_220 : decode cX11_takeLaw 220 = .ok (.iload_n 2, 1) := by decide +kernel
theorem dX11_takeLaw_221 : decode cX11_takeLaw 221 = .ok (.ifCond .le 7, 3) := by decide +kernel
theorem dX11_takeLaw_224 : decode cX11_takeLaw 224 = .ok (.iload_n 2, 1) := by decide +kernel
theorem dX11_takeLaw_225 : decode cX11_takeLaw 225 = .ok (.goto 7, 3) := by decide +kernel
theorem dX11_takeLaw_228 : decode cX11_takeLaw 228 = .ok (.aload_n 0, 1) := by decide +kernel
theorem dX11_takeLaw_229 : decode cX11_takeLaw 229 = .ok (.invokevirtual 214, 3) := by decide +kernel
theorem dX11_takeLaw_232 : decode cX11_takeLaw 232 = .ok (.ireturn, 1) := by decide +kernel
theorem dX11_laws_0 : decode cX11_laws 0 = .ok (.aload_n 0, 1) := by decide +kernel
theorem dX11_laws_1 : decode cX11_laws 1 = .ok (.getfield 137, 3) := by decide +kernel
theorem dX11_laws_4 : decode cX11_laws 4 = .ok (.sipush 200, 3) := by decide +kernel
theorem dX11_laws_7 : decode cX11_laws 7 = .ok (.if_icmp .le 6, 3) := by decide +kernel
theorem dX11_laws_10 : decode cX11_laws 10 = .ok (.ldc 232, 2) := by decide +kernel
theorem dX11_laws_12 : decode cX11_laws 12 = .ok (.ireturn, 1) := by decide +kernel
theorem dX11_laws_13 : decode cX11_laws 13 = .ok (.aload_n 0, 1) := by decide +kernel
theorem dX11_laws_14 : decode cX11_laws 14 = .ok (.iconst (-1), 1) := by decide +kernel
theorem dX11_laws_15 : decode cX11_laws 15 = .ok (.putfield 59, 3) := by decide +kernel
theorem dX11_laws_18 : decode cX11_laws 18 = .ok (.aload_n 0, 1) := by decide +kernel
theorem dX11_laws_19 : decode cX11_laws 19 = .ok (.iconst 0, 1) := by decide +kernel
theorem dX11_laws_20 : decode cX11_laws 20 = .ok (.putfield 143, 3) := by decide +kernel
theorem dX11_laws_23 : decode cX11_laws 23 = .ok (.aload_n 0, 1) := by decide +kernel
theorem dX11_laws_24 : decode cX11_laws 24 = .ok (.iconst 0, 1) := by decide +kernel
theorem dX11_laws_25 : decode cX11_laws 25 = .ok (.putfield 229, 3) := by decide +kernel
theorem dX11_laws_28 : decode cX11_laws 28 = .ok (.iconst 0, 1) := by decide +kernel
theorem dX11_laws_29 : decode cX11_laws 29 = .ok (.istore_n 1, 1) := by decide +kernel
theorem dX11_laws_30 : decode cX11_laws 30 = .ok (.iload_n 1, 1) := by decide +kernel
theorem dX11_laws_31 : decode cX11_laws 31 = .ok (.ifCond .ne 18, 3) := by decide +kernel
theorem dX11_laws_34 : decode cX11_laws 34 = .ok (.aload_n 0, 1) := by decide +kernel
theorem dX11_laws_35 : decode cX11_laws 35 = .ok (.invokevirtual 146, 3) := by decide +kernel
theorem dX11_laws_38 : decode cX11_laws 38 = .ok (.ifCond .lt 11, 3) := by decide +kernel
theorem dX11_laws_41 : decode cX11_laws 41 = .ok (.aload_n 0, 1) := by decide +kernel
theorem dX11_laws_42 : decode cX11_laws 42 = .ok (.invokevirtual 233, 3) := by decide +kernel
theorem dX11_laws_45 : decode cX11_laws 45 = .ok (.istore_n 1, 1) := by decide +kernel
theorem dX11_laws_46 : decode cX11_laws 46 = .ok (.goto (-16), 3) := by decide +kernel
theorem dX11_laws_49 : decode cX11_laws 49 = .ok (.aload_n 0, 1) := by decide +kernel
theorem dX11_laws_50 : decode cX11_laws 50 = .ok (.iconst 0, 1) := by decide +kernel
theorem dX11_laws_51 : decode cX11_laws 51 = .ok (.putfield 137, 3) := by decide +kernel
theorem dX11_laws_54 : decode cX11_laws 54 = .ok (.iload_n 1, 1) := by decide +kernel
theorem dX11_laws_55 : decode cX11_laws 55 = .ok (.ifCond .le 8, 3) := by decide +kernel
theorem dX11_laws_58 : decode cX11_laws 58 = .ok (.bipush (-10), 2) := by decide +kernel
theorem dX11_laws_60 : decode cX11_laws 60 = .ok (.iload_n 1, 1) := by decide +kernel
theorem dX11_laws_61 : decode cX11_laws 61 = .ok (.isub, 1) := by decide +kernel
theorem dX11_laws_62 : decode cX11_laws 62 = .ok (.ireturn, 1) := by decide +kernel
theorem dX11_laws_63 : decode cX11_laws 63 = .ok (.aload_n 0, 1) := by decide +kernel
theorem dX11_laws_64 : decode cX11_laws 64 = .ok (.aload_n 0, 1) := by decide +kernel
theorem dX11_laws_65 : decode cX11_laws 65 = .ok (.getfield 229, 3) := by decide +kernel
theorem dX11_laws_68 : decode cX11_laws 68 = .ok (.putfield 236, 3) := by decide +kernel
theorem dX11_laws_71 : decode cX11_laws 71 = .ok (.iconst 0, 1) := by decide +kernel
theorem dX11_laws_72 : decode cX11_laws 72 = .ok (.istore_n 2, 1) := by decide +kernel
theorem dX11_laws_73 : decode cX11_laws 73 = .ok (.iload_n 2, 1) := by decide +kernel
theorem dX11_laws_74 : decode cX11_laws 74 = .ok (.bipush 24, 2) := by decide +kernel
theorem dX11_laws_76 : decode cX11_laws 76 = .ok (.if_icmp .ge 21, 3) := by decide +kernel
theorem dX11_laws_79 : decode cX11_laws 79 = .ok (.aload_n 0, 1) := by decide +kernel
theorem dX11_laws_80 : decode cX11_laws 80 = .ok (.getfield 28, 3) := by decide +kernel
theorem dX11_laws_83 : decode cX11_laws 83 = .ok (.iload_n 2, 1) := by decide +kernel
theorem dX11_laws_84 : decode cX11_laws 84 = .ok (.aload_n 0, 1) := by decide +kernel
theorem dX11_laws_85 : decode cX11_laws 85 = .ok (.getfield 81, 3) := by decide +kernel
theorem dX11_laws_88 : decode cX11_laws 88 = .ok (.iload_n 2, 1) := by decide +kernel
theorem dX11_laws_89 : decode cX11_laws 89 = .ok (.iaload, 1) := by decide +kernel
theorem dX11_laws_90 : decode cX11_laws 90 = .ok (.iastore, 1) := by decide +kernel
theorem dX11_laws_91 : decode cX11_laws 91 = .ok (.iinc 2 1, 3) := by decide +kernel
theorem dX11_laws_94 : decode cX11_laws 94 = .ok (.goto (-21), 3) := by decide +kernel
theorem dX11_laws_97 : decode cX11_laws 97 = .ok (.aload_n 0, 1) := by decide +kernel
theorem dX11_laws_98 : decode cX11_laws 98 = .ok (.getfield 236, 3) := by decide +kernel
theorem dX11_laws_101 : decode cX11_laws 101 = .ok (.ireturn, 1) := by decide +kernel
theorem dX11_fault_0 : decode cX11_fault 0 = .ok (.aload_n 0, 1) := by decide +kernel
theorem dX11_fault_1 : decode cX11_fault 1 = .ok (.getfield 59, 3) := by decide +kernel
theorem dX11_fault_4 : decode cX11_fault 4 = .ok (.ireturn, 1) := by decide +kernel
theorem dX11_lawOf_0 : decode cX11_lawOf 0 = .ok (.iload_n 2, 1) := by decide +kernel
theorem dX11_lawOf_1 : decode cX11_lawOf 1 = .ok (.iconst 1, 1) := by decide +kernel
theorem dX11_lawOf_2 : decode cX11_lawOf 2 = .ok (.if_icmp .ne 7, 3) := by decide +kernel
theorem dX11_lawOf_5 : decode cX11_lawOf 5 = .ok (.iconst 1, 1) := by decide +kernel
theorem dX11_lawOf_6 : decode cX11_lawOf 6 = .ok (.goto 14, 3) := by decide +kernel
theorem dX11_lawOf_9 : decode cX11_lawOf 9 = .ok (.iload_n 2, 1) := by decide +kernel
theorem dX11_lawOf_10 : decode cX11_lawOf 10 = .ok (.iconst 2, 1) := by decide +kernel
theorem dX11_lawOf_11 : decode cX11_lawOf 11 = .ok (.if_icmp .ne 8, 3) := by decide +kernel
theorem dX11_lawOf_14 : decode cX11_lawOf 14 = .ok (.bipush 28, 2) := by decide +kernel
theorem dX11_lawOf_16 : decode cX11_lawOf 16 = .ok (.goto 4, 3) := by decide +kernel
theorem dX11_lawOf_19 : decode cX11_lawOf 19 = .ok (.iconst 2, 1) := by decide +kernel
theorem dX11_lawOf_20 : decode cX11_lawOf 20 = .ok (.istore_n 3, 1) := by decide +kernel
theorem dX11_lawOf_21 : decode cX11_lawOf 21 = .ok (.iconst 0, 1) := by decide +kernel
theorem dX11_lawOf_22 : decode cX11_lawOf 22 = .ok (.istore 4, 2) := by decide +kernel
theorem dX11_lawOf_24 : decode cX11_lawOf 24 = .ok (.iload 4, 2) := by decide +kernel
theorem dX11_lawOf_26 : decode cX11_lawOf 26 = .ok (.aload_n 0, 1) := by decide +kernel
theorem dX11_lawOf_27 : decode cX11_lawOf 27 = .ok (.getfield 236, 3) := by decide +kernel
theorem dX11_lawOf_30 : decode cX11_lawOf 30 = .ok (.if_icmp .ge 38, 3) := by decide +kernel
theorem dX11_lawOf_33 : decode cX11_lawOf 33 = .ok (.aload_n 0, 1) := by decide +kernel
theorem dX11_lawOf_34 : decode cX11_lawOf 34 = .ok (.getfield 28, 3) := by decide +kernel
theorem dX11_lawOf_37 : decode cX11_lawOf 37 = .ok (.iconst 4, 1) := by decide +kernel
theorem dX11_lawOf_38 : decode cX11_lawOf 38 = .ok (.iload 4, 2) := by decide +kernel
theorem dX11_lawOf_40 : decode cX11_lawOf 40 = .ok (.imul, 1) := by decide +kernel
theorem dX11_lawOf_41 : decode cX11_lawOf 41 = .ok (.iaload, 1) := by decide +kernel
theorem dX11_lawOf_42 : decode cX11_lawOf 42 = .ok (.iload_n 1, 1) := by decide +kernel
theorem dX11_lawOf_43 : decode cX11_lawOf 43 = .ok (.if_icmp .gt 17, 3) := by decide +kernel
theorem dX11_lawOf_46 : decode cX11_lawOf 46 = .ok (.aload_n 0, 1) := by decide +kernel
theorem dX11_lawOf_47 : decode cX11_lawOf 47 = .ok (.getfield 28, 3) := by decide +kernel
theorem dX11_lawOf_50 : decode cX11_lawOf 50 = .ok (.iconst 4, 1) := by decide +kernel
theorem dX11_lawOf_51 : decode cX11_lawOf 51 = .ok (.iload 4, 2) := by decide +kernel
theorem dX11_lawOf_53 : decode cX11_lawOf 53 = .ok (.imul, 1) := by decide +kernel
theorem dX11_lawOf_54 : decode cX11_lawOf 54 = .ok (.iload_n 2, 1) := by decide +kernel
theorem dX11_lawOf_55 : decode cX11_lawOf 55 = .ok (.iadd, 1) := by decide +kernel
theorem dX11_lawOf_56 : decode cX11_lawOf 56 = .ok (.iaload, 1) := by decide +kernel
theorem dX11_lawOf_57 : decode cX11_lawOf 57 = .ok (.goto 4, 3) := by decide +kernel
theorem dX11_lawOf_60 : decode cX11_lawOf 60 = .ok (.iload_n 3, 1) := by decide +kernel
theorem dX11_lawOf_61 : decode cX11_lawOf 61 = .ok (.istore_n 3, 1) := by decide +kernel
theorem dX11_lawOf_62 : decode cX11_lawOf 62 = .ok (.iinc 4 1, 3) := by decide +kernel
theorem dX11_lawOf_65 : decode cX11_lawOf 65 = .ok (.goto (-41), 3) := by decide +kernel
theorem dX11_lawOf_68 : decode cX11_lawOf 68 = .ok (.iload_n 3, 1) := by decide +kernel
theorem dX11_lawOf_69 : decode cX11_lawOf 69 = .ok (.ireturn, 1) := by decide +kernel
theorem dX11_told_0 : decode cX11_told 0 = .ok (.iload_n 1, 1) := by decide +kernel
theorem dX11_told_1 : decode cX11_told 1 = .ok (.tableswitch 69 0 5 #[39, 44, 49, 54, 59, 64], 39) := by decide +kernel
theorem dX11_told_40 : decode cX11_told 40 = .ok (.aload_n 0, 1) := by decide +kernel
theorem dX11_told_41 : decode cX11_told 41 = .ok (.getfield 124, 3) := by decide +kernel
theorem dX11_told_44 : decode cX11_told 44 = .ok (.ireturn, 1) := by decide +kernel
theorem dX11_told_45 : decode cX11_told 45 = .ok (.aload_n 0, 1) := by decide +kernel
theorem dX11_told_46 : decode cX11_told 46 = .ok (.getfield 131, 3) := by decide +kernel
theorem dX11_told_49 : decode cX11_told 49 = .ok (.ireturn, 1) := by decide +kernel
theorem dX11_told_50 : decode cX11_told 50 = .ok (.aload_n 0, 1) := by decide +kernel
theorem dX11_told_51 : decode cX11_told 51 = .ok (.getfield 236, 3) := by decide +kernel
theorem dX11_told_54 : decode cX11_told 54 = .ok (.ireturn, 1) := by decide +kernel
theorem dX11_told_55 : decode cX11_told 55 = .ok (.aload_n 0, 1) := by decide +kernel
theorem dX11_told_56 : decode cX11_told 56 = .ok (.getfield 223, 3) := by decide +kernel
theorem dX11_told_59 : decode cX11_told 59 = .ok (.ireturn, 1) := by decide +kernel
theorem dX11_told_60 : decode cX11_told 60 = .ok (.aload_n 0, 1) := by decide +kernel
theorem dX11_told_61 : decode cX11_told 61 = .ok (.getfield 137, 3) := by decide +kernel
theorem dX11_told_64 : decode cX11_told 64 = .ok (.ireturn, 1) := by decide +kernel
theorem dX11_told_65 : decode cX11_told 65 = .ok (.aload_n 0, 1) := by decide +kernel
theorem dX11_told_66 : decode cX11_told 66 = .ok (.getfield 226, 3) := by decide +kernel
theorem dX11_told_69 : decode cX11_told 69 = .ok (.ireturn, 1) := by decide +kernel
theorem dX11_told_70 : decode cX11_told 70 = .ok (.iload_n 1, 1) := by decide +kernel
theorem dX11_told_71 : decode cX11_told 71 = .ok (.i2l, 1) := by decide +kernel
theorem dX11_told_72 : decode cX11_told 72 = .ok (.ldc2_w 239, 3) := by decide +kernel
theorem dX11_told_75 : decode cX11_told 75 = .ok (.ldc2_w 134, 3) := by decide +kernel
theorem dX11_told_78 : decode cX11_told 78 = .ok (.invokestatic 127, 3) := by decide +kernel
theorem dX11_told_81 : decode cX11_told 81 = .ok (.ifCond .eq 17, 3) := by decide +kernel
theorem dX11_told_84 : decode cX11_told 84 = .ok (.aload_n 0, 1) := by decide +kernel
theorem dX11_told_85 : decode cX11_told 85 = .ok (.aload_n 0, 1) := by decide +kernel
theorem dX11_told_86 : decode cX11_told 86 = .ok (.getfield 223, 3) := by decide +kernel
theorem dX11_told_89 : decode cX11_told 89 = .ok (.iload_n 1, 1) := by decide +kernel
theorem dX11_told_90 : decode cX11_told 90 = .ok (.iconst 5, 1) := by decide +kernel
theorem dX11_told_91 : decode cX11_told 91 = .ok (.isub, 1) := by decide +kernel
theorem dX11_told_92 : decode cX11_told 92 = .ok (.invokevirtual 241, 3) := by decide +kernel
theorem dX11_told_95 : decode cX11_told 95 = .ok (.goto 5, 3) := by decide +kernel
theorem dX11_told_98 : decode cX11_told 98 = .ok (.ldc 136, 2) := by decide +kernel
theorem dX11_told_100 : decode cX11_told 100 = .ok (.ireturn, 1) := by decide +kernel
theorem dX11_witnessesOf_0 : decode cX11_witnessesOf 0 = .ok (.iconst 0, 1) := by decide +kernel
theorem dX11_witnessesOf_1 : decode cX11_witnessesOf 1 = .ok (.istore_n 2, 1) := by decide +kernel
theorem dX11_witnessesOf_2 : decode cX11_witnessesOf 2 = .ok (.iconst 0, 1) := by decide +kernel
theorem dX11_witnessesOf_3 : decode cX11_witnessesOf 3 = .ok (.istore_n 3, 1) := by decide +kernel
theorem dX11_witnessesOf_4 : decode cX11_witnessesOf 4 = .ok (.iload_n 3, 1) := by decide +kernel
theorem dX11_witnessesOf_5 : decode cX11_witnessesOf 5 = .ok (.aload_n 0, 1) := by decide +kernel
theorem dX11_witnessesOf_6 : decode cX11_witnessesOf 6 = .ok (.getfield 131, 3) := by decide +kernel
theorem dX11_witnessesOf_9 : decode cX11_witnessesOf 9 = .ok (.if_icmp .ge 29, 3) := by decide +kernel
theorem dX11_witnessesOf_12 : decode cX11_witnessesOf 12 = .ok (.iload_n 2, 1) := by decide +kernel
theorem dX11_witnessesOf_13 : decode cX11_witnessesOf 13 = .ok (.aload_n 0, 1) := by decide +kernel
theorem dX11_witnessesOf_14 : decode cX11_witnessesOf 14 = .ok (.getfield 19, 3) := by decide +kernel
theorem dX11_witnessesOf_17 : decode cX11_witnessesOf 17 = .ok (.iload_n 3, 1) := by decide +kernel
theorem dX11_witnessesOf_18 : decode cX11_witnessesOf 18 = .ok (.iaload, 1) := by decide +kernel
theorem dX11_witnessesOf_19 : decode cX11_witnessesOf 19 = .ok (.iload_n 1, 1) := by decide +kernel
theorem dX11_witnessesOf_20 : decode cX11_witnessesOf 20 = .ok (.if_icmp .ne 9, 3) := by decide +kernel
theorem dX11_witnessesOf_23 : decode cX11_witnessesOf 23 = .ok (.iconst 1, 1) := by decide +kernel
theorem dX11_witnessesOf_24 : decode cX11_witnessesOf 24 = .ok (.iload_n 3, 1) := by decide +kernel
theorem dX11_witnessesOf_25 : decode cX11_witnessesOf 25 = .ok (.ishl, 1) := by decide +kernel
theorem dX11_witnessesOf_26 : decode cX11_witnessesOf 26 = .ok (.goto 4, 3) := by decide +kernel
theorem dX11_witnessesOf_29 : decode cX11_witnessesOf 29 = .ok (.iconst 0, 1) := by decide +kernel
theorem dX11_witnessesOf_30 : decode cX11_witnessesOf 30 = .ok (.ior, 1) := by decide +kernel
theorem dX11_witnessesOf_31 : decode cX11_witnessesOf 31 = .ok (.istore_n 2, 1) := by decide +kernel
theorem dX11_witnessesOf_32 : decode cX11_witnessesOf 32 = .ok (.iinc 3 1, 3) := by decide +kernel
theorem dX11_witnessesOf_35 : decode cX11_witnessesOf 35 = .ok (.goto (-31), 3) := by decide +kernel
theorem dX11_witnessesOf_38 : decode cX11_witnessesOf 38 = .ok (.iload_n 2, 1) := by decide +kernel
theorem dX11_witnessesOf_39 : decode cX11_witnessesOf 39 = .ok (.ireturn, 1) := by decide +kernel
theorem dX11_suit_0 : decode cX11_suit 0 = .ok (.aload_n 0, 1) := by decide +kernel
theorem dX11_suit_1 : decode cX11_suit 1 = .ok (.iload_n 1, 1) := by decide +kernel
theorem dX11_suit_2 : decode cX11_suit 2 = .ok (.invokevirtual 244, 3) := by decide +kernel
theorem dX11_suit_5 : decode cX11_suit 5 = .ok (.ifCond .ne 6, 3) := by decide +kernel
theorem dX11_suit_8 : decode cX11_suit 8 = .ok (.ldc 248, 2) := by decide +kernel
theorem dX11_suit_10 : decode cX11_suit 10 = .ok (.ireturn, 1) := by decide +kernel
theorem dX11_suit_11 : decode cX11_suit 11 = .ok (.iload_n 2, 1) := by decide +kernel
theorem dX11_suit_12 : decode cX11_suit 12 = .ok (.tableswitch 81 0 5 #[40, 47, 54, 61, 68, 75], 40) := by decide +kernel
theorem dX11_suit_52 : decode cX11_suit 52 = .ok (.aload_n 0, 1) := by decide +kernel
theorem dX11_suit_53 : decode cX11_suit 53 = .ok (.getfield 7, 3) := by decide +kernel
theorem dX11_suit_56 : decode cX11_suit 56 = .ok (.iload_n 1, 1) := by decide +kernel
theorem dX11_suit_57 : decode cX11_suit 57 = .ok (.iaload, 1) := by decide +kernel
theorem dX11_suit_58 : decode cX11_suit 58 = .ok (.ireturn, 1) := by decide +kernel
theorem dX11_suit_59 : decode cX11_suit 59 = .ok (.aload_n 0, 1) := by decide +kernel
theorem dX11_suit_60 : decode cX11_suit 60 = .ok (.getfield 13, 3) := by decide +kernel
theorem dX11_suit_63 : decode cX11_suit 63 = .ok (.iload_n 1, 1) := by decide +kernel
theorem dX11_suit_64 : decode cX11_suit 64 = .ok (.iaload, 1) := by decide +kernel
theorem dX11_suit_65 : decode cX11_suit 65 = .ok (.ireturn, 1) := by decide +kernel
theorem dX11_suit_66 : decode cX11_suit 66 = .ok (.aload_n 0, 1) := by decide +kernel
theorem dX11_suit_67 : decode cX11_suit 67 = .ok (.getfield 16, 3) := by decide +kernel
theorem dX11_suit_70 : decode cX11_suit 70 = .ok (.iload_n 1, 1) := by decide +kernel
theorem dX11_suit_71 : decode cX11_suit 71 = .ok (.iaload, 1) := by decide +kernel
theorem dX11_suit_72 : decode cX11_suit 72 = .ok (.ireturn, 1) := by decide +kernel
theorem dX11_suit_73 : decode cX11_suit 73 = .ok (.aload_n 0, 1) := by decide +kernel
theorem dX11_suit_74 : decode cX11_suit 74 = .ok (.getfield 41, 3) := by decide +kernel
theorem dX11_suit_77 : decode cX11_suit 77 = .ok (.iload_n 1, 1) := by decide +kernel
theorem dX11_suit_78 : decode cX11_suit 78 = .ok (.iaload, 1) := by decide +kernel
theorem dX11_suit_79 : decode cX11_suit 79 = .ok (.ireturn, 1) := by decide +kernel
theorem dX11_suit_80 : decode cX11_suit 80 = .ok (.aload_n 0, 1) := by decide +kernel
theorem dX11_suit_81 : decode cX11_suit 81 = .ok (.getfield 44, 3) := by decide +kernel
theorem dX11_suit_84 : decode cX11_suit 84 = .ok (.iload_n 1, 1) := by decide +kernel
theorem dX11_suit_85 : decode cX11_suit 85 = .ok (.iaload, 1) := by decide +kernel
theorem dX11_suit_86 : decode cX11_suit 86 = .ok (.ireturn, 1) := by decide +kernel
theorem dX11_suit_87 : decode cX11_suit 87 = .ok (.aload_n 0, 1) := by decide +kernel
theorem dX11_suit_88 : decode cX11_suit 88 = .ok (.iload_n 1, 1) := by decide +kernel
theorem dX11_suit_89 : decode cX11_suit 89 = .ok (.invokevirtual 249, 3) := by decide +kernel
theorem dX11_suit_92 : decode cX11_suit 92 = .ok (.ireturn, 1) := by decide +kernel
theorem dX11_suit_93 : decode cX11_suit 93 = .ok (.ldc 136, 2) := by decide +kernel
theorem dX11_suit_95 : decode cX11_suit 95 = .ok (.ireturn, 1) := by decide +kernel
theorem dX11_freshOn_0 : decode cX11_freshOn 0 = .ok (.aload_n 0, 1) := by decide +kernel
theorem dX11_freshOn_1 : decode cX11_freshOn 1 = .ok (.getfield 25, 3) := by decide +kernel
theorem dX11_freshOn_4 : decode cX11_freshOn 4 = .ok (.iload_n 1, 1) := by decide +kernel
theorem dX11_freshOn_5 : decode cX11_freshOn 5 = .ok (.iaload, 1) := by decide +kernel
theorem dX11_freshOn_6 : decode cX11_freshOn 6 = .ok (.iconst 1, 1) := by decide +kernel
theorem dX11_freshOn_7 : decode cX11_freshOn 7 = .ok (.if_icmp .ne 12, 3) := by decide +kernel
theorem dX11_freshOn_10 : decode cX11_freshOn 10 = .ok (.aload_n 0, 1) := by decide +kernel
theorem dX11_freshOn_11 : decode cX11_freshOn 11 = .ok (.iload_n 2, 1) := by decide +kernel
theorem dX11_freshOn_12 : decode cX11_freshOn 12 = .ok (.iconst 1, 1) := by decide +kernel
theorem dX11_freshOn_13 : decode cX11_freshOn 13 = .ok (.invokevirtual 241, 3) := by decide +kernel
theorem dX11_freshOn_16 : decode cX11_freshOn 16 = .ok (.goto 19, 3) := by decide +kernel
theorem dX11_freshOn_19 : decode cX11_freshOn 19 = .ok (.aload_n 0, 1) := by decide +kernel
theorem dX11_freshOn_20 : decode cX11_freshOn 20 = .ok (.getfield 25, 3) := by decide +kernel
theorem dX11_freshOn_23 : decode cX11_freshOn 23 = .ok (.iload_n 1, 1) := by decide +kernel
theorem dX11_freshOn_24 : decode cX11_freshOn 24 = .ok (.iaload, 1) := by decide +kernel
theorem dX11_freshOn_25 : decode cX11_freshOn 25 = .ok (.iconst 3, 1) := by decide +kernel
theorem dX11_freshOn_26 : decode cX11_freshOn 26 = .ok (.if_icmp .ne 8, 3) := by decide +kernel
theorem dX11_freshOn_29 : decode cX11_freshOn 29 = .ok (.bipush 6, 2) := by decide +kernel
theorem dX11_freshOn_31 : decode cX11_freshOn 31 = .ok (.goto 4, 3) := by decide +kernel
theorem dX11_freshOn_34 : decode cX11_freshOn 34 = .ok (.iconst 3, 1) := by decide +kernel
theorem dX11_freshOn_35 : decode cX11_freshOn 35 = .ok (.istore_n 3, 1) := by decide +kernel
theorem dX11_freshOn_36 : decode cX11_freshOn 36 = .ok (.aload_n 0, 1) := by decide +kernel
theorem dX11_freshOn_37 : decode cX11_freshOn 37 = .ok (.getfield 22, 3) := by decide +kernel
theorem dX11_freshOn_40 : decode cX11_freshOn 40 = .ok (.iload_n 1, 1) := by decide +kernel
theorem dX11_freshOn_41 : decode cX11_freshOn 41 = .ok (.iaload, 1) := by decide +kernel
theorem dX11_freshOn_42 : decode cX11_freshOn 42 = .ok (.iload_n 3, 1) := by decide +kernel
theorem dX11_freshOn_43 : decode cX11_freshOn 43 = .ok (.imul, 1) := by decide +kernel
theorem dX11_freshOn_44 : decode cX11_freshOn 44 = .ok (.ireturn, 1) := by decide +kernel
theorem dX11_mayOn_0 : decode cX11_mayOn 0 = .ok (.aload_n 0, 1) := by decide +kernel
theorem dX11_mayOn_1 : decode cX11_mayOn 1 = .ok (.getfield 31, 3) := by decide +kernel
theorem dX11_mayOn_4 : decode cX11_mayOn 4 = .ok (.iload_n 1, 1) := by decide +kernel
theorem dX11_mayOn_5 : decode cX11_mayOn 5 = .ok (.iaload, 1) := by decide +kernel
theorem dX11_mayOn_6 : decode cX11_mayOn 6 = .ok (.ifCond .lt 30, 3) := by decide +kernel
theorem dX11_mayOn_9 : decode cX11_mayOn 9 = .ok (.aload_n 0, 1) := by decide +kernel
theorem dX11_mayOn_10 : decode cX11_mayOn 10 = .ok (.getfield 25, 3) := by decide +kernel
theorem dX11_mayOn_13 : decode cX11_mayOn 13 = .ok (.iload_n 1, 1) := by decide +kernel
theorem dX11_mayOn_14 : decode cX11_mayOn 14 = .ok (.iaload, 1) := by decide +kernel
theorem dX11_mayOn_15 : decode cX11_mayOn 15 = .ok (.iconst 2, 1) := by decide +kernel
theorem dX11_mayOn_16 : decode cX11_mayOn 16 = .ok (.if_icmp .eq 24, 3) := by decide +kernel
theorem dX11_mayOn_19 : decode cX11_mayOn 19 = .ok (.iload_n 2, 1) := by decide +kernel
theorem dX11_mayOn_20 : decode cX11_mayOn 20 = .ok (.aload_n 0, 1) := by decide +kernel
theorem dX11_mayOn_21 : decode cX11_mayOn 21 = .ok (.getfield 31, 3) := by decide +kernel
theorem dX11_mayOn_24 : decode cX11_mayOn 24 = .ok (.iload_n 1, 1) := by decide +kernel
theorem dX11_mayOn_25 : decode cX11_mayOn 25 = .ok (.iaload, 1) := by decide +kernel
theorem dX11_mayOn_26 : decode cX11_mayOn 26 = .ok (.aload_n 0, 1) := by decide +kernel
theorem dX11_mayOn_27 : decode cX11_mayOn 27 = .ok (.iload_n 2, 1) := by decide +kernel
theorem dX11_mayOn_28 : decode cX11_mayOn 28 = .ok (.iconst 2, 1) := by decide +kernel
theorem dX11_mayOn_29 : decode cX11_mayOn 29 = .ok (.invokevirtual 241, 3) := by decide +kernel
theorem dX11_mayOn_32 : decode cX11_mayOn 32 = .ok (.iadd, 1) := by decide +kernel
theorem dX11_mayOn_33 : decode cX11_mayOn 33 = .ok (.if_icmp .lt 7, 3) := by decide +kernel
theorem dX11_mayOn_36 : decode cX11_mayOn 36 = .ok (.iconst 1, 1) := by decide +kernel
theorem dX11_mayOn_37 : decode cX11_mayOn 37 = .ok (.goto 4, 3) := by decide +kernel
theorem dX11_mayOn_40 : decode cX11_mayOn 40 = .ok (.iconst 0, 1) := by decide +kernel
theorem dX11_mayOn_41 : decode cX11_mayOn 41 = .ok (.istore_n 3, 1) := by decide +kernel
theorem dX11_mayOn_42 : decode cX11_mayOn 42 = .ok (.iload_n 3, 1) := by decide +kernel
theorem dX11_mayOn_43 : decode cX11_mayOn 43 = .ok (.ifCond .eq 16, 3) := by decide +kernel
theorem dX11_mayOn_46 : decode cX11_mayOn 46 = .ok (.aload_n 0, 1) := by decide +kernel
theorem dX11_mayOn_47 : decode cX11_mayOn 47 = .ok (.getfield 37, 3) := by decide +kernel
theorem dX11_mayOn_50 : decode cX11_mayOn 50 = .ok (.iload_n 1, 1) := by decide +kernel
theorem dX11_mayOn_51 : decode cX11_mayOn 51 = .ok (.baload, 1) := by decide +kernel
theorem dX11_mayOn_52 : decode cX11_mayOn 52 = .ok (.ifCond .ne 7, 3) := by decide +kernel
theorem dX11_mayOn_55 : decode cX11_mayOn 55 = .ok (.iconst 1, 1) := by decide +kernel
theorem dX11_mayOn_56 : decode cX11_mayOn 56 = .ok (.goto 4, 3) := by decide +kernel
theorem dX11_mayOn_59 : decode cX11_mayOn 59 = .ok (.iconst 0, 1) := by decide +kernel
theorem dX11_mayOn_60 : decode cX11_mayOn 60 = .ok (.ireturn, 1) := by decide +kernel
theorem dX11_mayNow_0 : decode cX11_mayNow 0 = .ok (.aload_n 0, 1) := by decide +kernel
theorem dX11_mayNow_1 : decode cX11_mayNow 1 = .ok (.iload_n 1, 1) := by decide +kernel
theorem dX11_mayNow_2 : decode cX11_mayNow 2 = .ok (.aload_n 0, 1) := by decide +kernel
theorem dX11_mayNow_3 : decode cX11_mayNow 3 = .ok (.getfield 223, 3) := by decide +kernel
theorem dX11_mayNow_6 : decode cX11_mayNow 6 = .ok (.invokevirtual 253, 3) := by decide +kernel
theorem dX11_mayNow_9 : decode cX11_mayNow 9 = .ok (.ifCond .eq 37, 3) := by decide +kernel
theorem dX11_mayNow_12 : decode cX11_mayNow 12 = .ok (.aload_n 0, 1) := by decide +kernel
theorem dX11_mayNow_13 : decode cX11_mayNow 13 = .ok (.getfield 41, 3) := by decide +kernel
theorem dX11_mayNow_16 : decode cX11_mayNow 16 = .ok (.aload_n 0, 1) := by decide +kernel
theorem dX11_mayNow_17 : decode cX11_mayNow 17 = .ok (.getfield 19, 3) := by decide +kernel
theorem dX11_mayNow_20 : decode cX11_mayNow 20 = .ok (.iload_n 1, 1) := by decide +kernel
theorem dX11_mayNow_21 : decode cX11_mayNow 21 = .ok (.iaload, 1) := by decide +kernel
theorem dX11_mayNow_22 : decode cX11_mayNow 22 = .ok (.iaload, 1) := by decide +kernel
theorem dX11_mayNow_23 : decode cX11_mayNow 23 = .ok (.ifCond .ne 23, 3) := by decide +kernel
theorem dX11_mayNow_26 : decode cX11_mayNow 26 = .ok (.aload_n 0, 1) := by decide +kernel
theorem dX11_mayNow_27 : decode cX11_mayNow 27 = .ok (.getfield 226, 3) := by decide +kernel
theorem dX11_mayNow_30 : decode cX11_mayNow 30 = .ok (.aload_n 0, 1) := by decide +kernel
theorem dX11_mayNow_31 : decode cX11_mayNow 31 = .ok (.aload_n 0, 1) := by decide +kernel
theorem dX11_mayNow_32 : decode cX11_mayNow 32 = .ok (.getfield 223, 3) := by decide +kernel
theorem dX11_mayNow_35 : decode cX11_mayNow 35 = .ok (.iconst 3, 1) := by decide +kernel
theorem dX11_mayNow_36 : decode cX11_mayNow 36 = .ok (.invokevirtual 241, 3) := by decide +kernel
theorem dX11_mayNow_39 : decode cX11_mayNow 39 = .ok (.if_icmp .ge 7, 3) := by decide +kernel
theorem dX11_mayNow_42 : decode cX11_mayNow 42 = .ok (.iconst 1, 1) := by decide +kernel
theorem dX11_mayNow_43 : decode cX11_mayNow 43 = .ok (.goto 4, 3) := by decide +kernel
theorem dX11_mayNow_46 : decode cX11_mayNow 46 = .ok (.iconst 0, 1) := by decide +kernel
theorem dX11_mayNow_47 : decode cX11_mayNow 47 = .ok (.ireturn, 1) := by decide +kernel
theorem dX11_witness_0 : decode cX11_witness 0 = .ok (.aload_n 0, 1) := by decide +kernel
theorem dX11_witness_1 : decode cX11_witness 1 = .ok (.iload_n 1, 1) := by decide +kernel
theorem dX11_witness_2 : decode cX11_witness 2 = .ok (.invokevirtual 257, 3) := by decide +kernel
theorem dX11_witness_5 : decode cX11_witness 5 = .ok (.ifCond .ne 6, 3) := by decide +kernel
theorem dX11_witness_8 : decode cX11_witness 8 = .ok (.ldc 248, 2) := by decide +kernel
theorem dX11_witness_10 : decode cX11_witness 10 = .ok (.ireturn, 1) := by decide +kernel
theorem dX11_witness_11 : decode cX11_witness 11 = .ok (.iload_n 2, 1) := by decide +kernel
theorem dX11_witness_12 : decode cX11_witness 12 = .ok (.tableswitch 122 0 7 #[48, 55, 62, 69, 79, 86, 93, 108], 48) := by decide +kernel
theorem dX11_witness_60 : decode cX11_witness 60 = .ok (.aload_n 0, 1) := by decide +kernel
theorem dX11_witness_61 : decode cX11_witness 61 = .ok (.getfield 19, 3) := by decide +kernel
theorem dX11_witness_64 : decode cX11_witness 64 = .ok (.iload_n 1, 1) := by decide +kernel
theorem dX11_witness_65 : decode cX11_witness 65 = .ok (.iaload, 1) := by decide +kernel
theorem dX11_witness_66 : decode cX11_witness 66 = .ok (.ireturn, 1) := by decide +kernel
theorem dX11_witness_67 : decode cX11_witness 67 = .ok (.aload_n 0, 1) := by decide +kernel
theorem dX11_witness_68 : decode cX11_witness 68 = .ok (.getfield 22, 3) := by decide +kernel
theorem dX11_witness_71 : decode cX11_witness 71 = .ok (.iload_n 1, 1) := by decide +kernel
theorem dX11_witness_72 : decode cX11_witness 72 = .ok (.iaload, 1) := by decide +kernel
theorem dX11_witness_73 : decode cX11_witness 73 = .ok (.ireturn, 1) := by decide +kernel
theorem dX11_witness_74 : decode cX11_witness 74 = .ok (.aload_n 0, 1) := by decide +kernel
theorem dX11_witness_75 : decode cX11_witness 75 = .ok (.getfield 25, 3) := by decide +kernel
theorem dX11_witness_78 : decode cX11_witness 78 = .ok (.iload_n 1, 1) := by decide +kernel
theorem dX11_witness_79 : decode cX11_witness 79 = .ok (.iaload, 1) := by decide +kernel
theorem dX11_witness_80 : decode cX11_witness 80 = .ok (.ireturn, 1) := by decide +kernel
theorem dX11_witness_81 : decode cX11_witness 81 = .ok (.aload_n 0, 1) := by decide +kernel
theorem dX11_witness_82 : decode cX11_witness 82 = .ok (.iload_n 1, 1) := by decide +kernel
theorem dX11_witness_83 : decode cX11_witness 83 = .ok (.aload_n 0, 1) := by decide +kernel
theorem dX11_witness_84 : decode cX11_witness 84 = .ok (.getfield 223, 3) := by decide +kernel
theorem dX11_witness_87 : decode cX11_witness 87 = .ok (.invokevirtual 260, 3) := by decide +kernel
theorem dX11_witness_90 : decode cX11_witness 90 = .ok (.ireturn, 1) := by decide +kernel
theorem dX11_witness_91 : decode cX11_witness 91 = .ok (.aload_n 0, 1) := by decide +kernel
theorem dX11_witness_92 : decode cX11_witness 92 = .ok (.getfield 31, 3) := by decide +kernel
theorem dX11_witness_95 : decode cX11_witness 95 = .ok (.iload_n 1, 1) := by decide +kernel
theorem dX11_witness_96 : decode cX11_witness 96 = .ok (.iaload, 1) := by decide +kernel
theorem dX11_witness_97 : decode cX11_witness 97 = .ok (.ireturn, 1) := by decide +kernel
theorem dX11_witness_98 : decode cX11_witness 98 = .ok (.aload_n 0, 1) := by decide +kernel
theorem dX11_witness_99 : decode cX11_witness 99 = .ok (.getfield 34, 3) := by decide +kernel
theorem dX11_witness_102 : decode cX11_witness 102 = .ok (.iload_n 1, 1) := by decide +kernel
theorem dX11_witness_103 : decode cX11_witness 103 = .ok (.iaload, 1) := by decide +kernel
theorem dX11_witness_104 : decode cX11_witness 104 = .ok (.ireturn, 1) := by decide +kernel
theorem dX11_witness_105 : decode cX11_witness 105 = .ok (.aload_n 0, 1) := by decide +kernel
theorem dX11_witness_106 : decode cX11_witness 106 = .ok (.getfield 37, 3) := by decide +kernel
theorem dX11_witness_109 : decode cX11_witness 109 = .ok (.iload_n 1, 1) := by decide +kernel
theorem dX11_witness_110 : decode cX11_witness 110 = .ok (.baload, 1) := by decide +kernel
theorem dX11_witness_111 : decode cX11_witness 111 = .ok (.ifCond .eq 7, 3) := by decide +kernel
theorem dX11_witness_114 : decode cX11_witness 114 = .ok (.iconst 1, 1) := by decide +kernel
theorem dX11_witness_115 : decode cX11_witness 115 = .ok (.goto 4, 3) := by decide +kernel
theorem dX11_witness_118 : decode cX11_witness 118 = .ok (.iconst 0, 1) := by decide +kernel
theorem dX11_witness_119 : decode cX11_witness 119 = .ok (.ireturn, 1) := by decide +kernel
theorem dX11_witness_120 : decode cX11_witness 120 = .ok (.aload_n 0, 1) := by decide +kernel
theorem dX11_witness_121 : decode cX11_witness 121 = .ok (.iload_n 1, 1) := by decide +kernel
theorem dX11_witness_122 : decode cX11_witness 122 = .ok (.invokevirtual 263, 3) := by decide +kernel
theorem dX11_witness_125 : decode cX11_witness 125 = .ok (.ifCond .eq 7, 3) := by decide +kernel
theorem dX11_witness_128 : decode cX11_witness 128 = .ok (.iconst 1, 1) := by decide +kernel
theorem dX11_witness_129 : decode cX11_witness 129 = .ok (.goto 4, 3) := by decide +kernel
theorem dX11_witness_132 : decode cX11_witness 132 = .ok (.iconst 0, 1) := by decide +kernel
theorem dX11_witness_133 : decode cX11_witness 133 = .ok (.ireturn, 1) := by decide +kernel
theorem dX11_witness_134 : decode cX11_witness 134 = .ok (.ldc 136, 2) := by decide +kernel
theorem dX11_witness_136 : decode cX11_witness 136 = .ok (.ireturn, 1) := by decide +kernel
theorem dX11_weight_0 : decode cX11_weight 0 = .ok (.aload_n 0, 1) := by decide +kernel
theorem dX11_weight_1 : decode cX11_weight 1 = .ok (.iload_n 1, 1) := by decide +kernel
theorem dX11_weight_2 : decode cX11_weight 2 = .ok (.invokevirtual 244, 3) := by decide +kernel
theorem dX11_weight_5 : decode cX11_weight 5 = .ok (.ifCond .ne 6, 3) := by decide +kernel
theorem dX11_weight_8 : decode cX11_weight 8 = .ok (.ldc 248, 2) := by decide +kernel
theorem dX11_weight_10 : decode cX11_weight 10 = .ok (.ireturn, 1) := by decide +kernel
theorem dX11_weight_11 : decode cX11_weight 11 = .ok (.iload_n 2, 1) := by decide +kernel
theorem dX11_weight_12 : decode cX11_weight 12 = .ok (.iconst (-1), 1) := by decide +kernel
theorem dX11_weight_13 : decode cX11_weight 13 = .ok (.if_icmp .ne 12, 3) := by decide +kernel
theorem dX11_weight_16 : decode cX11_weight 16 = .ok (.aload_n 0, 1) := by decide +kernel
theorem dX11_weight_17 : decode cX11_weight 17 = .ok (.getfield 47, 3) := by decide +kernel
theorem dX11_weight_20 : decode cX11_weight 20 = .ok (.iload_n 1, 1) := by decide +kernel
theorem dX11_weight_21 : decode cX11_weight 21 = .ok (.iaload, 1) := by decide +kernel
theorem dX11_weight_22 : decode cX11_weight 22 = .ok (.goto 32, 3) := by decide +kernel
theorem dX11_weight_25 : decode cX11_weight 25 = .ok (.iload_n 2, 1) := by decide +kernel
theorem dX11_weight_26 : decode cX11_weight 26 = .ok (.i2l, 1) := by decide +kernel
theorem dX11_weight_27 : decode cX11_weight 27 = .ok (.lconst 0, 1) := by decide +kernel
theorem dX11_weight_28 : decode cX11_weight 28 = .ok (.ldc2_w 266, 3) := by decide +kernel
theorem dX11_weight_31 : decode cX11_weight 31 = .ok (.invokestatic 127, 3) := by decide +kernel
theorem dX11_weight_34 : decode cX11_weight 34 = .ok (.ifCond .eq 18, 3) := by decide +kernel
theorem dX11_weight_37 : decode cX11_weight 37 = .ok (.aload_n 0, 1) := by decide +kernel
theorem dX11_weight_38 : decode cX11_weight 38 = .ok (.getfield 50, 3) := by decide +kernel
theorem dX11_weight_41 : decode cX11_weight 41 = .ok (.sipush 400, 3) := by decide +kernel
theorem dX11_weight_44 : decode cX11_weight 44 = .ok (.iload_n 1, 1) := by decide +kernel
theorem dX11_weight_45 : decode cX11_weight 45 = .ok (.imul, 1) := by decide +kernel
theorem dX11_weight_46 : decode cX11_weight 46 = .ok (.iload_n 2, 1) := by decide +kernel
theorem dX11_weight_47 : decode cX11_weight 47 = .ok (.iadd, 1) := by decide +kernel
theorem dX11_weight_48 : decode cX11_weight 48 = .ok (.iaload, 1) := by decide +kernel
theorem dX11_weight_49 : decode cX11_weight 49 = .ok (.goto 5, 3) := by decide +kernel
theorem dX11_weight_52 : decode cX11_weight 52 = .ok (.ldc 136, 2) := by decide +kernel
theorem dX11_weight_54 : decode cX11_weight 54 = .ok (.ireturn, 1) := by decide +kernel
theorem dX11_isEnough_0 : decode cX11_isEnough 0 = .ok (.aload_n 0, 1) := by decide +kernel
theorem dX11_isEnough_1 : decode cX11_isEnough 1 = .ok (.getfield 47, 3) := by decide +kernel
theorem dX11_isEnough_4 : decode cX11_isEnough 4 = .ok (.iload_n 1, 1) := by decide +kernel
theorem dX11_isEnough_5 : decode cX11_isEnough 5 = .ok (.iaload, 1) := by decide +kernel
theorem dX11_isEnough_6 : decode cX11_isEnough 6 = .ok (.iconst 3, 1) := by decide +kernel
theorem dX11_isEnough_7 : decode cX11_isEnough 7 = .ok (.aload_n 0, 1) := by decide +kernel
theorem dX11_isEnough_8 : decode cX11_isEnough 8 = .ok (.getfield 7, 3) := by decide +kernel
theorem dX11_isEnough_11 : decode cX11_isEnough 11 = .ok (.iload_n 1, 1) := by decide +kernel
theorem dX11_isEnough_12 : decode cX11_isEnough 12 = .ok (.iaload, 1) := by decide +kernel
theorem dX11_isEnough_13 : decode cX11_isEnough 13 = .ok (.imul, 1) := by decide +kernel
theorem dX11_isEnough_14 : decode cX11_isEnough 14 = .ok (.if_icmp .lt 7, 3) := by decide +kernel
theorem dX11_isEnough_17 : decode cX11_isEnough 17 = .ok (.iconst 1, 1) := by decide +kernel
theorem dX11_isEnough_18 : decode cX11_isEnough 18 = .ok (.goto 4, 3) := by decide +kernel
theorem dX11_isEnough_21 : decode cX11_isEnough 21 = .ok (.iconst 0, 1) := by decide +kernel
theorem dX11_isEnough_22 : decode cX11_isEnough 22 = .ok (.ireturn, 1) := by decide +kernel
theorem dX11_lookAt_0 : decode cX11_lookAt 0 = .ok (.aload_n 0, 1) := by decide +kernel
theorem dX11_lookAt_1 : decode cX11_lookAt 1 = .ok (.getfield 41, 3) := by decide +kernel
theorem dX11_lookAt_4 : decode cX11_lookAt 4 = .ok (.iload_n 1, 1) := by decide +kernel
theorem dX11_lookAt_5 : decode cX11_lookAt 5 = .ok (.iaload, 1) := by decide +kernel
theorem dX11_lookAt_6 : decode cX11_lookAt 6 = .ok (.ifCond .ne 52, 3) := by decide +kernel
theorem dX11_lookAt_9 : decode cX11_lookAt 9 = .ok (.aload_n 0, 1) := by decide +kernel
theorem dX11_lookAt_10 : decode cX11_lookAt 10 = .ok (.iload_n 1, 1) := by decide +kernel
theorem dX11_lookAt_11 : decode cX11_lookAt 11 = .ok (.invokevirtual 268, 3) := by decide +kernel
theorem dX11_lookAt_14 : decode cX11_lookAt 14 = .ok (.ifCond .eq 44, 3) := by decide +kernel
theorem dX11_lookAt_17 : decode cX11_lookAt 17 = .ok (.aload_n 0, 1) := by decide +kernel
theorem dX11_lookAt_18 : decode cX11_lookAt 18 = .ok (.getfield 16, 3) := by decide +kernel
theorem dX11_lookAt_21 : decode cX11_lookAt 21 = .ok (.iload_n 1, 1) := by decide +kernel
theorem dX11_lookAt_22 : decode cX11_lookAt 22 = .ok (.iaload, 1) := by decide +kernel
theorem dX11_lookAt_23 : decode cX11_lookAt 23 = .ok (.ifCond .lt 18, 3) := by decide +kernel
theorem dX11_lookAt_26 : decode cX11_lookAt 26 = .ok (.aload_n 0, 1) := by decide +kernel
theorem dX11_lookAt_27 : decode cX11_lookAt 27 = .ok (.getfield 41, 3) := by decide +kernel
theorem dX11_lookAt_30 : decode cX11_lookAt 30 = .ok (.aload_n 0, 1) := by decide +kernel
theorem dX11_lookAt_31 : decode cX11_lookAt 31 = .ok (.getfield 16, 3) := by decide +kernel
theorem dX11_lookAt_34 : decode cX11_lookAt 34 = .ok (.iload_n 1, 1) := by decide +kernel
theorem dX11_lookAt_35 : decode cX11_lookAt 35 = .ok (.iaload, 1) := by decide +kernel
theorem dX11_lookAt_36 : decode cX11_lookAt 36 = .ok (.iaload, 1) := by decide +kernel
theorem dX11_lookAt_37 : decode cX11_lookAt 37 = .ok (.iconst 1, 1) := by decide +kernel
theorem dX11_lookAt_38 : decode cX11_lookAt 38 = .ok (.if_icmp .ne 20, 3) := by decide +kernel
theorem dX11_lookAt_41 : decode cX11_lookAt 41 = .ok (.aload_n 0, 1) := by decide +kernel
theorem dX11_lookAt_42 : decode cX11_lookAt 42 = .ok (.getfield 41, 3) := by decide +kernel
theorem dX11_lookAt_45 : decode cX11_lookAt 45 = .ok (.iload_n 1, 1) := by decide +kernel
theorem dX11_lookAt_46 : decode cX11_lookAt 46 = .ok (.iconst 1, 1) := by decide +kernel
theorem dX11_lookAt_47 : decode cX11_lookAt 47 = .ok (.iastore, 1) := by decide +kernel
theorem dX11_lookAt_48 : decode cX11_lookAt 48 = .ok (.aload_n 0, 1) := by decide +kernel
theorem dX11_lookAt_49 : decode cX11_lookAt 49 = .ok (.getfield 44, 3) := by decide +kernel
theorem dX11_lookAt_52 : decode cX11_lookAt 52 = .ok (.iload_n 1, 1) := by decide +kernel
theorem dX11_lookAt_53 : decode cX11_lookAt 53 = .ok (.aload_n 0, 1) := by decide +kernel
theorem dX11_lookAt_54 : decode cX11_lookAt 54 = .ok (.getfield 223, 3) := by decide +kernel
theorem dX11_lookAt_57 : decode cX11_lookAt 57 = .ok (.iastore, 1) := by decide +kernel
theorem dX11_lookAt_58 : decode cX11_lookAt 58 = .ok (.return_, 1) := by decide +kernel
theorem dX11_speak_0 : decode cX11_speak 0 = .ok (.aload_n 0, 1) := by decide +kernel
theorem dX11_speak_1 : decode cX11_speak 1 = .ok (.getfield 47, 3) := by decide +kernel
theorem dX11_speak_4 : decode cX11_speak 4 = .ok (.aload_n 0, 1) := by decide +kernel
theorem dX11_speak_5 : decode cX11_speak 5 = .ok (.getfield 19, 3) := by decide +kernel
theorem dX11_speak_8 : decode cX11_speak 8 = .ok (.iload_n 1, 1) := by decide +kernel
theorem dX11_speak_9 : decode cX11_speak 9 = .ok (.iaload, 1) := by decide +kernel
theorem dX11_speak_10 : decode cX11_speak 10 = .ok (.dup2, 1) := by decide +kernel
theorem dX11_speak_11 : decode cX11_speak 11 = .ok (.iaload, 1) := by decide +kernel
theorem dX11_speak_12 : decode cX11_speak 12 = .ok (.aload_n 0, 1) := by decide +kernel
theorem dX11_speak_13 : decode cX11_speak 13 = .ok (.iload_n 1, 1) := by decide +kernel
theorem dX11_speak_14 : decode cX11_speak 14 = .ok (.aload_n 0, 1) := by decide +kernel
theorem dX11_speak_15 : decode cX11_speak 15 = .ok (.getfield 223, 3) := by decide +kernel
theorem dX11_speak_18 : decode cX11_speak 18 = .ok (.invokevirtual 260, 3) := by decide +kernel
theorem dX11_speak_21 : decode cX11_speak 21 = .ok (.iadd, 1) := by decide +kernel
theorem dX11_speak_22 : decode cX11_speak 22 = .ok (.iastore, 1) := by decide +kernel
theorem dX11_speak_23 : decode cX11_speak 23 = .ok (.aload_n 0, 1) := by decide +kernel
theorem dX11_speak_24 : decode cX11_speak 24 = .ok (.getfield 31, 3) := by decide +kernel
theorem dX11_speak_27 : decode cX11_speak 27 = .ok (.iload_n 1, 1) := by decide +kernel
theorem dX11_speak_28 : decode cX11_speak 28 = .ok (.aload_n 0, 1) := by decide +kernel
theorem dX11_speak_29 : decode cX11_speak 29 = .ok (.getfield 223, 3) := by decide +kernel
theorem dX11_speak_32 : decode cX11_speak 32 = .ok (.iastore, 1) := by decide +kernel
theorem dX11_speak_33 : decode cX11_speak 33 = .ok (.aload_n 0, 1) := by decide +kernel
theorem dX11_speak_34 : decode cX11_speak 34 = .ok (.getfield 34, 3) := by decide +kernel
theorem dX11_speak_37 : decode cX11_speak 37 = .ok (.iload_n 1, 1) := by decide +kernel
theorem dX11_speak_38 : decode cX11_speak 38 = .ok (.dup2, 1) := by decide +kernel
theorem dX11_speak_39 : decode cX11_speak 39 = .ok (.iaload, 1) := by decide +kernel
theorem dX11_speak_40 : decode cX11_speak 40 = .ok (.iconst 1, 1) := by decide +kernel
theorem dX11_speak_41 : decode cX11_speak 41 = .ok (.iadd, 1) := by decide +kernel
theorem dX11_speak_42 : decode cX11_speak 42 = .ok (.iastore, 1) := by decide +kernel
theorem dX11_speak_43 : decode cX11_speak 43 = .ok (.aload_n 0, 1) := by decide +kernel
theorem dX11_speak_44 : decode cX11_speak 44 = .ok (.dup, 1) := by decide +kernel
theorem dX11_speak_45 : decode cX11_speak 45 = .ok (.getfield 226, 3) := by decide +kernel
theorem dX11_speak_48 : decode cX11_speak 48 = .ok (.iconst 1, 1) := by decide +kernel
theorem dX11_speak_49 : decode cX11_speak 49 = .ok (.iadd, 1) := by decide +kernel
theorem dX11_speak_50 : decode cX11_speak 50 = .ok (.putfield 226, 3) := by decide +kernel
theorem dX11_speak_53 : decode cX11_speak 53 = .ok (.aload_n 0, 1) := by decide +kernel
theorem dX11_speak_54 : decode cX11_speak 54 = .ok (.aload_n 0, 1) := by decide +kernel
theorem dX11_speak_55 : decode cX11_speak 55 = .ok (.getfield 19, 3) := by decide +kernel
theorem dX11_speak_58 : decode cX11_speak 58 = .ok (.iload_n 1, 1) := by decide +kernel
theorem dX11_speak_59 : decode cX11_speak 59 = .ok (.iaload, 1) := by decide +kernel
theorem dX11_speak_60 : decode cX11_speak 60 = .ok (.invokevirtual 271, 3) := by decide +kernel
theorem dX11_speak_63 : decode cX11_speak 63 = .ok (.return_, 1) := by decide +kernel
theorem dX11_say_0 : decode cX11_say 0 = .ok (.aload_n 0, 1) := by decide +kernel
theorem dX11_say_1 : decode cX11_say 1 = .ok (.iload_n 1, 1) := by decide +kernel
theorem dX11_say_2 : decode cX11_say 2 = .ok (.invokevirtual 257, 3) := by decide +kernel
theorem dX11_say_5 : decode cX11_say 5 = .ok (.ifCond .ne 6, 3) := by decide +kernel
theorem dX11_say_8 : decode cX11_say 8 = .ok (.ldc 248, 2) := by decide +kernel
theorem dX11_say_10 : decode cX11_say 10 = .ok (.ireturn, 1) := by decide +kernel
theorem dX11_say_11 : decode cX11_say 11 = .ok (.aload_n 0, 1) := by decide +kernel
theorem dX11_say_12 : decode cX11_say 12 = .ok (.iload_n 1, 1) := by decide +kernel
theorem dX11_say_13 : decode cX11_say 13 = .ok (.invokevirtual 263, 3) := by decide +kernel
theorem dX11_say_16 : decode cX11_say 16 = .ok (.ifCond .ne 6, 3) := by decide +kernel
theorem dX11_say_19 : decode cX11_say 19 = .ok (.ldc 232, 2) := by decide +kernel
theorem dX11_say_21 : decode cX11_say 21 = .ok (.ireturn, 1) := by decide +kernel
theorem dX11_say_22 : decode cX11_say 22 = .ok (.aload_n 0, 1) := by decide +kernel
theorem dX11_say_23 : decode cX11_say 23 = .ok (.iload_n 1, 1) := by decide +kernel
theorem dX11_say_24 : decode cX11_say 24 = .ok (.invokevirtual 275, 3) := by decide +kernel
theorem dX11_say_27 : decode cX11_say 27 = .ok (.aload_n 0, 1) := by decide +kernel
theorem dX11_say_28 : decode cX11_say 28 = .ok (.getfield 41, 3) := by decide +kernel
theorem dX11_say_31 : decode cX11_say 31 = .ok (.aload_n 0, 1) := by decide +kernel
theorem dX11_say_32 : decode cX11_say 32 = .ok (.getfield 19, 3) := by decide +kernel
theorem dX11_say_35 : decode cX11_say 35 = .ok (.iload_n 1, 1) := by decide +kernel
theorem dX11_say_36 : decode cX11_say 36 = .ok (.iaload, 1) := by decide +kernel
theorem dX11_say_37 : decode cX11_say 37 = .ok (.iaload, 1) := by decide +kernel
theorem dX11_say_38 : decode cX11_say 38 = .ok (.ireturn, 1) := by decide +kernel
theorem dX11_strike_0 : decode cX11_strike 0 = .ok (.aload_n 0, 1) := by decide +kernel
theorem dX11_strike_1 : decode cX11_strike 1 = .ok (.iload_n 1, 1) := by decide +kernel
theorem dX11_strike_2 : decode cX11_strike 2 = .ok (.invokevirtual 257, 3) := by decide +kernel
theorem dX11_strike_5 : decode cX11_strike 5 = .ok (.ifCond .ne 6, 3) := by decide +kernel
theorem dX11_strike_8 : decode cX11_strike 8 = .ok (.ldc 248, 2) := by decide +kernel
theorem dX11_strike_10 : decode cX11_strike 10 = .ok (.ireturn, 1) := by decide +kernel
theorem dX11_strike_11 : decode cX11_strike 11 = .ok (.aload_n 0, 1) := by decide +kernel
theorem dX11_strike_12 : decode cX11_strike 12 = .ok (.getfield 37, 3) := by decide +kernel
theorem dX11_strike_15 : decode cX11_strike 15 = .ok (.iload_n 1, 1) := by decide +kernel
theorem dX11_strike_16 : decode cX11_strike 16 = .ok (.baload, 1) := by decide +kernel
theorem dX11_strike_17 : decode cX11_strike 17 = .ok (.ifCond .eq 7, 3) := by decide +kernel
theorem dX11_strike_20 : decode cX11_strike 20 = .ok (.iconst 1, 1) := by decide +kernel
theorem dX11_strike_21 : decode cX11_strike 21 = .ok (.goto 4, 3) := by decide +kernel
theorem dX11_strike_24 : decode cX11_strike 24 = .ok (.iconst 0, 1) := by decide +kernel
theorem dX11_strike_25 : decode cX11_strike 25 = .ok (.istore_n 3, 1) := by decide +kernel
theorem dX11_strike_26 : decode cX11_strike 26 = .ok (.aload_n 0, 1) := by decide +kernel
theorem dX11_strike_27 : decode cX11_strike 27 = .ok (.getfield 37, 3) := by decide +kernel
theorem dX11_strike_30 : decode cX11_strike 30 = .ok (.iload_n 1, 1) := by decide +kernel
theorem dX11_strike_31 : decode cX11_strike 31 = .ok (.iload_n 2, 1) := by decide +kernel
theorem dX11_strike_32 : decode cX11_strike 32 = .ok (.bastore, 1) := by decide +kernel
theorem dX11_strike_33 : decode cX11_strike 33 = .ok (.iload_n 3, 1) := by decide +kernel
theorem dX11_strike_34 : decode cX11_strike 34 = .ok (.ireturn, 1) := by decide +kernel
theorem dX11_halve_0 : decode cX11_halve 0 = .ok (.sipush 399, 3) := by decide +kernel
theorem dX11_halve_3 : decode cX11_halve 3 = .ok (.istore_n 2, 1) := by decide +kernel
theorem dX11_halve_4 : decode cX11_halve 4 = .ok (.iload_n 2, 1) := by decide +kernel
theorem dX11_halve_5 : decode cX11_halve 5 = .ok (.ifCond .le 35, 3) := by decide +kernel
theorem dX11_halve_8 : decode cX11_halve 8 = .ok (.aload_n 0, 1) := by decide +kernel
theorem dX11_halve_9 : decode cX11_halve 9 = .ok (.getfield 50, 3) := by decide +kernel
theorem dX11_halve_12 : decode cX11_halve 12 = .ok (.sipush 400, 3) := by decide +kernel
theorem dX11_halve_15 : decode cX11_halve 15 = .ok (.iload_n 1, 1) := by decide +kernel
theorem dX11_halve_16 : decode cX11_halve 16 = .ok (.imul, 1) := by decide +kernel
theorem dX11_halve_17 : decode cX11_halve 17 = .ok (.iload_n 2, 1) := by decide +kernel
theorem dX11_halve_18 : decode cX11_halve 18 = .ok (.iadd, 1) := by decide +kernel
theorem dX11_halve_19 : decode cX11_halve 19 = .ok (.aload_n 0, 1) := by decide +kernel
theorem dX11_halve_20 : decode cX11_halve 20 = .ok (.getfield 50, 3) := by decide +kernel
theorem dX11_halve_23 : decode cX11_halve 23 = .ok (.sipush 400, 3) := by decide +kernel
theorem dX11_halve_26 : decode cX11_halve 26 = .ok (.iload_n 1, 1) := by decide +kernel
theorem dX11_halve_27 : decode cX11_halve 27 = .ok (.imul, 1) := by decide +kernel
theorem dX11_halve_28 : decode cX11_halve 28 = .ok (.iload_n 2, 1) := by decide +kernel
theorem dX11_halve_29 : decode cX11_halve 29 = .ok (.iadd, 1) := by decide +kernel
theorem dX11_halve_30 : decode cX11_halve 30 = .ok (.iconst 1, 1) := by decide +kernel
theorem dX11_halve_31 : decode cX11_halve 31 = .ok (.isub, 1) := by decide +kernel
theorem dX11_halve_32 : decode cX11_halve 32 = .ok (.iaload, 1) := by decide +kernel
theorem dX11_halve_33 : decode cX11_halve 33 = .ok (.iastore, 1) := by decide +kernel
theorem dX11_halve_34 : decode cX11_halve 34 = .ok (.iinc 2 (-1), 3) := by decide +kernel
theorem dX11_halve_37 : decode cX11_halve 37 = .ok (.goto (-33), 3) := by decide +kernel
theorem dX11_halve_40 : decode cX11_halve 40 = .ok (.aload_n 0, 1) := by decide +kernel
theorem dX11_halve_41 : decode cX11_halve 41 = .ok (.getfield 50, 3) := by decide +kernel
theorem dX11_halve_44 : decode cX11_halve 44 = .ok (.sipush 400, 3) := by decide +kernel
theorem dX11_halve_47 : decode cX11_halve 47 = .ok (.iload_n 1, 1) := by decide +kernel
theorem dX11_halve_48 : decode cX11_halve 48 = .ok (.imul, 1) := by decide +kernel
theorem dX11_halve_49 : decode cX11_halve 49 = .ok (.aload_n 0, 1) := by decide +kernel
theorem dX11_halve_50 : decode cX11_halve 50 = .ok (.getfield 47, 3) := by decide +kernel
theorem dX11_halve_53 : decode cX11_halve 53 = .ok (.iload_n 1, 1) := by decide +kernel
theorem dX11_halve_54 : decode cX11_halve 54 = .ok (.iaload, 1) := by decide +kernel
theorem dX11_halve_55 : decode cX11_halve 55 = .ok (.iconst 2, 1) := by decide +kernel
theorem dX11_halve_56 : decode cX11_halve 56 = .ok (.irem, 1) := by decide +kernel
theorem dX11_halve_57 : decode cX11_halve 57 = .ok (.iastore, 1) := by decide +kernel
theorem dX11_halve_58 : decode cX11_halve 58 = .ok (.aload_n 0, 1) := by decide +kernel
theorem dX11_halve_59 : decode cX11_halve 59 = .ok (.getfield 47, 3) := by decide +kernel
theorem dX11_halve_62 : decode cX11_halve 62 = .ok (.iload_n 1, 1) := by decide +kernel
theorem dX11_halve_63 : decode cX11_halve 63 = .ok (.dup2, 1) := by decide +kernel
theorem dX11_halve_64 : decode cX11_halve 64 = .ok (.iaload, 1) := by decide +kernel
theorem dX11_halve_65 : decode cX11_halve 65 = .ok (.iconst 2, 1) := by decide +kernel
theorem dX11_halve_66 : decode cX11_halve 66 = .ok (.idiv, 1) := by decide +kernel
theorem dX11_halve_67 : decode cX11_halve 67 = .ok (.iastore, 1) := by decide +kernel
theorem dX11_halve_68 : decode cX11_halve 68 = .ok (.return_, 1) := by decide +kernel
theorem dX11_darken_0 : decode cX11_darken 0 = .ok (.iconst 0, 1) := by decide +kernel
theorem dX11_darken_1 : decode cX11_darken 1 = .ok (.istore_n 1, 1) := by decide +kernel
theorem dX11_darken_2 : decode cX11_darken 2 = .ok (.iload_n 1, 1) := by decide +kernel
theorem dX11_darken_3 : decode cX11_darken 3 = .ok (.aload_n 0, 1) := by decide +kernel
theorem dX11_darken_4 : decode cX11_darken 4 = .ok (.getfield 124, 3) := by decide +kernel
theorem dX11_darken_7 : decode cX11_darken 7 = .ok (.if_icmp .ge 74, 3) := by decide +kernel
theorem dX11_darken_10 : decode cX11_darken 10 = .ok (.aload_n 0, 1) := by decide +kernel
theorem dX11_darken_11 : decode cX11_darken 11 = .ok (.getfield 53, 3) := by decide +kernel
theorem dX11_darken_14 : decode cX11_darken 14 = .ok (.sipush 400, 3) := by decide +kernel
theorem dX11_darken_17 : decode cX11_darken 17 = .ok (.iload_n 1, 1) := by decide +kernel
theorem dX11_darken_18 : decode cX11_darken 18 = .ok (.imul, 1) := by decide +kernel
theorem dX11_darken_19 : decode cX11_darken 19 = .ok (.aload_n 0, 1) := by decide +kernel
theorem dX11_darken_20 : decode cX11_darken 20 = .ok (.getfield 223, 3) := by decide +kernel
theorem dX11_darken_23 : decode cX11_darken 23 = .ok (.iadd, 1) := by decide +kernel
theorem dX11_darken_24 : decode cX11_darken 24 = .ok (.aload_n 0, 1) := by decide +kernel
theorem dX11_darken_25 : decode cX11_darken 25 = .ok (.getfield 47, 3) := by decide +kernel
theorem dX11_darken_28 : decode cX11_darken 28 = .ok (.iload_n 1, 1) := by decide +kernel
theorem dX11_darken_29 : decode cX11_darken 29 = .ok (.iaload, 1) := by decide +kernel
theorem dX11_darken_30 : decode cX11_darken 30 = .ok (.iastore, 1) := by decide +kernel
theorem dX11_darken_31 : decode cX11_darken 31 = .ok (.aload_n 0, 1) := by decide +kernel
theorem dX11_darken_32 : decode cX11_darken 32 = .ok (.iload_n 1, 1) := by decide +kernel
theorem dX11_darken_33 : decode cX11_darken 33 = .ok (.invokevirtual 271, 3) := by decide +kernel
theorem dX11_darken_36 : decode cX11_darken 36 = .ok (.aload_n 0, 1) := by decide +kernel
theorem dX11_darken_37 : decode cX11_darken 37 = .ok (.getfield 41, 3) := by decide +kernel
theorem dX11_darken_40 : decode cX11_darken 40 = .ok (.iload_n 1, 1) := by decide +kernel
theorem dX11_darken_41 : decode cX11_darken 41 = .ok (.iaload, 1) := by decide +kernel
theorem dX11_darken_42 : decode cX11_darken 42 = .ok (.ifCond .ne 33, 3) := by decide +kernel
theorem dX11_darken_45 : decode cX11_darken 45 = .ok (.aload_n 0, 1) := by decide +kernel
theorem dX11_darken_46 : decode cX11_darken 46 = .ok (.getfield 223, 3) := by decide +kernel
theorem dX11_darken_49 : decode cX11_darken 49 = .ok (.aload_n 0, 1) := by decide +kernel
theorem dX11_darken_50 : decode cX11_darken 50 = .ok (.getfield 13, 3) := by decide +kernel
theorem dX11_darken_53 : decode cX11_darken 53 = .ok (.iload_n 1, 1) := by decide +kernel
theorem dX11_darken_54 : decode cX11_darken 54 = .ok (.iaload, 1) := by decide +kernel
theorem dX11_darken_55 : decode cX11_darken 55 = .ok (.if_icmp .ne 20, 3) := by decide +kernel
theorem dX11_darken_58 : decode cX11_darken 58 = .ok (.aload_n 0, 1) := by decide +kernel
theorem dX11_darken_59 : decode cX11_darken 59 = .ok (.getfield 41, 3) := by decide +kernel
theorem dX11_darken_62 : decode cX11_darken 62 = .ok (.iload_n 1, 1) := by decide +kernel
theorem dX11_darken_63 : decode cX11_darken 63 = .ok (.iconst 2, 1) := by decide +kernel
theorem dX11_darken_64 : decode cX11_darken 64 = .ok (.iastore, 1) := by decide +kernel
theorem dX11_darken_65 : decode cX11_darken 65 = .ok (.aload_n 0, 1) := by decide +kernel
theorem dX11_darken_66 : decode cX11_darken 66 = .ok (.getfield 44, 3) := by decide +kernel
theorem dX11_darken_69 : decode cX11_darken 69 = .ok (.iload_n 1, 1) := by decide +kernel
theorem dX11_darken_70 : decode cX11_darken 70 = .ok (.aload_n 0, 1) := by decide +kernel
theorem dX11_darken_71 : decode cX11_darken 71 = .ok (.getfield 223, 3) := by decide +kernel
theorem dX11_darken_74 : decode cX11_darken 74 = .ok (.iastore, 1) := by decide +kernel
theorem dX11_darken_75 : decode cX11_darken 75 = .ok (.iinc 1 1, 3) := by decide +kernel
theorem dX11_darken_78 : decode cX11_darken 78 = .ok (.goto (-76), 3) := by decide +kernel
theorem dX11_darken_81 : decode cX11_darken 81 = .ok (.iconst 0, 1) := by decide +kernel
theorem dX11_darken_82 : decode cX11_darken 82 = .ok (.istore_n 1, 1) := by decide +kernel
theorem dX11_darken_83 : decode cX11_darken 83 = .ok (.iload_n 1, 1) := by decide +kernel
theorem dX11_darken_84 : decode cX11_darken 84 = .ok (.aload_n 0, 1) := by decide +kernel
theorem dX11_darken_85 : decode cX11_darken 85 = .ok (.getfield 124, 3) := by decide +kernel
theorem dX11_darken_88 : decode cX11_darken 88 = .ok (.if_icmp .ge 14, 3) := by decide +kernel
theorem dX11_darken_91 : decode cX11_darken 91 = .ok (.aload_n 0, 1) := by decide +kernel
theorem dX11_darken_92 : decode cX11_darken 92 = .ok (.iload_n 1, 1) := by decide +kernel
theorem dX11_darken_93 : decode cX11_darken 93 = .ok (.invokevirtual 278, 3) := by decide +kernel
theorem dX11_darken_96 : decode cX11_darken 96 = .ok (.iinc 1 1, 3) := by decide +kernel
theorem dX11_darken_99 : decode cX11_darken 99 = .ok (.goto (-16), 3) := by decide +kernel
theorem dX11_darken_102 : decode cX11_darken 102 = .ok (.aload_n 0, 1) := by decide +kernel
theorem dX11_darken_103 : decode cX11_darken 103 = .ok (.dup, 1) := by decide +kernel
theorem dX11_darken_104 : decode cX11_darken 104 = .ok (.getfield 223, 3) := by decide +kernel
theorem dX11_darken_107 : decode cX11_darken 107 = .ok (.iconst 1, 1) := by decide +kernel
theorem dX11_darken_108 : decode cX11_darken 108 = .ok (.iadd, 1) := by decide +kernel
theorem dX11_darken_109 : decode cX11_darken 109 = .ok (.putfield 223, 3) := by decide +kernel
theorem dX11_darken_112 : decode cX11_darken 112 = .ok (.aload_n 0, 1) := by decide +kernel
theorem dX11_darken_113 : decode cX11_darken 113 = .ok (.iconst 0, 1) := by decide +kernel
theorem dX11_darken_114 : decode cX11_darken 114 = .ok (.putfield 226, 3) := by decide +kernel
theorem dX11_darken_117 : decode cX11_darken 117 = .ok (.return_, 1) := by decide +kernel
theorem dX11_dusk_0 : decode cX11_dusk 0 = .ok (.iload_n 1, 1) := by decide +kernel
theorem dX11_dusk_1 : decode cX11_dusk 1 = .ok (.i2l, 1) := by decide +kernel
theorem dX11_dusk_2 : decode cX11_dusk 2 = .ok (.lconst 1, 1) := by decide +kernel
theorem dX11_dusk_3 : decode cX11_dusk 3 = .ok (.ldc2_w 281, 3) := by decide +kernel
theorem dX11_dusk_6 : decode cX11_dusk 6 = .ok (.invokestatic 127, 3) := by decide +kernel
theorem dX11_dusk_9 : decode cX11_dusk 9 = .ok (.ifCond .ne 6, 3) := by decide +kernel
theorem dX11_dusk_12 : decode cX11_dusk 12 = .ok (.ldc 136, 2) := by decide +kernel
theorem dX11_dusk_14 : decode cX11_dusk 14 = .ok (.ireturn, 1) := by decide +kernel
theorem dX11_dusk_15 : decode cX11_dusk 15 = .ok (.iconst 0, 1) := by decide +kernel
theorem dX11_dusk_16 : decode cX11_dusk 16 = .ok (.istore_n 2, 1) := by decide +kernel
theorem dX11_dusk_17 : decode cX11_dusk 17 = .ok (.iload_n 2, 1) := by decide +kernel
theorem dX11_dusk_18 : decode cX11_dusk 18 = .ok (.iload_n 1, 1) := by decide +kernel
theorem dX11_dusk_19 : decode cX11_dusk 19 = .ok (.if_icmp .ge 23, 3) := by decide +kernel
theorem dX11_dusk_22 : decode cX11_dusk 22 = .ok (.aload_n 0, 1) := by decide +kernel
theorem dX11_dusk_23 : decode cX11_dusk 23 = .ok (.getfield 223, 3) := by decide +kernel
theorem dX11_dusk_26 : decode cX11_dusk 26 = .ok (.sipush 399, 3) := by decide +kernel
theorem dX11_dusk_29 : decode cX11_dusk 29 = .ok (.if_icmp .ge 13, 3) := by decide +kernel
theorem dX11_dusk_32 : decode cX11_dusk 32 = .ok (.aload_n 0, 1) := by decide +kernel
theorem dX11_dusk_33 : decode cX11_dusk 33 = .ok (.invokevirtual 283, 3) := by decide +kernel
theorem dX11_dusk_36 : decode cX11_dusk 36 = .ok (.iinc 2 1, 3) := by decide +kernel
theorem dX11_dusk_39 : decode cX11_dusk 39 = .ok (.goto (-22), 3) := by decide +kernel
theorem dX11_dusk_42 : decode cX11_dusk 42 = .ok (.aload_n 0, 1) := by decide +kernel
theorem dX11_dusk_43 : decode cX11_dusk 43 = .ok (.getfield 223, 3) := by decide +kernel
theorem dX11_dusk_46 : decode cX11_dusk 46 = .ok (.ireturn, 1) := by decide +kernel
theorem dX11_draw_0 : decode cX11_draw 0 = .ok (.aload_n 0, 1) := by decide +kernel
theorem dX11_draw_1 : decode cX11_draw 1 = .ok (.aload_n 0, 1) := by decide +kernel
theorem dX11_draw_2 : decode cX11_draw 2 = .ok (.getfield 286, 3) := by decide +kernel
theorem dX11_draw_5 : decode cX11_draw 5 = .ok (.i2l, 1) := by decide +kernel
theorem dX11_draw_6 : decode cX11_draw 6 = .ok (.ldc2_w 289, 3) := by decide +kernel
theorem dX11_draw_9 : decode cX11_draw 9 = .ok (.lmul, 1) := by decide +kernel
theorem dX11_draw_10 : decode cX11_draw 10 = .ok (.ldc2_w 291, 3) := by decide +kernel
theorem dX11_draw_13 : decode cX11_draw 13 = .ok (.ladd, 1) := by decide +kernel
theorem dX11_draw_14 : decode cX11_draw 14 = .ok (.ldc2_w 293, 3) := by decide +kernel
theorem dX11_draw_17 : decode cX11_draw 17 = .ok (.lrem, 1) := by decide +kernel
theorem dX11_draw_18 : decode cX11_draw 18 = .ok (.l2i, 1) := by decide +kernel
theorem dX11_draw_19 : decode cX11_draw 19 = .ok (.putfield 286, 3) := by decide +kernel
theorem dX11_draw_22 : decode cX11_draw 22 = .ok (.aload_n 0, 1) := by decide +kernel
theorem dX11_draw_23 : decode cX11_draw 23 = .ok (.getfield 286, 3) := by decide +kernel
theorem dX11_draw_26 : decode cX11_draw 26 = .ok (.ldc_w 295, 3) := by decide +kernel
theorem dX11_draw_29 : decode cX11_draw 29 = .ok (.idiv, 1) := by decide +kernel
theorem dX11_draw_30 : decode cX11_draw 30 = .ok (.iload_n 1, 1) := by decide +kernel
theorem dX11_draw_31 : decode cX11_draw 31 = .ok (.irem, 1) := by decide +kernel
theorem dX11_draw_32 : decode cX11_draw 32 = .ok (.ireturn, 1) := by decide +kernel
theorem dX11_drift_0 : decode cX11_drift 0 = .ok (.iload_n 1, 1) := by decide +kernel
theorem dX11_drift_1 : decode cX11_drift 1 = .ok (.i2l, 1) := by decide +kernel
theorem dX11_drift_2 : decode cX11_drift 2 = .ok (.lconst 1, 1) := by decide +kernel
theorem dX11_drift_3 : decode cX11_drift 3 = .ok (.ldc2_w 296, 3) := by decide +kernel
theorem dX11_drift_6 : decode cX11_drift 6 = .ok (.invokestatic 127, 3) := by decide +kernel
theorem dX11_drift_9 : decode cX11_drift 9 = .ok (.ifCond .eq 15, 3) := by decide +kernel
theorem dX11_drift_12 : decode cX11_drift 12 = .ok (.iload_n 2, 1) := by decide +kernel
theorem dX11_drift_13 : decode cX11_drift 13 = .ok (.i2l, 1) := by decide +kernel
theorem dX11_drift_14 : decode cX11_drift 14 = .ok (.lconst 0, 1) := by decide +kernel
theorem dX11_drift_15 : decode cX11_drift 15 = .ok (.ldc2_w 298, 3) := by decide +kernel
theorem dX11_drift_18 : decode cX11_drift 18 = .ok (.invokestatic 127, 3) := by decide +kernel
theorem dX11_drift_21 : decode cX11_drift 21 = .ok (.ifCond .ne 6, 3) := by decide +kernel
theorem dX11_drift_24 : decode cX11_drift 24 = .ok (.ldc 136, 2) := by decide +kernel
theorem dX11_drift_26 : decode cX11_drift 26 = .ok (.ireturn, 1) := by decide +kernel
theorem dX11_drift_27 : decode cX11_drift 27 = .ok (.iconst 0, 1) := by decide +kernel
theorem dX11_drift_28 : decode cX11_drift 28 = .ok (.istore_n 3, 1) := by decide +kernel
theorem dX11_drift_29 : decode cX11_drift 29 = .ok (.iconst 0, 1) := by decide +kernel
theorem dX11_drift_30 : decode cX11_drift 30 = .ok (.istore 4, 2) := by decide +kernel
theorem dX11_drift_32 : decode cX11_drift 32 = .ok (.iload 4, 2) := by decide +kernel
theorem dX11_drift_34 : decode cX11_drift 34 = .ok (.iload_n 1, 1) := by decide +kernel
theorem dX11_drift_35 : decode cX11_drift 35 = .ok (.if_icmp .ge 69, 3) := by decide +kernel
theorem dX11_drift_38 : decode cX11_drift 38 = .ok (.aload_n 0, 1) := by decide +kernel
theorem dX11_drift_39 : decode cX11_drift 39 = .ok (.getfield 223, 3) := by decide +kernel
theorem dX11_drift_42 : decode cX11_drift 42 = .ok (.sipush 399, 3) := by decide +kernel
theorem dX11_drift_45 : decode cX11_drift 45 = .ok (.if_icmp .ge 59, 3) := by decide +kernel
theorem dX11_drift_48 : decode cX11_drift 48 = .ok (.iconst 0, 1) := by decide +kernel
theorem dX11_drift_49 : decode cX11_drift 49 = .ok (.istore 5, 2) := by decide +kernel
theorem dX11_drift_51 : decode cX11_drift 51 = .ok (.iload 5, 2) := by decide +kernel
theorem dX11_drift_53 : decode cX11_drift 53 = .ok (.aload_n 0, 1) := by decide +kernel
theorem dX11_drift_54 : decode cX11_drift 54 = .ok (.getfield 131, 3) := by decide +kernel
theorem dX11_drift_57 : decode cX11_drift 57 = .ok (.if_icmp .ge 37, 3) := by decide +kernel
theorem dX11_drift_60 : decode cX11_drift 60 = .ok (.aload_n 0, 1) := by decide +kernel
theorem dX11_drift_61 : decode cX11_drift 61 = .ok (.bipush 100, 2) := by decide +kernel
theorem dX11_drift_63 : decode cX11_drift 63 = .ok (.invokevirtual 300, 3) := by decide +kernel
theorem dX11_drift_66 : decode cX11_drift 66 = .ok (.iload_n 2, 1) := by decide +kernel
theorem dX11_drift_67 : decode cX11_drift 67 = .ok (.if_icmp .ge 21, 3) := by decide +kernel
theorem dX11_drift_70 : decode cX11_drift 70 = .ok (.aload_n 0, 1) := by decide +kernel
theorem dX11_drift_71 : decode cX11_drift 71 = .ok (.iload 5, 2) := by decide +kernel
theorem dX11_drift_73 : decode cX11_drift 73 = .ok (.invokevirtual 263, 3) := by decide +kernel
theorem dX11_drift_76 : decode cX11_drift 76 = .ok (.ifCond .eq 12, 3) := by decide +kernel
theorem dX11_drift_79 : decode cX11_drift 79 = .ok (.aload_n 0, 1) := by decide +kernel
theorem dX11_drift_80 : decode cX11_drift 80 = .ok (.iload 5, 2) := by decide +kernel
theorem dX11_drift_82 : decode cX11_drift 82 = .ok (.invokevirtual 275, 3) := by decide +kernel
theorem dX11_drift_85 : decode cX11_drift 85 = .ok (.iinc 3 1, 3) := by decide +kernel
theorem dX11_drift_88 : decode cX11_drift 88 = .ok (.iinc 5 1, 3) := by decide +kernel
theorem dX11_drift_91 : decode cX11_drift 91 = .ok (.goto (-40), 3) := by decide +kernel
theorem dX11_drift_94 : decode cX11_drift 94 = .ok (.aload_n 0, 1) := by decide +kernel
theorem dX11_drift_95 : decode cX11_drift 95 = .ok (.invokevirtual 283, 3) := by decide +kernel
theorem dX11_drift_98 : decode cX11_drift 98 = .ok (.iinc 4 1, 3) := by decide +kernel
theorem dX11_drift_101 : decode cX11_drift 101 = .ok (.goto (-69), 3) := by decide +kernel
theorem dX11_drift_104 : decode cX11_drift 104 = .ok (.iload_n 3, 1) := by decide +kernel
theorem dX11_drift_105 : decode cX11_drift 105 = .ok (.ireturn, 1) := by decide +kernel
theorem dX11_begin_0 : decode cX11_begin 0 = .ok (.aload_n 0, 1) := by decide +kernel
theorem dX11_begin_1 : decode cX11_begin 1 = .ok (.getfield 223, 3) := by decide +kernel
theorem dX11_begin_4 : decode cX11_begin 4 = .ok (.istore_n 1, 1) := by decide +kernel
theorem dX11_begin_5 : decode cX11_begin 5 = .ok (.aload_n 0, 1) := by decide +kernel
theorem dX11_begin_6 : decode cX11_begin 6 = .ok (.invokevirtual 220, 3) := by decide +kernel
theorem dX11_begin_9 : decode cX11_begin 9 = .ok (.iload_n 1, 1) := by decide +kernel
theorem dX11_begin_10 : decode cX11_begin 10 = .ok (.ireturn, 1) := by decide +kernel
theorem dX11_listOwn_0 : decode cX11_listOwn 0 = .ok (.aload_n 0, 1) := by decide +kernel
theorem dX11_listOwn_1 : decode cX11_listOwn 1 = .ok (.iconst 0, 1) := by decide +kernel
theorem dX11_listOwn_2 : decode cX11_listOwn 2 = .ok (.putfield 303, 3) := by decide +kernel
theorem dX11_listOwn_5 : decode cX11_listOwn 5 = .ok (.iconst 0, 1) := by decide +kernel
theorem dX11_listOwn_6 : decode cX11_listOwn 6 = .ok (.istore_n 2, 1) := by decide +kernel
theorem dX11_listOwn_7 : decode cX11_listOwn 7 = .ok (.iload_n 2, 1) := by decide +kernel
theorem dX11_listOwn_8 : decode cX11_listOwn 8 = .ok (.aload_n 0, 1) := by decide +kernel
theorem dX11_listOwn_9 : decode cX11_listOwn 9 = .ok (.getfield 131, 3) := by decide +kernel
theorem dX11_listOwn_12 : decode cX11_listOwn 12 = .ok (.if_icmp .ge 39, 3) := by decide +kernel
theorem dX11_listOwn_15 : decode cX11_listOwn 15 = .ok (.aload_n 0, 1) := by decide +kernel
theorem dX11_listOwn_16 : decode cX11_listOwn 16 = .ok (.getfield 19, 3) := by decide +kernel
theorem dX11_listOwn_19 : decode cX11_listOwn 19 = .ok (.iload_n 2, 1) := by decide +kernel
theorem dX11_listOwn_20 : decode cX11_listOwn 20 = .ok (.iaload, 1) := by decide +kernel
theorem dX11_listOwn_21 : decode cX11_listOwn 21 = .ok (.iload_n 1, 1) := by decide +kernel
theorem dX11_listOwn_22 : decode cX11_listOwn 22 = .ok (.if_icmp .ne 23, 3) := by decide +kernel
theorem dX11_listOwn_25 : decode cX11_listOwn 25 = .ok (.aload_n 0, 1) := by decide +kernel
theorem dX11_listOwn_26 : decode cX11_listOwn 26 = .ok (.getfield 84, 3) := by decide +kernel
theorem dX11_listOwn_29 : decode cX11_listOwn 29 = .ok (.aload_n 0, 1) := by decide +kernel
theorem dX11_listOwn_30 : decode cX11_listOwn 30 = .ok (.getfield 303, 3) := by decide +kernel
theorem dX11_listOwn_33 : decode cX11_listOwn 33 = .ok (.iload_n 2, 1) := by decide +kernel
theorem dX11_listOwn_34 : decode cX11_listOwn 34 = .ok (.iastore, 1) := by decide +kernel
theorem dX11_listOwn_35 : decode cX11_listOwn 35 = .ok (.aload_n 0, 1) := by decide +kernel
theorem dX11_listOwn_36 : decode cX11_listOwn 36 = .ok (.dup, 1) := by decide +kernel
theorem dX11_listOwn_37 : decode cX11_listOwn 37 = .ok (.getfield 303, 3) := by decide +kernel
theorem dX11_listOwn_40 : decode cX11_listOwn 40 = .ok (.iconst 1, 1) := by decide +kernel
theorem dX11_listOwn_41 : decode cX11_listOwn 41 = .ok (.iadd, 1) := by decide +kernel
theorem dX11_listOwn_42 : decode cX11_listOwn 42 = .ok (.putfield 303, 3) := by decide +kernel
theorem dX11_listOwn_45 : decode cX11_listOwn 45 = .ok (.iinc 2 1, 3) := by decide +kernel
theorem dX11_listOwn_48 : decode cX11_listOwn 48 = .ok (.goto (-41), 3) := by decide +kernel
theorem dX11_listOwn_51 : decode cX11_listOwn 51 = .ok (.return_, 1) := by decide +kernel
theorem dX11_mayCall_0 : decode cX11_mayCall 0 = .ok (.aload_n 0, 1) := by decide +kernel
theorem dX11_mayCall_1 : decode cX11_mayCall 1 = .ok (.aload_n 0, 1) := by decide +kernel
theorem dX11_mayCall_2 : decode cX11_mayCall 2 = .ok (.getfield 84, 3) := by decide +kernel
theorem dX11_mayCall_5 : decode cX11_mayCall 5 = .ok (.iload_n 1, 1) := by decide +kernel
theorem dX11_mayCall_6 : decode cX11_mayCall 6 = .ok (.iaload, 1) := by decide +kernel
theorem dX11_mayCall_7 : decode cX11_mayCall 7 = .ok (.aload_n 0, 1) := by decide +kernel
theorem dX11_mayCall_8 : decode cX11_mayCall 8 = .ok (.getfield 223, 3) := by decide +kernel
theorem dX11_mayCall_11 : decode cX11_mayCall 11 = .ok (.iload_n 2, 1) := by decide +kernel
theorem dX11_mayCall_12 : decode cX11_mayCall 12 = .ok (.iadd, 1) := by decide +kernel
theorem dX11_mayCall_13 : decode cX11_mayCall 13 = .ok (.invokevirtual 253, 3) := by decide +kernel
theorem dX11_mayCall_16 : decode cX11_mayCall 16 = .ok (.ifCond .eq 26, 3) := by decide +kernel
theorem dX11_mayCall_19 : decode cX11_mayCall 19 = .ok (.aload_n 0, 1) := by decide +kernel
theorem dX11_mayCall_20 : decode cX11_mayCall 20 = .ok (.getfield 87, 3) := by decide +kernel
theorem dX11_mayCall_23 : decode cX11_mayCall 23 = .ok (.iload_n 1, 1) := by decide +kernel
theorem dX11_mayCall_24 : decode cX11_mayCall 24 = .ok (.iaload, 1) := by decide +kernel
theorem dX11_mayCall_25 : decode cX11_mayCall 25 = .ok (.ifCond .lt 13, 3) := by decide +kernel
theorem dX11_mayCall_28 : decode cX11_mayCall 28 = .ok (.aload_n 0, 1) := by decide +kernel
theorem dX11_mayCall_29 : decode cX11_mayCall 29 = .ok (.getfield 87, 3) := by decide +kernel
theorem dX11_mayCall_32 : decode cX11_mayCall 32 = .ok (.iload_n 1, 1) := by decide +kernel
theorem dX11_mayCall_33 : decode cX11_mayCall 33 = .ok (.iaload, 1) := by decide +kernel
theorem dX11_mayCall_34 : decode cX11_mayCall 34 = .ok (.iload_n 2, 1) := by decide +kernel
theorem dX11_mayCall_35 : decode cX11_mayCall 35 = .ok (.if_icmp .ne 7, 3) := by decide +kernel
theorem dX11_mayCall_38 : decode cX11_mayCall 38 = .ok (.iconst 1, 1) := by decide +kernel
theorem dX11_mayCall_39 : decode cX11_mayCall 39 = .ok (.goto 4, 3) := by decide +kernel
theorem dX11_mayCall_42 : decode cX11_mayCall 42 = .ok (.iconst 0, 1) := by decide +kernel
theorem dX11_mayCall_43 : decode cX11_mayCall 43 = .ok (.ireturn, 1) := by decide +kernel
theorem dX11_room_0 : decode cX11_room 0 = .ok (.aload_n 0, 1) := by decide +kernel
theorem dX11_room_1 : decode cX11_room 1 = .ok (.aload_n 0, 1) := by decide +kernel
theorem dX11_room_2 : decode cX11_room 2 = .ok (.getfield 223, 3) := by decide +kernel
theorem dX11_room_5 : decode cX11_room 5 = .ok (.iload_n 1, 1) := by decide +kernel
theorem dX11_room_6 : decode cX11_room 6 = .ok (.iadd, 1) := by decide +kernel
theorem dX11_room_7 : decode cX11_room 7 = .ok (.iconst 3, 1) := by decide +kernel
theorem dX11_room_8 : decode cX11_room 8 = .ok (.invokevirtual 241, 3) := by decide +kernel
theorem dX11_room_11 : decode cX11_room 11 = .ok (.iload_n 1, 1) := by decide +kernel
theorem dX11_room_12 : decode cX11_room 12 = .ok (.ifCond .ne 10, 3) := by decide +kernel
theorem dX11_room_15 : decode cX11_room 15 = .ok (.aload_n 0, 1) := by decide +kernel
theorem dX11_room_16 : decode cX11_room 16 = .ok (.getfield 226, 3) := by decide +kernel
theorem dX11_room_19 : decode cX11_room 19 = .ok (.goto 4, 3) := by decide +kernel
theorem dX11_room_22 : decode cX11_room 22 = .ok (.iconst 0, 1) := by decide +kernel
theorem dX11_room_23 : decode cX11_room 23 = .ok (.isub, 1) := by decide +kernel
theorem dX11_room_24 : decode cX11_room 24 = .ok (.istore_n 2, 1) := by decide +kernel
theorem dX11_room_25 : decode cX11_room 25 = .ok (.iload_n 2, 1) := by decide +kernel
theorem dX11_room_26 : decode cX11_room 26 = .ok (.ifCond .ge 7, 3) := by decide +kernel
theorem dX11_room_29 : decode cX11_room 29 = .ok (.iconst 0, 1) := by decide +kernel
theorem dX11_room_30 : decode cX11_room 30 = .ok (.goto 4, 3) := by decide +kernel
theorem dX11_room_33 : decode cX11_room 33 = .ok (.iload_n 2, 1) := by decide +kernel
theorem dX11_room_34 : decode cX11_room 34 = .ok (.ireturn, 1) := by decide +kernel
theorem dX11_callOn_0 : decode cX11_callOn 0 = .ok (.iconst 0, 1) := by decide +kernel
theorem dX11_callOn_1 : decode cX11_callOn 1 = .ok (.istore_n 2, 1) := by decide +kernel
theorem dX11_callOn_2 : decode cX11_callOn 2 = .ok (.iload_n 2, 1) := by decide +kernel
theorem dX11_callOn_3 : decode cX11_callOn 3 = .ok (.bipush 64, 2) := by decide +kernel
theorem dX11_callOn_5 : decode cX11_callOn 5 = .ok (.if_icmp .ge 72, 3) := by decide +kernel
theorem dX11_callOn_8 : decode cX11_callOn 8 = .ok (.aload_n 0, 1) := by decide +kernel
theorem dX11_callOn_9 : decode cX11_callOn 9 = .ok (.getfield 90, 3) := by decide +kernel
theorem dX11_callOn_12 : decode cX11_callOn 12 = .ok (.iload_n 2, 1) := by decide +kernel
theorem dX11_callOn_13 : decode cX11_callOn 13 = .ok (.iload_n 1, 1) := by decide +kernel
theorem dX11_callOn_14 : decode cX11_callOn 14 = .ok (.ifCond .ne 17, 3) := by decide +kernel
theorem dX11_callOn_17 : decode cX11_callOn 17 = .ok (.iload_n 2, 1) := by decide +kernel
theorem dX11_callOn_18 : decode cX11_callOn 18 = .ok (.ifCond .ne 7, 3) := by decide +kernel
theorem dX11_callOn_21 : decode cX11_callOn 21 = .ok (.lconst 0, 1) := by decide +kernel
theorem dX11_callOn_22 : decode cX11_callOn 22 = .ok (.goto 36, 3) := by decide +kernel
theorem dX11_callOn_25 : decode cX11_callOn 25 = .ok (.ldc2_w 306, 3) := by decide +kernel
theorem dX11_callOn_28 : decode cX11_callOn 28 = .ok (.goto 30, 3) := by decide +kernel
theorem dX11_callOn_31 : decode cX11_callOn 31 = .ok (.aload_n 0, 1) := by decide +kernel
theorem dX11_callOn_32 : decode cX11_callOn 32 = .ok (.getfield 90, 3) := by decide +kernel
theorem dX11_callOn_35 : decode cX11_callOn 35 = .ok (.iload_n 2, 1) := by decide +kernel
theorem dX11_callOn_36 : decode cX11_callOn 36 = .ok (.laload, 1) := by decide +kernel
theorem dX11_callOn_37 : decode cX11_callOn 37 = .ok (.lconst 0, 1) := by decide +kernel
theorem dX11_callOn_38 : decode cX11_callOn 38 = .ok (.lcmp, 1) := by decide +kernel
theorem dX11_callOn_39 : decode cX11_callOn 39 = .ok (.ifCond .ge 9, 3) := by decide +kernel
theorem dX11_callOn_42 : decode cX11_callOn 42 = .ok (.ldc2_w 306, 3) := by decide +kernel
theorem dX11_callOn_45 : decode cX11_callOn 45 = .ok (.goto 13, 3) := by decide +kernel
theorem dX11_callOn_48 : decode cX11_callOn 48 = .ok (.aload_n 0, 1) := by decide +kernel
theorem dX11_callOn_49 : decode cX11_callOn 49 = .ok (.getfield 90, 3) := by decide +kernel
theorem dX11_callOn_52 : decode cX11_callOn 52 = .ok (.iload_n 2, 1) := by decide +kernel
theorem dX11_callOn_53 : decode cX11_callOn 53 = .ok (.laload, 1) := by decide +kernel
theorem dX11_callOn_54 : decode cX11_callOn 54 = .ok (.ldc2_w 308, 3) := by decide +kernel
theorem dX11_callOn_57 : decode cX11_callOn 57 = .ok (.ldiv, 1) := by decide +kernel
theorem dX11_callOn_58 : decode cX11_callOn 58 = .ok (.lastore, 1) := by decide +kernel
theorem dX11_callOn_59 : decode cX11_callOn 59 = .ok (.aload_n 0, 1) := by decide +kernel
theorem dX11_callOn_60 : decode cX11_callOn 60 = .ok (.getfield 94, 3) := by decide +kernel
theorem dX11_callOn_63 : decode cX11_callOn 63 = .ok (.iload_n 2, 1) := by decide +kernel
theorem dX11_callOn_64 : decode cX11_callOn 64 = .ok (.aload_n 0, 1) := by decide +kernel
theorem dX11_callOn_65 : decode cX11_callOn 65 = .ok (.getfield 90, 3) := by decide +kernel
theorem dX11_callOn_68 : decode cX11_callOn 68 = .ok (.iload_n 2, 1) := by decide +kernel
theorem dX11_callOn_69 : decode cX11_callOn 69 = .ok (.laload, 1) := by decide +kernel
theorem dX11_callOn_70 : decode cX11_callOn 70 = .ok (.lastore, 1) := by decide +kernel
theorem dX11_callOn_71 : decode cX11_callOn 71 = .ok (.iinc 2 1, 3) := by decide +kernel
theorem dX11_callOn_74 : decode cX11_callOn 74 = .ok (.goto (-72), 3) := by decide +kernel
theorem dX11_callOn_77 : decode cX11_callOn 77 = .ok (.aload_n 0, 1) := by decide +kernel
theorem dX11_callOn_78 : decode cX11_callOn 78 = .ok (.iload_n 1, 1) := by decide +kernel
theorem dX11_callOn_79 : decode cX11_callOn 79 = .ok (.invokevirtual 310, 3) := by decide +kernel
theorem dX11_callOn_82 : decode cX11_callOn 82 = .ok (.istore_n 2, 1) := by decide +kernel
theorem dX11_callOn_83 : decode cX11_callOn 83 = .ok (.iconst 1, 1) := by decide +kernel
theorem dX11_callOn_84 : decode cX11_callOn 84 = .ok (.istore_n 3, 1) := by decide +kernel
theorem dX11_callOn_85 : decode cX11_callOn 85 = .ok (.iload_n 3, 1) := by decide +kernel
theorem dX11_callOn_86 : decode cX11_callOn 86 = .ok (.iconst 1, 1) := by decide +kernel
theorem dX11_callOn_87 : decode cX11_callOn 87 = .ok (.aload_n 0, 1) := by decide +kernel
theorem dX11_callOn_88 : decode cX11_callOn 88 = .ok (.getfield 303, 3) := by decide +kernel
theorem dX11_callOn_91 : decode cX11_callOn 91 = .ok (.ishl, 1) := by decide +kernel
theorem dX11_callOn_92 : decode cX11_callOn 92 = .ok (.if_icmp .ge 139, 3) := by decide +kernel
theorem dX11_callOn_95 : decode cX11_callOn 95 = .ok (.iload_n 3, 1) := by decide +kernel
theorem dX11_callOn_96 : decode cX11_callOn 96 = .ok (.invokestatic 313, 3) := by decide +kernel
theorem dX11_callOn_99 : decode cX11_callOn 99 = .ok (.iload_n 2, 1) := by decide +kernel
theorem dX11_callOn_100 : decode cX11_callOn 100 = .ok (.if_icmp .gt 125, 3) := by decide +kernel
theorem dX11_callOn_103 : decode cX11_callOn 103 = .ok (.aload_n 0, 1) := by decide +kernel
theorem dX11_callOn_104 : decode cX11_callOn 104 = .ok (.iload_n 3, 1) := by decide +kernel
theorem dX11_callOn_105 : decode cX11_callOn 105 = .ok (.iload_n 1, 1) := by decide +kernel
theorem dX11_callOn_106 : decode cX11_callOn 106 = .ok (.invokevirtual 316, 3) := by decide +kernel
theorem dX11_callOn_109 : decode cX11_callOn 109 = .ok (.ifCond .eq 116, 3) := by decide +kernel
theorem dX11_callOn_112 : decode cX11_callOn 112 = .ok (.aload_n 0, 1) := by decide +kernel
theorem dX11_callOn_113 : decode cX11_callOn 113 = .ok (.iload_n 3, 1) := by decide +kernel
theorem dX11_callOn_114 : decode cX11_callOn 114 = .ok (.iload_n 1, 1) := by decide +kernel
theorem dX11_callOn_115 : decode cX11_callOn 115 = .ok (.invokevirtual 319, 3) := by decide +kernel
theorem dX11_callOn_118 : decode cX11_callOn 118 = .ok (.lstore 4, 2) := by decide +kernel
theorem dX11_callOn_120 : decode cX11_callOn 120 = .ok (.iconst 0, 1) := by decide +kernel
theorem dX11_callOn_121 : decode cX11_callOn 121 = .ok (.istore 6, 2) := by decide +kernel
theorem dX11_callOn_123 : decode cX11_callOn 123 = .ok (.iload 6, 2) := by decide +kernel
theorem dX11_callOn_125 : decode cX11_callOn 125 = .ok (.iconst 1, 1) := by decide +kernel
theorem dX11_callOn_126 : decode cX11_callOn 126 = .ok (.aload_n 0, 1) := by decide +kernel
theorem dX11_callOn_127 : decode cX11_callOn 127 = .ok (.getfield 303, 3) := by decide +kernel
theorem dX11_callOn_130 : decode cX11_callOn 130 = .ok (.ishl, 1) := by decide +kernel
theorem dX11_callOn_131 : decode cX11_callOn 131 = .ok (.if_icmp .ge 94, 3) := by decide +kernel
theorem dX11_callOn_134 : decode cX11_callOn 134 = .ok (.aload_n 0, 1) := by decide +kernel
theorem dX11_callOn_135 : decode cX11_callOn 135 = .ok (.getfield 90, 3) := by decide +kernel
theorem dX11_callOn_138 : decode cX11_callOn 138 = .ok (.iload 6, 2) := by decide +kernel
theorem dX11_callOn_140 : decode cX11_callOn 140 = .ok (.laload, 1) := by decide +kernel
theorem dX11_callOn_141 : decode cX11_callOn 141 = .ok (.lconst 0, 1) := by decide +kernel
theorem dX11_callOn_142 : decode cX11_callOn 142 = .ok (.lcmp, 1) := by decide +kernel
theorem dX11_callOn_143 : decode cX11_callOn 143 = .ok (.ifCond .lt 14, 3) := by decide +kernel
theorem dX11_callOn_146 : decode cX11_callOn 146 = .ok (.iload_n 3, 1) := by decide +kernel
theorem dX11_callOn_147 : decode cX11_callOn 147 = .ok (.iload 6, 2) := by decide +kernel
theorem dX11_callOn_149 : decode cX11_callOn 149 = .ok (.iand, 1) := by decide +kernel
theorem dX11_callOn_150 : decode cX11_callOn 150 = .ok (.ifCond .ne 7, 3) := by decide +kernel
theorem dX11_callOn_153 : decode cX11_callOn 153 = .ok (.iconst 1, 1) := by decide +kernel
theorem dX11_callOn_154 : decode cX11_callOn 154 = .ok (.goto 4, 3) := by decide +kernel
theorem dX11_callOn_157 : decode cX11_callOn 157 = .ok (.iconst 0, 1) := by decide +kernel
theorem dX11_callOn_158 : decode cX11_callOn 158 = .ok (.istore 7, 2) := by decide +kernel
theorem dX11_callOn_160 : decode cX11_callOn 160 = .ok (.aload_n 0, 1) := by decide +kernel
theorem dX11_callOn_161 : decode cX11_callOn 161 = .ok (.getfield 94, 3) := by decide +kernel
theorem dX11_callOn_164 : decode cX11_callOn 164 = .ok (.iload 6, 2) := by decide +kernel
theorem dX11_callOn_166 : decode cX11_callOn 166 = .ok (.iload_n 3, 1) := by decide +kernel
theorem dX11_callOn_167 : decode cX11_callOn 167 = .ok (.ior, 1) := by decide +kernel
theorem dX11_callOn_168 : decode cX11_callOn 168 = .ok (.iload 7, 2) := by decide +kernel
theorem dX11_callOn_170 : decode cX11_callOn 170 = .ok (.ifCond .eq 39, 3) := by decide +kernel
theorem dX11_callOn_173 : decode cX11_callOn 173 = .ok (.aload_n 0, 1) := by decide +kernel
theorem dX11_callOn_174 : decode cX11_callOn 174 = .ok (.getfield 90, 3) := by decide +kernel
theorem dX11_callOn_177 : decode cX11_callOn 177 = .ok (.iload 6, 2) := by decide +kernel
theorem dX11_callOn_179 : decode cX11_callOn 179 = .ok (.laload, 1) := by decide +kernel
theorem dX11_callOn_180 : decode cX11_callOn 180 = .ok (.lload 4, 2) := by decide +kernel
theorem dX11_callOn_182 : decode cX11_callOn 182 = .ok (.ladd, 1) := by decide +kernel
theorem dX11_callOn_183 : decode cX11_callOn 183 = .ok (.aload_n 0, 1) := by decide +kernel
theorem dX11_callOn_184 : decode cX11_callOn 184 = .ok (.getfield 94, 3) := by decide +kernel
theorem dX11_callOn_187 : decode cX11_callOn 187 = .ok (.iload 6, 2) := by decide +kernel
theorem dX11_callOn_189 : decode cX11_callOn 189 = .ok (.iload_n 3, 1) := by decide +kernel
theorem dX11_callOn_190 : decode cX11_callOn 190 = .ok (.ior, 1) := by decide +kernel
theorem dX11_callOn_191 : decode cX11_callOn 191 = .ok (.laload, 1) := by decide +kernel
theorem dX11_callOn_192 : decode cX11_callOn 192 = .ok (.lcmp, 1) := by decide +kernel
theorem dX11_callOn_193 : decode cX11_callOn 193 = .ok (.ifCond .le 16, 3) := by decide +kernel
theorem dX11_callOn_196 : decode cX11_callOn 196 = .ok (.aload_n 0, 1) := by decide +kernel
theorem dX11_callOn_197 : decode cX11_callOn 197 = .ok (.getfield 90, 3) := by decide +kernel
theorem dX11_callOn_200 : decode cX11_callOn 200 = .ok (.iload 6, 2) := by decide +kernel
theorem dX11_callOn_202 : decode cX11_callOn 202 = .ok (.laload, 1) := by decide +kernel
theorem dX11_callOn_203 : decode cX11_callOn 203 = .ok (.lload 4, 2) := by decide +kernel
theorem dX11_callOn_205 : decode cX11_callOn 205 = .ok (.ladd, 1) := by decide +kernel
theorem dX11_callOn_206 : decode cX11_callOn 206 = .ok (.goto 12, 3) := by decide +kernel
theorem dX11_callOn_209 : decode cX11_callOn 209 = .ok (.aload_n 0, 1) := by decide +kernel
theorem dX11_callOn_210 : decode cX11_callOn 210 = .ok (.getfield 94, 3) := by decide +kernel
theorem dX11_callOn_213 : decode cX11_callOn 213 = .ok (.iload 6, 2) := by decide +kernel
theorem dX11_callOn_215 : decode cX11_callOn 215 = .ok (.iload_n 3, 1) := by decide +kernel
theorem dX11_callOn_216 : decode cX11_callOn 216 = .ok (.ior, 1) := by decide +kernel
theorem dX11_callOn_217 : decode cX11_callOn 217 = .ok (.laload, 1) := by decide +kernel
theorem dX11_callOn_218 : decode cX11_callOn 218 = .ok (.lastore, 1) := by decide +kernel
theorem dX11_callOn_219 : decode cX11_callOn 219 = .ok (.iinc 6 1, 3) := by decide +kernel
theorem dX11_callOn_222 : decode cX11_callOn 222 = .ok (.goto (-99), 3) := by decide +kernel
theorem dX11_callOn_225 : decode cX11_callOn 225 = .ok (.iinc 3 1, 3) := by decide +kernel
theorem dX11_callOn_228 : decode cX11_callOn 228 = .ok (.goto (-143), 3) := by decide +kernel
theorem dX11_callOn_231 : decode cX11_callOn 231 = .ok (.iconst 0, 1) := by decide +kernel
theorem dX11_callOn_232 : decode cX11_callOn 232 = .ok (.istore_n 3, 1) := by decide +kernel
theorem dX11_callOn_233 : decode cX11_callOn 233 = .ok (.iload_n 3, 1) := by decide +kernel
theorem dX11_callOn_234 : decode cX11_callOn 234 = .ok (.bipush 64, 2) := by decide +kernel
theorem dX11_callOn_236 : decode cX11_callOn 236 = .ok (.if_icmp .ge 21, 3) := by decide +kernel
theorem dX11_callOn_239 : decode cX11_callOn 239 = .ok (.aload_n 0, 1) := by decide +kernel
theorem dX11_callOn_240 : decode cX11_callOn 240 = .ok (.getfield 90, 3) := by decide +kernel
theorem dX11_callOn_243 : decode cX11_callOn 243 = .ok (.iload_n 3, 1) := by decide +kernel
theorem dX11_callOn_244 : decode cX11_callOn 244 = .ok (.aload_n 0, 1) := by decide +kernel
theorem dX11_callOn_245 : decode cX11_callOn 245 = .ok (.getfield 94, 3) := by decide +kernel
theorem dX11_callOn_248 : decode cX11_callOn 248 = .ok (.iload_n 3, 1) := by decide +kernel
theorem dX11_callOn_249 : decode cX11_callOn 249 = .ok (.laload, 1) := by decide +kernel
theorem dX11_callOn_250 : decode cX11_callOn 250 = .ok (.lastore, 1) := by decide +kernel
theorem dX11_callOn_251 : decode cX11_callOn 251 = .ok (.iinc 3 1, 3) := by decide +kernel
theorem dX11_callOn_254 : decode cX11_callOn 254 = .ok (.goto (-21), 3) := by decide +kernel
theorem dX11_callOn_257 : decode cX11_callOn 257 = .ok (.return_, 1) := by decide +kernel
theorem dX11_findMosts_0 : decode cX11_findMosts 0 = .ok (.iconst 0, 1) := by decide +kernel
theorem dX11_findMosts_1 : decode cX11_findMosts 1 = .ok (.istore_n 2, 1) := by decide +kernel
theorem dX11_findMosts_2 : decode cX11_findMosts 2 = .ok (.iload_n 2, 1) := by decide +kernel
theorem dX11_findMosts_3 : decode cX11_findMosts 3 = .ok (.iload_n 1, 1) := by decide +kernel
theorem dX11_findMosts_4 : decode cX11_findMosts 4 = .ok (.if_icmp .gt 14, 3) := by decide +kernel
theorem dX11_findMosts_7 : decode cX11_findMosts 7 = .ok (.aload_n 0, 1) := by decide +kernel
theorem dX11_findMosts_8 : decode cX11_findMosts 8 = .ok (.iload_n 2, 1) := by decide +kernel
theorem dX11_findMosts_9 : decode cX11_findMosts 9 = .ok (.invokevirtual 323, 3) := by decide +kernel
theorem dX11_findMosts_12 : decode cX11_findMosts 12 = .ok (.iinc 2 1, 3) := by decide +kernel
theorem dX11_findMosts_15 : decode cX11_findMosts 15 = .ok (.goto (-13), 3) := by decide +kernel
theorem dX11_findMosts_18 : decode cX11_findMosts 18 = .ok (.return_, 1) := by decide +kernel
theorem dX11_canCall_0 : decode cX11_canCall 0 = .ok (.iconst 1, 1) := by decide +kernel
theorem dX11_canCall_1 : decode cX11_canCall 1 = .ok (.istore_n 3, 1) := by decide +kernel
theorem dX11_canCall_2 : decode cX11_canCall 2 = .ok (.iconst 0, 1) := by decide +kernel
theorem dX11_canCall_3 : decode cX11_canCall 3 = .ok (.istore 4, 2) := by decide +kernel
theorem dX11_canCall_5 : decode cX11_canCall 5 = .ok (.iload 4, 2) := by decide +kernel
theorem dX11_canCall_7 : decode cX11_canCall 7 = .ok (.aload_n 0, 1) := by decide +kernel
theorem dX11_canCall_8 : decode cX11_canCall 8 = .ok (.getfield 303, 3) := by decide +kernel
theorem dX11_canCall_11 : decode cX11_canCall 11 = .ok (.if_icmp .ge 38, 3) := by decide +kernel
theorem dX11_canCall_14 : decode cX11_canCall 14 = .ok (.iload_n 3, 1) := by decide +kernel
theorem dX11_canCall_15 : decode cX11_canCall 15 = .ok (.ifCond .eq 26, 3) := by decide +kernel
theorem dX11_canCall_18 : decode cX11_canCall 18 = .ok (.iload_n 1, 1) := by decide +kernel
theorem dX11_canCall_19 : decode cX11_canCall 19 = .ok (.iload 4, 2) := by decide +kernel
theorem dX11_canCall_21 : decode cX11_canCall 21 = .ok (.invokestatic 326, 3) := by decide +kernel
theorem dX11_canCall_24 : decode cX11_canCall 24 = .ok (.ifCond .eq 13, 3) := by decide +kernel
theorem dX11_canCall_27 : decode cX11_canCall 27 = .ok (.aload_n 0, 1) := by decide +kernel
theorem dX11_canCall_28 : decode cX11_canCall 28 = .ok (.iload 4, 2) := by decide +kernel
theorem dX11_canCall_30 : decode cX11_canCall 30 = .ok (.iload_n 2, 1) := by decide +kernel
theorem dX11_canCall_31 : decode cX11_canCall 31 = .ok (.invokevirtual 329, 3) := by decide +kernel
theorem dX11_canCall_34 : decode cX11_canCall 34 = .ok (.ifCond .eq 7, 3) := by decide +kernel
theorem dX11_canCall_37 : decode cX11_canCall 37 = .ok (.iconst 1, 1) := by decide +kernel
theorem dX11_canCall_38 : decode cX11_canCall 38 = .ok (.goto 4, 3) := by decide +kernel
theorem dX11_canCall_41 : decode cX11_canCall 41 = .ok (.iconst 0, 1) := by decide +kernel
theorem dX11_canCall_42 : decode cX11_canCall 42 = .ok (.istore_n 3, 1) := by decide +kernel
theorem dX11_canCall_43 : decode cX11_canCall 43 = .ok (.iinc 4 1, 3) := by decide +kernel
theorem dX11_canCall_46 : decode cX11_canCall 46 = .ok (.goto (-41), 3) := by decide +kernel
theorem dX11_canCall_49 : decode cX11_canCall 49 = .ok (.iload_n 3, 1) := by decide +kernel
theorem dX11_canCall_50 : decode cX11_canCall 50 = .ok (.ireturn, 1) := by decide +kernel
theorem dX11_valueOf_0 : decode cX11_valueOf 0 = .ok (.lconst 0, 1) := by decide +kernel
theorem dX11_valueOf_1 : decode cX11_valueOf 1 = .ok (.lstore_n 3, 1) := by decide +kernel
theorem dX11_valueOf_2 : decode cX11_valueOf 2 = .ok (.iconst 0, 1) := by decide +kernel
theorem dX11_valueOf_3 : decode cX11_valueOf 3 = .ok (.istore 5, 2) := by decide +kernel
theorem dX11_valueOf_5 : decode cX11_valueOf 5 = .ok (.iload 5, 2) := by decide +kernel
theorem dX11_valueOf_7 : decode cX11_valueOf 7 = .ok (.aload_n 0, 1) := by decide +kernel
theorem dX11_valueOf_8 : decode cX11_valueOf 8 = .ok (.getfield 303, 3) := by decide +kernel
theorem dX11_valueOf_11 : decode cX11_valueOf 11 = .ok (.if_icmp .ge 46, 3) := by decide +kernel
theorem dX11_valueOf_14 : decode cX11_valueOf 14 = .ok (.lload_n 3, 1) := by decide +kernel
theorem dX11_valueOf_15 : decode cX11_valueOf 15 = .ok (.iload_n 1, 1) := by decide +kernel
theorem dX11_valueOf_16 : decode cX11_valueOf 16 = .ok (.iload 5, 2) := by decide +kernel
theorem dX11_valueOf_18 : decode cX11_valueOf 18 = .ok (.invokestatic 326, 3) := by decide +kernel
theorem dX11_valueOf_21 : decode cX11_valueOf 21 = .ok (.ifCond .eq 27, 3) := by decide +kernel
theorem dX11_valueOf_24 : decode cX11_valueOf 24 = .ok (.aload_n 0, 1) := by decide +kernel
theorem dX11_valueOf_25 : decode cX11_valueOf 25 = .ok (.aload_n 0, 1) := by decide +kernel
theorem dX11_valueOf_26 : decode cX11_valueOf 26 = .ok (.getfield 84, 3) := by decide +kernel
theorem dX11_valueOf_29 : decode cX11_valueOf 29 = .ok (.iload 5, 2) := by decide +kernel
theorem dX11_valueOf_31 : decode cX11_valueOf 31 = .ok (.iaload, 1) := by decide +kernel
theorem dX11_valueOf_32 : decode cX11_valueOf 32 = .ok (.aload_n 0, 1) := by decide +kernel
theorem dX11_valueOf_33 : decode cX11_valueOf 33 = .ok (.getfield 223, 3) := by decide +kernel
theorem dX11_valueOf_36 : decode cX11_valueOf 36 = .ok (.iload_n 2, 1) := by decide +kernel
theorem dX11_valueOf_37 : decode cX11_valueOf 37 = .ok (.iadd, 1) := by decide +kernel
theorem dX11_valueOf_38 : decode cX11_valueOf 38 = .ok (.invokevirtual 260, 3) := by decide +kernel
theorem dX11_valueOf_41 : decode cX11_valueOf 41 = .ok (.i2l, 1) := by decide +kernel
theorem dX11_valueOf_42 : decode cX11_valueOf 42 = .ok (.bipush 30, 2) := by decide +kernel
theorem dX11_valueOf_44 : decode cX11_valueOf 44 = .ok (.lshl, 1) := by decide +kernel
theorem dX11_valueOf_45 : decode cX11_valueOf 45 = .ok (.goto 4, 3) := by decide +kernel
theorem dX11_valueOf_48 : decode cX11_valueOf 48 = .ok (.lconst 0, 1) := by decide +kernel
theorem dX11_valueOf_49 : decode cX11_valueOf 49 = .ok (.ladd, 1) := by decide +kernel
theorem dX11_valueOf_50 : decode cX11_valueOf 50 = .ok (.lstore_n 3, 1) := by decide +kernel
theorem dX11_valueOf_51 : decode cX11_valueOf 51 = .ok (.iinc 5 1, 3) := by decide +kernel
theorem dX11_valueOf_54 : decode cX11_valueOf 54 = .ok (.goto (-49), 3) := by decide +kernel
theorem dX11_valueOf_57 : decode cX11_valueOf 57 = .ok (.lload_n 3, 1) := by decide +kernel
theorem dX11_valueOf_58 : decode cX11_valueOf 58 = .ok (.lreturn, 1) := by decide +kernel
theorem dX11_wholeBy_0 : decode cX11_wholeBy 0 = .ok (.aload_n 0, 1) := by decide +kernel
theorem dX11_wholeBy_1 : decode cX11_wholeBy 1 = .ok (.getfield 47, 3) := by decide +kernel
theorem dX11_wholeBy_4 : decode cX11_wholeBy 4 = .ok (.iload_n 1, 1) := by decide +kernel
theorem dX11_wholeBy_5 : decode cX11_wholeBy 5 = .ok (.iaload, 1) := by decide +kernel
theorem dX11_wholeBy_6 : decode cX11_wholeBy 6 = .ok (.i2l, 1) := by decide +kernel
theorem dX11_wholeBy_7 : decode cX11_wholeBy 7 = .ok (.bipush 30, 2) := by decide +kernel
theorem dX11_wholeBy_9 : decode cX11_wholeBy 9 = .ok (.iload_n 2, 1) := by decide +kernel
theorem dX11_wholeBy_10 : decode cX11_wholeBy 10 = .ok (.isub, 1) := by decide +kernel
theorem dX11_wholeBy_11 : decode cX11_wholeBy 11 = .ok (.lshl, 1) := by decide +kernel
theorem dX11_wholeBy_12 : decode cX11_wholeBy 12 = .ok (.lstore 5, 2) := by decide +kernel
theorem dX11_wholeBy_14 : decode cX11_wholeBy 14 = .ok (.iconst 0, 1) := by decide +kernel
theorem dX11_wholeBy_15 : decode cX11_wholeBy 15 = .ok (.istore 7, 2) := by decide +kernel
theorem dX11_wholeBy_17 : decode cX11_wholeBy 17 = .ok (.iload 7, 2) := by decide +kernel
theorem dX11_wholeBy_19 : decode cX11_wholeBy 19 = .ok (.bipush 30, 2) := by decide +kernel
theorem dX11_wholeBy_21 : decode cX11_wholeBy 21 = .ok (.iload_n 2, 1) := by decide +kernel
theorem dX11_wholeBy_22 : decode cX11_wholeBy 22 = .ok (.isub, 1) := by decide +kernel
theorem dX11_wholeBy_23 : decode cX11_wholeBy 23 = .ok (.if_icmp .ge 38, 3) := by decide +kernel
theorem dX11_wholeBy_26 : decode cX11_wholeBy 26 = .ok (.lload 5, 2) := by decide +kernel
theorem dX11_wholeBy_28 : decode cX11_wholeBy 28 = .ok (.aload_n 0, 1) := by decide +kernel
theorem dX11_wholeBy_29 : decode cX11_wholeBy 29 = .ok (.getfield 50, 3) := by decide +kernel
theorem dX11_wholeBy_32 : decode cX11_wholeBy 32 = .ok (.sipush 400, 3) := by decide +kernel
theorem dX11_wholeBy_35 : decode cX11_wholeBy 35 = .ok (.iload_n 1, 1) := by decide +kernel
theorem dX11_wholeBy_36 : decode cX11_wholeBy 36 = .ok (.imul, 1) := by decide +kernel
theorem dX11_wholeBy_37 : decode cX11_wholeBy 37 = .ok (.iload 7, 2) := by decide +kernel
theorem dX11_wholeBy_39 : decode cX11_wholeBy 39 = .ok (.iadd, 1) := by decide +kernel
theorem dX11_wholeBy_40 : decode cX11_wholeBy 40 = .ok (.iaload, 1) := by decide +kernel
theorem dX11_wholeBy_41 : decode cX11_wholeBy 41 = .ok (.i2l, 1) := by decide +kernel
theorem dX11_wholeBy_42 : decode cX11_wholeBy 42 = .ok (.bipush 30, 2) := by decide +kernel
theorem dX11_wholeBy_44 : decode cX11_wholeBy 44 = .ok (.iload_n 2, 1) := by decide +kernel
theorem dX11_wholeBy_45 : decode cX11_wholeBy 45 = .ok (.isub, 1) := by decide +kernel
theorem dX11_wholeBy_46 : decode cX11_wholeBy 46 = .ok (.iconst 1, 1) := by decide +kernel
theorem dX11_wholeBy_47 : decode cX11_wholeBy 47 = .ok (.isub, 1) := by decide +kernel
theorem dX11_wholeBy_48 : decode cX11_wholeBy 48 = .ok (.iload 7, 2) := by decide +kernel
theorem dX11_wholeBy_50 : decode cX11_wholeBy 50 = .ok (.isub, 1) := by decide +kernel
theorem dX11_wholeBy_51 : decode cX11_wholeBy 51 = .ok (.lshl, 1) := by decide +kernel
theorem dX11_wholeBy_52 : decode cX11_wholeBy 52 = .ok (.ladd, 1) := by decide +kernel
theorem dX11_wholeBy_53 : decode cX11_wholeBy 53 = .ok (.lstore 5, 2) := by decide +kernel
theorem dX11_wholeBy_55 : decode cX11_wholeBy 55 = .ok (.iinc 7 1, 3) := by decide +kernel
theorem dX11_wholeBy_58 : decode cX11_wholeBy 58 = .ok (.goto (-41), 3) := by decide +kernel
theorem dX11_wholeBy_61 : decode cX11_wholeBy 61 = .ok (.lload 5, 2) := by decide +kernel
theorem dX11_wholeBy_63 : decode cX11_wholeBy 63 = .ok (.lload_n 3, 1) := by decide +kernel
theorem dX11_wholeBy_64 : decode cX11_wholeBy 64 = .ok (.ladd, 1) := by decide +kernel
theorem dX11_wholeBy_65 : decode cX11_wholeBy 65 = .ok (.bipush 30, 2) := by decide +kernel
theorem dX11_wholeBy_67 : decode cX11_wholeBy 67 = .ok (.lshr, 1) := by decide +kernel
theorem dX11_wholeBy_68 : decode cX11_wholeBy 68 = .ok (.lreturn, 1) := by decide +kernel
theorem dX11_unsettle_0 : decode cX11_unsettle 0 = .ok (.iconst 0, 1) := by decide +kernel
theorem dX11_unsettle_1 : decode cX11_unsettle 1 = .ok (.istore_n 1, 1) := by decide +kernel
theorem dX11_unsettle_2 : decode cX11_unsettle 2 = .ok (.iload_n 1, 1) := by decide +kernel
theorem dX11_unsettle_3 : decode cX11_unsettle 3 = .ok (.bipush 6, 2) := by decide +kernel
theorem dX11_unsettle_5 : decode cX11_unsettle 5 = .ok (.if_icmp .ge 16, 3) := by decide +kernel
theorem dX11_unsettle_8 : decode cX11_unsettle 8 = .ok (.aload_n 0, 1) := by decide +kernel
theorem dX11_unsettle_9 : decode cX11_unsettle 9 = .ok (.getfield 87, 3) := by decide +kernel
theorem dX11_unsettle_12 : decode cX11_unsettle 12 = .ok (.iload_n 1, 1) := by decide +kernel
theorem dX11_unsettle_13 : decode cX11_unsettle 13 = .ok (.iconst (-1), 1) := by decide +kernel
theorem dX11_unsettle_14 : decode cX11_unsettle 14 = .ok (.iastore, 1) := by decide +kernel
theorem dX11_unsettle_15 : decode cX11_unsettle 15 = .ok (.iinc 1 1, 3) := by decide +kernel
theorem dX11_unsettle_18 : decode cX11_unsettle 18 = .ok (.goto (-16), 3) := by decide +kernel
theorem dX11_unsettle_21 : decode cX11_unsettle 21 = .ok (.return_, 1) := by decide +kernel
theorem dX11_greatest_0 : decode cX11_greatest 0 = .ok (.lconst 0, 1) := by decide +kernel
theorem dX11_greatest_1 : decode cX11_greatest 1 = .ok (.lstore_n 1, 1) := by decide +kernel
theorem dX11_greatest_2 : decode cX11_greatest 2 = .ok (.iconst 0, 1) := by decide +kernel
theorem dX11_greatest_3 : decode cX11_greatest 3 = .ok (.istore_n 3, 1) := by decide +kernel
theorem dX11_greatest_4 : decode cX11_greatest 4 = .ok (.iload_n 3, 1) := by decide +kernel
theorem dX11_greatest_5 : decode cX11_greatest 5 = .ok (.bipush 64, 2) := by decide +kernel
theorem dX11_greatest_7 : decode cX11_greatest 7 = .ok (.if_icmp .ge 31, 3) := by decide +kernel
theorem dX11_greatest_10 : decode cX11_greatest 10 = .ok (.aload_n 0, 1) := by decide +kernel
theorem dX11_greatest_11 : decode cX11_greatest 11 = .ok (.getfield 90, 3) := by decide +kernel
theorem dX11_greatest_14 : decode cX11_greatest 14 = .ok (.iload_n 3, 1) := by decide +kernel
theorem dX11_greatest_15 : decode cX11_greatest 15 = .ok (.laload, 1) := by decide +kernel
theorem dX11_greatest_16 : decode cX11_greatest 16 = .ok (.lload_n 1, 1) := by decide +kernel
theorem dX11_greatest_17 : decode cX11_greatest 17 = .ok (.lcmp, 1) := by decide +kernel
theorem dX11_greatest_18 : decode cX11_greatest 18 = .ok (.ifCond .le 12, 3) := by decide +kernel
theorem dX11_greatest_21 : decode cX11_greatest 21 = .ok (.aload_n 0, 1) := by decide +kernel
theorem dX11_greatest_22 : decode cX11_greatest 22 = .ok (.getfield 90, 3) := by decide +kernel
theorem dX11_greatest_25 : decode cX11_greatest 25 = .ok (.iload_n 3, 1) := by decide +kernel
theorem dX11_greatest_26 : decode cX11_greatest 26 = .ok (.laload, 1) := by decide +kernel
theorem dX11_greatest_27 : decode cX11_greatest 27 = .ok (.goto 4, 3) := by decide +kernel
theorem dX11_greatest_30 : decode cX11_greatest 30 = .ok (.lload_n 1, 1) := by decide +kernel
theorem dX11_greatest_31 : decode cX11_greatest 31 = .ok (.lstore_n 1, 1) := by decide +kernel
theorem dX11_greatest_32 : decode cX11_greatest 32 = .ok (.iinc 3 1, 3) := by decide +kernel
theorem dX11_greatest_35 : decode cX11_greatest 35 = .ok (.goto (-31), 3) := by decide +kernel
theorem dX11_greatest_38 : decode cX11_greatest 38 = .ok (.lload_n 1, 1) := by decide +kernel
theorem dX11_greatest_39 : decode cX11_greatest 39 = .ok (.lreturn, 1) := by decide +kernel
theorem dX11_mostOn_0 : decode cX11_mostOn 0 = .ok (.aload_n 0, 1) := by decide +kernel
theorem dX11_mostOn_1 : decode cX11_mostOn 1 = .ok (.iload_n 1, 1) := by decide +kernel
theorem dX11_mostOn_2 : decode cX11_mostOn 2 = .ok (.invokevirtual 332, 3) := by decide +kernel
theorem dX11_mostOn_5 : decode cX11_mostOn 5 = .ok (.aload_n 0, 1) := by decide +kernel
theorem dX11_mostOn_6 : decode cX11_mostOn 6 = .ok (.invokevirtual 335, 3) := by decide +kernel
theorem dX11_mostOn_9 : decode cX11_mostOn 9 = .ok (.aload_n 0, 1) := by decide +kernel
theorem dX11_mostOn_10 : decode cX11_mostOn 10 = .ok (.iload_n 2, 1) := by decide +kernel
theorem dX11_mostOn_11 : decode cX11_mostOn 11 = .ok (.invokevirtual 338, 3) := by decide +kernel
theorem dX11_mostOn_14 : decode cX11_mostOn 14 = .ok (.aload_n 0, 1) := by decide +kernel
theorem dX11_mostOn_15 : decode cX11_mostOn 15 = .ok (.iload_n 1, 1) := by decide +kernel
theorem dX11_mostOn_16 : decode cX11_mostOn 16 = .ok (.iload_n 2, 1) := by decide +kernel
theorem dX11_mostOn_17 : decode cX11_mostOn 17 = .ok (.aload_n 0, 1) := by decide +kernel
theorem dX11_mostOn_18 : decode cX11_mostOn 18 = .ok (.invokevirtual 341, 3) := by decide +kernel
theorem dX11_mostOn_21 : decode cX11_mostOn 21 = .ok (.invokevirtual 345, 3) := by decide +kernel
theorem dX11_mostOn_24 : decode cX11_mostOn 24 = .ok (.lreturn, 1) := by decide +kernel
theorem dX11_most_0 : decode cX11_most 0 = .ok (.aload_n 0, 1) := by decide +kernel
theorem dX11_most_1 : decode cX11_most 1 = .ok (.iload_n 1, 1) := by decide +kernel
theorem dX11_most_2 : decode cX11_most 2 = .ok (.invokevirtual 244, 3) := by decide +kernel
theorem dX11_most_5 : decode cX11_most 5 = .ok (.ifCond .ne 6, 3) := by decide +kernel
theorem dX11_most_8 : decode cX11_most 8 = .ok (.ldc 248, 2) := by decide +kernel
theorem dX11_most_10 : decode cX11_most 10 = .ok (.ireturn, 1) := by decide +kernel
theorem dX11_most_11 : decode cX11_most 11 = .ok (.iload_n 2, 1) := by decide +kernel
theorem dX11_most_12 : decode cX11_most 12 = .ok (.i2l, 1) := by decide +kernel
theorem dX11_most_13 : decode cX11_most 13 = .ok (.lconst 0, 1) := by decide +kernel
theorem dX11_most_14 : decode cX11_most 14 = .ok (.ldc2_w 349, 3) := by decide +kernel
theorem dX11_most_17 : decode cX11_most 17 = .ok (.invokestatic 127, 3) := by decide +kernel
theorem dX11_most_20 : decode cX11_most 20 = .ok (.ifCond .ne 6, 3) := by decide +kernel
theorem dX11_most_23 : decode cX11_most 23 = .ok (.ldc 136, 2) := by decide +kernel
theorem dX11_most_25 : decode cX11_most 25 = .ok (.ireturn, 1) := by decide +kernel
theorem dX11_most_26 : decode cX11_most 26 = .ok (.aload_n 0, 1) := by decide +kernel
theorem dX11_most_27 : decode cX11_most 27 = .ok (.getfield 41, 3) := by decide +kernel
theorem dX11_most_30 : decode cX11_most 30 = .ok (.iload_n 1, 1) := by decide +kernel
theorem dX11_most_31 : decode cX11_most 31 = .ok (.iaload, 1) := by decide +kernel
theorem dX11_most_32 : decode cX11_most 32 = .ok (.ifCond .ne 15, 3) := by decide +kernel
theorem dX11_most_35 : decode cX11_most 35 = .ok (.aload_n 0, 1) := by decide +kernel
theorem dX11_most_36 : decode cX11_most 36 = .ok (.getfield 223, 3) := by decide +kernel
theorem dX11_most_39 : decode cX11_most 39 = .ok (.iload_n 2, 1) := by decide +kernel
theorem dX11_most_40 : decode cX11_most 40 = .ok (.iadd, 1) := by decide +kernel
theorem dX11_most_41 : decode cX11_most 41 = .ok (.sipush 399, 3) := by decide +kernel
theorem dX11_most_44 : decode cX11_most 44 = .ok (.if_icmp .le 6, 3) := by decide +kernel
theorem dX11_most_47 : decode cX11_most 47 = .ok (.ldc 232, 2) := by decide +kernel
theorem dX11_most_49 : decode cX11_most 49 = .ok (.ireturn, 1) := by decide +kernel
theorem dX11_most_50 : decode cX11_most 50 = .ok (.aload_n 0, 1) := by decide +kernel
theorem dX11_most_51 : decode cX11_most 51 = .ok (.iload_n 1, 1) := by decide +kernel
theorem dX11_most_52 : decode cX11_most 52 = .ok (.iload_n 2, 1) := by decide +kernel
theorem dX11_most_53 : decode cX11_most 53 = .ok (.invokevirtual 351, 3) := by decide +kernel
theorem dX11_most_56 : decode cX11_most 56 = .ok (.l2i, 1) := by decide +kernel
theorem dX11_most_57 : decode cX11_most 57 = .ok (.ireturn, 1) := by decide +kernel
theorem dX11_soonestOf_0 : decode cX11_soonestOf 0 = .ok (.aload_n 0, 1) := by decide +kernel
theorem dX11_soonestOf_1 : decode cX11_soonestOf 1 = .ok (.getfield 41, 3) := by decide +kernel
theorem dX11_soonestOf_4 : decode cX11_soonestOf 4 = .ok (.iload_n 1, 1) := by decide +kernel
theorem dX11_soonestOf_5 : decode cX11_soonestOf 5 = .ok (.iaload, 1) := by decide +kernel
theorem dX11_soonestOf_6 : decode cX11_soonestOf 6 = .ok (.ifCond .eq 5, 3) := by decide +kernel
theorem dX11_soonestOf_9 : decode cX11_soonestOf 9 = .ok (.iconst (-1), 1) := by decide +kernel
theorem dX11_soonestOf_10 : decode cX11_soonestOf 10 = .ok (.ireturn, 1) := by decide +kernel
theorem dX11_soonestOf_11 : decode cX11_soonestOf 11 = .ok (.aload_n 0, 1) := by decide +kernel
theorem dX11_soonestOf_12 : decode cX11_soonestOf 12 = .ok (.iload_n 1, 1) := by decide +kernel
theorem dX11_soonestOf_13 : decode cX11_soonestOf 13 = .ok (.invokevirtual 332, 3) := by decide +kernel
theorem dX11_soonestOf_16 : decode cX11_soonestOf 16 = .ok (.aload_n 0, 1) := by decide +kernel
theorem dX11_soonestOf_17 : decode cX11_soonestOf 17 = .ok (.invokevirtual 335, 3) := by decide +kernel
theorem dX11_soonestOf_20 : decode cX11_soonestOf 20 = .ok (.iconst 0, 1) := by decide +kernel
theorem dX11_soonestOf_21 : decode cX11_soonestOf 21 = .ok (.istore_n 2, 1) := by decide +kernel
theorem dX11_soonestOf_22 : decode cX11_soonestOf 22 = .ok (.iload_n 2, 1) := by decide +kernel
theorem dX11_soonestOf_23 : decode cX11_soonestOf 23 = .ok (.bipush 30, 2) := by decide +kernel
theorem dX11_soonestOf_25 : decode cX11_soonestOf 25 = .ok (.if_icmp .gt 53, 3) := by decide +kernel
theorem dX11_soonestOf_28 : decode cX11_soonestOf 28 = .ok (.aload_n 0, 1) := by decide +kernel
theorem dX11_soonestOf_29 : decode cX11_soonestOf 29 = .ok (.getfield 223, 3) := by decide +kernel
theorem dX11_soonestOf_32 : decode cX11_soonestOf 32 = .ok (.iload_n 2, 1) := by decide +kernel
theorem dX11_soonestOf_33 : decode cX11_soonestOf 33 = .ok (.iadd, 1) := by decide +kernel
theorem dX11_soonestOf_34 : decode cX11_soonestOf 34 = .ok (.sipush 399, 3) := by decide +kernel
theorem dX11_soonestOf_37 : decode cX11_soonestOf 37 = .ok (.if_icmp .gt 41, 3) := by decide +kernel
theorem dX11_soonestOf_40 : decode cX11_soonestOf 40 = .ok (.aload_n 0, 1) := by decide +kernel
theorem dX11_soonestOf_41 : decode cX11_soonestOf 41 = .ok (.iload_n 2, 1) := by decide +kernel
theorem dX11_soonestOf_42 : decode cX11_soonestOf 42 = .ok (.invokevirtual 323, 3) := by decide +kernel
theorem dX11_soonestOf_45 : decode cX11_soonestOf 45 = .ok (.aload_n 0, 1) := by decide +kernel
theorem dX11_soonestOf_46 : decode cX11_soonestOf 46 = .ok (.iload_n 1, 1) := by decide +kernel
theorem dX11_soonestOf_47 : decode cX11_soonestOf 47 = .ok (.iload_n 2, 1) := by decide +kernel
theorem dX11_soonestOf_48 : decode cX11_soonestOf 48 = .ok (.aload_n 0, 1) := by decide +kernel
theorem dX11_soonestOf_49 : decode cX11_soonestOf 49 = .ok (.invokevirtual 341, 3) := by decide +kernel
theorem dX11_soonestOf_52 : decode cX11_soonestOf 52 = .ok (.invokevirtual 345, 3) := by decide +kernel
theorem dX11_soonestOf_55 : decode cX11_soonestOf 55 = .ok (.ldc2_w 354, 3) := by decide +kernel
theorem dX11_soonestOf_58 : decode cX11_soonestOf 58 = .ok (.aload_n 0, 1) := by decide +kernel
theorem dX11_soonestOf_59 : decode cX11_soonestOf 59 = .ok (.getfield 7, 3) := by decide +kernel
theorem dX11_soonestOf_62 : decode cX11_soonestOf 62 = .ok (.iload_n 1, 1) := by decide +kernel
theorem dX11_soonestOf_63 : decode cX11_soonestOf 63 = .ok (.iaload, 1) := by decide +kernel
theorem dX11_soonestOf_64 : decode cX11_soonestOf 64 = .ok (.i2l, 1) := by decide +kernel
theorem dX11_soonestOf_65 : decode cX11_soonestOf 65 = .ok (.lmul, 1) := by decide +kernel
theorem dX11_soonestOf_66 : decode cX11_soonestOf 66 = .ok (.lcmp, 1) := by decide +kernel
theorem dX11_soonestOf_67 : decode cX11_soonestOf 67 = .ok (.ifCond .lt 5, 3) := by decide +kernel
theorem dX11_soonestOf_70 : decode cX11_soonestOf 70 = .ok (.iload_n 2, 1) := by decide +kernel
theorem dX11_soonestOf_71 : decode cX11_soonestOf 71 = .ok (.ireturn, 1) := by decide +kernel
theorem dX11_soonestOf_72 : decode cX11_soonestOf 72 = .ok (.iinc 2 1, 3) := by decide +kernel
theorem dX11_soonestOf_75 : decode cX11_soonestOf 75 = .ok (.goto (-53), 3) := by decide +kernel
theorem dX11_soonestOf_78 : decode cX11_soonestOf 78 = .ok (.iconst (-1), 1) := by decide +kernel
theorem dX11_soonestOf_79 : decode cX11_soonestOf 79 = .ok (.ireturn, 1) := by decide +kernel
theorem dX11_soonest_0 : decode cX11_soonest 0 = .ok (.aload_n 0, 1) := by decide +kernel
theorem dX11_soonest_1 : decode cX11_soonest 1 = .ok (.iload_n 1, 1) := by decide +kernel
theorem dX11_soonest_2 : decode cX11_soonest 2 = .ok (.invokevirtual 244, 3) := by decide +kernel
theorem dX11_soonest_5 : decode cX11_soonest 5 = .ok (.ifCond .eq 11, 3) := by decide +kernel
theorem dX11_soonest_8 : decode cX11_soonest 8 = .ok (.aload_n 0, 1) := by decide +kernel
theorem dX11_soonest_9 : decode cX11_soonest 9 = .ok (.iload_n 1, 1) := by decide +kernel
theorem dX11_soonest_10 : decode cX11_soonest 10 = .ok (.invokevirtual 356, 3) := by decide +kernel
theorem dX11_soonest_13 : decode cX11_soonest 13 = .ok (.goto 5, 3) := by decide +kernel
theorem dX11_soonest_16 : decode cX11_soonest 16 = .ok (.ldc 248, 2) := by decide +kernel
theorem dX11_soonest_18 : decode cX11_soonest 18 = .ok (.ireturn, 1) := by decide +kernel
theorem dX11_isEnoughBy_0 : decode cX11_isEnoughBy 0 = .ok (.aload_n 0, 1) := by decide +kernel
theorem dX11_isEnoughBy_1 : decode cX11_isEnoughBy 1 = .ok (.iload_n 2, 1) := by decide +kernel
theorem dX11_isEnoughBy_2 : decode cX11_isEnoughBy 2 = .ok (.invokevirtual 338, 3) := by decide +kernel
theorem dX11_isEnoughBy_5 : decode cX11_isEnoughBy 5 = .ok (.aload_n 0, 1) := by decide +kernel
theorem dX11_isEnoughBy_6 : decode cX11_isEnoughBy 6 = .ok (.getfield 90, 3) := by decide +kernel
theorem dX11_isEnoughBy_9 : decode cX11_isEnoughBy 9 = .ok (.iload_n 3, 1) := by decide +kernel
theorem dX11_isEnoughBy_10 : decode cX11_isEnoughBy 10 = .ok (.laload, 1) := by decide +kernel
theorem dX11_isEnoughBy_11 : decode cX11_isEnoughBy 11 = .ok (.lconst 0, 1) := by decide +kernel
theorem dX11_isEnoughBy_12 : decode cX11_isEnoughBy 12 = .ok (.lcmp, 1) := by decide +kernel
theorem dX11_isEnoughBy_13 : decode cX11_isEnoughBy 13 = .ok (.ifCond .lt 34, 3) := by decide +kernel
theorem dX11_isEnoughBy_16 : decode cX11_isEnoughBy 16 = .ok (.aload_n 0, 1) := by decide +kernel
theorem dX11_isEnoughBy_17 : decode cX11_isEnoughBy 17 = .ok (.iload_n 1, 1) := by decide +kernel
theorem dX11_isEnoughBy_18 : decode cX11_isEnoughBy 18 = .ok (.iload_n 2, 1) := by decide +kernel
theorem dX11_isEnoughBy_19 : decode cX11_isEnoughBy 19 = .ok (.aload_n 0, 1) := by decide +kernel
theorem dX11_isEnoughBy_20 : decode cX11_isEnoughBy 20 = .ok (.getfield 90, 3) := by decide +kernel
theorem dX11_isEnoughBy_23 : decode cX11_isEnoughBy 23 = .ok (.iload_n 3, 1) := by decide +kernel
theorem dX11_isEnoughBy_24 : decode cX11_isEnoughBy 24 = .ok (.laload, 1) := by decide +kernel
theorem dX11_isEnoughBy_25 : decode cX11_isEnoughBy 25 = .ok (.invokevirtual 345, 3) := by decide +kernel
theorem dX11_isEnoughBy_28 : decode cX11_isEnoughBy 28 = .ok (.ldc2_w 354, 3) := by decide +kernel
theorem dX11_isEnoughBy_31 : decode cX11_isEnoughBy 31 = .ok (.aload_n 0, 1) := by decide +kernel
theorem dX11_isEnoughBy_32 : decode cX11_isEnoughBy 32 = .ok (.getfield 7, 3) := by decide +kernel
theorem dX11_isEnoughBy_35 : decode cX11_isEnoughBy 35 = .ok (.iload_n 1, 1) := by decide +kernel
theorem dX11_isEnoughBy_36 : decode cX11_isEnoughBy 36 = .ok (.iaload, 1) := by decide +kernel
theorem dX11_isEnoughBy_37 : decode cX11_isEnoughBy 37 = .ok (.i2l, 1) := by decide +kernel
theorem dX11_isEnoughBy_38 : decode cX11_isEnoughBy 38 = .ok (.lmul, 1) := by decide +kernel
theorem dX11_isEnoughBy_39 : decode cX11_isEnoughBy 39 = .ok (.lcmp, 1) := by decide +kernel
theorem dX11_isEnoughBy_40 : decode cX11_isEnoughBy 40 = .ok (.ifCond .lt 7, 3) := by decide +kernel
theorem dX11_isEnoughBy_43 : decode cX11_isEnoughBy 43 = .ok (.iconst 1, 1) := by decide +kernel
theorem dX11_isEnoughBy_44 : decode cX11_isEnoughBy 44 = .ok (.goto 4, 3) := by decide +kernel
theorem dX11_isEnoughBy_47 : decode cX11_isEnoughBy 47 = .ok (.iconst 0, 1) := by decide +kernel
theorem dX11_isEnoughBy_48 : decode cX11_isEnoughBy 48 = .ok (.ireturn, 1) := by decide +kernel
theorem dX11_findPlan_0 : decode cX11_findPlan 0 = .ok (.aload_n 0, 1) := by decide +kernel
theorem dX11_findPlan_1 : decode cX11_findPlan 1 = .ok (.iload_n 1, 1) := by decide +kernel
theorem dX11_findPlan_2 : decode cX11_findPlan 2 = .ok (.invokevirtual 356, 3) := by decide +kernel
theorem dX11_findPlan_5 : decode cX11_findPlan 5 = .ok (.istore_n 2, 1) := by decide +kernel
theorem dX11_findPlan_6 : decode cX11_findPlan 6 = .ok (.iload_n 2, 1) := by decide +kernel
theorem dX11_findPlan_7 : decode cX11_findPlan 7 = .ok (.ifCond .ge 5, 3) := by decide +kernel
theorem dX11_findPlan_10 : decode cX11_findPlan 10 = .ok (.iconst (-1), 1) := by decide +kernel
theorem dX11_findPlan_11 : decode cX11_findPlan 11 = .ok (.ireturn, 1) := by decide +kernel
theorem dX11_findPlan_12 : decode cX11_findPlan 12 = .ok (.aload_n 0, 1) := by decide +kernel
theorem dX11_findPlan_13 : decode cX11_findPlan 13 = .ok (.iload_n 1, 1) := by decide +kernel
theorem dX11_findPlan_14 : decode cX11_findPlan 14 = .ok (.invokevirtual 332, 3) := by decide +kernel
theorem dX11_findPlan_17 : decode cX11_findPlan 17 = .ok (.aload_n 0, 1) := by decide +kernel
theorem dX11_findPlan_18 : decode cX11_findPlan 18 = .ok (.invokevirtual 335, 3) := by decide +kernel
theorem dX11_findPlan_21 : decode cX11_findPlan 21 = .ok (.aload_n 0, 1) := by decide +kernel
theorem dX11_findPlan_22 : decode cX11_findPlan 22 = .ok (.iload_n 2, 1) := by decide +kernel
theorem dX11_findPlan_23 : decode cX11_findPlan 23 = .ok (.invokevirtual 338, 3) := by decide +kernel
theorem dX11_findPlan_26 : decode cX11_findPlan 26 = .ok (.iconst (-1), 1) := by decide +kernel
theorem dX11_findPlan_27 : decode cX11_findPlan 27 = .ok (.istore_n 3, 1) := by decide +kernel
theorem dX11_findPlan_28 : decode cX11_findPlan 28 = .ok (.iconst 0, 1) := by decide +kernel
theorem dX11_findPlan_29 : decode cX11_findPlan 29 = .ok (.istore 4, 2) := by decide +kernel
theorem dX11_findPlan_31 : decode cX11_findPlan 31 = .ok (.iload 4, 2) := by decide +kernel
theorem dX11_findPlan_33 : decode cX11_findPlan 33 = .ok (.iconst 1, 1) := by decide +kernel
theorem dX11_findPlan_34 : decode cX11_findPlan 34 = .ok (.aload_n 0, 1) := by decide +kernel
theorem dX11_findPlan_35 : decode cX11_findPlan 35 = .ok (.getfield 303, 3) := by decide +kernel
theorem dX11_findPlan_38 : decode cX11_findPlan 38 = .ok (.ishl, 1) := by decide +kernel
theorem dX11_findPlan_39 : decode cX11_findPlan 39 = .ok (.if_icmp .ge 84, 3) := by decide +kernel
theorem dX11_findPlan_42 : decode cX11_findPlan 42 = .ok (.aload_n 0, 1) := by decide +kernel
theorem dX11_findPlan_43 : decode cX11_findPlan 43 = .ok (.getfield 90, 3) := by decide +kernel
theorem dX11_findPlan_46 : decode cX11_findPlan 46 = .ok (.iload 4, 2) := by decide +kernel
theorem dX11_findPlan_48 : decode cX11_findPlan 48 = .ok (.laload, 1) := by decide +kernel
theorem dX11_findPlan_49 : decode cX11_findPlan 49 = .ok (.lconst 0, 1) := by decide +kernel
theorem dX11_findPlan_50 : decode cX11_findPlan 50 = .ok (.lcmp, 1) := by decide +kernel
theorem dX11_findPlan_51 : decode cX11_findPlan 51 = .ok (.ifCond .lt 35, 3) := by decide +kernel
theorem dX11_findPlan_54 : decode cX11_findPlan 54 = .ok (.aload_n 0, 1) := by decide +kernel
theorem dX11_findPlan_55 : decode cX11_findPlan 55 = .ok (.iload_n 1, 1) := by decide +kernel
theorem dX11_findPlan_56 : decode cX11_findPlan 56 = .ok (.iload_n 2, 1) := by decide +kernel
theorem dX11_findPlan_57 : decode cX11_findPlan 57 = .ok (.aload_n 0, 1) := by decide +kernel
theorem dX11_findPlan_58 : decode cX11_findPlan 58 = .ok (.getfield 90, 3) := by decide +kernel
theorem dX11_findPlan_61 : decode cX11_findPlan 61 = .ok (.iload 4, 2) := by decide +kernel
theorem dX11_findPlan_63 : decode cX11_findPlan 63 = .ok (.laload, 1) := by decide +kernel
theorem dX11_findPlan_64 : decode cX11_findPlan 64 = .ok (.invokevirtual 345, 3) := by decide +kernel
theorem dX11_findPlan_67 : decode cX11_findPlan 67 = .ok (.ldc2_w 354, 3) := by decide +kernel
theorem dX11_findPlan_70 : decode cX11_findPlan 70 = .ok (.aload_n 0, 1) := by decide +kernel
theorem dX11_findPlan_71 : decode cX11_findPlan 71 = .ok (.getfield 7, 3) := by decide +kernel
theorem dX11_findPlan_74 : decode cX11_findPlan 74 = .ok (.iload_n 1, 1) := by decide +kernel
theorem dX11_findPlan_75 : decode cX11_findPlan 75 = .ok (.iaload, 1) := by decide +kernel
theorem dX11_findPlan_76 : decode cX11_findPlan 76 = .ok (.i2l, 1) := by decide +kernel
theorem dX11_findPlan_77 : decode cX11_findPlan 77 = .ok (.lmul, 1) := by decide +kernel
theorem dX11_findPlan_78 : decode cX11_findPlan 78 = .ok (.lcmp, 1) := by decide +kernel
theorem dX11_findPlan_79 : decode cX11_findPlan 79 = .ok (.ifCond .lt 7, 3) := by decide +kernel
theorem dX11_findPlan_82 : decode cX11_findPlan 82 = .ok (.iconst 1, 1) := by decide +kernel
theorem dX11_findPlan_83 : decode cX11_findPlan 83 = .ok (.goto 4, 3) := by decide +kernel
theorem dX11_findPlan_86 : decode cX11_findPlan 86 = .ok (.iconst 0, 1) := by decide +kernel
theorem dX11_findPlan_87 : decode cX11_findPlan 87 = .ok (.istore 5, 2) := by decide +kernel
theorem dX11_findPlan_89 : decode cX11_findPlan 89 = .ok (.iload 5, 2) := by decide +kernel
theorem dX11_findPlan_91 : decode cX11_findPlan 91 = .ok (.ifCond .eq 24, 3) := by decide +kernel
theorem dX11_findPlan_94 : decode cX11_findPlan 94 = .ok (.iload_n 3, 1) := by decide +kernel
theorem dX11_findPlan_95 : decode cX11_findPlan 95 = .ok (.ifCond .lt 15, 3) := by decide +kernel
theorem dX11_findPlan_98 : decode cX11_findPlan 98 = .ok (.iload 4, 2) := by decide +kernel
theorem dX11_findPlan_100 : decode cX11_findPlan 100 = .ok (.invokestatic 313, 3) := by decide +kernel
theorem dX11_findPlan_103 : decode cX11_findPlan 103 = .ok (.iload_n 3, 1) := by decide +kernel
theorem dX11_findPlan_104 : decode cX11_findPlan 104 = .ok (.invokestatic 313, 3) := by decide +kernel
theorem dX11_findPlan_107 : decode cX11_findPlan 107 = .ok (.if_icmp .ge 8, 3) := by decide +kernel
theorem dX11_findPlan_110 : decode cX11_findPlan 110 = .ok (.iload 4, 2) := by decide +kernel
theorem dX11_findPlan_112 : decode cX11_findPlan 112 = .ok (.goto 4, 3) := by decide +kernel
theorem dX11_findPlan_115 : decode cX11_findPlan 115 = .ok (.iload_n 3, 1) := by decide +kernel
theorem dX11_findPlan_116 : decode cX11_findPlan 116 = .ok (.istore_n 3, 1) := by decide +kernel
theorem dX11_findPlan_117 : decode cX11_findPlan 117 = .ok (.iinc 4 1, 3) := by decide +kernel
theorem dX11_findPlan_120 : decode cX11_findPlan 120 = .ok (.goto (-89), 3) := by decide +kernel
theorem dX11_findPlan_123 : decode cX11_findPlan 123 = .ok (.iconst 0, 1) := by decide +kernel
theorem dX11_findPlan_124 : decode cX11_findPlan 124 = .ok (.istore 4, 2) := by decide +kernel
theorem dX11_findPlan_126 : decode cX11_findPlan 126 = .ok (.iload 4, 2) := by decide +kernel
theorem dX11_findPlan_128 : decode cX11_findPlan 128 = .ok (.aload_n 0, 1) := by decide +kernel
theorem dX11_findPlan_129 : decode cX11_findPlan 129 = .ok (.getfield 303, 3) := by decide +kernel
theorem dX11_findPlan_132 : decode cX11_findPlan 132 = .ok (.if_icmp .ge 50, 3) := by decide +kernel
theorem dX11_findPlan_135 : decode cX11_findPlan 135 = .ok (.iload_n 3, 1) := by decide +kernel
theorem dX11_findPlan_136 : decode cX11_findPlan 136 = .ok (.iload 4, 2) := by decide +kernel
theorem dX11_findPlan_138 : decode cX11_findPlan 138 = .ok (.invokestatic 326, 3) := by decide +kernel
theorem dX11_findPlan_141 : decode cX11_findPlan 141 = .ok (.ifCond .eq 35, 3) := by decide +kernel
theorem dX11_findPlan_144 : decode cX11_findPlan 144 = .ok (.aload_n 0, 1) := by decide +kernel
theorem dX11_findPlan_145 : decode cX11_findPlan 145 = .ok (.getfield 87, 3) := by decide +kernel
theorem dX11_findPlan_148 : decode cX11_findPlan 148 = .ok (.iload 4, 2) := by decide +kernel
theorem dX11_findPlan_150 : decode cX11_findPlan 150 = .ok (.iload_n 2, 1) := by decide +kernel
theorem dX11_findPlan_151 : decode cX11_findPlan 151 = .ok (.iastore, 1) := by decide +kernel
theorem dX11_findPlan_152 : decode cX11_findPlan 152 = .ok (.aload_n 0, 1) := by decide +kernel
theorem dX11_findPlan_153 : decode cX11_findPlan 153 = .ok (.iload_n 1, 1) := by decide +kernel
theorem dX11_findPlan_154 : decode cX11_findPlan 154 = .ok (.iload_n 2, 1) := by decide +kernel
theorem dX11_findPlan_155 : decode cX11_findPlan 155 = .ok (.iload_n 3, 1) := by decide +kernel
theorem dX11_findPlan_156 : decode cX11_findPlan 156 = .ok (.invokevirtual 359, 3) := by decide +kernel
theorem dX11_findPlan_159 : decode cX11_findPlan 159 = .ok (.ifCond .ne 17, 3) := by decide +kernel
theorem dX11_findPlan_162 : decode cX11_findPlan 162 = .ok (.aload_n 0, 1) := by decide +kernel
theorem dX11_findPlan_163 : decode cX11_findPlan 163 = .ok (.getfield 87, 3) := by decide +kernel
theorem dX11_findPlan_166 : decode cX11_findPlan 166 = .ok (.iload 4, 2) := by decide +kernel
theorem dX11_findPlan_168 : decode cX11_findPlan 168 = .ok (.dup2, 1) := by decide +kernel
theorem dX11_findPlan_169 : decode cX11_findPlan 169 = .ok (.iaload, 1) := by decide +kernel
theorem dX11_findPlan_170 : decode cX11_findPlan 170 = .ok (.iconst 1, 1) := by decide +kernel
theorem dX11_findPlan_171 : decode cX11_findPlan 171 = .ok (.isub, 1) := by decide +kernel
theorem dX11_findPlan_172 : decode cX11_findPlan 172 = .ok (.iastore, 1) := by decide +kernel
theorem dX11_findPlan_173 : decode cX11_findPlan 173 = .ok (.goto (-21), 3) := by decide +kernel
theorem dX11_findPlan_176 : decode cX11_findPlan 176 = .ok (.iinc 4 1, 3) := by decide +kernel
theorem dX11_findPlan_179 : decode cX11_findPlan 179 = .ok (.goto (-53), 3) := by decide +kernel
theorem dX11_findPlan_182 : decode cX11_findPlan 182 = .ok (.iload_n 3, 1) := by decide +kernel
theorem dX11_findPlan_183 : decode cX11_findPlan 183 = .ok (.ireturn, 1) := by decide +kernel
theorem dX11_plan_0 : decode cX11_plan 0 = .ok (.aload_n 0, 1) := by decide +kernel
theorem dX11_plan_1 : decode cX11_plan 1 = .ok (.iload_n 1, 1) := by decide +kernel
theorem dX11_plan_2 : decode cX11_plan 2 = .ok (.invokevirtual 257, 3) := by decide +kernel
theorem dX11_plan_5 : decode cX11_plan 5 = .ok (.ifCond .ne 6, 3) := by decide +kernel
theorem dX11_plan_8 : decode cX11_plan 8 = .ok (.ldc 248, 2) := by decide +kernel
theorem dX11_plan_10 : decode cX11_plan 10 = .ok (.ireturn, 1) := by decide +kernel
theorem dX11_plan_11 : decode cX11_plan 11 = .ok (.aload_n 0, 1) := by decide +kernel
theorem dX11_plan_12 : decode cX11_plan 12 = .ok (.aload_n 0, 1) := by decide +kernel
theorem dX11_plan_13 : decode cX11_plan 13 = .ok (.getfield 19, 3) := by decide +kernel
theorem dX11_plan_16 : decode cX11_plan 16 = .ok (.iload_n 1, 1) := by decide +kernel
theorem dX11_plan_17 : decode cX11_plan 17 = .ok (.iaload, 1) := by decide +kernel
theorem dX11_plan_18 : decode cX11_plan 18 = .ok (.invokevirtual 363, 3) := by decide +kernel
theorem dX11_plan_21 : decode cX11_plan 21 = .ok (.istore_n 2, 1) := by decide +kernel
theorem dX11_plan_22 : decode cX11_plan 22 = .ok (.iconst (-1), 1) := by decide +kernel
theorem dX11_plan_23 : decode cX11_plan 23 = .ok (.istore_n 3, 1) := by decide +kernel
theorem dX11_plan_24 : decode cX11_plan 24 = .ok (.iconst 0, 1) := by decide +kernel
theorem dX11_plan_25 : decode cX11_plan 25 = .ok (.istore 4, 2) := by decide +kernel
theorem dX11_plan_27 : decode cX11_plan 27 = .ok (.iload 4, 2) := by decide +kernel
theorem dX11_plan_29 : decode cX11_plan 29 = .ok (.aload_n 0, 1) := by decide +kernel
theorem dX11_plan_30 : decode cX11_plan 30 = .ok (.getfield 303, 3) := by decide +kernel
theorem dX11_plan_33 : decode cX11_plan 33 = .ok (.if_icmp .ge 45, 3) := by decide +kernel
theorem dX11_plan_36 : decode cX11_plan 36 = .ok (.iload_n 2, 1) := by decide +kernel
theorem dX11_plan_37 : decode cX11_plan 37 = .ok (.ifCond .lt 41, 3) := by decide +kernel
theorem dX11_plan_40 : decode cX11_plan 40 = .ok (.aload_n 0, 1) := by decide +kernel
theorem dX11_plan_41 : decode cX11_plan 41 = .ok (.getfield 84, 3) := by decide +kernel
theorem dX11_plan_44 : decode cX11_plan 44 = .ok (.iload 4, 2) := by decide +kernel
theorem dX11_plan_46 : decode cX11_plan 46 = .ok (.iaload, 1) := by decide +kernel
theorem dX11_plan_47 : decode cX11_plan 47 = .ok (.iload_n 1, 1) := by decide +kernel
theorem dX11_plan_48 : decode cX11_plan 48 = .ok (.if_icmp .ne 22, 3) := by decide +kernel
theorem dX11_plan_51 : decode cX11_plan 51 = .ok (.iload_n 2, 1) := by decide +kernel
theorem dX11_plan_52 : decode cX11_plan 52 = .ok (.iload 4, 2) := by decide +kernel
theorem dX11_plan_54 : decode cX11_plan 54 = .ok (.invokestatic 326, 3) := by decide +kernel
theorem dX11_plan_57 : decode cX11_plan 57 = .ok (.ifCond .eq 13, 3) := by decide +kernel
theorem dX11_plan_60 : decode cX11_plan 60 = .ok (.aload_n 0, 1) := by decide +kernel
theorem dX11_plan_61 : decode cX11_plan 61 = .ok (.getfield 87, 3) := by decide +kernel
theorem dX11_plan_64 : decode cX11_plan 64 = .ok (.iload 4, 2) := by decide +kernel
theorem dX11_plan_66 : decode cX11_plan 66 = .ok (.iaload, 1) := by decide +kernel
theorem dX11_plan_67 : decode cX11_plan 67 = .ok (.goto 4, 3) := by decide +kernel
theorem dX11_plan_70 : decode cX11_plan 70 = .ok (.iload_n 3, 1) := by decide +kernel
theorem dX11_plan_71 : decode cX11_plan 71 = .ok (.istore_n 3, 1) := by decide +kernel
theorem dX11_plan_72 : decode cX11_plan 72 = .ok (.iinc 4 1, 3) := by decide +kernel
theorem dX11_plan_75 : decode cX11_plan 75 = .ok (.goto (-48), 3) := by decide +kernel
theorem dX11_plan_78 : decode cX11_plan 78 = .ok (.iload_n 3, 1) := by decide +kernel
theorem dX11_plan_79 : decode cX11_plan 79 = .ok (.ireturn, 1) := by decide +kernel
theorem dX11_cut_0 : decode cX11_cut 0 = .ok (.aload_n 0, 1) := by decide +kernel
theorem dX11_cut_1 : decode cX11_cut 1 = .ok (.iload_n 1, 1) := by decide +kernel
theorem dX11_cut_2 : decode cX11_cut 2 = .ok (.invokevirtual 244, 3) := by decide +kernel
theorem dX11_cut_5 : decode cX11_cut 5 = .ok (.ifCond .ne 6, 3) := by decide +kernel
theorem dX11_cut_8 : decode cX11_cut 8 = .ok (.ldc 248, 2) := by decide +kernel
theorem dX11_cut_10 : decode cX11_cut 10 = .ok (.ireturn, 1) := by decide +kernel
theorem dX11_cut_11 : decode cX11_cut 11 = .ok (.aload_n 0, 1) := by decide +kernel
theorem dX11_cut_12 : decode cX11_cut 12 = .ok (.getfield 41, 3) := by decide +kernel
theorem dX11_cut_15 : decode cX11_cut 15 = .ok (.iload_n 1, 1) := by decide +kernel
theorem dX11_cut_16 : decode cX11_cut 16 = .ok (.iaload, 1) := by decide +kernel
theorem dX11_cut_17 : decode cX11_cut 17 = .ok (.ifCond .eq 6, 3) := by decide +kernel
theorem dX11_cut_20 : decode cX11_cut 20 = .ok (.ldc 232, 2) := by decide +kernel
theorem dX11_cut_22 : decode cX11_cut 22 = .ok (.ireturn, 1) := by decide +kernel
theorem dX11_cut_23 : decode cX11_cut 23 = .ok (.aload_n 0, 1) := by decide +kernel
theorem dX11_cut_24 : decode cX11_cut 24 = .ok (.iload_n 1, 1) := by decide +kernel
theorem dX11_cut_25 : decode cX11_cut 25 = .ok (.invokevirtual 268, 3) := by decide +kernel
theorem dX11_cut_28 : decode cX11_cut 28 = .ok (.ifCond .eq 5, 3) := by decide +kernel
theorem dX11_cut_31 : decode cX11_cut 31 = .ok (.iconst (-1), 1) := by decide +kernel
theorem dX11_cut_32 : decode cX11_cut 32 = .ok (.ireturn, 1) := by decide +kernel
theorem dX11_cut_33 : decode cX11_cut 33 = .ok (.iconst 0, 1) := by decide +kernel
theorem dX11_cut_34 : decode cX11_cut 34 = .ok (.istore_n 2, 1) := by decide +kernel
theorem dX11_cut_35 : decode cX11_cut 35 = .ok (.iload_n 2, 1) := by decide +kernel
theorem dX11_cut_36 : decode cX11_cut 36 = .ok (.bipush 12, 2) := by decide +kernel
theorem dX11_cut_38 : decode cX11_cut 38 = .ok (.if_icmp .ge 21, 3) := by decide +kernel
theorem dX11_cut_41 : decode cX11_cut 41 = .ok (.aload_n 0, 1) := by decide +kernel
theorem dX11_cut_42 : decode cX11_cut 42 = .ok (.getfield 97, 3) := by decide +kernel
theorem dX11_cut_45 : decode cX11_cut 45 = .ok (.iload_n 2, 1) := by decide +kernel
theorem dX11_cut_46 : decode cX11_cut 46 = .ok (.aload_n 0, 1) := by decide +kernel
theorem dX11_cut_47 : decode cX11_cut 47 = .ok (.getfield 37, 3) := by decide +kernel
theorem dX11_cut_50 : decode cX11_cut 50 = .ok (.iload_n 2, 1) := by decide +kernel
theorem dX11_cut_51 : decode cX11_cut 51 = .ok (.baload, 1) := by decide +kernel
theorem dX11_cut_52 : decode cX11_cut 52 = .ok (.bastore, 1) := by decide +kernel
theorem dX11_cut_53 : decode cX11_cut 53 = .ok (.iinc 2 1, 3) := by decide +kernel
theorem dX11_cut_56 : decode cX11_cut 56 = .ok (.goto (-21), 3) := by decide +kernel
theorem dX11_cut_59 : decode cX11_cut 59 = .ok (.aload_n 0, 1) := by decide +kernel
theorem dX11_cut_60 : decode cX11_cut 60 = .ok (.iload_n 1, 1) := by decide +kernel
theorem dX11_cut_61 : decode cX11_cut 61 = .ok (.invokevirtual 249, 3) := by decide +kernel
theorem dX11_cut_64 : decode cX11_cut 64 = .ok (.istore_n 2, 1) := by decide +kernel
theorem dX11_cut_65 : decode cX11_cut 65 = .ok (.iconst (-1), 1) := by decide +kernel
theorem dX11_cut_66 : decode cX11_cut 66 = .ok (.istore_n 3, 1) := by decide +kernel
theorem dX11_cut_67 : decode cX11_cut 67 = .ok (.iconst 0, 1) := by decide +kernel
theorem dX11_cut_68 : decode cX11_cut 68 = .ok (.istore 4, 2) := by decide +kernel
theorem dX11_cut_70 : decode cX11_cut 70 = .ok (.iload 4, 2) := by decide +kernel
theorem dX11_cut_72 : decode cX11_cut 72 = .ok (.sipush 4096, 3) := by decide +kernel
theorem dX11_cut_75 : decode cX11_cut 75 = .ok (.if_icmp .ge 97, 3) := by decide +kernel
theorem dX11_cut_78 : decode cX11_cut 78 = .ok (.iload 4, 2) := by decide +kernel
theorem dX11_cut_80 : decode cX11_cut 80 = .ok (.iload_n 2, 1) := by decide +kernel
theorem dX11_cut_81 : decode cX11_cut 81 = .ok (.iconst (-1), 1) := by decide +kernel
theorem dX11_cut_82 : decode cX11_cut 82 = .ok (.ixor, 1) := by decide +kernel
theorem dX11_cut_83 : decode cX11_cut 83 = .ok (.iand, 1) := by decide +kernel
theorem dX11_cut_84 : decode cX11_cut 84 = .ok (.ifCond .ne 82, 3) := by decide +kernel
theorem dX11_cut_87 : decode cX11_cut 87 = .ok (.iload_n 3, 1) := by decide +kernel
theorem dX11_cut_88 : decode cX11_cut 88 = .ok (.ifCond .lt 15, 3) := by decide +kernel
theorem dX11_cut_91 : decode cX11_cut 91 = .ok (.iload 4, 2) := by decide +kernel
theorem dX11_cut_93 : decode cX11_cut 93 = .ok (.invokestatic 313, 3) := by decide +kernel
theorem dX11_cut_96 : decode cX11_cut 96 = .ok (.iload_n 3, 1) := by decide +kernel
theorem dX11_cut_97 : decode cX11_cut 97 = .ok (.invokestatic 313, 3) := by decide +kernel
theorem dX11_cut_100 : decode cX11_cut 100 = .ok (.if_icmp .ge 66, 3) := by decide +kernel
theorem dX11_cut_103 : decode cX11_cut 103 = .ok (.iconst 0, 1) := by decide +kernel
theorem dX11_cut_104 : decode cX11_cut 104 = .ok (.istore 5, 2) := by decide +kernel
theorem dX11_cut_106 : decode cX11_cut 106 = .ok (.iload 5, 2) := by decide +kernel
theorem dX11_cut_108 : decode cX11_cut 108 = .ok (.bipush 12, 2) := by decide +kernel
theorem dX11_cut_110 : decode cX11_cut 110 = .ok (.if_icmp .ge 41, 3) := by decide +kernel
theorem dX11_cut_113 : decode cX11_cut 113 = .ok (.aload_n 0, 1) := by decide +kernel
theorem dX11_cut_114 : decode cX11_cut 114 = .ok (.getfield 37, 3) := by decide +kernel
theorem dX11_cut_117 : decode cX11_cut 117 = .ok (.iload 5, 2) := by decide +kernel
theorem dX11_cut_119 : decode cX11_cut 119 = .ok (.aload_n 0, 1) := by decide +kernel
theorem dX11_cut_120 : decode cX11_cut 120 = .ok (.getfield 97, 3) := by decide +kernel
theorem dX11_cut_123 : decode cX11_cut 123 = .ok (.iload 5, 2) := by decide +kernel
theorem dX11_cut_125 : decode cX11_cut 125 = .ok (.baload, 1) := by decide +kernel
theorem dX11_cut_126 : decode cX11_cut 126 = .ok (.ifCond .ne 13, 3) := by decide +kernel
theorem dX11_cut_129 : decode cX11_cut 129 = .ok (.iload 4, 2) := by decide +kernel
theorem dX11_cut_131 : decode cX11_cut 131 = .ok (.iload 5, 2) := by decide +kernel
theorem dX11_cut_133 : decode cX11_cut 133 = .ok (.invokestatic 326, 3) := by decide +kernel
theorem dX11_cut_136 : decode cX11_cut 136 = .ok (.ifCond .eq 7, 3) := by decide +kernel
theorem dX11_cut_139 : decode cX11_cut 139 = .ok (.iconst 1, 1) := by decide +kernel
theorem dX11_cut_140 : decode cX11_cut 140 = .ok (.goto 4, 3) := by decide +kernel
theorem dX11_cut_143 : decode cX11_cut 143 = .ok (.iconst 0, 1) := by decide +kernel
theorem dX11_cut_144 : decode cX11_cut 144 = .ok (.bastore, 1) := by decide +kernel
theorem dX11_cut_145 : decode cX11_cut 145 = .ok (.iinc 5 1, 3) := by decide +kernel
theorem dX11_cut_148 : decode cX11_cut 148 = .ok (.goto (-42), 3) := by decide +kernel
theorem dX11_cut_151 : decode cX11_cut 151 = .ok (.aload_n 0, 1) := by decide +kernel
theorem dX11_cut_152 : decode cX11_cut 152 = .ok (.iload_n 1, 1) := by decide +kernel
theorem dX11_cut_153 : decode cX11_cut 153 = .ok (.invokevirtual 356, 3) := by decide +kernel
theorem dX11_cut_156 : decode cX11_cut 156 = .ok (.ifCond .ge 8, 3) := by decide +kernel
theorem dX11_cut_159 : decode cX11_cut 159 = .ok (.iload 4, 2) := by decide +kernel
theorem dX11_cut_161 : decode cX11_cut 161 = .ok (.goto 4, 3) := by decide +kernel
theorem dX11_cut_164 : decode cX11_cut 164 = .ok (.iload_n 3, 1) := by decide +kernel
theorem dX11_cut_165 : decode cX11_cut 165 = .ok (.istore_n 3, 1) := by decide +kernel
theorem dX11_cut_166 : decode cX11_cut 166 = .ok (.iinc 4 1, 3) := by decide +kernel
theorem dX11_cut_169 : decode cX11_cut 169 = .ok (.goto (-99), 3) := by decide +kernel
theorem dX11_cut_172 : decode cX11_cut 172 = .ok (.iconst 0, 1) := by decide +kernel
theorem dX11_cut_173 : decode cX11_cut 173 = .ok (.istore 4, 2) := by decide +kernel
theorem dX11_cut_175 : decode cX11_cut 175 = .ok (.iload 4, 2) := by decide +kernel
theorem dX11_cut_177 : decode cX11_cut 177 = .ok (.bipush 12, 2) := by decide +kernel
theorem dX11_cut_179 : decode cX11_cut 179 = .ok (.if_icmp .ge 23, 3) := by decide +kernel
theorem dX11_cut_182 : decode cX11_cut 182 = .ok (.aload_n 0, 1) := by decide +kernel
theorem dX11_cut_183 : decode cX11_cut 183 = .ok (.getfield 37, 3) := by decide +kernel
theorem dX11_cut_186 : decode cX11_cut 186 = .ok (.iload 4, 2) := by decide +kernel
theorem dX11_cut_188 : decode cX11_cut 188 = .ok (.aload_n 0, 1) := by decide +kernel
theorem dX11_cut_189 : decode cX11_cut 189 = .ok (.getfield 97, 3) := by decide +kernel
theorem dX11_cut_192 : decode cX11_cut 192 = .ok (.iload 4, 2) := by decide +kernel
theorem dX11_cut_194 : decode cX11_cut 194 = .ok (.baload, 1) := by decide +kernel
theorem dX11_cut_195 : decode cX11_cut 195 = .ok (.bastore, 1) := by decide +kernel
theorem dX11_cut_196 : decode cX11_cut 196 = .ok (.iinc 4 1, 3) := by decide +kernel
theorem dX11_cut_199 : decode cX11_cut 199 = .ok (.goto (-24), 3) := by decide +kernel
theorem dX11_cut_202 : decode cX11_cut 202 = .ok (.iload_n 3, 1) := by decide +kernel
theorem dX11_cut_203 : decode cX11_cut 203 = .ok (.ireturn, 1) := by decide +kernel
theorem dX11_wantOf_0 : decode cX11_wantOf 0 = .ok (.iload 4, 2) := by decide +kernel
theorem dX11_wantOf_2 : decode cX11_wantOf 2 = .ok (.iload_n 2, 1) := by decide +kernel
theorem dX11_wantOf_3 : decode cX11_wantOf 3 = .ok (.invokestatic 313, 3) := by decide +kernel
theorem dX11_wantOf_6 : decode cX11_wantOf 6 = .ok (.isub, 1) := by decide +kernel
theorem dX11_wantOf_7 : decode cX11_wantOf 7 = .ok (.iconst 2, 1) := by decide +kernel
theorem dX11_wantOf_8 : decode cX11_wantOf 8 = .ok (.idiv, 1) := by decide +kernel
theorem dX11_wantOf_9 : decode cX11_wantOf 9 = .ok (.istore 5, 2) := by decide +kernel
theorem dX11_wantOf_11 : decode cX11_wantOf 11 = .ok (.aload_n 0, 1) := by decide +kernel
theorem dX11_wantOf_12 : decode cX11_wantOf 12 = .ok (.aload_n 0, 1) := by decide +kernel
theorem dX11_wantOf_13 : decode cX11_wantOf 13 = .ok (.getfield 84, 3) := by decide +kernel
theorem dX11_wantOf_16 : decode cX11_wantOf 16 = .ok (.iload_n 3, 1) := by decide +kernel
theorem dX11_wantOf_17 : decode cX11_wantOf 17 = .ok (.iaload, 1) := by decide +kernel
theorem dX11_wantOf_18 : decode cX11_wantOf 18 = .ok (.aload_n 0, 1) := by decide +kernel
theorem dX11_wantOf_19 : decode cX11_wantOf 19 = .ok (.getfield 223, 3) := by decide +kernel
theorem dX11_wantOf_22 : decode cX11_wantOf 22 = .ok (.invokevirtual 260, 3) := by decide +kernel
theorem dX11_wantOf_25 : decode cX11_wantOf 25 = .ok (.i2l, 1) := by decide +kernel
theorem dX11_wantOf_26 : decode cX11_wantOf 26 = .ok (.iload 5, 2) := by decide +kernel
theorem dX11_wantOf_28 : decode cX11_wantOf 28 = .ok (.lshl, 1) := by decide +kernel
theorem dX11_wantOf_29 : decode cX11_wantOf 29 = .ok (.lstore 6, 2) := by decide +kernel
theorem dX11_wantOf_31 : decode cX11_wantOf 31 = .ok (.ldc2_w 354, 3) := by decide +kernel
theorem dX11_wantOf_34 : decode cX11_wantOf 34 = .ok (.aload_n 0, 1) := by decide +kernel
theorem dX11_wantOf_35 : decode cX11_wantOf 35 = .ok (.getfield 7, 3) := by decide +kernel
theorem dX11_wantOf_38 : decode cX11_wantOf 38 = .ok (.iload_n 1, 1) := by decide +kernel
theorem dX11_wantOf_39 : decode cX11_wantOf 39 = .ok (.iaload, 1) := by decide +kernel
theorem dX11_wantOf_40 : decode cX11_wantOf 40 = .ok (.i2l, 1) := by decide +kernel
theorem dX11_wantOf_41 : decode cX11_wantOf 41 = .ok (.lmul, 1) := by decide +kernel
theorem dX11_wantOf_42 : decode cX11_wantOf 42 = .ok (.iload 5, 2) := by decide +kernel
theorem dX11_wantOf_44 : decode cX11_wantOf 44 = .ok (.lshl, 1) := by decide +kernel
theorem dX11_wantOf_45 : decode cX11_wantOf 45 = .ok (.aload_n 0, 1) := by decide +kernel
theorem dX11_wantOf_46 : decode cX11_wantOf 46 = .ok (.getfield 47, 3) := by decide +kernel
theorem dX11_wantOf_49 : decode cX11_wantOf 49 = .ok (.iload_n 1, 1) := by decide +kernel
theorem dX11_wantOf_50 : decode cX11_wantOf 50 = .ok (.iaload, 1) := by decide +kernel
theorem dX11_wantOf_51 : decode cX11_wantOf 51 = .ok (.i2l, 1) := by decide +kernel
theorem dX11_wantOf_52 : decode cX11_wantOf 52 = .ok (.lsub, 1) := by decide +kernel
theorem dX11_wantOf_53 : decode cX11_wantOf 53 = .ok (.lstore 8, 2) := by decide +kernel
theorem dX11_wantOf_55 : decode cX11_wantOf 55 = .ok (.iload_n 2, 1) := by decide +kernel
theorem dX11_wantOf_56 : decode cX11_wantOf 56 = .ok (.iconst 1, 1) := by decide +kernel
theorem dX11_wantOf_57 : decode cX11_wantOf 57 = .ok (.iload_n 3, 1) := by decide +kernel
theorem dX11_wantOf_58 : decode cX11_wantOf 58 = .ok (.ishl, 1) := by decide +kernel
theorem dX11_wantOf_59 : decode cX11_wantOf 59 = .ok (.iconst (-1), 1) := by decide +kernel
theorem dX11_wantOf_60 : decode cX11_wantOf 60 = .ok (.ixor, 1) := by decide +kernel
theorem dX11_wantOf_61 : decode cX11_wantOf 61 = .ok (.iand, 1) := by decide +kernel
theorem dX11_wantOf_62 : decode cX11_wantOf 62 = .ok (.istore 10, 2) := by decide +kernel
theorem dX11_wantOf_64 : decode cX11_wantOf 64 = .ok (.iload 10, 2) := by decide +kernel
theorem dX11_wantOf_66 : decode cX11_wantOf 66 = .ok (.ifCond .ne 9, 3) := by decide +kernel
theorem dX11_wantOf_69 : decode cX11_wantOf 69 = .ok (.ldc2_w 366, 3) := by decide +kernel
theorem dX11_wantOf_72 : decode cX11_wantOf 72 = .ok (.goto 6, 3) := by decide +kernel
theorem dX11_wantOf_75 : decode cX11_wantOf 75 = .ok (.ldc2_w 368, 3) := by decide +kernel
theorem dX11_wantOf_78 : decode cX11_wantOf 78 = .ok (.lstore 11, 2) := by decide +kernel
theorem dX11_wantOf_80 : decode cX11_wantOf 80 = .ok (.iconst 0, 1) := by decide +kernel
theorem dX11_wantOf_81 : decode cX11_wantOf 81 = .ok (.istore 13, 2) := by decide +kernel
theorem dX11_wantOf_83 : decode cX11_wantOf 83 = .ok (.iload 13, 2) := by decide +kernel
theorem dX11_wantOf_85 : decode cX11_wantOf 85 = .ok (.aload_n 0, 1) := by decide +kernel
theorem dX11_wantOf_86 : decode cX11_wantOf 86 = .ok (.getfield 303, 3) := by decide +kernel
theorem dX11_wantOf_89 : decode cX11_wantOf 89 = .ok (.if_icmp .ge 57, 3) := by decide +kernel
theorem dX11_wantOf_92 : decode cX11_wantOf 92 = .ok (.iload 10, 2) := by decide +kernel
theorem dX11_wantOf_94 : decode cX11_wantOf 94 = .ok (.iload 13, 2) := by decide +kernel
theorem dX11_wantOf_96 : decode cX11_wantOf 96 = .ok (.invokestatic 326, 3) := by decide +kernel
theorem dX11_wantOf_99 : decode cX11_wantOf 99 = .ok (.ifCond .eq 20, 3) := by decide +kernel
theorem dX11_wantOf_102 : decode cX11_wantOf 102 = .ok (.aload_n 0, 1) := by decide +kernel
theorem dX11_wantOf_103 : decode cX11_wantOf 103 = .ok (.getfield 100, 3) := by decide +kernel
theorem dX11_wantOf_106 : decode cX11_wantOf 106 = .ok (.iload 10, 2) := by decide +kernel
theorem dX11_wantOf_108 : decode cX11_wantOf 108 = .ok (.iconst 1, 1) := by decide +kernel
theorem dX11_wantOf_109 : decode cX11_wantOf 109 = .ok (.iload 13, 2) := by decide +kernel
theorem dX11_wantOf_111 : decode cX11_wantOf 111 = .ok (.ishl, 1) := by decide +kernel
theorem dX11_wantOf_112 : decode cX11_wantOf 112 = .ok (.iconst (-1), 1) := by decide +kernel
theorem dX11_wantOf_113 : decode cX11_wantOf 113 = .ok (.ixor, 1) := by decide +kernel
theorem dX11_wantOf_114 : decode cX11_wantOf 114 = .ok (.iand, 1) := by decide +kernel
theorem dX11_wantOf_115 : decode cX11_wantOf 115 = .ok (.laload, 1) := by decide +kernel
theorem dX11_wantOf_116 : decode cX11_wantOf 116 = .ok (.goto 5, 3) := by decide +kernel
theorem dX11_wantOf_119 : decode cX11_wantOf 119 = .ok (.lload 11, 2) := by decide +kernel
theorem dX11_wantOf_121 : decode cX11_wantOf 121 = .ok (.lstore 14, 2) := by decide +kernel
theorem dX11_wantOf_123 : decode cX11_wantOf 123 = .ok (.lload 14, 2) := by decide +kernel
theorem dX11_wantOf_125 : decode cX11_wantOf 125 = .ok (.lload 11, 2) := by decide +kernel
theorem dX11_wantOf_127 : decode cX11_wantOf 127 = .ok (.lcmp, 1) := by decide +kernel
theorem dX11_wantOf_128 : decode cX11_wantOf 128 = .ok (.ifCond .le 8, 3) := by decide +kernel
theorem dX11_wantOf_131 : decode cX11_wantOf 131 = .ok (.lload 14, 2) := by decide +kernel
theorem dX11_wantOf_133 : decode cX11_wantOf 133 = .ok (.goto 5, 3) := by decide +kernel
theorem dX11_wantOf_136 : decode cX11_wantOf 136 = .ok (.lload 11, 2) := by decide +kernel
theorem dX11_wantOf_138 : decode cX11_wantOf 138 = .ok (.lstore 11, 2) := by decide +kernel
theorem dX11_wantOf_140 : decode cX11_wantOf 140 = .ok (.iinc 13 1, 3) := by decide +kernel
theorem dX11_wantOf_143 : decode cX11_wantOf 143 = .ok (.goto (-60), 3) := by decide +kernel
theorem dX11_wantOf_146 : decode cX11_wantOf 146 = .ok (.lload 8, 2) := by decide +kernel
theorem dX11_wantOf_148 : decode cX11_wantOf 148 = .ok (.lload 11, 2) := by decide +kernel
theorem dX11_wantOf_150 : decode cX11_wantOf 150 = .ok (.lcmp, 1) := by decide +kernel
theorem dX11_wantOf_151 : decode cX11_wantOf 151 = .ok (.ifCond .ge 8, 3) := by decide +kernel
theorem dX11_wantOf_154 : decode cX11_wantOf 154 = .ok (.lload 8, 2) := by decide +kernel
theorem dX11_wantOf_156 : decode cX11_wantOf 156 = .ok (.goto 5, 3) := by decide +kernel
theorem dX11_wantOf_159 : decode cX11_wantOf 159 = .ok (.lload 11, 2) := by decide +kernel
theorem dX11_wantOf_161 : decode cX11_wantOf 161 = .ok (.lload 6, 2) := by decide +kernel
theorem dX11_wantOf_163 : decode cX11_wantOf 163 = .ok (.lsub, 1) := by decide +kernel
theorem dX11_wantOf_164 : decode cX11_wantOf 164 = .ok (.lreturn, 1) := by decide +kernel
theorem dX11_turns_0 : decode cX11_turns 0 = .ok (.aload_n 0, 1) := by decide +kernel
theorem dX11_turns_1 : decode cX11_turns 1 = .ok (.iload_n 1, 1) := by decide +kernel
theorem dX11_turns_2 : decode cX11_turns 2 = .ok (.invokevirtual 244, 3) := by decide +kernel
theorem dX11_turns_5 : decode cX11_turns 5 = .ok (.ifCond .ne 6, 3) := by decide +kernel
theorem dX11_turns_8 : decode cX11_turns 8 = .ok (.ldc 248, 2) := by decide +kernel
theorem dX11_turns_10 : decode cX11_turns 10 = .ok (.ireturn, 1) := by decide +kernel
theorem dX11_turns_11 : decode cX11_turns 11 = .ok (.iload_n 2, 1) := by decide +kernel
theorem dX11_turns_12 : decode cX11_turns 12 = .ok (.i2l, 1) := by decide +kernel
theorem dX11_turns_13 : decode cX11_turns 13 = .ok (.lconst 0, 1) := by decide +kernel
theorem dX11_turns_14 : decode cX11_turns 14 = .ok (.lconst 1, 1) := by decide +kernel
theorem dX11_turns_15 : decode cX11_turns 15 = .ok (.invokestatic 127, 3) := by decide +kernel
theorem dX11_turns_18 : decode cX11_turns 18 = .ok (.ifCond .ne 6, 3) := by decide +kernel
theorem dX11_turns_21 : decode cX11_turns 21 = .ok (.ldc 136, 2) := by decide +kernel
theorem dX11_turns_23 : decode cX11_turns 23 = .ok (.ireturn, 1) := by decide +kernel
theorem dX11_turns_24 : decode cX11_turns 24 = .ok (.aload_n 0, 1) := by decide +kernel
theorem dX11_turns_25 : decode cX11_turns 25 = .ok (.getfield 41, 3) := by decide +kernel
theorem dX11_turns_28 : decode cX11_turns 28 = .ok (.iload_n 1, 1) := by decide +kernel
theorem dX11_turns_29 : decode cX11_turns 29 = .ok (.iaload, 1) := by decide +kernel
theorem dX11_turns_30 : decode cX11_turns 30 = .ok (.ifCond .eq 6, 3) := by decide +kernel
theorem dX11_turns_33 : decode cX11_turns 33 = .ok (.ldc 232, 2) := by decide +kernel
theorem dX11_turns_35 : decode cX11_turns 35 = .ok (.ireturn, 1) := by decide +kernel
theorem dX11_turns_36 : decode cX11_turns 36 = .ok (.aload_n 0, 1) := by decide +kernel
theorem dX11_turns_37 : decode cX11_turns 37 = .ok (.iload_n 1, 1) := by decide +kernel
theorem dX11_turns_38 : decode cX11_turns 38 = .ok (.invokevirtual 332, 3) := by decide +kernel
theorem dX11_turns_41 : decode cX11_turns 41 = .ok (.iconst 0, 1) := by decide +kernel
theorem dX11_turns_42 : decode cX11_turns 42 = .ok (.istore_n 3, 1) := by decide +kernel
theorem dX11_turns_43 : decode cX11_turns 43 = .ok (.iconst 0, 1) := by decide +kernel
theorem dX11_turns_44 : decode cX11_turns 44 = .ok (.istore 4, 2) := by decide +kernel
theorem dX11_turns_46 : decode cX11_turns 46 = .ok (.iload 4, 2) := by decide +kernel
theorem dX11_turns_48 : decode cX11_turns 48 = .ok (.aload_n 0, 1) := by decide +kernel
theorem dX11_turns_49 : decode cX11_turns 49 = .ok (.getfield 303, 3) := by decide +kernel
theorem dX11_turns_52 : decode cX11_turns 52 = .ok (.if_icmp .ge 38, 3) := by decide +kernel
theorem dX11_turns_55 : decode cX11_turns 55 = .ok (.iload_n 3, 1) := by decide +kernel
theorem dX11_turns_56 : decode cX11_turns 56 = .ok (.aload_n 0, 1) := by decide +kernel
theorem dX11_turns_57 : decode cX11_turns 57 = .ok (.aload_n 0, 1) := by decide +kernel
theorem dX11_turns_58 : decode cX11_turns 58 = .ok (.getfield 84, 3) := by decide +kernel
theorem dX11_turns_61 : decode cX11_turns 61 = .ok (.iload 4, 2) := by decide +kernel
theorem dX11_turns_63 : decode cX11_turns 63 = .ok (.iaload, 1) := by decide +kernel
theorem dX11_turns_64 : decode cX11_turns 64 = .ok (.aload_n 0, 1) := by decide +kernel
theorem dX11_turns_65 : decode cX11_turns 65 = .ok (.getfield 223, 3) := by decide +kernel
theorem dX11_turns_68 : decode cX11_turns 68 = .ok (.invokevirtual 253, 3) := by decide +kernel
theorem dX11_turns_71 : decode cX11_turns 71 = .ok (.ifCond .eq 10, 3) := by decide +kernel
theorem dX11_turns_74 : decode cX11_turns 74 = .ok (.iconst 1, 1) := by decide +kernel
theorem dX11_turns_75 : decode cX11_turns 75 = .ok (.iload 4, 2) := by decide +kernel
theorem dX11_turns_77 : decode cX11_turns 77 = .ok (.ishl, 1) := by decide +kernel
theorem dX11_turns_78 : decode cX11_turns 78 = .ok (.goto 4, 3) := by decide +kernel
theorem dX11_turns_81 : decode cX11_turns 81 = .ok (.iconst 0, 1) := by decide +kernel
theorem dX11_turns_82 : decode cX11_turns 82 = .ok (.ior, 1) := by decide +kernel
theorem dX11_turns_83 : decode cX11_turns 83 = .ok (.istore_n 3, 1) := by decide +kernel
theorem dX11_turns_84 : decode cX11_turns 84 = .ok (.iinc 4 1, 3) := by decide +kernel
theorem dX11_turns_87 : decode cX11_turns 87 = .ok (.goto (-41), 3) := by decide +kernel
theorem dX11_turns_90 : decode cX11_turns 90 = .ok (.iconst 0, 1) := by decide +kernel
theorem dX11_turns_91 : decode cX11_turns 91 = .ok (.istore 4, 2) := by decide +kernel
theorem dX11_turns_93 : decode cX11_turns 93 = .ok (.iload 4, 2) := by decide +kernel
theorem dX11_turns_95 : decode cX11_turns 95 = .ok (.bipush 64, 2) := by decide +kernel
theorem dX11_turns_97 : decode cX11_turns 97 = .ok (.if_icmp .ge 140, 3) := by decide +kernel
theorem dX11_turns_100 : decode cX11_turns 100 = .ok (.aload_n 0, 1) := by decide +kernel
theorem dX11_turns_101 : decode cX11_turns 101 = .ok (.getfield 100, 3) := by decide +kernel
theorem dX11_turns_104 : decode cX11_turns 104 = .ok (.iload 4, 2) := by decide +kernel
theorem dX11_turns_106 : decode cX11_turns 106 = .ok (.ldc2_w 366, 3) := by decide +kernel
theorem dX11_turns_109 : decode cX11_turns 109 = .ok (.lastore, 1) := by decide +kernel
theorem dX11_turns_110 : decode cX11_turns 110 = .ok (.iconst 0, 1) := by decide +kernel
theorem dX11_turns_111 : decode cX11_turns 111 = .ok (.istore 5, 2) := by decide +kernel
theorem dX11_turns_113 : decode cX11_turns 113 = .ok (.iload 5, 2) := by decide +kernel
theorem dX11_turns_115 : decode cX11_turns 115 = .ok (.aload_n 0, 1) := by decide +kernel
theorem dX11_turns_116 : decode cX11_turns 116 = .ok (.getfield 303, 3) := by decide +kernel
theorem dX11_turns_119 : decode cX11_turns 119 = .ok (.if_icmp .ge 112, 3) := by decide +kernel
theorem dX11_turns_122 : decode cX11_turns 122 = .ok (.iload 4, 2) := by decide +kernel
theorem dX11_turns_124 : decode cX11_turns 124 = .ok (.iload_n 3, 1) := by decide +kernel
theorem dX11_turns_125 : decode cX11_turns 125 = .ok (.iconst (-1), 1) := by decide +kernel
theorem dX11_turns_126 : decode cX11_turns 126 = .ok (.ixor, 1) := by decide +kernel
theorem dX11_turns_127 : decode cX11_turns 127 = .ok (.iand, 1) := by decide +kernel
theorem dX11_turns_128 : decode cX11_turns 128 = .ok (.ifCond .ne 32, 3) := by decide +kernel
theorem dX11_turns_131 : decode cX11_turns 131 = .ok (.iload 4, 2) := by decide +kernel
theorem dX11_turns_133 : decode cX11_turns 133 = .ok (.iload 5, 2) := by decide +kernel
theorem dX11_turns_135 : decode cX11_turns 135 = .ok (.invokestatic 326, 3) := by decide +kernel
theorem dX11_turns_138 : decode cX11_turns 138 = .ok (.ifCond .eq 22, 3) := by decide +kernel
theorem dX11_turns_141 : decode cX11_turns 141 = .ok (.iload_n 3, 1) := by decide +kernel
theorem dX11_turns_142 : decode cX11_turns 142 = .ok (.invokestatic 313, 3) := by decide +kernel
theorem dX11_turns_145 : decode cX11_turns 145 = .ok (.iload 4, 2) := by decide +kernel
theorem dX11_turns_147 : decode cX11_turns 147 = .ok (.invokestatic 313, 3) := by decide +kernel
theorem dX11_turns_150 : decode cX11_turns 150 = .ok (.isub, 1) := by decide +kernel
theorem dX11_turns_151 : decode cX11_turns 151 = .ok (.iconst 2, 1) := by decide +kernel
theorem dX11_turns_152 : decode cX11_turns 152 = .ok (.irem, 1) := by decide +kernel
theorem dX11_turns_153 : decode cX11_turns 153 = .ok (.ifCond .ne 7, 3) := by decide +kernel
theorem dX11_turns_156 : decode cX11_turns 156 = .ok (.iconst 1, 1) := by decide +kernel
theorem dX11_turns_157 : decode cX11_turns 157 = .ok (.goto 4, 3) := by decide +kernel
theorem dX11_turns_160 : decode cX11_turns 160 = .ok (.iconst 0, 1) := by decide +kernel
theorem dX11_turns_161 : decode cX11_turns 161 = .ok (.istore 6, 2) := by decide +kernel
theorem dX11_turns_163 : decode cX11_turns 163 = .ok (.iload 6, 2) := by decide +kernel
theorem dX11_turns_165 : decode cX11_turns 165 = .ok (.ifCond .eq 19, 3) := by decide +kernel
theorem dX11_turns_168 : decode cX11_turns 168 = .ok (.aload_n 0, 1) := by decide +kernel
theorem dX11_turns_169 : decode cX11_turns 169 = .ok (.iload_n 1, 1) := by decide +kernel
theorem dX11_turns_170 : decode cX11_turns 170 = .ok (.iload 4, 2) := by decide +kernel
theorem dX11_turns_172 : decode cX11_turns 172 = .ok (.iload 5, 2) := by decide +kernel
theorem dX11_turns_174 : decode cX11_turns 174 = .ok (.iload_n 3, 1) := by decide +kernel
theorem dX11_turns_175 : decode cX11_turns 175 = .ok (.invokestatic 313, 3) := by decide +kernel
theorem dX11_turns_178 : decode cX11_turns 178 = .ok (.invokevirtual 370, 3) := by decide +kernel
theorem dX11_turns_181 : decode cX11_turns 181 = .ok (.goto 10, 3) := by decide +kernel
theorem dX11_turns_184 : decode cX11_turns 184 = .ok (.aload_n 0, 1) := by decide +kernel
theorem dX11_turns_185 : decode cX11_turns 185 = .ok (.getfield 100, 3) := by decide +kernel
theorem dX11_turns_188 : decode cX11_turns 188 = .ok (.iload 4, 2) := by decide +kernel
theorem dX11_turns_190 : decode cX11_turns 190 = .ok (.laload, 1) := by decide +kernel
theorem dX11_turns_191 : decode cX11_turns 191 = .ok (.lstore 7, 2) := by decide +kernel
theorem dX11_turns_193 : decode cX11_turns 193 = .ok (.aload_n 0, 1) := by decide +kernel
theorem dX11_turns_194 : decode cX11_turns 194 = .ok (.getfield 100, 3) := by decide +kernel
theorem dX11_turns_197 : decode cX11_turns 197 = .ok (.iload 4, 2) := by decide +kernel
theorem dX11_turns_199 : decode cX11_turns 199 = .ok (.lload 7, 2) := by decide +kernel
theorem dX11_turns_201 : decode cX11_turns 201 = .ok (.aload_n 0, 1) := by decide +kernel
theorem dX11_turns_202 : decode cX11_turns 202 = .ok (.getfield 100, 3) := by decide +kernel
theorem dX11_turns_205 : decode cX11_turns 205 = .ok (.iload 4, 2) := by decide +kernel
theorem dX11_turns_207 : decode cX11_turns 207 = .ok (.laload, 1) := by decide +kernel
theorem dX11_turns_208 : decode cX11_turns 208 = .ok (.lcmp, 1) := by decide +kernel
theorem dX11_turns_209 : decode cX11_turns 209 = .ok (.ifCond .ge 8, 3) := by decide +kernel
theorem dX11_turns_212 : decode cX11_turns 212 = .ok (.lload 7, 2) := by decide +kernel
theorem dX11_turns_214 : decode cX11_turns 214 = .ok (.goto 10, 3) := by decide +kernel
theorem dX11_turns_217 : decode cX11_turns 217 = .ok (.aload_n 0, 1) := by decide +kernel
theorem dX11_turns_218 : decode cX11_turns 218 = .ok (.getfield 100, 3) := by decide +kernel
theorem dX11_turns_221 : decode cX11_turns 221 = .ok (.iload 4, 2) := by decide +kernel
theorem dX11_turns_223 : decode cX11_turns 223 = .ok (.laload, 1) := by decide +kernel
theorem dX11_turns_224 : decode cX11_turns 224 = .ok (.lastore, 1) := by decide +kernel
theorem dX11_turns_225 : decode cX11_turns 225 = .ok (.iinc 5 1, 3) := by decide +kernel
theorem dX11_turns_228 : decode cX11_turns 228 = .ok (.goto (-115), 3) := by decide +kernel
theorem dX11_turns_231 : decode cX11_turns 231 = .ok (.iinc 4 1, 3) := by decide +kernel
theorem dX11_turns_234 : decode cX11_turns 234 = .ok (.goto (-141), 3) := by decide +kernel
theorem dX11_turns_237 : decode cX11_turns 237 = .ok (.aload_n 0, 1) := by decide +kernel
theorem dX11_turns_238 : decode cX11_turns 238 = .ok (.iload_n 1, 1) := by decide +kernel
theorem dX11_turns_239 : decode cX11_turns 239 = .ok (.invokevirtual 268, 3) := by decide +kernel
theorem dX11_turns_242 : decode cX11_turns 242 = .ok (.istore 4, 2) := by decide +kernel
theorem dX11_turns_244 : decode cX11_turns 244 = .ok (.iload_n 2, 1) := by decide +kernel
theorem dX11_turns_245 : decode cX11_turns 245 = .ok (.ifCond .ne 25, 3) := by decide +kernel
theorem dX11_turns_248 : decode cX11_turns 248 = .ok (.iload 4, 2) := by decide +kernel
theorem dX11_turns_250 : decode cX11_turns 250 = .ok (.ifCond .ne 14, 3) := by decide +kernel
theorem dX11_turns_253 : decode cX11_turns 253 = .ok (.aload_n 0, 1) := by decide +kernel
theorem dX11_turns_254 : decode cX11_turns 254 = .ok (.getfield 100, 3) := by decide +kernel
theorem dX11_turns_257 : decode cX11_turns 257 = .ok (.iload_n 3, 1) := by decide +kernel
theorem dX11_turns_258 : decode cX11_turns 258 = .ok (.laload, 1) := by decide +kernel
theorem dX11_turns_259 : decode cX11_turns 259 = .ok (.lconst 0, 1) := by decide +kernel
theorem dX11_turns_260 : decode cX11_turns 260 = .ok (.lcmp, 1) := by decide +kernel
theorem dX11_turns_261 : decode cX11_turns 261 = .ok (.ifCond .gt 7, 3) := by decide +kernel
theorem dX11_turns_264 : decode cX11_turns 264 = .ok (.iconst 1, 1) := by decide +kernel
theorem dX11_turns_265 : decode cX11_turns 265 = .ok (.goto 4, 3) := by decide +kernel
theorem dX11_turns_268 : decode cX11_turns 268 = .ok (.iconst 0, 1) := by decide +kernel
theorem dX11_turns_269 : decode cX11_turns 269 = .ok (.ireturn, 1) := by decide +kernel
theorem dX11_turns_270 : decode cX11_turns 270 = .ok (.iconst 0, 1) := by decide +kernel
theorem dX11_turns_271 : decode cX11_turns 271 = .ok (.istore 5, 2) := by decide +kernel
theorem dX11_turns_273 : decode cX11_turns 273 = .ok (.iload 5, 2) := by decide +kernel
theorem dX11_turns_275 : decode cX11_turns 275 = .ok (.aload_n 0, 1) := by decide +kernel
theorem dX11_turns_276 : decode cX11_turns 276 = .ok (.getfield 303, 3) := by decide +kernel
theorem dX11_turns_279 : decode cX11_turns 279 = .ok (.if_icmp .ge 48, 3) := by decide +kernel
theorem dX11_turns_282 : decode cX11_turns 282 = .ok (.iload_n 3, 1) := by decide +kernel
theorem dX11_turns_283 : decode cX11_turns 283 = .ok (.iload 5, 2) := by decide +kernel
theorem dX11_turns_285 : decode cX11_turns 285 = .ok (.invokestatic 326, 3) := by decide +kernel
theorem dX11_turns_288 : decode cX11_turns 288 = .ok (.ifCond .eq 33, 3) := by decide +kernel
theorem dX11_turns_291 : decode cX11_turns 291 = .ok (.iload 4, 2) := by decide +kernel
theorem dX11_turns_293 : decode cX11_turns 293 = .ok (.ifCond .ne 20, 3) := by decide +kernel
theorem dX11_turns_296 : decode cX11_turns 296 = .ok (.aload_n 0, 1) := by decide +kernel
theorem dX11_turns_297 : decode cX11_turns 297 = .ok (.iload_n 1, 1) := by decide +kernel
theorem dX11_turns_298 : decode cX11_turns 298 = .ok (.iload_n 3, 1) := by decide +kernel
theorem dX11_turns_299 : decode cX11_turns 299 = .ok (.iload 5, 2) := by decide +kernel
theorem dX11_turns_301 : decode cX11_turns 301 = .ok (.iload_n 3, 1) := by decide +kernel
theorem dX11_turns_302 : decode cX11_turns 302 = .ok (.invokestatic 313, 3) := by decide +kernel
theorem dX11_turns_305 : decode cX11_turns 305 = .ok (.invokevirtual 370, 3) := by decide +kernel
theorem dX11_turns_308 : decode cX11_turns 308 = .ok (.lconst 0, 1) := by decide +kernel
theorem dX11_turns_309 : decode cX11_turns 309 = .ok (.lcmp, 1) := by decide +kernel
theorem dX11_turns_310 : decode cX11_turns 310 = .ok (.ifCond .gt 11, 3) := by decide +kernel
theorem dX11_turns_313 : decode cX11_turns 313 = .ok (.aload_n 0, 1) := by decide +kernel
theorem dX11_turns_314 : decode cX11_turns 314 = .ok (.getfield 84, 3) := by decide +kernel
theorem dX11_turns_317 : decode cX11_turns 317 = .ok (.iload 5, 2) := by decide +kernel
theorem dX11_turns_319 : decode cX11_turns 319 = .ok (.iaload, 1) := by decide +kernel
theorem dX11_turns_320 : decode cX11_turns 320 = .ok (.ireturn, 1) := by decide +kernel
theorem dX11_turns_321 : decode cX11_turns 321 = .ok (.iinc 5 1, 3) := by decide +kernel
theorem dX11_turns_324 : decode cX11_turns 324 = .ok (.goto (-51), 3) := by decide +kernel
theorem dX11_turns_327 : decode cX11_turns 327 = .ok (.iconst (-1), 1) := by decide +kernel
theorem dX11_turns_328 : decode cX11_turns 328 = .ok (.ireturn, 1) := by decide +kernel
theorem dX11_nextOrder_0 : decode cX11_nextOrder 0 = .ok (.iload_n 1, 1) := by decide +kernel
theorem dX11_nextOrder_1 : decode cX11_nextOrder 1 = .ok (.iconst 2, 1) := by decide +kernel
theorem dX11_nextOrder_2 : decode cX11_nextOrder 2 = .ok (.isub, 1) := by decide +kernel
theorem dX11_nextOrder_3 : decode cX11_nextOrder 3 = .ok (.istore_n 2, 1) := by decide +kernel
theorem dX11_nextOrder_4 : decode cX11_nextOrder 4 = .ok (.iload_n 2, 1) := by decide +kernel
theorem dX11_nextOrder_5 : decode cX11_nextOrder 5 = .ok (.ifCond .lt 26, 3) := by decide +kernel
theorem dX11_nextOrder_8 : decode cX11_nextOrder 8 = .ok (.aload_n 0, 1) := by decide +kernel
theorem dX11_nextOrder_9 : decode cX11_nextOrder 9 = .ok (.getfield 103, 3) := by decide +kernel
theorem dX11_nextOrder_12 : decode cX11_nextOrder 12 = .ok (.iload_n 2, 1) := by decide +kernel
theorem dX11_nextOrder_13 : decode cX11_nextOrder 13 = .ok (.iaload, 1) := by decide +kernel
theorem dX11_nextOrder_14 : decode cX11_nextOrder 14 = .ok (.aload_n 0, 1) := by decide +kernel
theorem dX11_nextOrder_15 : decode cX11_nextOrder 15 = .ok (.getfield 103, 3) := by decide +kernel
theorem dX11_nextOrder_18 : decode cX11_nextOrder 18 = .ok (.iload_n 2, 1) := by decide +kernel
theorem dX11_nextOrder_19 : decode cX11_nextOrder 19 = .ok (.iconst 1, 1) := by decide +kernel
theorem dX11_nextOrder_20 : decode cX11_nextOrder 20 = .ok (.iadd, 1) := by decide +kernel
theorem dX11_nextOrder_21 : decode cX11_nextOrder 21 = .ok (.iaload, 1) := by decide +kernel
theorem dX11_nextOrder_22 : decode cX11_nextOrder 22 = .ok (.if_icmp .le 9, 3) := by decide +kernel
theorem dX11_nextOrder_25 : decode cX11_nextOrder 25 = .ok (.iinc 2 (-1), 3) := by decide +kernel
theorem dX11_nextOrder_28 : decode cX11_nextOrder 28 = .ok (.goto (-24), 3) := by decide +kernel
theorem dX11_nextOrder_31 : decode cX11_nextOrder 31 = .ok (.iload_n 2, 1) := by decide +kernel
theorem dX11_nextOrder_32 : decode cX11_nextOrder 32 = .ok (.ifCond .ge 5, 3) := by decide +kernel
theorem dX11_nextOrder_35 : decode cX11_nextOrder 35 = .ok (.iconst 0, 1) := by decide +kernel
theorem dX11_nextOrder_36 : decode cX11_nextOrder 36 = .ok (.ireturn, 1) := by decide +kernel
theorem dX11_nextOrder_37 : decode cX11_nextOrder 37 = .ok (.iload_n 1, 1) := by decide +kernel
theorem dX11_nextOrder_38 : decode cX11_nextOrder 38 = .ok (.iconst 1, 1) := by decide +kernel
theorem dX11_nextOrder_39 : decode cX11_nextOrder 39 = .ok (.isub, 1) := by decide +kernel
theorem dX11_nextOrder_40 : decode cX11_nextOrder 40 = .ok (.istore_n 3, 1) := by decide +kernel
theorem dX11_nextOrder_41 : decode cX11_nextOrder 41 = .ok (.aload_n 0, 1) := by decide +kernel
theorem dX11_nextOrder_42 : decode cX11_nextOrder 42 = .ok (.getfield 103, 3) := by decide +kernel
theorem dX11_nextOrder_45 : decode cX11_nextOrder 45 = .ok (.iload_n 3, 1) := by decide +kernel
theorem dX11_nextOrder_46 : decode cX11_nextOrder 46 = .ok (.iaload, 1) := by decide +kernel
theorem dX11_nextOrder_47 : decode cX11_nextOrder 47 = .ok (.aload_n 0, 1) := by decide +kernel
theorem dX11_nextOrder_48 : decode cX11_nextOrder 48 = .ok (.getfield 103, 3) := by decide +kernel
theorem dX11_nextOrder_51 : decode cX11_nextOrder 51 = .ok (.iload_n 2, 1) := by decide +kernel
theorem dX11_nextOrder_52 : decode cX11_nextOrder 52 = .ok (.iaload, 1) := by decide +kernel
theorem dX11_nextOrder_53 : decode cX11_nextOrder 53 = .ok (.if_icmp .ge 9, 3) := by decide +kernel
theorem dX11_nextOrder_56 : decode cX11_nextOrder 56 = .ok (.iinc 3 (-1), 3) := by decide +kernel
theorem dX11_nextOrder_59 : decode cX11_nextOrder 59 = .ok (.goto (-18), 3) := by decide +kernel
theorem dX11_nextOrder_62 : decode cX11_nextOrder 62 = .ok (.aload_n 0, 1) := by decide +kernel
theorem dX11_nextOrder_63 : decode cX11_nextOrder 63 = .ok (.iload_n 2, 1) := by decide +kernel
theorem dX11_nextOrder_64 : decode cX11_nextOrder 64 = .ok (.iload_n 3, 1) := by decide +kernel
theorem dX11_nextOrder_65 : decode cX11_nextOrder 65 = .ok (.invokevirtual 373, 3) := by decide +kernel
theorem dX11_nextOrder_68 : decode cX11_nextOrder 68 = .ok (.iload_n 2, 1) := by decide +kernel
theorem dX11_nextOrder_69 : decode cX11_nextOrder 69 = .ok (.iconst 1, 1) := by decide +kernel
theorem dX11_nextOrder_70 : decode cX11_nextOrder 70 = .ok (.iadd, 1) := by decide +kernel
theorem dX11_nextOrder_71 : decode cX11_nextOrder 71 = .ok (.istore 4, 2) := by decide +kernel
theorem dX11_nextOrder_73 : decode cX11_nextOrder 73 = .ok (.iload_n 1, 1) := by decide +kernel
theorem dX11_nextOrder_74 : decode cX11_nextOrder 74 = .ok (.iconst 1, 1) := by decide +kernel
theorem dX11_nextOrder_75 : decode cX11_nextOrder 75 = .ok (.isub, 1) := by decide +kernel
theorem dX11_nextOrder_76 : decode cX11_nextOrder 76 = .ok (.istore 5, 2) := by decide +kernel
theorem dX11_nextOrder_78 : decode cX11_nextOrder 78 = .ok (.iload 4, 2) := by decide +kernel
theorem dX11_nextOrder_80 : decode cX11_nextOrder 80 = .ok (.iload 5, 2) := by decide +kernel
theorem dX11_nextOrder_82 : decode cX11_nextOrder 82 = .ok (.if_icmp .ge 20, 3) := by decide +kernel
theorem dX11_nextOrder_85 : decode cX11_nextOrder 85 = .ok (.aload_n 0, 1) := by decide +kernel
theorem dX11_nextOrder_86 : decode cX11_nextOrder 86 = .ok (.iload 4, 2) := by decide +kernel
theorem dX11_nextOrder_88 : decode cX11_nextOrder 88 = .ok (.iload 5, 2) := by decide +kernel
theorem dX11_nextOrder_90 : decode cX11_nextOrder 90 = .ok (.invokevirtual 373, 3) := by decide +kernel
theorem dX11_nextOrder_93 : decode cX11_nextOrder 93 = .ok (.iinc 4 1, 3) := by decide +kernel
theorem dX11_nextOrder_96 : decode cX11_nextOrder 96 = .ok (.iinc 5 (-1), 3) := by decide +kernel
theorem dX11_nextOrder_99 : decode cX11_nextOrder 99 = .ok (.goto (-21), 3) := by decide +kernel
theorem dX11_nextOrder_102 : decode cX11_nextOrder 102 = .ok (.iconst 1, 1) := by decide +kernel
theorem dX11_nextOrder_103 : decode cX11_nextOrder 103 = .ok (.ireturn, 1) := by decide +kernel
theorem dX11_swap_0 : decode cX11_swap 0 = .ok (.aload_n 0, 1) := by decide +kernel
theorem dX11_swap_1 : decode cX11_swap 1 = .ok (.getfield 103, 3) := by decide +kernel
theorem dX11_swap_4 : decode cX11_swap 4 = .ok (.iload_n 1, 1) := by decide +kernel
theorem dX11_swap_5 : decode cX11_swap 5 = .ok (.iaload, 1) := by decide +kernel
theorem dX11_swap_6 : decode cX11_swap 6 = .ok (.istore_n 3, 1) := by decide +kernel
theorem dX11_swap_7 : decode cX11_swap 7 = .ok (.aload_n 0, 1) := by decide +kernel
theorem dX11_swap_8 : decode cX11_swap 8 = .ok (.getfield 103, 3) := by decide +kernel
theorem dX11_swap_11 : decode cX11_swap 11 = .ok (.iload_n 1, 1) := by decide +kernel
theorem dX11_swap_12 : decode cX11_swap 12 = .ok (.aload_n 0, 1) := by decide +kernel
theorem dX11_swap_13 : decode cX11_swap 13 = .ok (.getfield 103, 3) := by decide +kernel
theorem dX11_swap_16 : decode cX11_swap 16 = .ok (.iload_n 2, 1) := by decide +kernel
theorem dX11_swap_17 : decode cX11_swap 17 = .ok (.iaload, 1) := by decide +kernel
theorem dX11_swap_18 : decode cX11_swap 18 = .ok (.iastore, 1) := by decide +kernel
theorem dX11_swap_19 : decode cX11_swap 19 = .ok (.aload_n 0, 1) := by decide +kernel
theorem dX11_swap_20 : decode cX11_swap 20 = .ok (.getfield 103, 3) := by decide +kernel
theorem dX11_swap_23 : decode cX11_swap 23 = .ok (.iload_n 2, 1) := by decide +kernel
theorem dX11_swap_24 : decode cX11_swap 24 = .ok (.iload_n 3, 1) := by decide +kernel
theorem dX11_swap_25 : decode cX11_swap 25 = .ok (.iastore, 1) := by decide +kernel
theorem dX11_swap_26 : decode cX11_swap 26 = .ok (.return_, 1) := by decide +kernel
theorem dX11_enoughBy_0 : decode cX11_enoughBy 0 = .ok (.iconst 0, 1) := by decide +kernel
theorem dX11_enoughBy_1 : decode cX11_enoughBy 1 = .ok (.istore_n 2, 1) := by decide +kernel
theorem dX11_enoughBy_2 : decode cX11_enoughBy 2 = .ok (.aload_n 0, 1) := by decide +kernel
theorem dX11_enoughBy_3 : decode cX11_enoughBy 3 = .ok (.iconst 0, 1) := by decide +kernel
theorem dX11_enoughBy_4 : decode cX11_enoughBy 4 = .ok (.invokevirtual 310, 3) := by decide +kernel
theorem dX11_enoughBy_7 : decode cX11_enoughBy 7 = .ok (.istore_n 3, 1) := by decide +kernel
theorem dX11_enoughBy_8 : decode cX11_enoughBy 8 = .ok (.iconst 0, 1) := by decide +kernel
theorem dX11_enoughBy_9 : decode cX11_enoughBy 9 = .ok (.istore 4, 2) := by decide +kernel
theorem dX11_enoughBy_11 : decode cX11_enoughBy 11 = .ok (.iload 4, 2) := by decide +kernel
theorem dX11_enoughBy_13 : decode cX11_enoughBy 13 = .ok (.iload_n 1, 1) := by decide +kernel
theorem dX11_enoughBy_14 : decode cX11_enoughBy 14 = .ok (.if_icmp .ge 157, 3) := by decide +kernel
theorem dX11_enoughBy_17 : decode cX11_enoughBy 17 = .ok (.aload_n 0, 1) := by decide +kernel
theorem dX11_enoughBy_18 : decode cX11_enoughBy 18 = .ok (.getfield 103, 3) := by decide +kernel
theorem dX11_enoughBy_21 : decode cX11_enoughBy 21 = .ok (.iload 4, 2) := by decide +kernel
theorem dX11_enoughBy_23 : decode cX11_enoughBy 23 = .ok (.iaload, 1) := by decide +kernel
theorem dX11_enoughBy_24 : decode cX11_enoughBy 24 = .ok (.istore 5, 2) := by decide +kernel
theorem dX11_enoughBy_26 : decode cX11_enoughBy 26 = .ok (.aload_n 0, 1) := by decide +kernel
theorem dX11_enoughBy_27 : decode cX11_enoughBy 27 = .ok (.getfield 47, 3) := by decide +kernel
theorem dX11_enoughBy_30 : decode cX11_enoughBy 30 = .ok (.iload 5, 2) := by decide +kernel
theorem dX11_enoughBy_32 : decode cX11_enoughBy 32 = .ok (.iaload, 1) := by decide +kernel
theorem dX11_enoughBy_33 : decode cX11_enoughBy 33 = .ok (.istore 6, 2) := by decide +kernel
theorem dX11_enoughBy_35 : decode cX11_enoughBy 35 = .ok (.iconst 0, 1) := by decide +kernel
theorem dX11_enoughBy_36 : decode cX11_enoughBy 36 = .ok (.istore 7, 2) := by decide +kernel
theorem dX11_enoughBy_38 : decode cX11_enoughBy 38 = .ok (.iload 7, 2) := by decide +kernel
theorem dX11_enoughBy_40 : decode cX11_enoughBy 40 = .ok (.aload_n 0, 1) := by decide +kernel
theorem dX11_enoughBy_41 : decode cX11_enoughBy 41 = .ok (.getfield 131, 3) := by decide +kernel
theorem dX11_enoughBy_44 : decode cX11_enoughBy 44 = .ok (.if_icmp .ge 96, 3) := by decide +kernel
theorem dX11_enoughBy_47 : decode cX11_enoughBy 47 = .ok (.aload_n 0, 1) := by decide +kernel
theorem dX11_enoughBy_48 : decode cX11_enoughBy 48 = .ok (.getfield 19, 3) := by decide +kernel
theorem dX11_enoughBy_51 : decode cX11_enoughBy 51 = .ok (.iload 7, 2) := by decide +kernel
theorem dX11_enoughBy_53 : decode cX11_enoughBy 53 = .ok (.iaload, 1) := by decide +kernel
theorem dX11_enoughBy_54 : decode cX11_enoughBy 54 = .ok (.iload 5, 2) := by decide +kernel
theorem dX11_enoughBy_56 : decode cX11_enoughBy 56 = .ok (.if_icmp .ne 38, 3) := by decide +kernel
theorem dX11_enoughBy_59 : decode cX11_enoughBy 59 = .ok (.iload 6, 2) := by decide +kernel
theorem dX11_enoughBy_61 : decode cX11_enoughBy 61 = .ok (.iconst 3, 1) := by decide +kernel
theorem dX11_enoughBy_62 : decode cX11_enoughBy 62 = .ok (.aload_n 0, 1) := by decide +kernel
theorem dX11_enoughBy_63 : decode cX11_enoughBy 63 = .ok (.getfield 7, 3) := by decide +kernel
theorem dX11_enoughBy_66 : decode cX11_enoughBy 66 = .ok (.iload 5, 2) := by decide +kernel
theorem dX11_enoughBy_68 : decode cX11_enoughBy 68 = .ok (.iaload, 1) := by decide +kernel
theorem dX11_enoughBy_69 : decode cX11_enoughBy 69 = .ok (.imul, 1) := by decide +kernel
theorem dX11_enoughBy_70 : decode cX11_enoughBy 70 = .ok (.if_icmp .ge 24, 3) := by decide +kernel
theorem dX11_enoughBy_73 : decode cX11_enoughBy 73 = .ok (.iload_n 3, 1) := by decide +kernel
theorem dX11_enoughBy_74 : decode cX11_enoughBy 74 = .ok (.ifCond .le 20, 3) := by decide +kernel
theorem dX11_enoughBy_77 : decode cX11_enoughBy 77 = .ok (.aload_n 0, 1) := by decide +kernel
theorem dX11_enoughBy_78 : decode cX11_enoughBy 78 = .ok (.iload 7, 2) := by decide +kernel
theorem dX11_enoughBy_80 : decode cX11_enoughBy 80 = .ok (.aload_n 0, 1) := by decide +kernel
theorem dX11_enoughBy_81 : decode cX11_enoughBy 81 = .ok (.getfield 223, 3) := by decide +kernel
theorem dX11_enoughBy_84 : decode cX11_enoughBy 84 = .ok (.invokevirtual 253, 3) := by decide +kernel
theorem dX11_enoughBy_87 : decode cX11_enoughBy 87 = .ok (.ifCond .eq 7, 3) := by decide +kernel
theorem dX11_enoughBy_90 : decode cX11_enoughBy 90 = .ok (.iconst 1, 1) := by decide +kernel
theorem dX11_enoughBy_91 : decode cX11_enoughBy 91 = .ok (.goto 4, 3) := by decide +kernel
theorem dX11_enoughBy_94 : decode cX11_enoughBy 94 = .ok (.iconst 0, 1) := by decide +kernel
theorem dX11_enoughBy_95 : decode cX11_enoughBy 95 = .ok (.istore 8, 2) := by decide +kernel
theorem dX11_enoughBy_97 : decode cX11_enoughBy 97 = .ok (.iload 6, 2) := by decide +kernel
theorem dX11_enoughBy_99 : decode cX11_enoughBy 99 = .ok (.iload 8, 2) := by decide +kernel
theorem dX11_enoughBy_101 : decode cX11_enoughBy 101 = .ok (.ifCond .eq 16, 3) := by decide +kernel
theorem dX11_enoughBy_104 : decode cX11_enoughBy 104 = .ok (.aload_n 0, 1) := by decide +kernel
theorem dX11_enoughBy_105 : decode cX11_enoughBy 105 = .ok (.iload 7, 2) := by decide +kernel
theorem dX11_enoughBy_107 : decode cX11_enoughBy 107 = .ok (.aload_n 0, 1) := by decide +kernel
theorem dX11_enoughBy_108 : decode cX11_enoughBy 108 = .ok (.getfield 223, 3) := by decide +kernel
theorem dX11_enoughBy_111 : decode cX11_enoughBy 111 = .ok (.invokevirtual 260, 3) := by decide +kernel
theorem dX11_enoughBy_114 : decode cX11_enoughBy 114 = .ok (.goto 4, 3) := by decide +kernel
theorem dX11_enoughBy_117 : decode cX11_enoughBy 117 = .ok (.iconst 0, 1) := by decide +kernel
theorem dX11_enoughBy_118 : decode cX11_enoughBy 118 = .ok (.iadd, 1) := by decide +kernel
theorem dX11_enoughBy_119 : decode cX11_enoughBy 119 = .ok (.istore 6, 2) := by decide +kernel
theorem dX11_enoughBy_121 : decode cX11_enoughBy 121 = .ok (.iload_n 3, 1) := by decide +kernel
theorem dX11_enoughBy_122 : decode cX11_enoughBy 122 = .ok (.iload 8, 2) := by decide +kernel
theorem dX11_enoughBy_124 : decode cX11_enoughBy 124 = .ok (.ifCond .eq 7, 3) := by decide +kernel
theorem dX11_enoughBy_127 : decode cX11_enoughBy 127 = .ok (.iconst 1, 1) := by decide +kernel
theorem dX11_enoughBy_128 : decode cX11_enoughBy 128 = .ok (.goto 4, 3) := by decide +kernel
theorem dX11_enoughBy_131 : decode cX11_enoughBy 131 = .ok (.iconst 0, 1) := by decide +kernel
theorem dX11_enoughBy_132 : decode cX11_enoughBy 132 = .ok (.isub, 1) := by decide +kernel
theorem dX11_enoughBy_133 : decode cX11_enoughBy 133 = .ok (.istore_n 3, 1) := by decide +kernel
theorem dX11_enoughBy_134 : decode cX11_enoughBy 134 = .ok (.iinc 7 1, 3) := by decide +kernel
theorem dX11_enoughBy_137 : decode cX11_enoughBy 137 = .ok (.goto (-99), 3) := by decide +kernel
theorem dX11_enoughBy_140 : decode cX11_enoughBy 140 = .ok (.iload_n 2, 1) := by decide +kernel
theorem dX11_enoughBy_141 : decode cX11_enoughBy 141 = .ok (.iload 6, 2) := by decide +kernel
theorem dX11_enoughBy_143 : decode cX11_enoughBy 143 = .ok (.iconst 3, 1) := by decide +kernel
theorem dX11_enoughBy_144 : decode cX11_enoughBy 144 = .ok (.aload_n 0, 1) := by decide +kernel
theorem dX11_enoughBy_145 : decode cX11_enoughBy 145 = .ok (.getfield 7, 3) := by decide +kernel
theorem dX11_enoughBy_148 : decode cX11_enoughBy 148 = .ok (.iload 5, 2) := by decide +kernel
theorem dX11_enoughBy_150 : decode cX11_enoughBy 150 = .ok (.iaload, 1) := by decide +kernel
theorem dX11_enoughBy_151 : decode cX11_enoughBy 151 = .ok (.imul, 1) := by decide +kernel
theorem dX11_enoughBy_152 : decode cX11_enoughBy 152 = .ok (.if_icmp .lt 10, 3) := by decide +kernel
theorem dX11_enoughBy_155 : decode cX11_enoughBy 155 = .ok (.iconst 1, 1) := by decide +kernel
theorem dX11_enoughBy_156 : decode cX11_enoughBy 156 = .ok (.iload 5, 2) := by decide +kernel
theorem dX11_enoughBy_158 : decode cX11_enoughBy 158 = .ok (.ishl, 1) := by decide +kernel
theorem dX11_enoughBy_159 : decode cX11_enoughBy 159 = .ok (.goto 4, 3) := by decide +kernel
theorem dX11_enoughBy_162 : decode cX11_enoughBy 162 = .ok (.iconst 0, 1) := by decide +kernel
theorem dX11_enoughBy_163 : decode cX11_enoughBy 163 = .ok (.ior, 1) := by decide +kernel
theorem dX11_enoughBy_164 : decode cX11_enoughBy 164 = .ok (.istore_n 2, 1) := by decide +kernel
theorem dX11_enoughBy_165 : decode cX11_enoughBy 165 = .ok (.iinc 4 1, 3) := by decide +kernel
theorem dX11_enoughBy_168 : decode cX11_enoughBy 168 = .ok (.goto (-157), 3) := by decide +kernel
theorem dX11_enoughBy_171 : decode cX11_enoughBy 171 = .ok (.iload_n 2, 1) := by decide +kernel
theorem dX11_enoughBy_172 : decode cX11_enoughBy 172 = .ok (.ireturn, 1) := by decide +kernel
theorem dX11_many_0 : decode cX11_many 0 = .ok (.iload_n 1, 1) := by decide +kernel
theorem dX11_many_1 : decode cX11_many 1 = .ok (.i2l, 1) := by decide +kernel
theorem dX11_many_2 : decode cX11_many 2 = .ok (.lconst 0, 1) := by decide +kernel
theorem dX11_many_3 : decode cX11_many 3 = .ok (.lconst 1, 1) := by decide +kernel
theorem dX11_many_4 : decode cX11_many 4 = .ok (.invokestatic 127, 3) := by decide +kernel
theorem dX11_many_7 : decode cX11_many 7 = .ok (.ifCond .ne 6, 3) := by decide +kernel
theorem dX11_many_10 : decode cX11_many 10 = .ok (.ldc 136, 2) := by decide +kernel
theorem dX11_many_12 : decode cX11_many 12 = .ok (.ireturn, 1) := by decide +kernel
theorem dX11_many_13 : decode cX11_many 13 = .ok (.iconst 0, 1) := by decide +kernel
theorem dX11_many_14 : decode cX11_many 14 = .ok (.istore_n 2, 1) := by decide +kernel
theorem dX11_many_15 : decode cX11_many 15 = .ok (.iconst 0, 1) := by decide +kernel
theorem dX11_many_16 : decode cX11_many 16 = .ok (.istore_n 3, 1) := by decide +kernel
theorem dX11_many_17 : decode cX11_many 17 = .ok (.iload_n 3, 1) := by decide +kernel
theorem dX11_many_18 : decode cX11_many 18 = .ok (.aload_n 0, 1) := by decide +kernel
theorem dX11_many_19 : decode cX11_many 19 = .ok (.getfield 124, 3) := by decide +kernel
theorem dX11_many_22 : decode cX11_many 22 = .ok (.if_icmp .ge 28, 3) := by decide +kernel
theorem dX11_many_25 : decode cX11_many 25 = .ok (.aload_n 0, 1) := by decide +kernel
theorem dX11_many_26 : decode cX11_many 26 = .ok (.getfield 41, 3) := by decide +kernel
theorem dX11_many_29 : decode cX11_many 29 = .ok (.iload_n 3, 1) := by decide +kernel
theorem dX11_many_30 : decode cX11_many 30 = .ok (.iaload, 1) := by decide +kernel
theorem dX11_many_31 : decode cX11_many 31 = .ok (.ifCond .ne 13, 3) := by decide +kernel
theorem dX11_many_34 : decode cX11_many 34 = .ok (.aload_n 0, 1) := by decide +kernel
theorem dX11_many_35 : decode cX11_many 35 = .ok (.getfield 103, 3) := by decide +kernel
theorem dX11_many_38 : decode cX11_many 38 = .ok (.iload_n 2, 1) := by decide +kernel
theorem dX11_many_39 : decode cX11_many 39 = .ok (.iload_n 3, 1) := by decide +kernel
theorem dX11_many_40 : decode cX11_many 40 = .ok (.iastore, 1) := by decide +kernel
theorem dX11_many_41 : decode cX11_many 41 = .ok (.iinc 2 1, 3) := by decide +kernel
theorem dX11_many_44 : decode cX11_many 44 = .ok (.iinc 3 1, 3) := by decide +kernel
theorem dX11_many_47 : decode cX11_many 47 = .ok (.goto (-30), 3) := by decide +kernel
theorem dX11_many_50 : decode cX11_many 50 = .ok (.iconst (-1), 1) := by decide +kernel
theorem dX11_many_51 : decode cX11_many 51 = .ok (.istore_n 3, 1) := by decide +kernel
theorem dX11_many_52 : decode cX11_many 52 = .ok (.iconst 1, 1) := by decide +kernel
theorem dX11_many_53 : decode cX11_many 53 = .ok (.istore 4, 2) := by decide +kernel
theorem dX11_many_55 : decode cX11_many 55 = .ok (.iload 4, 2) := by decide +kernel
theorem dX11_many_57 : decode cX11_many 57 = .ok (.ifCond .eq 73, 3) := by decide +kernel
theorem dX11_many_60 : decode cX11_many 60 = .ok (.aload_n 0, 1) := by decide +kernel
theorem dX11_many_61 : decode cX11_many 61 = .ok (.iload_n 2, 1) := by decide +kernel
theorem dX11_many_62 : decode cX11_many 62 = .ok (.invokevirtual 377, 3) := by decide +kernel
theorem dX11_many_65 : decode cX11_many 65 = .ok (.istore 5, 2) := by decide +kernel
theorem dX11_many_67 : decode cX11_many 67 = .ok (.iload_n 3, 1) := by decide +kernel
theorem dX11_many_68 : decode cX11_many 68 = .ok (.ifCond .lt 33, 3) := by decide +kernel
theorem dX11_many_71 : decode cX11_many 71 = .ok (.iload 5, 2) := by decide +kernel
theorem dX11_many_73 : decode cX11_many 73 = .ok (.invokestatic 313, 3) := by decide +kernel
theorem dX11_many_76 : decode cX11_many 76 = .ok (.iload_n 3, 1) := by decide +kernel
theorem dX11_many_77 : decode cX11_many 77 = .ok (.invokestatic 313, 3) := by decide +kernel
theorem dX11_many_80 : decode cX11_many 80 = .ok (.if_icmp .gt 21, 3) := by decide +kernel
theorem dX11_many_83 : decode cX11_many 83 = .ok (.iload 5, 2) := by decide +kernel
theorem dX11_many_85 : decode cX11_many 85 = .ok (.invokestatic 313, 3) := by decide +kernel
theorem dX11_many_88 : decode cX11_many 88 = .ok (.iload_n 3, 1) := by decide +kernel
theorem dX11_many_89 : decode cX11_many 89 = .ok (.invokestatic 313, 3) := by decide +kernel
theorem dX11_many_92 : decode cX11_many 92 = .ok (.if_icmp .ne 13, 3) := by decide +kernel
theorem dX11_many_95 : decode cX11_many 95 = .ok (.iload 5, 2) := by decide +kernel
theorem dX11_many_97 : decode cX11_many 97 = .ok (.iload_n 3, 1) := by decide +kernel
theorem dX11_many_98 : decode cX11_many 98 = .ok (.if_icmp .ge 7, 3) := by decide +kernel
theorem dX11_many_101 : decode cX11_many 101 = .ok (.iconst 1, 1) := by decide +kernel
theorem dX11_many_102 : decode cX11_many 102 = .ok (.goto 4, 3) := by decide +kernel
theorem dX11_many_105 : decode cX11_many 105 = .ok (.iconst 0, 1) := by decide +kernel
theorem dX11_many_106 : decode cX11_many 106 = .ok (.istore 6, 2) := by decide +kernel
theorem dX11_many_108 : decode cX11_many 108 = .ok (.iload 6, 2) := by decide +kernel
theorem dX11_many_110 : decode cX11_many 110 = .ok (.ifCond .eq 8, 3) := by decide +kernel
theorem dX11_many_113 : decode cX11_many 113 = .ok (.iload 5, 2) := by decide +kernel
theorem dX11_many_115 : decode cX11_many 115 = .ok (.goto 4, 3) := by decide +kernel
theorem dX11_many_118 : decode cX11_many 118 = .ok (.iload_n 3, 1) := by decide +kernel
theorem dX11_many_119 : decode cX11_many 119 = .ok (.istore_n 3, 1) := by decide +kernel
theorem dX11_many_120 : decode cX11_many 120 = .ok (.aload_n 0, 1) := by decide +kernel
theorem dX11_many_121 : decode cX11_many 121 = .ok (.iload_n 2, 1) := by decide +kernel
theorem dX11_many_122 : decode cX11_many 122 = .ok (.invokevirtual 380, 3) := by decide +kernel
theorem dX11_many_125 : decode cX11_many 125 = .ok (.istore 4, 2) := by decide +kernel
theorem dX11_many_127 : decode cX11_many 127 = .ok (.goto (-72), 3) := by decide +kernel
theorem dX11_many_130 : decode cX11_many 130 = .ok (.iload_n 1, 1) := by decide +kernel
theorem dX11_many_131 : decode cX11_many 131 = .ok (.ifCond .ne 10, 3) := by decide +kernel
theorem dX11_many_134 : decode cX11_many 134 = .ok (.iload_n 3, 1) := by decide +kernel
theorem dX11_many_135 : decode cX11_many 135 = .ok (.invokestatic 313, 3) := by decide +kernel
theorem dX11_many_138 : decode cX11_many 138 = .ok (.goto 4, 3) := by decide +kernel
theorem dX11_many_141 : decode cX11_many 141 = .ok (.iload_n 3, 1) := by decide +kernel
theorem dX11_many_142 : decode cX11_many 142 = .ok (.ireturn, 1) := by decide +kernel
theorem dX11_write_0 : decode cX11_write 0 = .ok (.aload_n 0, 1) := by decide +kernel
theorem dX11_write_1 : decode cX11_write 1 = .ok (.iload_n 1, 1) := by decide +kernel
theorem dX11_write_2 : decode cX11_write 2 = .ok (.invokevirtual 244, 3) := by decide +kernel
theorem dX11_write_5 : decode cX11_write 5 = .ok (.ifCond .ne 6, 3) := by decide +kernel
theorem dX11_write_8 : decode cX11_write 8 = .ok (.ldc 248, 2) := by decide +kernel
theorem dX11_write_10 : decode cX11_write 10 = .ok (.ireturn, 1) := by decide +kernel
theorem dX11_write_11 : decode cX11_write 11 = .ok (.iload_n 2, 1) := by decide +kernel
theorem dX11_write_12 : decode cX11_write 12 = .ok (.i2l, 1) := by decide +kernel
theorem dX11_write_13 : decode cX11_write 13 = .ok (.lconst 0, 1) := by decide +kernel
theorem dX11_write_14 : decode cX11_write 14 = .ok (.ldc2_w 383, 3) := by decide +kernel
theorem dX11_write_17 : decode cX11_write 17 = .ok (.invokestatic 127, 3) := by decide +kernel
theorem dX11_write_20 : decode cX11_write 20 = .ok (.ifCond .ne 6, 3) := by decide +kernel
theorem dX11_write_23 : decode cX11_write 23 = .ok (.ldc 136, 2) := by decide +kernel
theorem dX11_write_25 : decode cX11_write 25 = .ok (.ireturn, 1) := by decide +kernel
theorem dX11_write_26 : decode cX11_write 26 = .ok (.aload_n 0, 1) := by decide +kernel
theorem dX11_write_27 : decode cX11_write 27 = .ok (.getfield 106, 3) := by decide +kernel
theorem dX11_write_30 : decode cX11_write 30 = .ok (.iload_n 1, 1) := by decide +kernel
theorem dX11_write_31 : decode cX11_write 31 = .ok (.iaload, 1) := by decide +kernel
theorem dX11_write_32 : decode cX11_write 32 = .ok (.bipush 60, 2) := by decide +kernel
theorem dX11_write_34 : decode cX11_write 34 = .ok (.if_icmp .ne 6, 3) := by decide +kernel
theorem dX11_write_37 : decode cX11_write 37 = .ok (.ldc 140, 2) := by decide +kernel
theorem dX11_write_39 : decode cX11_write 39 = .ok (.ireturn, 1) := by decide +kernel
theorem dX11_write_40 : decode cX11_write 40 = .ok (.aload_n 0, 1) := by decide +kernel
theorem dX11_write_41 : decode cX11_write 41 = .ok (.getfield 109, 3) := by decide +kernel
theorem dX11_write_44 : decode cX11_write 44 = .ok (.bipush 60, 2) := by decide +kernel
theorem dX11_write_46 : decode cX11_write 46 = .ok (.iload_n 1, 1) := by decide +kernel
theorem dX11_write_47 : decode cX11_write 47 = .ok (.imul, 1) := by decide +kernel
theorem dX11_write_48 : decode cX11_write 48 = .ok (.aload_n 0, 1) := by decide +kernel
theorem dX11_write_49 : decode cX11_write 49 = .ok (.getfield 106, 3) := by decide +kernel
theorem dX11_write_52 : decode cX11_write 52 = .ok (.iload_n 1, 1) := by decide +kernel
theorem dX11_write_53 : decode cX11_write 53 = .ok (.iaload, 1) := by decide +kernel
theorem dX11_write_54 : decode cX11_write 54 = .ok (.iadd, 1) := by decide +kernel
theorem dX11_write_55 : decode cX11_write 55 = .ok (.iload_n 2, 1) := by decide +kernel
theorem dX11_write_56 : decode cX11_write 56 = .ok (.iastore, 1) := by decide +kernel
theorem dX11_write_57 : decode cX11_write 57 = .ok (.aload_n 0, 1) := by decide +kernel
theorem dX11_write_58 : decode cX11_write 58 = .ok (.getfield 106, 3) := by decide +kernel
theorem dX11_write_61 : decode cX11_write 61 = .ok (.iload_n 1, 1) := by decide +kernel
theorem dX11_write_62 : decode cX11_write 62 = .ok (.dup2, 1) := by decide +kernel
theorem dX11_write_63 : decode cX11_write 63 = .ok (.iaload, 1) := by decide +kernel
theorem dX11_write_64 : decode cX11_write 64 = .ok (.iconst 1, 1) := by decide +kernel
theorem dX11_write_65 : decode cX11_write 65 = .ok (.iadd, 1) := by decide +kernel
theorem dX11_write_66 : decode cX11_write 66 = .ok (.iastore, 1) := by decide +kernel
theorem dX11_write_67 : decode cX11_write 67 = .ok (.aload_n 0, 1) := by decide +kernel
theorem dX11_write_68 : decode cX11_write 68 = .ok (.getfield 106, 3) := by decide +kernel
theorem dX11_write_71 : decode cX11_write 71 = .ok (.iload_n 1, 1) := by decide +kernel
theorem dX11_write_72 : decode cX11_write 72 = .ok (.iaload, 1) := by decide +kernel
theorem dX11_write_73 : decode cX11_write 73 = .ok (.ireturn, 1) := by decide +kernel
theorem dX11_tear_0 : decode cX11_tear 0 = .ok (.aload_n 0, 1) := by decide +kernel
theorem dX11_tear_1 : decode cX11_tear 1 = .ok (.iload_n 1, 1) := by decide +kernel
theorem dX11_tear_2 : decode cX11_tear 2 = .ok (.invokevirtual 244, 3) := by decide +kernel
theorem dX11_tear_5 : decode cX11_tear 5 = .ok (.ifCond .ne 6, 3) := by decide +kernel
theorem dX11_tear_8 : decode cX11_tear 8 = .ok (.ldc 248, 2) := by decide +kernel
theorem dX11_tear_10 : decode cX11_tear 10 = .ok (.ireturn, 1) := by decide +kernel
theorem dX11_tear_11 : decode cX11_tear 11 = .ok (.aload_n 0, 1) := by decide +kernel
theorem dX11_tear_12 : decode cX11_tear 12 = .ok (.getfield 106, 3) := by decide +kernel
theorem dX11_tear_15 : decode cX11_tear 15 = .ok (.iload_n 1, 1) := by decide +kernel
theorem dX11_tear_16 : decode cX11_tear 16 = .ok (.iaload, 1) := by decide +kernel
theorem dX11_tear_17 : decode cX11_tear 17 = .ok (.istore_n 2, 1) := by decide +kernel
theorem dX11_tear_18 : decode cX11_tear 18 = .ok (.aload_n 0, 1) := by decide +kernel
theorem dX11_tear_19 : decode cX11_tear 19 = .ok (.getfield 106, 3) := by decide +kernel
theorem dX11_tear_22 : decode cX11_tear 22 = .ok (.iload_n 1, 1) := by decide +kernel
theorem dX11_tear_23 : decode cX11_tear 23 = .ok (.iconst 0, 1) := by decide +kernel
theorem dX11_tear_24 : decode cX11_tear 24 = .ok (.iastore, 1) := by decide +kernel
theorem dX11_tear_25 : decode cX11_tear 25 = .ok (.iload_n 2, 1) := by decide +kernel
theorem dX11_tear_26 : decode cX11_tear 26 = .ok (.ireturn, 1) := by decide +kernel
theorem dX11_judge_0 : decode cX11_judge 0 = .ok (.aload_n 0, 1) := by decide +kernel
theorem dX11_judge_1 : decode cX11_judge 1 = .ok (.iload_n 1, 1) := by decide +kernel
theorem dX11_judge_2 : decode cX11_judge 2 = .ok (.invokevirtual 244, 3) := by decide +kernel
theorem dX11_judge_5 : decode cX11_judge 5 = .ok (.ifCond .ne 6, 3) := by decide +kernel
theorem dX11_judge_8 : decode cX11_judge 8 = .ok (.ldc 248, 2) := by decide +kernel
theorem dX11_judge_10 : decode cX11_judge 10 = .ok (.ireturn, 1) := by decide +kernel
theorem dX11_judge_11 : decode cX11_judge 11 = .ok (.iconst 0, 1) := by decide +kernel
theorem dX11_judge_12 : decode cX11_judge 12 = .ok (.istore_n 2, 1) := by decide +kernel
theorem dX11_judge_13 : decode cX11_judge 13 = .ok (.iload_n 2, 1) := by decide +kernel
theorem dX11_judge_14 : decode cX11_judge 14 = .ok (.aload_n 0, 1) := by decide +kernel
theorem dX11_judge_15 : decode cX11_judge 15 = .ok (.getfield 106, 3) := by decide +kernel
theorem dX11_judge_18 : decode cX11_judge 18 = .ok (.iload_n 1, 1) := by decide +kernel
theorem dX11_judge_19 : decode cX11_judge 19 = .ok (.iaload, 1) := by decide +kernel
theorem dX11_judge_20 : decode cX11_judge 20 = .ok (.if_icmp .ge 45, 3) := by decide +kernel
theorem dX11_judge_23 : decode cX11_judge 23 = .ok (.iload_n 2, 1) := by decide +kernel
theorem dX11_judge_24 : decode cX11_judge 24 = .ok (.aload_n 0, 1) := by decide +kernel
theorem dX11_judge_25 : decode cX11_judge 25 = .ok (.getfield 223, 3) := by decide +kernel
theorem dX11_judge_28 : decode cX11_judge 28 = .ok (.if_icmp .ge 37, 3) := by decide +kernel
theorem dX11_judge_31 : decode cX11_judge 31 = .ok (.aload_n 0, 1) := by decide +kernel
theorem dX11_judge_32 : decode cX11_judge 32 = .ok (.getfield 109, 3) := by decide +kernel
theorem dX11_judge_35 : decode cX11_judge 35 = .ok (.bipush 60, 2) := by decide +kernel
theorem dX11_judge_37 : decode cX11_judge 37 = .ok (.iload_n 1, 1) := by decide +kernel
theorem dX11_judge_38 : decode cX11_judge 38 = .ok (.imul, 1) := by decide +kernel
theorem dX11_judge_39 : decode cX11_judge 39 = .ok (.iload_n 2, 1) := by decide +kernel
theorem dX11_judge_40 : decode cX11_judge 40 = .ok (.iadd, 1) := by decide +kernel
theorem dX11_judge_41 : decode cX11_judge 41 = .ok (.iaload, 1) := by decide +kernel
theorem dX11_judge_42 : decode cX11_judge 42 = .ok (.aload_n 0, 1) := by decide +kernel
theorem dX11_judge_43 : decode cX11_judge 43 = .ok (.getfield 53, 3) := by decide +kernel
theorem dX11_judge_46 : decode cX11_judge 46 = .ok (.sipush 400, 3) := by decide +kernel
theorem dX11_judge_49 : decode cX11_judge 49 = .ok (.iload_n 1, 1) := by decide +kernel
theorem dX11_judge_50 : decode cX11_judge 50 = .ok (.imul, 1) := by decide +kernel
theorem dX11_judge_51 : decode cX11_judge 51 = .ok (.iload_n 2, 1) := by decide +kernel
theorem dX11_judge_52 : decode cX11_judge 52 = .ok (.iadd, 1) := by decide +kernel
theorem dX11_judge_53 : decode cX11_judge 53 = .ok (.iaload, 1) := by decide +kernel
theorem dX11_judge_54 : decode cX11_judge 54 = .ok (.if_icmp .eq 5, 3) := by decide +kernel
theorem dX11_judge_57 : decode cX11_judge 57 = .ok (.iload_n 2, 1) := by decide +kernel
theorem dX11_judge_58 : decode cX11_judge 58 = .ok (.ireturn, 1) := by decide +kernel
theorem dX11_judge_59 : decode cX11_judge 59 = .ok (.iinc 2 1, 3) := by decide +kernel
theorem dX11_judge_62 : decode cX11_judge 62 = .ok (.goto (-49), 3) := by decide +kernel
theorem dX11_judge_65 : decode cX11_judge 65 = .ok (.iconst (-1), 1) := by decide +kernel
theorem dX11_judge_66 : decode cX11_judge 66 = .ok (.ireturn, 1) := by decide +kernel
theorem dX11_evening_0 : decode cX11_evening 0 = .ok (.aload_n 0, 1) := by decide +kernel
theorem dX11_evening_1 : decode cX11_evening 1 = .ok (.iload_n 1, 1) := by decide +kernel
theorem dX11_evening_2 : decode cX11_evening 2 = .ok (.invokevirtual 244, 3) := by decide +kernel
theorem dX11_evening_5 : decode cX11_evening 5 = .ok (.ifCond .ne 6, 3) := by decide +kernel
theorem dX11_evening_8 : decode cX11_evening 8 = .ok (.ldc 248, 2) := by decide +kernel
theorem dX11_evening_10 : decode cX11_evening 10 = .ok (.ireturn, 1) := by decide +kernel
theorem dX11_evening_11 : decode cX11_evening 11 = .ok (.iload_n 2, 1) := by decide +kernel
theorem dX11_evening_12 : decode cX11_evening 12 = .ok (.i2l, 1) := by decide +kernel
theorem dX11_evening_13 : decode cX11_evening 13 = .ok (.lconst 0, 1) := by decide +kernel
theorem dX11_evening_14 : decode cX11_evening 14 = .ok (.ldc2_w 266, 3) := by decide +kernel
theorem dX11_evening_17 : decode cX11_evening 17 = .ok (.invokestatic 127, 3) := by decide +kernel
theorem dX11_evening_20 : decode cX11_evening 20 = .ok (.ifCond .ne 6, 3) := by decide +kernel
theorem dX11_evening_23 : decode cX11_evening 23 = .ok (.ldc 136, 2) := by decide +kernel
theorem dX11_evening_25 : decode cX11_evening 25 = .ok (.ireturn, 1) := by decide +kernel
theorem dX11_evening_26 : decode cX11_evening 26 = .ok (.iload_n 2, 1) := by decide +kernel
theorem dX11_evening_27 : decode cX11_evening 27 = .ok (.aload_n 0, 1) := by decide +kernel
theorem dX11_evening_28 : decode cX11_evening 28 = .ok (.getfield 223, 3) := by decide +kernel
theorem dX11_evening_31 : decode cX11_evening 31 = .ok (.if_icmp .ge 18, 3) := by decide +kernel
theorem dX11_evening_34 : decode cX11_evening 34 = .ok (.aload_n 0, 1) := by decide +kernel
theorem dX11_evening_35 : decode cX11_evening 35 = .ok (.getfield 53, 3) := by decide +kernel
theorem dX11_evening_38 : decode cX11_evening 38 = .ok (.sipush 400, 3) := by decide +kernel
theorem dX11_evening_41 : decode cX11_evening 41 = .ok (.iload_n 1, 1) := by decide +kernel
theorem dX11_evening_42 : decode cX11_evening 42 = .ok (.imul, 1) := by decide +kernel
theorem dX11_evening_43 : decode cX11_evening 43 = .ok (.iload_n 2, 1) := by decide +kernel
theorem dX11_evening_44 : decode cX11_evening 44 = .ok (.iadd, 1) := by decide +kernel
theorem dX11_evening_45 : decode cX11_evening 45 = .ok (.iaload, 1) := by decide +kernel
theorem dX11_evening_46 : decode cX11_evening 46 = .ok (.goto 4, 3) := by decide +kernel
theorem dX11_evening_49 : decode cX11_evening 49 = .ok (.iconst (-1), 1) := by decide +kernel
theorem dX11_evening_50 : decode cX11_evening 50 = .ok (.ireturn, 1) := by decide +kernel
theorem dX11_seed_0 : decode cX11_seed 0 = .ok (.iload_n 1, 1) := by decide +kernel
theorem dX11_seed_1 : decode cX11_seed 1 = .ok (.ifCond .ge 6, 3) := by decide +kernel
theorem dX11_seed_4 : decode cX11_seed 4 = .ok (.ldc 136, 2) := by decide +kernel
theorem dX11_seed_6 : decode cX11_seed 6 = .ok (.ireturn, 1) := by decide +kernel
theorem dX11_seed_7 : decode cX11_seed 7 = .ok (.aload_n 0, 1) := by decide +kernel
theorem dX11_seed_8 : decode cX11_seed 8 = .ok (.getfield 286, 3) := by decide +kernel
theorem dX11_seed_11 : decode cX11_seed 11 = .ok (.istore_n 2, 1) := by decide +kernel
theorem dX11_seed_12 : decode cX11_seed 12 = .ok (.aload_n 0, 1) := by decide +kernel
theorem dX11_seed_13 : decode cX11_seed 13 = .ok (.iload_n 1, 1) := by decide +kernel
theorem dX11_seed_14 : decode cX11_seed 14 = .ok (.putfield 286, 3) := by decide +kernel
theorem dX11_seed_17 : decode cX11_seed 17 = .ok (.iload_n 2, 1) := by decide +kernel
theorem dX11_seed_18 : decode cX11_seed 18 = .ok (.ireturn, 1) := by decide +kernel
theorem dX11_keep_0 : decode cX11_keep 0 = .ok (.iload_n 1, 1) := by decide +kernel
theorem dX11_keep_1 : decode cX11_keep 1 = .ok (.i2l, 1) := by decide +kernel
theorem dX11_keep_2 : decode cX11_keep 2 = .ok (.lconst 0, 1) := by decide +kernel
theorem dX11_keep_3 : decode cX11_keep 3 = .ok (.lconst 1, 1) := by decide +kernel
theorem dX11_keep_4 : decode cX11_keep 4 = .ok (.invokestatic 127, 3) := by decide +kernel
theorem dX11_keep_7 : decode cX11_keep 7 = .ok (.ifCond .ne 6, 3) := by decide +kernel
theorem dX11_keep_10 : decode cX11_keep 10 = .ok (.ldc 248, 2) := by decide +kernel
theorem dX11_keep_12 : decode cX11_keep 12 = .ok (.ireturn, 1) := by decide +kernel
theorem dX11_keep_13 : decode cX11_keep 13 = .ok (.bipush 60, 2) := by decide +kernel
theorem dX11_keep_15 : decode cX11_keep 15 = .ok (.iload_n 1, 1) := by decide +kernel
theorem dX11_keep_16 : decode cX11_keep 16 = .ok (.imul, 1) := by decide +kernel
theorem dX11_keep_17 : decode cX11_keep 17 = .ok (.istore_n 2, 1) := by decide +kernel
theorem dX11_keep_18 : decode cX11_keep 18 = .ok (.aload_n 0, 1) := by decide +kernel
theorem dX11_keep_19 : decode cX11_keep 19 = .ok (.getfield 112, 3) := by decide +kernel
theorem dX11_keep_22 : decode cX11_keep 22 = .ok (.iload_n 2, 1) := by decide +kernel
theorem dX11_keep_23 : decode cX11_keep 23 = .ok (.aload_n 0, 1) := by decide +kernel
theorem dX11_keep_24 : decode cX11_keep 24 = .ok (.getfield 223, 3) := by decide +kernel
theorem dX11_keep_27 : decode cX11_keep 27 = .ok (.iastore, 1) := by decide +kernel
theorem dX11_keep_28 : decode cX11_keep 28 = .ok (.aload_n 0, 1) := by decide +kernel
theorem dX11_keep_29 : decode cX11_keep 29 = .ok (.getfield 112, 3) := by decide +kernel
theorem dX11_keep_32 : decode cX11_keep 32 = .ok (.iload_n 2, 1) := by decide +kernel
theorem dX11_keep_33 : decode cX11_keep 33 = .ok (.iconst 1, 1) := by decide +kernel
theorem dX11_keep_34 : decode cX11_keep 34 = .ok (.iadd, 1) := by decide +kernel
theorem dX11_keep_35 : decode cX11_keep 35 = .ok (.aload_n 0, 1) := by decide +kernel
theorem dX11_keep_36 : decode cX11_keep 36 = .ok (.getfield 226, 3) := by decide +kernel
theorem dX11_keep_39 : decode cX11_keep 39 = .ok (.iastore, 1) := by decide +kernel
theorem dX11_keep_40 : decode cX11_keep 40 = .ok (.aload_n 0, 1) := by decide +kernel
theorem dX11_keep_41 : decode cX11_keep 41 = .ok (.getfield 112, 3) := by decide +kernel
theorem dX11_keep_44 : decode cX11_keep 44 = .ok (.iload_n 2, 1) := by decide +kernel
theorem dX11_keep_45 : decode cX11_keep 45 = .ok (.iconst 2, 1) := by decide +kernel
theorem dX11_keep_46 : decode cX11_keep 46 = .ok (.iadd, 1) := by decide +kernel
theorem dX11_keep_47 : decode cX11_keep 47 = .ok (.aload_n 0, 1) := by decide +kernel
theorem dX11_keep_48 : decode cX11_keep 48 = .ok (.getfield 286, 3) := by decide +kernel
theorem dX11_keep_51 : decode cX11_keep 51 = .ok (.iastore, 1) := by decide +kernel
theorem dX11_keep_52 : decode cX11_keep 52 = .ok (.iconst 0, 1) := by decide +kernel
theorem dX11_keep_53 : decode cX11_keep 53 = .ok (.istore_n 3, 1) := by decide +kernel
theorem dX11_keep_54 : decode cX11_keep 54 = .ok (.iload_n 3, 1) := by decide +kernel
theorem dX11_keep_55 : decode cX11_keep 55 = .ok (.bipush 12, 2) := by decide +kernel
theorem dX11_keep_57 : decode cX11_keep 57 = .ok (.if_icmp .ge 67, 3) := by decide +kernel
theorem dX11_keep_60 : decode cX11_keep 60 = .ok (.aload_n 0, 1) := by decide +kernel
theorem dX11_keep_61 : decode cX11_keep 61 = .ok (.getfield 112, 3) := by decide +kernel
theorem dX11_keep_64 : decode cX11_keep 64 = .ok (.iload_n 2, 1) := by decide +kernel
theorem dX11_keep_65 : decode cX11_keep 65 = .ok (.iconst 3, 1) := by decide +kernel
theorem dX11_keep_66 : decode cX11_keep 66 = .ok (.iadd, 1) := by decide +kernel
theorem dX11_keep_67 : decode cX11_keep 67 = .ok (.iload_n 3, 1) := by decide +kernel
theorem dX11_keep_68 : decode cX11_keep 68 = .ok (.iadd, 1) := by decide +kernel
theorem dX11_keep_69 : decode cX11_keep 69 = .ok (.aload_n 0, 1) := by decide +kernel
theorem dX11_keep_70 : decode cX11_keep 70 = .ok (.getfield 31, 3) := by decide +kernel
theorem dX11_keep_73 : decode cX11_keep 73 = .ok (.iload_n 3, 1) := by decide +kernel
theorem dX11_keep_74 : decode cX11_keep 74 = .ok (.iaload, 1) := by decide +kernel
theorem dX11_keep_75 : decode cX11_keep 75 = .ok (.iastore, 1) := by decide +kernel
theorem dX11_keep_76 : decode cX11_keep 76 = .ok (.aload_n 0, 1) := by decide +kernel
theorem dX11_keep_77 : decode cX11_keep 77 = .ok (.getfield 112, 3) := by decide +kernel
theorem dX11_keep_80 : decode cX11_keep 80 = .ok (.iload_n 2, 1) := by decide +kernel
theorem dX11_keep_81 : decode cX11_keep 81 = .ok (.bipush 15, 2) := by decide +kernel
theorem dX11_keep_83 : decode cX11_keep 83 = .ok (.iadd, 1) := by decide +kernel
theorem dX11_keep_84 : decode cX11_keep 84 = .ok (.iload_n 3, 1) := by decide +kernel
theorem dX11_keep_85 : decode cX11_keep 85 = .ok (.iadd, 1) := by decide +kernel
theorem dX11_keep_86 : decode cX11_keep 86 = .ok (.aload_n 0, 1) := by decide +kernel
theorem dX11_keep_87 : decode cX11_keep 87 = .ok (.getfield 34, 3) := by decide +kernel
theorem dX11_keep_90 : decode cX11_keep 90 = .ok (.iload_n 3, 1) := by decide +kernel
theorem dX11_keep_91 : decode cX11_keep 91 = .ok (.iaload, 1) := by decide +kernel
theorem dX11_keep_92 : decode cX11_keep 92 = .ok (.iastore, 1) := by decide +kernel
theorem dX11_keep_93 : decode cX11_keep 93 = .ok (.aload_n 0, 1) := by decide +kernel
theorem dX11_keep_94 : decode cX11_keep 94 = .ok (.getfield 112, 3) := by decide +kernel
theorem dX11_keep_97 : decode cX11_keep 97 = .ok (.iload_n 2, 1) := by decide +kernel
theorem dX11_keep_98 : decode cX11_keep 98 = .ok (.bipush 27, 2) := by decide +kernel
theorem dX11_keep_100 : decode cX11_keep 100 = .ok (.iadd, 1) := by decide +kernel
theorem dX11_keep_101 : decode cX11_keep 101 = .ok (.iload_n 3, 1) := by decide +kernel
theorem dX11_keep_102 : decode cX11_keep 102 = .ok (.iadd, 1) := by decide +kernel
theorem dX11_keep_103 : decode cX11_keep 103 = .ok (.aload_n 0, 1) := by decide +kernel
theorem dX11_keep_104 : decode cX11_keep 104 = .ok (.getfield 37, 3) := by decide +kernel
theorem dX11_keep_107 : decode cX11_keep 107 = .ok (.iload_n 3, 1) := by decide +kernel
theorem dX11_keep_108 : decode cX11_keep 108 = .ok (.baload, 1) := by decide +kernel
theorem dX11_keep_109 : decode cX11_keep 109 = .ok (.ifCond .eq 7, 3) := by decide +kernel
theorem dX11_keep_112 : decode cX11_keep 112 = .ok (.iconst 1, 1) := by decide +kernel
theorem dX11_keep_113 : decode cX11_keep 113 = .ok (.goto 4, 3) := by decide +kernel
theorem dX11_keep_116 : decode cX11_keep 116 = .ok (.iconst 0, 1) := by decide +kernel
theorem dX11_keep_117 : decode cX11_keep 117 = .ok (.iastore, 1) := by decide +kernel
theorem dX11_keep_118 : decode cX11_keep 118 = .ok (.iinc 3 1, 3) := by decide +kernel
theorem dX11_keep_121 : decode cX11_keep 121 = .ok (.goto (-67), 3) := by decide +kernel
theorem dX11_keep_124 : decode cX11_keep 124 = .ok (.iconst 0, 1) := by decide +kernel
theorem dX11_keep_125 : decode cX11_keep 125 = .ok (.istore_n 3, 1) := by decide +kernel
theorem dX11_keep_126 : decode cX11_keep 126 = .ok (.iload_n 3, 1) := by decide +kernel
theorem dX11_keep_127 : decode cX11_keep 127 = .ok (.bipush 6, 2) := by decide +kernel
theorem dX11_keep_129 : decode cX11_keep 129 = .ok (.if_icmp .ge 60, 3) := by decide +kernel
theorem dX11_keep_132 : decode cX11_keep 132 = .ok (.aload_n 0, 1) := by decide +kernel
theorem dX11_keep_133 : decode cX11_keep 133 = .ok (.getfield 112, 3) := by decide +kernel
theorem dX11_keep_136 : decode cX11_keep 136 = .ok (.iload_n 2, 1) := by decide +kernel
theorem dX11_keep_137 : decode cX11_keep 137 = .ok (.bipush 39, 2) := by decide +kernel
theorem dX11_keep_139 : decode cX11_keep 139 = .ok (.iadd, 1) := by decide +kernel
theorem dX11_keep_140 : decode cX11_keep 140 = .ok (.iload_n 3, 1) := by decide +kernel
theorem dX11_keep_141 : decode cX11_keep 141 = .ok (.iadd, 1) := by decide +kernel
theorem dX11_keep_142 : decode cX11_keep 142 = .ok (.aload_n 0, 1) := by decide +kernel
theorem dX11_keep_143 : decode cX11_keep 143 = .ok (.getfield 41, 3) := by decide +kernel
theorem dX11_keep_146 : decode cX11_keep 146 = .ok (.iload_n 3, 1) := by decide +kernel
theorem dX11_keep_147 : decode cX11_keep 147 = .ok (.iaload, 1) := by decide +kernel
theorem dX11_keep_148 : decode cX11_keep 148 = .ok (.iastore, 1) := by decide +kernel
theorem dX11_keep_149 : decode cX11_keep 149 = .ok (.aload_n 0, 1) := by decide +kernel
theorem dX11_keep_150 : decode cX11_keep 150 = .ok (.getfield 112, 3) := by decide +kernel
theorem dX11_keep_153 : decode cX11_keep 153 = .ok (.iload_n 2, 1) := by decide +kernel
theorem dX11_keep_154 : decode cX11_keep 154 = .ok (.bipush 45, 2) := by decide +kernel
theorem dX11_keep_156 : decode cX11_keep 156 = .ok (.iadd, 1) := by decide +kernel
theorem dX11_keep_157 : decode cX11_keep 157 = .ok (.iload_n 3, 1) := by decide +kernel
theorem dX11_keep_158 : decode cX11_keep 158 = .ok (.iadd, 1) := by decide +kernel
theorem dX11_keep_159 : decode cX11_keep 159 = .ok (.aload_n 0, 1) := by decide +kernel
theorem dX11_keep_160 : decode cX11_keep 160 = .ok (.getfield 44, 3) := by decide +kernel
theorem dX11_keep_163 : decode cX11_keep 163 = .ok (.iload_n 3, 1) := by decide +kernel
theorem dX11_keep_164 : decode cX11_keep 164 = .ok (.iaload, 1) := by decide +kernel
theorem dX11_keep_165 : decode cX11_keep 165 = .ok (.iastore, 1) := by decide +kernel
theorem dX11_keep_166 : decode cX11_keep 166 = .ok (.aload_n 0, 1) := by decide +kernel
theorem dX11_keep_167 : decode cX11_keep 167 = .ok (.getfield 112, 3) := by decide +kernel
theorem dX11_keep_170 : decode cX11_keep 170 = .ok (.iload_n 2, 1) := by decide +kernel
theorem dX11_keep_171 : decode cX11_keep 171 = .ok (.bipush 51, 2) := by decide +kernel
theorem dX11_keep_173 : decode cX11_keep 173 = .ok (.iadd, 1) := by decide +kernel
theorem dX11_keep_174 : decode cX11_keep 174 = .ok (.iload_n 3, 1) := by decide +kernel
theorem dX11_keep_175 : decode cX11_keep 175 = .ok (.iadd, 1) := by decide +kernel
theorem dX11_keep_176 : decode cX11_keep 176 = .ok (.aload_n 0, 1) := by decide +kernel
theorem dX11_keep_177 : decode cX11_keep 177 = .ok (.getfield 47, 3) := by decide +kernel
theorem dX11_keep_180 : decode cX11_keep 180 = .ok (.iload_n 3, 1) := by decide +kernel
theorem dX11_keep_181 : decode cX11_keep 181 = .ok (.iaload, 1) := by decide +kernel
theorem dX11_keep_182 : decode cX11_keep 182 = .ok (.iastore, 1) := by decide +kernel
theorem dX11_keep_183 : decode cX11_keep 183 = .ok (.iinc 3 1, 3) := by decide +kernel
theorem dX11_keep_186 : decode cX11_keep 186 = .ok (.goto (-60), 3) := by decide +kernel
theorem dX11_keep_189 : decode cX11_keep 189 = .ok (.iconst 0, 1) := by decide +kernel
theorem dX11_keep_190 : decode cX11_keep 190 = .ok (.istore_n 3, 1) := by decide +kernel
theorem dX11_keep_191 : decode cX11_keep 191 = .ok (.iload_n 3, 1) := by decide +kernel
theorem dX11_keep_192 : decode cX11_keep 192 = .ok (.sipush 2400, 3) := by decide +kernel
theorem dX11_keep_195 : decode cX11_keep 195 = .ok (.if_icmp .ge 45, 3) := by decide +kernel
theorem dX11_keep_198 : decode cX11_keep 198 = .ok (.aload_n 0, 1) := by decide +kernel
theorem dX11_keep_199 : decode cX11_keep 199 = .ok (.getfield 115, 3) := by decide +kernel
theorem dX11_keep_202 : decode cX11_keep 202 = .ok (.sipush 2400, 3) := by decide +kernel
theorem dX11_keep_205 : decode cX11_keep 205 = .ok (.iload_n 1, 1) := by decide +kernel
theorem dX11_keep_206 : decode cX11_keep 206 = .ok (.imul, 1) := by decide +kernel
theorem dX11_keep_207 : decode cX11_keep 207 = .ok (.iload_n 3, 1) := by decide +kernel
theorem dX11_keep_208 : decode cX11_keep 208 = .ok (.iadd, 1) := by decide +kernel
theorem dX11_keep_209 : decode cX11_keep 209 = .ok (.aload_n 0, 1) := by decide +kernel
theorem dX11_keep_210 : decode cX11_keep 210 = .ok (.getfield 50, 3) := by decide +kernel
theorem dX11_keep_213 : decode cX11_keep 213 = .ok (.iload_n 3, 1) := by decide +kernel
theorem dX11_keep_214 : decode cX11_keep 214 = .ok (.iaload, 1) := by decide +kernel
theorem dX11_keep_215 : decode cX11_keep 215 = .ok (.iastore, 1) := by decide +kernel
theorem dX11_keep_216 : decode cX11_keep 216 = .ok (.aload_n 0, 1) := by decide +kernel
theorem dX11_keep_217 : decode cX11_keep 217 = .ok (.getfield 118, 3) := by decide +kernel
theorem dX11_keep_220 : decode cX11_keep 220 = .ok (.sipush 2400, 3) := by decide +kernel
theorem dX11_keep_223 : decode cX11_keep 223 = .ok (.iload_n 1, 1) := by decide +kernel
theorem dX11_keep_224 : decode cX11_keep 224 = .ok (.imul, 1) := by decide +kernel
theorem dX11_keep_225 : decode cX11_keep 225 = .ok (.iload_n 3, 1) := by decide +kernel
theorem dX11_keep_226 : decode cX11_keep 226 = .ok (.iadd, 1) := by decide +kernel
theorem dX11_keep_227 : decode cX11_keep 227 = .ok (.aload_n 0, 1) := by decide +kernel
theorem dX11_keep_228 : decode cX11_keep 228 = .ok (.getfield 53, 3) := by decide +kernel
theorem dX11_keep_231 : decode cX11_keep 231 = .ok (.iload_n 3, 1) := by decide +kernel
theorem dX11_keep_232 : decode cX11_keep 232 = .ok (.iaload, 1) := by decide +kernel
theorem dX11_keep_233 : decode cX11_keep 233 = .ok (.iastore, 1) := by decide +kernel
theorem dX11_keep_234 : decode cX11_keep 234 = .ok (.iinc 3 1, 3) := by decide +kernel
theorem dX11_keep_237 : decode cX11_keep 237 = .ok (.goto (-46), 3) := by decide +kernel
theorem dX11_keep_240 : decode cX11_keep 240 = .ok (.aload_n 0, 1) := by decide +kernel
theorem dX11_keep_241 : decode cX11_keep 241 = .ok (.getfield 121, 3) := by decide +kernel
theorem dX11_keep_244 : decode cX11_keep 244 = .ok (.iload_n 1, 1) := by decide +kernel
theorem dX11_keep_245 : decode cX11_keep 245 = .ok (.iconst 1, 1) := by decide +kernel
theorem dX11_keep_246 : decode cX11_keep 246 = .ok (.bastore, 1) := by decide +kernel
theorem dX11_keep_247 : decode cX11_keep 247 = .ok (.iconst 1, 1) := by decide +kernel
theorem dX11_keep_248 : decode cX11_keep 248 = .ok (.ireturn, 1) := by decide +kernel
theorem dX11_goBack_0 : decode cX11_goBack 0 = .ok (.iload_n 1, 1) := by decide +kernel
theorem dX11_goBack_1 : decode cX11_goBack 1 = .ok (.i2l, 1) := by decide +kernel
theorem dX11_goBack_2 : decode cX11_goBack 2 = .ok (.lconst 0, 1) := by decide +kernel
theorem dX11_goBack_3 : decode cX11_goBack 3 = .ok (.lconst 1, 1) := by decide +kernel
theorem dX11_goBack_4 : decode cX11_goBack 4 = .ok (.invokestatic 127, 3) := by decide +kernel
theorem dX11_goBack_7 : decode cX11_goBack 7 = .ok (.ifCond .ne 6, 3) := by decide +kernel
theorem dX11_goBack_10 : decode cX11_goBack 10 = .ok (.ldc 248, 2) := by decide +kernel
theorem dX11_goBack_12 : decode cX11_goBack 12 = .ok (.ireturn, 1) := by decide +kernel
theorem dX11_goBack_13 : decode cX11_goBack 13 = .ok (.aload_n 0, 1) := by decide +kernel
theorem dX11_goBack_14 : decode cX11_goBack 14 = .ok (.getfield 121, 3) := by decide +kernel
theorem dX11_goBack_17 : decode cX11_goBack 17 = .ok (.iload_n 1, 1) := by decide +kernel
theorem dX11_goBack_18 : decode cX11_goBack 18 = .ok (.baload, 1) := by decide +kernel
theorem dX11_goBack_19 : decode cX11_goBack 19 = .ok (.ifCond .ne 6, 3) := by decide +kernel
theorem dX11_goBack_22 : decode cX11_goBack 22 = .ok (.ldc 232, 2) := by decide +kernel
theorem dX11_goBack_24 : decode cX11_goBack 24 = .ok (.ireturn, 1) := by decide +kernel
theorem dX11_goBack_25 : decode cX11_goBack 25 = .ok (.bipush 60, 2) := by decide +kernel
theorem dX11_goBack_27 : decode cX11_goBack 27 = .ok (.iload_n 1, 1) := by decide +kernel
theorem dX11_goBack_28 : decode cX11_goBack 28 = .ok (.imul, 1) := by decide +kernel
theorem dX11_goBack_29 : decode cX11_goBack 29 = .ok (.istore_n 2, 1) := by decide +kernel
theorem dX11_goBack_30 : decode cX11_goBack 30 = .ok (.aload_n 0, 1) := by decide +kernel
theorem dX11_goBack_31 : decode cX11_goBack 31 = .ok (.aload_n 0, 1) := by decide +kernel
theorem dX11_goBack_32 : decode cX11_goBack 32 = .ok (.getfield 112, 3) := by decide +kernel
theorem dX11_goBack_35 : decode cX11_goBack 35 = .ok (.iload_n 2, 1) := by decide +kernel
theorem dX11_goBack_36 : decode cX11_goBack 36 = .ok (.iaload, 1) := by decide +kernel
theorem dX11_goBack_37 : decode cX11_goBack 37 = .ok (.putfield 223, 3) := by decide +kernel
theorem dX11_goBack_40 : decode cX11_goBack 40 = .ok (.aload_n 0, 1) := by decide +kernel
theorem dX11_goBack_41 : decode cX11_goBack 41 = .ok (.aload_n 0, 1) := by decide +kernel
theorem dX11_goBack_42 : decode cX11_goBack 42 = .ok (.getfield 112, 3) := by decide +kernel
theorem dX11_goBack_45 : decode cX11_goBack 45 = .ok (.iload_n 2, 1) := by decide +kernel
theorem dX11_goBack_46 : decode cX11_goBack 46 = .ok (.iconst 1, 1) := by decide +kernel
theorem dX11_goBack_47 : decode cX11_goBack 47 = .ok (.iadd, 1) := by decide +kernel
theorem dX11_goBack_48 : decode cX11_goBack 48 = .ok (.iaload, 1) := by decide +kernel
theorem dX11_goBack_49 : decode cX11_goBack 49 = .ok (.putfield 226, 3) := by decide +kernel
theorem dX11_goBack_52 : decode cX11_goBack 52 = .ok (.aload_n 0, 1) := by decide +kernel
theorem dX11_goBack_53 : decode cX11_goBack 53 = .ok (.aload_n 0, 1) := by decide +kernel
theorem dX11_goBack_54 : decode cX11_goBack 54 = .ok (.getfield 112, 3) := by decide +kernel
theorem dX11_goBack_57 : decode cX11_goBack 57 = .ok (.iload_n 2, 1) := by decide +kernel
theorem dX11_goBack_58 : decode cX11_goBack 58 = .ok (.iconst 2, 1) := by decide +kernel
theorem dX11_goBack_59 : decode cX11_goBack 59 = .ok (.iadd, 1) := by decide +kernel
theorem dX11_goBack_60 : decode cX11_goBack 60 = .ok (.iaload, 1) := by decide +kernel
theorem dX11_goBack_61 : decode cX11_goBack 61 = .ok (.putfield 286, 3) := by decide +kernel
theorem dX11_goBack_64 : decode cX11_goBack 64 = .ok (.iconst 0, 1) := by decide +kernel
theorem dX11_goBack_65 : decode cX11_goBack 65 = .ok (.istore_n 3, 1) := by decide +kernel
theorem dX11_goBack_66 : decode cX11_goBack 66 = .ok (.iload_n 3, 1) := by decide +kernel
theorem dX11_goBack_67 : decode cX11_goBack 67 = .ok (.bipush 12, 2) := by decide +kernel
theorem dX11_goBack_69 : decode cX11_goBack 69 = .ok (.if_icmp .ge 68, 3) := by decide +kernel
theorem dX11_goBack_72 : decode cX11_goBack 72 = .ok (.aload_n 0, 1) := by decide +kernel
theorem dX11_goBack_73 : decode cX11_goBack 73 = .ok (.getfield 31, 3) := by decide +kernel
theorem dX11_goBack_76 : decode cX11_goBack 76 = .ok (.iload_n 3, 1) := by decide +kernel
theorem dX11_goBack_77 : decode cX11_goBack 77 = .ok (.aload_n 0, 1) := by decide +kernel
theorem dX11_goBack_78 : decode cX11_goBack 78 = .ok (.getfield 112, 3) := by decide +kernel
theorem dX11_goBack_81 : decode cX11_goBack 81 = .ok (.iload_n 2, 1) := by decide +kernel
theorem dX11_goBack_82 : decode cX11_goBack 82 = .ok (.iconst 3, 1) := by decide +kernel
theorem dX11_goBack_83 : decode cX11_goBack 83 = .ok (.iadd, 1) := by decide +kernel
theorem dX11_goBack_84 : decode cX11_goBack 84 = .ok (.iload_n 3, 1) := by decide +kernel
theorem dX11_goBack_85 : decode cX11_goBack 85 = .ok (.iadd, 1) := by decide +kernel
theorem dX11_goBack_86 : decode cX11_goBack 86 = .ok (.iaload, 1) := by decide +kernel
theorem dX11_goBack_87 : decode cX11_goBack 87 = .ok (.iastore, 1) := by decide +kernel
theorem dX11_goBack_88 : decode cX11_goBack 88 = .ok (.aload_n 0, 1) := by decide +kernel
theorem dX11_goBack_89 : decode cX11_goBack 89 = .ok (.getfield 34, 3) := by decide +kernel
theorem dX11_goBack_92 : decode cX11_goBack 92 = .ok (.iload_n 3, 1) := by decide +kernel
theorem dX11_goBack_93 : decode cX11_goBack 93 = .ok (.aload_n 0, 1) := by decide +kernel
theorem dX11_goBack_94 : decode cX11_goBack 94 = .ok (.getfield 112, 3) := by decide +kernel
theorem dX11_goBack_97 : decode cX11_goBack 97 = .ok (.iload_n 2, 1) := by decide +kernel
theorem dX11_goBack_98 : decode cX11_goBack 98 = .ok (.bipush 15, 2) := by decide +kernel
theorem dX11_goBack_100 : decode cX11_goBack 100 = .ok (.iadd, 1) := by decide +kernel
theorem dX11_goBack_101 : decode cX11_goBack 101 = .ok (.iload_n 3, 1) := by decide +kernel
theorem dX11_goBack_102 : decode cX11_goBack 102 = .ok (.iadd, 1) := by decide +kernel
theorem dX11_goBack_103 : decode cX11_goBack 103 = .ok (.iaload, 1) := by decide +kernel
theorem dX11_goBack_104 : decode cX11_goBack 104 = .ok (.iastore, 1) := by decide +kernel
theorem dX11_goBack_105 : decode cX11_goBack 105 = .ok (.aload_n 0, 1) := by decide +kernel
theorem dX11_goBack_106 : decode cX11_goBack 106 = .ok (.getfield 37, 3) := by decide +kernel
theorem dX11_goBack_109 : decode cX11_goBack 109 = .ok (.iload_n 3, 1) := by decide +kernel
theorem dX11_goBack_110 : decode cX11_goBack 110 = .ok (.aload_n 0, 1) := by decide +kernel
theorem dX11_goBack_111 : decode cX11_goBack 111 = .ok (.getfield 112, 3) := by decide +kernel
theorem dX11_goBack_114 : decode cX11_goBack 114 = .ok (.iload_n 2, 1) := by decide +kernel
theorem dX11_goBack_115 : decode cX11_goBack 115 = .ok (.bipush 27, 2) := by decide +kernel
theorem dX11_goBack_117 : decode cX11_goBack 117 = .ok (.iadd, 1) := by decide +kernel
theorem dX11_goBack_118 : decode cX11_goBack 118 = .ok (.iload_n 3, 1) := by decide +kernel
theorem dX11_goBack_119 : decode cX11_goBack 119 = .ok (.iadd, 1) := by decide +kernel
theorem dX11_goBack_120 : decode cX11_goBack 120 = .ok (.iaload, 1) := by decide +kernel
theorem dX11_goBack_121 : decode cX11_goBack 121 = .ok (.iconst 1, 1) := by decide +kernel
theorem dX11_goBack_122 : decode cX11_goBack 122 = .ok (.if_icmp .ne 7, 3) := by decide +kernel
theorem dX11_goBack_125 : decode cX11_goBack 125 = .ok (.iconst 1, 1) := by decide +kernel
theorem dX11_goBack_126 : decode cX11_goBack 126 = .ok (.goto 4, 3) := by decide +kernel
theorem dX11_goBack_129 : decode cX11_goBack 129 = .ok (.iconst 0, 1) := by decide +kernel
theorem dX11_goBack_130 : decode cX11_goBack 130 = .ok (.bastore, 1) := by decide +kernel
theorem dX11_goBack_131 : decode cX11_goBack 131 = .ok (.iinc 3 1, 3) := by decide +kernel
theorem dX11_goBack_134 : decode cX11_goBack 134 = .ok (.goto (-68), 3) := by decide +kernel
theorem dX11_goBack_137 : decode cX11_goBack 137 = .ok (.iconst 0, 1) := by decide +kernel
theorem dX11_goBack_138 : decode cX11_goBack 138 = .ok (.istore_n 3, 1) := by decide +kernel
theorem dX11_goBack_139 : decode cX11_goBack 139 = .ok (.iload_n 3, 1) := by decide +kernel
theorem dX11_goBack_140 : decode cX11_goBack 140 = .ok (.bipush 6, 2) := by decide +kernel
theorem dX11_goBack_142 : decode cX11_goBack 142 = .ok (.if_icmp .ge 60, 3) := by decide +kernel
theorem dX11_goBack_145 : decode cX11_goBack 145 = .ok (.aload_n 0, 1) := by decide +kernel
theorem dX11_goBack_146 : decode cX11_goBack 146 = .ok (.getfield 41, 3) := by decide +kernel
theorem dX11_goBack_149 : decode cX11_goBack 149 = .ok (.iload_n 3, 1) := by decide +kernel
theorem dX11_goBack_150 : decode cX11_goBack 150 = .ok (.aload_n 0, 1) := by decide +kernel
theorem dX11_goBack_151 : decode cX11_goBack 151 = .ok (.getfield 112, 3) := by decide +kernel
theorem dX11_goBack_154 : decode cX11_goBack 154 = .ok (.iload_n 2, 1) := by decide +kernel
theorem dX11_goBack_155 : decode cX11_goBack 155 = .ok (.bipush 39, 2) := by decide +kernel
theorem dX11_goBack_157 : decode cX11_goBack 157 = .ok (.iadd, 1) := by decide +kernel
theorem dX11_goBack_158 : decode cX11_goBack 158 = .ok (.iload_n 3, 1) := by decide +kernel
theorem dX11_goBack_159 : decode cX11_goBack 159 = .ok (.iadd, 1) := by decide +kernel
theorem dX11_goBack_160 : decode cX11_goBack 160 = .ok (.iaload, 1) := by decide +kernel
theorem dX11_goBack_161 : decode cX11_goBack 161 = .ok (.iastore, 1) := by decide +kernel
theorem dX11_goBack_162 : decode cX11_goBack 162 = .ok (.aload_n 0, 1) := by decide +kernel
theorem dX11_goBack_163 : decode cX11_goBack 163 = .ok (.getfield 44, 3) := by decide +kernel
theorem dX11_goBack_166 : decode cX11_goBack 166 = .ok (.iload_n 3, 1) := by decide +kernel
theorem dX11_goBack_167 : decode cX11_goBack 167 = .ok (.aload_n 0, 1) := by decide +kernel
theorem dX11_goBack_168 : decode cX11_goBack 168 = .ok (.getfield 112, 3) := by decide +kernel
theorem dX11_goBack_171 : decode cX11_goBack 171 = .ok (.iload_n 2, 1) := by decide +kernel
theorem dX11_goBack_172 : decode cX11_goBack 172 = .ok (.bipush 45, 2) := by decide +kernel
theorem dX11_goBack_174 : decode cX11_goBack 174 = .ok (.iadd, 1) := by decide +kernel
theorem dX11_goBack_175 : decode cX11_goBack 175 = .ok (.iload_n 3, 1) := by decide +kernel
theorem dX11_goBack_176 : decode cX11_goBack 176 = .ok (.iadd, 1) := by decide +kernel
theorem dX11_goBack_177 : decode cX11_goBack 177 = .ok (.iaload, 1) := by decide +kernel
theorem dX11_goBack_178 : decode cX11_goBack 178 = .ok (.iastore, 1) := by decide +kernel
theorem dX11_goBack_179 : decode cX11_goBack 179 = .ok (.aload_n 0, 1) := by decide +kernel
theorem dX11_goBack_180 : decode cX11_goBack 180 = .ok (.getfield 47, 3) := by decide +kernel
theorem dX11_goBack_183 : decode cX11_goBack 183 = .ok (.iload_n 3, 1) := by decide +kernel
theorem dX11_goBack_184 : decode cX11_goBack 184 = .ok (.aload_n 0, 1) := by decide +kernel
theorem dX11_goBack_185 : decode cX11_goBack 185 = .ok (.getfield 112, 3) := by decide +kernel
theorem dX11_goBack_188 : decode cX11_goBack 188 = .ok (.iload_n 2, 1) := by decide +kernel
theorem dX11_goBack_189 : decode cX11_goBack 189 = .ok (.bipush 51, 2) := by decide +kernel
theorem dX11_goBack_191 : decode cX11_goBack 191 = .ok (.iadd, 1) := by decide +kernel
theorem dX11_goBack_192 : decode cX11_goBack 192 = .ok (.iload_n 3, 1) := by decide +kernel
theorem dX11_goBack_193 : decode cX11_goBack 193 = .ok (.iadd, 1) := by decide +kernel
theorem dX11_goBack_194 : decode cX11_goBack 194 = .ok (.iaload, 1) := by decide +kernel
theorem dX11_goBack_195 : decode cX11_goBack 195 = .ok (.iastore, 1) := by decide +kernel
theorem dX11_goBack_196 : decode cX11_goBack 196 = .ok (.iinc 3 1, 3) := by decide +kernel
theorem dX11_goBack_199 : decode cX11_goBack 199 = .ok (.goto (-60), 3) := by decide +kernel
theorem dX11_goBack_202 : decode cX11_goBack 202 = .ok (.iconst 0, 1) := by decide +kernel
theorem dX11_goBack_203 : decode cX11_goBack 203 = .ok (.istore_n 3, 1) := by decide +kernel
theorem dX11_goBack_204 : decode cX11_goBack 204 = .ok (.iload_n 3, 1) := by decide +kernel
theorem dX11_goBack_205 : decode cX11_goBack 205 = .ok (.sipush 2400, 3) := by decide +kernel
theorem dX11_goBack_208 : decode cX11_goBack 208 = .ok (.if_icmp .ge 45, 3) := by decide +kernel
theorem dX11_goBack_211 : decode cX11_goBack 211 = .ok (.aload_n 0, 1) := by decide +kernel
theorem dX11_goBack_212 : decode cX11_goBack 212 = .ok (.getfield 50, 3) := by decide +kernel
theorem dX11_goBack_215 : decode cX11_goBack 215 = .ok (.iload_n 3, 1) := by decide +kernel
theorem dX11_goBack_216 : decode cX11_goBack 216 = .ok (.aload_n 0, 1) := by decide +kernel
theorem dX11_goBack_217 : decode cX11_goBack 217 = .ok (.getfield 115, 3) := by decide +kernel
theorem dX11_goBack_220 : decode cX11_goBack 220 = .ok (.sipush 2400, 3) := by decide +kernel
theorem dX11_goBack_223 : decode cX11_goBack 223 = .ok (.iload_n 1, 1) := by decide +kernel
theorem dX11_goBack_224 : decode cX11_goBack 224 = .ok (.imul, 1) := by decide +kernel
theorem dX11_goBack_225 : decode cX11_goBack 225 = .ok (.iload_n 3, 1) := by decide +kernel
theorem dX11_goBack_226 : decode cX11_goBack 226 = .ok (.iadd, 1) := by decide +kernel
theorem dX11_goBack_227 : decode cX11_goBack 227 = .ok (.iaload, 1) := by decide +kernel
theorem dX11_goBack_228 : decode cX11_goBack 228 = .ok (.iastore, 1) := by decide +kernel
theorem dX11_goBack_229 : decode cX11_goBack 229 = .ok (.aload_n 0, 1) := by decide +kernel
theorem dX11_goBack_230 : decode cX11_goBack 230 = .ok (.getfield 53, 3) := by decide +kernel
theorem dX11_goBack_233 : decode cX11_goBack 233 = .ok (.iload_n 3, 1) := by decide +kernel
theorem dX11_goBack_234 : decode cX11_goBack 234 = .ok (.aload_n 0, 1) := by decide +kernel
theorem dX11_goBack_235 : decode cX11_goBack 235 = .ok (.getfield 118, 3) := by decide +kernel
theorem dX11_goBack_238 : decode cX11_goBack 238 = .ok (.sipush 2400, 3) := by decide +kernel
theorem dX11_goBack_241 : decode cX11_goBack 241 = .ok (.iload_n 1, 1) := by decide +kernel
theorem dX11_goBack_242 : decode cX11_goBack 242 = .ok (.imul, 1) := by decide +kernel
theorem dX11_goBack_243 : decode cX11_goBack 243 = .ok (.iload_n 3, 1) := by decide +kernel
theorem dX11_goBack_244 : decode cX11_goBack 244 = .ok (.iadd, 1) := by decide +kernel
theorem dX11_goBack_245 : decode cX11_goBack 245 = .ok (.iaload, 1) := by decide +kernel
theorem dX11_goBack_246 : decode cX11_goBack 246 = .ok (.iastore, 1) := by decide +kernel
theorem dX11_goBack_247 : decode cX11_goBack 247 = .ok (.iinc 3 1, 3) := by decide +kernel
theorem dX11_goBack_250 : decode cX11_goBack 250 = .ok (.goto (-46), 3) := by decide +kernel
theorem dX11_goBack_253 : decode cX11_goBack 253 = .ok (.iconst 1, 1) := by decide +kernel
theorem dX11_goBack_254 : decode cX11_goBack 254 = .ok (.ireturn, 1) := by decide +kernel
end
section
theorem dX0_init_0 : decode cX0_init 0 = .ok (.aload_n 0, 1) := by decide +kernel
theorem dX0_init_1 : decode cX0_init 1 = .ok (.invokespecial 3, 3) := by decide +kernel
theorem dX0_init_4 : decode cX0_init 4 = .ok (.aload_n 0, 1) := by decide +kernel
theorem dX0_init_5 : decode cX0_init 5 = .ok (.bipush 6, 2) := by decide +kernel
theorem dX0_init_7 : decode cX0_init 7 = .ok (.newarray .int, 2) := by decide +kernel
theorem dX0_init_9 : decode cX0_init 9 = .ok (.putfield 9, 3) := by decide +kernel
theorem dX0_init_12 : decode cX0_init 12 = .ok (.aload_n 0, 1) := by decide +kernel
theorem dX0_init_13 : decode cX0_init 13 = .ok (.bipush 6, 2) := by decide +kernel
theorem dX0_init_15 : decode cX0_init 15 = .ok (.bipush 60, 2) := by decide +kernel
theorem dX0_init_17 : decode cX0_init 17 = .ok (.multianewarray 15 2, 4) := by decide +kernel
theorem dX0_init_21 : decode cX0_init 21 = .ok (.putfield 17, 3) := by decide +kernel
theorem dX0_init_24 : decode cX0_init 24 = .ok (.return_, 1) := by decide +kernel
theorem dX0_tearAll_0 : decode cX0_tearAll 0 = .ok (.aload_n 0, 1) := by decide +kernel
theorem dX0_tearAll_1 : decode cX0_tearAll 1 = .ok (.getfield 9, 3) := by decide +kernel
theorem dX0_tearAll_4 : decode cX0_tearAll 4 = .ok (.iconst 0, 1) := by decide +kernel
theorem dX0_tearAll_5 : decode cX0_tearAll 5 = .ok (.invokestatic 20, 3) := by decide +kernel
theorem dX0_tearAll_8 : decode cX0_tearAll 8 = .ok (.return_, 1) := by decide +kernel
theorem dX0_append_0 : decode cX0_append 0 = .ok (.iload_n 1, 1) := by decide +kernel
theorem dX0_append_1 : decode cX0_append 1 = .ok (.ifCond .lt 29, 3) := by decide +kernel
theorem dX0_append_4 : decode cX0_append 4 = .ok (.iload_n 1, 1) := by decide +kernel
theorem dX0_append_5 : decode cX0_append 5 = .ok (.bipush 6, 2) := by decide +kernel
theorem dX0_append_7 : decode cX0_append 7 = .ok (.if_icmp .ge 23, 3) := by decide +kernel
theorem dX0_append_10 : decode cX0_append 10 = .ok (.aload_n 0, 1) := by decide +kernel
theorem dX0_append_11 : decode cX0_append 11 = .ok (.getfield 9, 3) := by decide +kernel
theorem dX0_append_14 : decode cX0_append 14 = .ok (.iload_n 1, 1) := by decide +kernel
theorem dX0_append_15 : decode cX0_append 15 = .ok (.iaload, 1) := by decide +kernel
theorem dX0_append_16 : decode cX0_append 16 = .ok (.ifCond .lt 14, 3) := by decide +kernel
theorem dX0_append_19 : decode cX0_append 19 = .ok (.aload_n 0, 1) := by decide +kernel
theorem dX0_append_20 : decode cX0_append 20 = .ok (.getfield 9, 3) := by decide +kernel
theorem dX0_append_23 : decode cX0_append 23 = .ok (.iload_n 1, 1) := by decide +kernel
theorem dX0_append_24 : decode cX0_append 24 = .ok (.iaload, 1) := by decide +kernel
theorem dX0_append_25 : decode cX0_append 25 = .ok (.bipush 60, 2) := by decide +kernel
theorem dX0_append_27 : decode cX0_append 27 = .ok (.if_icmp .lt 6, 3) := by decide +kernel
theorem dX0_append_30 : decode cX0_append 30 = .ok (.ldc 26, 2) := by decide +kernel
theorem dX0_append_32 : decode cX0_append 32 = .ok (.ireturn, 1) := by decide +kernel
theorem dX0_append_33 : decode cX0_append 33 = .ok (.aload_n 0, 1) := by decide +kernel
theorem dX0_append_34 : decode cX0_append 34 = .ok (.getfield 17, 3) := by decide +kernel
theorem dX0_append_37 : decode cX0_append 37 = .ok (.iload_n 1, 1) := by decide +kernel
theorem dX0_append_38 : decode cX0_append 38 = .ok (.aaload, 1) := by decide +kernel
theorem dX0_append_39 : decode cX0_append 39 = .ok (.aload_n 0, 1) := by decide +kernel
theorem dX0_append_40 : decode cX0_append 40 = .ok (.getfield 9, 3) := by decide +kernel
theorem dX0_append_43 : decode cX0_append 43 = .ok (.iload_n 1, 1) := by decide +kernel
theorem dX0_append_44 : decode cX0_append 44 = .ok (.iaload, 1) := by decide +kernel
theorem dX0_append_45 : decode cX0_append 45 = .ok (.iload_n 2, 1) := by decide +kernel
theorem dX0_append_46 : decode cX0_append 46 = .ok (.iastore, 1) := by decide +kernel
theorem dX0_append_47 : decode cX0_append 47 = .ok (.aload_n 0, 1) := by decide +kernel
theorem dX0_append_48 : decode cX0_append 48 = .ok (.getfield 9, 3) := by decide +kernel
theorem dX0_append_51 : decode cX0_append 51 = .ok (.iload_n 1, 1) := by decide +kernel
theorem dX0_append_52 : decode cX0_append 52 = .ok (.dup2, 1) := by decide +kernel
theorem dX0_append_53 : decode cX0_append 53 = .ok (.iaload, 1) := by decide +kernel
theorem dX0_append_54 : decode cX0_append 54 = .ok (.iconst 1, 1) := by decide +kernel
theorem dX0_append_55 : decode cX0_append 55 = .ok (.iadd, 1) := by decide +kernel
theorem dX0_append_56 : decode cX0_append 56 = .ok (.iastore, 1) := by decide +kernel
theorem dX0_append_57 : decode cX0_append 57 = .ok (.aload_n 0, 1) := by decide +kernel
theorem dX0_append_58 : decode cX0_append 58 = .ok (.getfield 9, 3) := by decide +kernel
theorem dX0_append_61 : decode cX0_append 61 = .ok (.iload_n 1, 1) := by decide +kernel
theorem dX0_append_62 : decode cX0_append 62 = .ok (.iaload, 1) := by decide +kernel
theorem dX0_append_63 : decode cX0_append 63 = .ok (.ireturn, 1) := by decide +kernel
theorem dX0_firstWrong_0 : decode cX0_firstWrong 0 = .ok (.iload_n 1, 1) := by decide +kernel
theorem dX0_firstWrong_1 : decode cX0_firstWrong 1 = .ok (.ifCond .lt 9, 3) := by decide +kernel
theorem dX0_firstWrong_4 : decode cX0_firstWrong 4 = .ok (.iload_n 1, 1) := by decide +kernel
theorem dX0_firstWrong_5 : decode cX0_firstWrong 5 = .ok (.bipush 6, 2) := by decide +kernel
theorem dX0_firstWrong_7 : decode cX0_firstWrong 7 = .ok (.if_icmp .lt 5, 3) := by decide +kernel
theorem dX0_firstWrong_10 : decode cX0_firstWrong 10 = .ok (.iconst (-1), 1) := by decide +kernel
theorem dX0_firstWrong_11 : decode cX0_firstWrong 11 = .ok (.ireturn, 1) := by decide +kernel
theorem dX0_firstWrong_12 : decode cX0_firstWrong 12 = .ok (.iconst 0, 1) := by decide +kernel
theorem dX0_firstWrong_13 : decode cX0_firstWrong 13 = .ok (.istore_n 3, 1) := by decide +kernel
theorem dX0_firstWrong_14 : decode cX0_firstWrong 14 = .ok (.iload_n 3, 1) := by decide +kernel
theorem dX0_firstWrong_15 : decode cX0_firstWrong 15 = .ok (.aload_n 0, 1) := by decide +kernel
theorem dX0_firstWrong_16 : decode cX0_firstWrong 16 = .ok (.getfield 9, 3) := by decide +kernel
theorem dX0_firstWrong_19 : decode cX0_firstWrong 19 = .ok (.iload_n 1, 1) := by decide +kernel
theorem dX0_firstWrong_20 : decode cX0_firstWrong 20 = .ok (.iaload, 1) := by decide +kernel
theorem dX0_firstWrong_21 : decode cX0_firstWrong 21 = .ok (.if_icmp .ge 44, 3) := by decide +kernel
theorem dX0_firstWrong_24 : decode cX0_firstWrong 24 = .ok (.iload_n 3, 1) := by decide +kernel
theorem dX0_firstWrong_25 : decode cX0_firstWrong 25 = .ok (.bipush 60, 2) := by decide +kernel
theorem dX0_firstWrong_27 : decode cX0_firstWrong 27 = .ok (.if_icmp .ge 38, 3) := by decide +kernel
theorem dX0_firstWrong_30 : decode cX0_firstWrong 30 = .ok (.iload_n 3, 1) := by decide +kernel
theorem dX0_firstWrong_31 : decode cX0_firstWrong 31 = .ok (.aload_n 2, 1) := by decide +kernel
theorem dX0_firstWrong_32 : decode cX0_firstWrong 32 = .ok (.getfield 27, 3) := by decide +kernel
theorem dX0_firstWrong_35 : decode cX0_firstWrong 35 = .ok (.if_icmp .ge 30, 3) := by decide +kernel
theorem dX0_firstWrong_38 : decode cX0_firstWrong 38 = .ok (.aload_n 0, 1) := by decide +kernel
theorem dX0_firstWrong_39 : decode cX0_firstWrong 39 = .ok (.getfield 17, 3) := by decide +kernel
theorem dX0_firstWrong_42 : decode cX0_firstWrong 42 = .ok (.iload_n 1, 1) := by decide +kernel
theorem dX0_firstWrong_43 : decode cX0_firstWrong 43 = .ok (.aaload, 1) := by decide +kernel
theorem dX0_firstWrong_44 : decode cX0_firstWrong 44 = .ok (.iload_n 3, 1) := by decide +kernel
theorem dX0_firstWrong_45 : decode cX0_firstWrong 45 = .ok (.iaload, 1) := by decide +kernel
theorem dX0_firstWrong_46 : decode cX0_firstWrong 46 = .ok (.aload_n 2, 1) := by decide +kernel
theorem dX0_firstWrong_47 : decode cX0_firstWrong 47 = .ok (.getfield 33, 3) := by decide +kernel
theorem dX0_firstWrong_50 : decode cX0_firstWrong 50 = .ok (.iload_n 1, 1) := by decide +kernel
theorem dX0_firstWrong_51 : decode cX0_firstWrong 51 = .ok (.aaload, 1) := by decide +kernel
theorem dX0_firstWrong_52 : decode cX0_firstWrong 52 = .ok (.iload_n 3, 1) := by decide +kernel
theorem dX0_firstWrong_53 : decode cX0_firstWrong 53 = .ok (.iaload, 1) := by decide +kernel
theorem dX0_firstWrong_54 : decode cX0_firstWrong 54 = .ok (.if_icmp .eq 5, 3) := by decide +kernel
theorem dX0_firstWrong_57 : decode cX0_firstWrong 57 = .ok (.iload_n 3, 1) := by decide +kernel
theorem dX0_firstWrong_58 : decode cX0_firstWrong 58 = .ok (.ireturn, 1) := by decide +kernel
theorem dX0_firstWrong_59 : decode cX0_firstWrong 59 = .ok (.iinc 3 1, 3) := by decide +kernel
theorem dX0_firstWrong_62 : decode cX0_firstWrong 62 = .ok (.goto (-48), 3) := by decide +kernel
theorem dX0_firstWrong_65 : decode cX0_firstWrong 65 = .ok (.iconst (-1), 1) := by decide +kernel
theorem dX0_firstWrong_66 : decode cX0_firstWrong 66 = .ok (.ireturn, 1) := by decide +kernel
theorem dX1_init_0 : decode cX1_init 0 = .ok (.aload_n 0, 1) := by decide +kernel
theorem dX1_init_1 : decode cX1_init 1 = .ok (.invokespecial 3, 3) := by decide +kernel
theorem dX1_init_4 : decode cX1_init 4 = .ok (.aload_n 0, 1) := by decide +kernel
theorem dX1_init_5 : decode cX1_init 5 = .ok (.bipush 6, 2) := by decide +kernel
theorem dX1_init_7 : decode cX1_init 7 = .ok (.newarray .int, 2) := by decide +kernel
theorem dX1_init_9 : decode cX1_init 9 = .ok (.putfield 9, 3) := by decide +kernel
theorem dX1_init_12 : decode cX1_init 12 = .ok (.aload_n 0, 1) := by decide +kernel
theorem dX1_init_13 : decode cX1_init 13 = .ok (.bipush 6, 2) := by decide +kernel
theorem dX1_init_15 : decode cX1_init 15 = .ok (.bipush 31, 2) := by decide +kernel
theorem dX1_init_17 : decode cX1_init 17 = .ok (.multianewarray 15 2, 4) := by decide +kernel
theorem dX1_init_21 : decode cX1_init 21 = .ok (.putfield 17, 3) := by decide +kernel
theorem dX1_init_24 : decode cX1_init 24 = .ok (.aload_n 0, 1) := by decide +kernel
theorem dX1_init_25 : decode cX1_init 25 = .ok (.bipush 31, 2) := by decide +kernel
theorem dX1_init_27 : decode cX1_init 27 = .ok (.newarray .int, 2) := by decide +kernel
theorem dX1_init_29 : decode cX1_init 29 = .ok (.putfield 20, 3) := by decide +kernel
theorem dX1_init_32 : decode cX1_init 32 = .ok (.aload_n 0, 1) := by decide +kernel
theorem dX1_init_33 : decode cX1_init 33 = .ok (.bipush 64, 2) := by decide +kernel
theorem dX1_init_35 : decode cX1_init 35 = .ok (.newarray .long, 2) := by decide +kernel
theorem dX1_init_37 : decode cX1_init 37 = .ok (.putfield 23, 3) := by decide +kernel
theorem dX1_init_40 : decode cX1_init 40 = .ok (.aload_n 0, 1) := by decide +kernel
theorem dX1_init_41 : decode cX1_init 41 = .ok (.bipush 64, 2) := by decide +kernel
theorem dX1_init_43 : decode cX1_init 43 = .ok (.newarray .long, 2) := by decide +kernel
theorem dX1_init_45 : decode cX1_init 45 = .ok (.putfield 27, 3) := by decide +kernel
theorem dX1_init_48 : decode cX1_init 48 = .ok (.aload_n 0, 1) := by decide +kernel
theorem dX1_init_49 : decode cX1_init 49 = .ok (.bipush 64, 2) := by decide +kernel
theorem dX1_init_51 : decode cX1_init 51 = .ok (.newarray .boolean, 2) := by decide +kernel
theorem dX1_init_53 : decode cX1_init 53 = .ok (.putfield 30, 3) := by decide +kernel
theorem dX1_init_56 : decode cX1_init 56 = .ok (.aload_n 0, 1) := by decide +kernel
theorem dX1_init_57 : decode cX1_init 57 = .ok (.bipush 6, 2) := by decide +kernel
theorem dX1_init_59 : decode cX1_init 59 = .ok (.newarray .int, 2) := by decide +kernel
theorem dX1_init_61 : decode cX1_init 61 = .ok (.putfield 34, 3) := by decide +kernel
theorem dX1_init_64 : decode cX1_init 64 = .ok (.aload_n 0, 1) := by decide +kernel
theorem dX1_init_65 : decode cX1_init 65 = .ok (.aload_n 1, 1) := by decide +kernel
theorem dX1_init_66 : decode cX1_init 66 = .ok (.putfield 37, 3) := by decide +kernel
theorem dX1_init_69 : decode cX1_init 69 = .ok (.return_, 1) := by decide +kernel
theorem dX1_mostOn_0 : decode cX1_mostOn 0 = .ok (.aload_n 0, 1) := by decide +kernel
theorem dX1_mostOn_1 : decode cX1_mostOn 1 = .ok (.iload_n 1, 1) := by decide +kernel
theorem dX1_mostOn_2 : decode cX1_mostOn 2 = .ok (.invokevirtual 41, 3) := by decide +kernel
theorem dX1_mostOn_5 : decode cX1_mostOn 5 = .ok (.aload_n 0, 1) := by decide +kernel
theorem dX1_mostOn_6 : decode cX1_mostOn 6 = .ok (.invokevirtual 45, 3) := by decide +kernel
theorem dX1_mostOn_9 : decode cX1_mostOn 9 = .ok (.iconst 0, 1) := by decide +kernel
theorem dX1_mostOn_10 : decode cX1_mostOn 10 = .ok (.istore_n 3, 1) := by decide +kernel
theorem dX1_mostOn_11 : decode cX1_mostOn 11 = .ok (.iload_n 3, 1) := by decide +kernel
theorem dX1_mostOn_12 : decode cX1_mostOn 12 = .ok (.iload_n 2, 1) := by decide +kernel
theorem dX1_mostOn_13 : decode cX1_mostOn 13 = .ok (.if_icmp .gt 26, 3) := by decide +kernel
theorem dX1_mostOn_16 : decode cX1_mostOn 16 = .ok (.iload_n 3, 1) := by decide +kernel
theorem dX1_mostOn_17 : decode cX1_mostOn 17 = .ok (.aload_n 0, 1) := by decide +kernel
theorem dX1_mostOn_18 : decode cX1_mostOn 18 = .ok (.getfield 48, 3) := by decide +kernel
theorem dX1_mostOn_21 : decode cX1_mostOn 21 = .ok (.if_icmp .gt 18, 3) := by decide +kernel
theorem dX1_mostOn_24 : decode cX1_mostOn 24 = .ok (.aload_n 0, 1) := by decide +kernel
theorem dX1_mostOn_25 : decode cX1_mostOn 25 = .ok (.iload_n 3, 1) := by decide +kernel
theorem dX1_mostOn_26 : decode cX1_mostOn 26 = .ok (.aload_n 0, 1) := by decide +kernel
theorem dX1_mostOn_27 : decode cX1_mostOn 27 = .ok (.invokevirtual 52, 3) := by decide +kernel
theorem dX1_mostOn_30 : decode cX1_mostOn 30 = .ok (.invokevirtual 56, 3) := by decide +kernel
theorem dX1_mostOn_33 : decode cX1_mostOn 33 = .ok (.iinc 3 1, 3) := by decide +kernel
theorem dX1_mostOn_36 : decode cX1_mostOn 36 = .ok (.goto (-25), 3) := by decide +kernel
theorem dX1_mostOn_39 : decode cX1_mostOn 39 = .ok (.aload_n 0, 1) := by decide +kernel
theorem dX1_mostOn_40 : decode cX1_mostOn 40 = .ok (.invokevirtual 60, 3) := by decide +kernel
theorem dX1_mostOn_43 : decode cX1_mostOn 43 = .ok (.iload_n 2, 1) := by decide +kernel
theorem dX1_mostOn_44 : decode cX1_mostOn 44 = .ok (.lshr, 1) := by decide +kernel
theorem dX1_mostOn_45 : decode cX1_mostOn 45 = .ok (.l2i, 1) := by decide +kernel
theorem dX1_mostOn_46 : decode cX1_mostOn 46 = .ok (.ireturn, 1) := by decide +kernel
theorem dX1_soonestOf_0 : decode cX1_soonestOf 0 = .ok (.aload_n 0, 1) := by decide +kernel
theorem dX1_soonestOf_1 : decode cX1_soonestOf 1 = .ok (.getfield 37, 3) := by decide +kernel
theorem dX1_soonestOf_4 : decode cX1_soonestOf 4 = .ok (.iload_n 1, 1) := by decide +kernel
theorem dX1_soonestOf_5 : decode cX1_soonestOf 5 = .ok (.invokevirtual 64, 3) := by decide +kernel
theorem dX1_soonestOf_8 : decode cX1_soonestOf 8 = .ok (.ifCond .ne 5, 3) := by decide +kernel
theorem dX1_soonestOf_11 : decode cX1_soonestOf 11 = .ok (.iconst (-1), 1) := by decide +kernel
theorem dX1_soonestOf_12 : decode cX1_soonestOf 12 = .ok (.ireturn, 1) := by decide +kernel
theorem dX1_soonestOf_13 : decode cX1_soonestOf 13 = .ok (.aload_n 0, 1) := by decide +kernel
theorem dX1_soonestOf_14 : decode cX1_soonestOf 14 = .ok (.iload_n 1, 1) := by decide +kernel
theorem dX1_soonestOf_15 : decode cX1_soonestOf 15 = .ok (.invokevirtual 41, 3) := by decide +kernel
theorem dX1_soonestOf_18 : decode cX1_soonestOf 18 = .ok (.aload_n 0, 1) := by decide +kernel
theorem dX1_soonestOf_19 : decode cX1_soonestOf 19 = .ok (.invokevirtual 45, 3) := by decide +kernel
theorem dX1_soonestOf_22 : decode cX1_soonestOf 22 = .ok (.iconst 0, 1) := by decide +kernel
theorem dX1_soonestOf_23 : decode cX1_soonestOf 23 = .ok (.istore_n 2, 1) := by decide +kernel
theorem dX1_soonestOf_24 : decode cX1_soonestOf 24 = .ok (.iload_n 2, 1) := by decide +kernel
theorem dX1_soonestOf_25 : decode cX1_soonestOf 25 = .ok (.aload_n 0, 1) := by decide +kernel
theorem dX1_soonestOf_26 : decode cX1_soonestOf 26 = .ok (.getfield 48, 3) := by decide +kernel
theorem dX1_soonestOf_29 : decode cX1_soonestOf 29 = .ok (.if_icmp .gt 34, 3) := by decide +kernel
theorem dX1_soonestOf_32 : decode cX1_soonestOf 32 = .ok (.aload_n 0, 1) := by decide +kernel
theorem dX1_soonestOf_33 : decode cX1_soonestOf 33 = .ok (.iload_n 2, 1) := by decide +kernel
theorem dX1_soonestOf_34 : decode cX1_soonestOf 34 = .ok (.aload_n 0, 1) := by decide +kernel
theorem dX1_soonestOf_35 : decode cX1_soonestOf 35 = .ok (.invokevirtual 52, 3) := by decide +kernel
theorem dX1_soonestOf_38 : decode cX1_soonestOf 38 = .ok (.invokevirtual 56, 3) := by decide +kernel
theorem dX1_soonestOf_41 : decode cX1_soonestOf 41 = .ok (.aload_n 0, 1) := by decide +kernel
theorem dX1_soonestOf_42 : decode cX1_soonestOf 42 = .ok (.invokevirtual 60, 3) := by decide +kernel
theorem dX1_soonestOf_45 : decode cX1_soonestOf 45 = .ok (.aload_n 0, 1) := by decide +kernel
theorem dX1_soonestOf_46 : decode cX1_soonestOf 46 = .ok (.getfield 70, 3) := by decide +kernel
theorem dX1_soonestOf_49 : decode cX1_soonestOf 49 = .ok (.iload_n 2, 1) := by decide +kernel
theorem dX1_soonestOf_50 : decode cX1_soonestOf 50 = .ok (.lshl, 1) := by decide +kernel
theorem dX1_soonestOf_51 : decode cX1_soonestOf 51 = .ok (.lcmp, 1) := by decide +kernel
theorem dX1_soonestOf_52 : decode cX1_soonestOf 52 = .ok (.ifCond .lt 5, 3) := by decide +kernel
theorem dX1_soonestOf_55 : decode cX1_soonestOf 55 = .ok (.iload_n 2, 1) := by decide +kernel
theorem dX1_soonestOf_56 : decode cX1_soonestOf 56 = .ok (.ireturn, 1) := by decide +kernel
theorem dX1_soonestOf_57 : decode cX1_soonestOf 57 = .ok (.iinc 2 1, 3) := by decide +kernel
theorem dX1_soonestOf_60 : decode cX1_soonestOf 60 = .ok (.goto (-36), 3) := by decide +kernel
theorem dX1_soonestOf_63 : decode cX1_soonestOf 63 = .ok (.iconst (-1), 1) := by decide +kernel
theorem dX1_soonestOf_64 : decode cX1_soonestOf 64 = .ok (.ireturn, 1) := by decide +kernel
theorem dX1_plannedDayOf_0 : decode cX1_plannedDayOf 0 = .ok (.aload_n 0, 1) := by decide +kernel
theorem dX1_plannedDayOf_1 : decode cX1_plannedDayOf 1 = .ok (.iload_n 2, 1) := by decide +kernel
theorem dX1_plannedDayOf_2 : decode cX1_plannedDayOf 2 = .ok (.aload_n 0, 1) := by decide +kernel
theorem dX1_plannedDayOf_3 : decode cX1_plannedDayOf 3 = .ok (.iload_n 2, 1) := by decide +kernel
theorem dX1_plannedDayOf_4 : decode cX1_plannedDayOf 4 = .ok (.invokevirtual 74, 3) := by decide +kernel
theorem dX1_plannedDayOf_7 : decode cX1_plannedDayOf 7 = .ok (.invokevirtual 78, 3) := by decide +kernel
theorem dX1_plannedDayOf_10 : decode cX1_plannedDayOf 10 = .ok (.iconst 0, 1) := by decide +kernel
theorem dX1_plannedDayOf_11 : decode cX1_plannedDayOf 11 = .ok (.istore_n 3, 1) := by decide +kernel
theorem dX1_plannedDayOf_12 : decode cX1_plannedDayOf 12 = .ok (.iload_n 3, 1) := by decide +kernel
theorem dX1_plannedDayOf_13 : decode cX1_plannedDayOf 13 = .ok (.aload_n 0, 1) := by decide +kernel
theorem dX1_plannedDayOf_14 : decode cX1_plannedDayOf 14 = .ok (.getfield 81, 3) := by decide +kernel
theorem dX1_plannedDayOf_17 : decode cX1_plannedDayOf 17 = .ok (.if_icmp .ge 26, 3) := by decide +kernel
theorem dX1_plannedDayOf_20 : decode cX1_plannedDayOf 20 = .ok (.aload_n 0, 1) := by decide +kernel
theorem dX1_plannedDayOf_21 : decode cX1_plannedDayOf 21 = .ok (.getfield 9, 3) := by decide +kernel
theorem dX1_plannedDayOf_24 : decode cX1_plannedDayOf 24 = .ok (.iload_n 3, 1) := by decide +kernel
theorem dX1_plannedDayOf_25 : decode cX1_plannedDayOf 25 = .ok (.iaload, 1) := by decide +kernel
theorem dX1_plannedDayOf_26 : decode cX1_plannedDayOf 26 = .ok (.iload_n 1, 1) := by decide +kernel
theorem dX1_plannedDayOf_27 : decode cX1_plannedDayOf 27 = .ok (.if_icmp .ne 10, 3) := by decide +kernel
theorem dX1_plannedDayOf_30 : decode cX1_plannedDayOf 30 = .ok (.aload_n 0, 1) := by decide +kernel
theorem dX1_plannedDayOf_31 : decode cX1_plannedDayOf 31 = .ok (.getfield 34, 3) := by decide +kernel
theorem dX1_plannedDayOf_34 : decode cX1_plannedDayOf 34 = .ok (.iload_n 3, 1) := by decide +kernel
theorem dX1_plannedDayOf_35 : decode cX1_plannedDayOf 35 = .ok (.iaload, 1) := by decide +kernel
theorem dX1_plannedDayOf_36 : decode cX1_plannedDayOf 36 = .ok (.ireturn, 1) := by decide +kernel
theorem dX1_plannedDayOf_37 : decode cX1_plannedDayOf 37 = .ok (.iinc 3 1, 3) := by decide +kernel
theorem dX1_plannedDayOf_40 : decode cX1_plannedDayOf 40 = .ok (.goto (-28), 3) := by decide +kernel
theorem dX1_plannedDayOf_43 : decode cX1_plannedDayOf 43 = .ok (.iconst (-1), 1) := by decide +kernel
theorem dX1_plannedDayOf_44 : decode cX1_plannedDayOf 44 = .ok (.ireturn, 1) := by decide +kernel
theorem dX1_fewestToStrike_0 : decode cX1_fewestToStrike 0 = .ok (.aload_n 0, 1) := by decide +kernel
theorem dX1_fewestToStrike_1 : decode cX1_fewestToStrike 1 = .ok (.iload_n 1, 1) := by decide +kernel
theorem dX1_fewestToStrike_2 : decode cX1_fewestToStrike 2 = .ok (.invokevirtual 41, 3) := by decide +kernel
theorem dX1_fewestToStrike_5 : decode cX1_fewestToStrike 5 = .ok (.aload_n 0, 1) := by decide +kernel
theorem dX1_fewestToStrike_6 : decode cX1_fewestToStrike 6 = .ok (.invokevirtual 84, 3) := by decide +kernel
theorem dX1_fewestToStrike_9 : decode cX1_fewestToStrike 9 = .ok (.aload_n 0, 1) := by decide +kernel
theorem dX1_fewestToStrike_10 : decode cX1_fewestToStrike 10 = .ok (.getfield 30, 3) := by decide +kernel
theorem dX1_fewestToStrike_13 : decode cX1_fewestToStrike 13 = .ok (.iconst 0, 1) := by decide +kernel
theorem dX1_fewestToStrike_14 : decode cX1_fewestToStrike 14 = .ok (.baload, 1) := by decide +kernel
theorem dX1_fewestToStrike_15 : decode cX1_fewestToStrike 15 = .ok (.ifCond .eq 5, 3) := by decide +kernel
theorem dX1_fewestToStrike_18 : decode cX1_fewestToStrike 18 = .ok (.iconst (-1), 1) := by decide +kernel
theorem dX1_fewestToStrike_19 : decode cX1_fewestToStrike 19 = .ok (.ireturn, 1) := by decide +kernel
theorem dX1_fewestToStrike_20 : decode cX1_fewestToStrike 20 = .ok (.aload_n 0, 1) := by decide +kernel
theorem dX1_fewestToStrike_21 : decode cX1_fewestToStrike 21 = .ok (.invokevirtual 52, 3) := by decide +kernel
theorem dX1_fewestToStrike_24 : decode cX1_fewestToStrike 24 = .ok (.istore_n 2, 1) := by decide +kernel
theorem dX1_fewestToStrike_25 : decode cX1_fewestToStrike 25 = .ok (.iconst 0, 1) := by decide +kernel
theorem dX1_fewestToStrike_26 : decode cX1_fewestToStrike 26 = .ok (.istore_n 3, 1) := by decide +kernel
theorem dX1_fewestToStrike_27 : decode cX1_fewestToStrike 27 = .ok (.iload_n 3, 1) := by decide +kernel
theorem dX1_fewestToStrike_28 : decode cX1_fewestToStrike 28 = .ok (.aload_n 0, 1) := by decide +kernel
theorem dX1_fewestToStrike_29 : decode cX1_fewestToStrike 29 = .ok (.invokevirtual 52, 3) := by decide +kernel
theorem dX1_fewestToStrike_32 : decode cX1_fewestToStrike 32 = .ok (.if_icmp .ge 30, 3) := by decide +kernel
theorem dX1_fewestToStrike_35 : decode cX1_fewestToStrike 35 = .ok (.iload_n 3, 1) := by decide +kernel
theorem dX1_fewestToStrike_36 : decode cX1_fewestToStrike 36 = .ok (.invokestatic 87, 3) := by decide +kernel
theorem dX1_fewestToStrike_39 : decode cX1_fewestToStrike 39 = .ok (.iload_n 2, 1) := by decide +kernel
theorem dX1_fewestToStrike_40 : decode cX1_fewestToStrike 40 = .ok (.invokestatic 87, 3) := by decide +kernel
theorem dX1_fewestToStrike_43 : decode cX1_fewestToStrike 43 = .ok (.if_icmp .ge 13, 3) := by decide +kernel
theorem dX1_fewestToStrike_46 : decode cX1_fewestToStrike 46 = .ok (.aload_n 0, 1) := by decide +kernel
theorem dX1_fewestToStrike_47 : decode cX1_fewestToStrike 47 = .ok (.iload_n 3, 1) := by decide +kernel
theorem dX1_fewestToStrike_48 : decode cX1_fewestToStrike 48 = .ok (.invokevirtual 92, 3) := by decide +kernel
theorem dX1_fewestToStrike_51 : decode cX1_fewestToStrike 51 = .ok (.ifCond .eq 5, 3) := by decide +kernel
theorem dX1_fewestToStrike_54 : decode cX1_fewestToStrike 54 = .ok (.iload_n 3, 1) := by decide +kernel
theorem dX1_fewestToStrike_55 : decode cX1_fewestToStrike 55 = .ok (.istore_n 2, 1) := by decide +kernel
theorem dX1_fewestToStrike_56 : decode cX1_fewestToStrike 56 = .ok (.iinc 3 1, 3) := by decide +kernel
theorem dX1_fewestToStrike_59 : decode cX1_fewestToStrike 59 = .ok (.goto (-32), 3) := by decide +kernel
theorem dX1_fewestToStrike_62 : decode cX1_fewestToStrike 62 = .ok (.aload_n 0, 1) := by decide +kernel
theorem dX1_fewestToStrike_63 : decode cX1_fewestToStrike 63 = .ok (.iload_n 2, 1) := by decide +kernel
theorem dX1_fewestToStrike_64 : decode cX1_fewestToStrike 64 = .ok (.invokevirtual 95, 3) := by decide +kernel
theorem dX1_fewestToStrike_67 : decode cX1_fewestToStrike 67 = .ok (.ireturn, 1) := by decide +kernel
theorem dX1_prepare_0 : decode cX1_prepare 0 = .ok (.aload_n 0, 1) := by decide +kernel
theorem dX1_prepare_1 : decode cX1_prepare 1 = .ok (.iconst 0, 1) := by decide +kernel
theorem dX1_prepare_2 : decode cX1_prepare 2 = .ok (.putfield 81, 3) := by decide +kernel
theorem dX1_prepare_5 : decode cX1_prepare 5 = .ok (.iconst 0, 1) := by decide +kernel
theorem dX1_prepare_6 : decode cX1_prepare 6 = .ok (.istore_n 2, 1) := by decide +kernel
theorem dX1_prepare_7 : decode cX1_prepare 7 = .ok (.iload_n 2, 1) := by decide +kernel
theorem dX1_prepare_8 : decode cX1_prepare 8 = .ok (.aload_n 0, 1) := by decide +kernel
theorem dX1_prepare_9 : decode cX1_prepare 9 = .ok (.getfield 37, 3) := by decide +kernel
theorem dX1_prepare_12 : decode cX1_prepare 12 = .ok (.getfield 98, 3) := by decide +kernel
theorem dX1_prepare_15 : decode cX1_prepare 15 = .ok (.getfield 102, 3) := by decide +kernel
theorem dX1_prepare_18 : decode cX1_prepare 18 = .ok (.if_icmp .ge 60, 3) := by decide +kernel
theorem dX1_prepare_21 : decode cX1_prepare 21 = .ok (.iload_n 2, 1) := by decide +kernel
theorem dX1_prepare_22 : decode cX1_prepare 22 = .ok (.bipush 12, 2) := by decide +kernel
theorem dX1_prepare_24 : decode cX1_prepare 24 = .ok (.if_icmp .ge 54, 3) := by decide +kernel
theorem dX1_prepare_27 : decode cX1_prepare 27 = .ok (.aload_n 0, 1) := by decide +kernel
theorem dX1_prepare_28 : decode cX1_prepare 28 = .ok (.getfield 37, 3) := by decide +kernel
theorem dX1_prepare_31 : decode cX1_prepare 31 = .ok (.getfield 98, 3) := by decide +kernel
theorem dX1_prepare_34 : decode cX1_prepare 34 = .ok (.getfield 107, 3) := by decide +kernel
theorem dX1_prepare_37 : decode cX1_prepare 37 = .ok (.iload_n 2, 1) := by decide +kernel
theorem dX1_prepare_38 : decode cX1_prepare 38 = .ok (.iaload, 1) := by decide +kernel
theorem dX1_prepare_39 : decode cX1_prepare 39 = .ok (.iload_n 1, 1) := by decide +kernel
theorem dX1_prepare_40 : decode cX1_prepare 40 = .ok (.if_icmp .ne 32, 3) := by decide +kernel
theorem dX1_prepare_43 : decode cX1_prepare 43 = .ok (.aload_n 0, 1) := by decide +kernel
theorem dX1_prepare_44 : decode cX1_prepare 44 = .ok (.getfield 81, 3) := by decide +kernel
theorem dX1_prepare_47 : decode cX1_prepare 47 = .ok (.bipush 6, 2) := by decide +kernel
theorem dX1_prepare_49 : decode cX1_prepare 49 = .ok (.if_icmp .ge 23, 3) := by decide +kernel
theorem dX1_prepare_52 : decode cX1_prepare 52 = .ok (.aload_n 0, 1) := by decide +kernel
theorem dX1_prepare_53 : decode cX1_prepare 53 = .ok (.getfield 9, 3) := by decide +kernel
theorem dX1_prepare_56 : decode cX1_prepare 56 = .ok (.aload_n 0, 1) := by decide +kernel
theorem dX1_prepare_57 : decode cX1_prepare 57 = .ok (.getfield 81, 3) := by decide +kernel
theorem dX1_prepare_60 : decode cX1_prepare 60 = .ok (.iload_n 2, 1) := by decide +kernel
theorem dX1_prepare_61 : decode cX1_prepare 61 = .ok (.iastore, 1) := by decide +kernel
theorem dX1_prepare_62 : decode cX1_prepare 62 = .ok (.aload_n 0, 1) := by decide +kernel
theorem dX1_prepare_63 : decode cX1_prepare 63 = .ok (.dup, 1) := by decide +kernel
theorem dX1_prepare_64 : decode cX1_prepare 64 = .ok (.getfield 81, 3) := by decide +kernel
theorem dX1_prepare_67 : decode cX1_prepare 67 = .ok (.iconst 1, 1) := by decide +kernel
theorem dX1_prepare_68 : decode cX1_prepare 68 = .ok (.iadd, 1) := by decide +kernel
theorem dX1_prepare_69 : decode cX1_prepare 69 = .ok (.putfield 81, 3) := by decide +kernel
theorem dX1_prepare_72 : decode cX1_prepare 72 = .ok (.iinc 2 1, 3) := by decide +kernel
theorem dX1_prepare_75 : decode cX1_prepare 75 = .ok (.goto (-68), 3) := by decide +kernel
theorem dX1_prepare_78 : decode cX1_prepare 78 = .ok (.aload_n 0, 1) := by decide +kernel
theorem dX1_prepare_79 : decode cX1_prepare 79 = .ok (.getfield 37, 3) := by decide +kernel
theorem dX1_prepare_82 : decode cX1_prepare 82 = .ok (.getfield 110, 3) := by decide +kernel
theorem dX1_prepare_85 : decode cX1_prepare 85 = .ok (.getfield 114, 3) := by decide +kernel
theorem dX1_prepare_88 : decode cX1_prepare 88 = .ok (.istore_n 2, 1) := by decide +kernel
theorem dX1_prepare_89 : decode cX1_prepare 89 = .ok (.aload_n 0, 1) := by decide +kernel
theorem dX1_prepare_90 : decode cX1_prepare 90 = .ok (.bipush 30, 2) := by decide +kernel
theorem dX1_prepare_92 : decode cX1_prepare 92 = .ok (.sipush 399, 3) := by decide +kernel
theorem dX1_prepare_95 : decode cX1_prepare 95 = .ok (.iload_n 2, 1) := by decide +kernel
theorem dX1_prepare_96 : decode cX1_prepare 96 = .ok (.isub, 1) := by decide +kernel
theorem dX1_prepare_97 : decode cX1_prepare 97 = .ok (.invokestatic 119, 3) := by decide +kernel
theorem dX1_prepare_100 : decode cX1_prepare 100 = .ok (.putfield 48, 3) := by decide +kernel
theorem dX1_prepare_103 : decode cX1_prepare 103 = .ok (.iconst 0, 1) := by decide +kernel
theorem dX1_prepare_104 : decode cX1_prepare 104 = .ok (.istore_n 3, 1) := by decide +kernel
theorem dX1_prepare_105 : decode cX1_prepare 105 = .ok (.iload_n 3, 1) := by decide +kernel
theorem dX1_prepare_106 : decode cX1_prepare 106 = .ok (.aload_n 0, 1) := by decide +kernel
theorem dX1_prepare_107 : decode cX1_prepare 107 = .ok (.getfield 48, 3) := by decide +kernel
theorem dX1_prepare_110 : decode cX1_prepare 110 = .ok (.if_icmp .gt 102, 3) := by decide +kernel
theorem dX1_prepare_113 : decode cX1_prepare 113 = .ok (.aload_n 0, 1) := by decide +kernel
theorem dX1_prepare_114 : decode cX1_prepare 114 = .ok (.getfield 20, 3) := by decide +kernel
theorem dX1_prepare_117 : decode cX1_prepare 117 = .ok (.iload_n 3, 1) := by decide +kernel
theorem dX1_prepare_118 : decode cX1_prepare 118 = .ok (.aload_n 0, 1) := by decide +kernel
theorem dX1_prepare_119 : decode cX1_prepare 119 = .ok (.getfield 37, 3) := by decide +kernel
theorem dX1_prepare_122 : decode cX1_prepare 122 = .ok (.iload_n 2, 1) := by decide +kernel
theorem dX1_prepare_123 : decode cX1_prepare 123 = .ok (.iload_n 3, 1) := by decide +kernel
theorem dX1_prepare_124 : decode cX1_prepare 124 = .ok (.iadd, 1) := by decide +kernel
theorem dX1_prepare_125 : decode cX1_prepare 125 = .ok (.invokevirtual 125, 3) := by decide +kernel
theorem dX1_prepare_128 : decode cX1_prepare 128 = .ok (.iastore, 1) := by decide +kernel
theorem dX1_prepare_129 : decode cX1_prepare 129 = .ok (.iconst 0, 1) := by decide +kernel
theorem dX1_prepare_130 : decode cX1_prepare 130 = .ok (.istore 4, 2) := by decide +kernel
theorem dX1_prepare_132 : decode cX1_prepare 132 = .ok (.iload 4, 2) := by decide +kernel
theorem dX1_prepare_134 : decode cX1_prepare 134 = .ok (.aload_n 0, 1) := by decide +kernel
theorem dX1_prepare_135 : decode cX1_prepare 135 = .ok (.getfield 81, 3) := by decide +kernel
theorem dX1_prepare_138 : decode cX1_prepare 138 = .ok (.if_icmp .ge 68, 3) := by decide +kernel
theorem dX1_prepare_141 : decode cX1_prepare 141 = .ok (.aload_n 0, 1) := by decide +kernel
theorem dX1_prepare_142 : decode cX1_prepare 142 = .ok (.getfield 37, 3) := by decide +kernel
theorem dX1_prepare_145 : decode cX1_prepare 145 = .ok (.aload_n 0, 1) := by decide +kernel
theorem dX1_prepare_146 : decode cX1_prepare 146 = .ok (.getfield 9, 3) := by decide +kernel
theorem dX1_prepare_149 : decode cX1_prepare 149 = .ok (.iload 4, 2) := by decide +kernel
theorem dX1_prepare_151 : decode cX1_prepare 151 = .ok (.iaload, 1) := by decide +kernel
theorem dX1_prepare_152 : decode cX1_prepare 152 = .ok (.iload_n 2, 1) := by decide +kernel
theorem dX1_prepare_153 : decode cX1_prepare 153 = .ok (.iload_n 3, 1) := by decide +kernel
theorem dX1_prepare_154 : decode cX1_prepare 154 = .ok (.iadd, 1) := by decide +kernel
theorem dX1_prepare_155 : decode cX1_prepare 155 = .ok (.invokevirtual 128, 3) := by decide +kernel
theorem dX1_prepare_158 : decode cX1_prepare 158 = .ok (.istore 5, 2) := by decide +kernel
theorem dX1_prepare_160 : decode cX1_prepare 160 = .ok (.aload_n 0, 1) := by decide +kernel
theorem dX1_prepare_161 : decode cX1_prepare 161 = .ok (.getfield 17, 3) := by decide +kernel
theorem dX1_prepare_164 : decode cX1_prepare 164 = .ok (.iload 4, 2) := by decide +kernel
theorem dX1_prepare_166 : decode cX1_prepare 166 = .ok (.aaload, 1) := by decide +kernel
theorem dX1_prepare_167 : decode cX1_prepare 167 = .ok (.iload_n 3, 1) := by decide +kernel
theorem dX1_prepare_168 : decode cX1_prepare 168 = .ok (.iload 5, 2) := by decide +kernel
theorem dX1_prepare_170 : decode cX1_prepare 170 = .ok (.ifCond .eq 26, 3) := by decide +kernel
theorem dX1_prepare_173 : decode cX1_prepare 173 = .ok (.aload_n 0, 1) := by decide +kernel
theorem dX1_prepare_174 : decode cX1_prepare 174 = .ok (.getfield 37, 3) := by decide +kernel
theorem dX1_prepare_177 : decode cX1_prepare 177 = .ok (.aload_n 0, 1) := by decide +kernel
theorem dX1_prepare_178 : decode cX1_prepare 178 = .ok (.getfield 9, 3) := by decide +kernel
theorem dX1_prepare_181 : decode cX1_prepare 181 = .ok (.iload 4, 2) := by decide +kernel
theorem dX1_prepare_183 : decode cX1_prepare 183 = .ok (.iaload, 1) := by decide +kernel
theorem dX1_prepare_184 : decode cX1_prepare 184 = .ok (.iload_n 2, 1) := by decide +kernel
theorem dX1_prepare_185 : decode cX1_prepare 185 = .ok (.iload_n 3, 1) := by decide +kernel
theorem dX1_prepare_186 : decode cX1_prepare 186 = .ok (.iadd, 1) := by decide +kernel
theorem dX1_prepare_187 : decode cX1_prepare 187 = .ok (.invokevirtual 132, 3) := by decide +kernel
theorem dX1_prepare_190 : decode cX1_prepare 190 = .ok (.i2l, 1) := by decide +kernel
theorem dX1_prepare_191 : decode cX1_prepare 191 = .ok (.iload_n 3, 1) := by decide +kernel
theorem dX1_prepare_192 : decode cX1_prepare 192 = .ok (.lshl, 1) := by decide +kernel
theorem dX1_prepare_193 : decode cX1_prepare 193 = .ok (.goto 6, 3) := by decide +kernel
theorem dX1_prepare_196 : decode cX1_prepare 196 = .ok (.ldc2_w 135, 3) := by decide +kernel
theorem dX1_prepare_199 : decode cX1_prepare 199 = .ok (.lastore, 1) := by decide +kernel
theorem dX1_prepare_200 : decode cX1_prepare 200 = .ok (.iinc 4 1, 3) := by decide +kernel
theorem dX1_prepare_203 : decode cX1_prepare 203 = .ok (.goto (-71), 3) := by decide +kernel
theorem dX1_prepare_206 : decode cX1_prepare 206 = .ok (.iinc 3 1, 3) := by decide +kernel
theorem dX1_prepare_209 : decode cX1_prepare 209 = .ok (.goto (-104), 3) := by decide +kernel
theorem dX1_prepare_212 : decode cX1_prepare 212 = .ok (.aload_n 0, 1) := by decide +kernel
theorem dX1_prepare_213 : decode cX1_prepare 213 = .ok (.aload_n 0, 1) := by decide +kernel
theorem dX1_prepare_214 : decode cX1_prepare 214 = .ok (.getfield 37, 3) := by decide +kernel
theorem dX1_prepare_217 : decode cX1_prepare 217 = .ok (.getfield 98, 3) := by decide +kernel
theorem dX1_prepare_220 : decode cX1_prepare 220 = .ok (.iload_n 1, 1) := by decide +kernel
theorem dX1_prepare_221 : decode cX1_prepare 221 = .ok (.invokevirtual 137, 3) := by decide +kernel
theorem dX1_prepare_224 : decode cX1_prepare 224 = .ok (.ifCond .eq 19, 3) := by decide +kernel
theorem dX1_prepare_227 : decode cX1_prepare 227 = .ok (.aload_n 0, 1) := by decide +kernel
theorem dX1_prepare_228 : decode cX1_prepare 228 = .ok (.getfield 37, 3) := by decide +kernel
theorem dX1_prepare_231 : decode cX1_prepare 231 = .ok (.getfield 110, 3) := by decide +kernel
theorem dX1_prepare_234 : decode cX1_prepare 234 = .ok (.getfield 140, 3) := by decide +kernel
theorem dX1_prepare_237 : decode cX1_prepare 237 = .ok (.iload_n 1, 1) := by decide +kernel
theorem dX1_prepare_238 : decode cX1_prepare 238 = .ok (.iaload, 1) := by decide +kernel
theorem dX1_prepare_239 : decode cX1_prepare 239 = .ok (.i2l, 1) := by decide +kernel
theorem dX1_prepare_240 : decode cX1_prepare 240 = .ok (.goto 4, 3) := by decide +kernel
theorem dX1_prepare_243 : decode cX1_prepare 243 = .ok (.lconst 0, 1) := by decide +kernel
theorem dX1_prepare_244 : decode cX1_prepare 244 = .ok (.putfield 143, 3) := by decide +kernel
theorem dX1_prepare_247 : decode cX1_prepare 247 = .ok (.aload_n 0, 1) := by decide +kernel
theorem dX1_prepare_248 : decode cX1_prepare 248 = .ok (.aload_n 0, 1) := by decide +kernel
theorem dX1_prepare_249 : decode cX1_prepare 249 = .ok (.getfield 37, 3) := by decide +kernel
theorem dX1_prepare_252 : decode cX1_prepare 252 = .ok (.getfield 98, 3) := by decide +kernel
theorem dX1_prepare_255 : decode cX1_prepare 255 = .ok (.iload_n 1, 1) := by decide +kernel
theorem dX1_prepare_256 : decode cX1_prepare 256 = .ok (.invokevirtual 146, 3) := by decide +kernel
theorem dX1_prepare_259 : decode cX1_prepare 259 = .ok (.i2l, 1) := by decide +kernel
theorem dX1_prepare_260 : decode cX1_prepare 260 = .ok (.putfield 70, 3) := by decide +kernel
theorem dX1_prepare_263 : decode cX1_prepare 263 = .ok (.return_, 1) := by decide +kernel
theorem dX1_allOfThem_0 : decode cX1_allOfThem 0 = .ok (.iconst 1, 1) := by decide +kernel
theorem dX1_allOfThem_1 : decode cX1_allOfThem 1 = .ok (.aload_n 0, 1) := by decide +kernel
theorem dX1_allOfThem_2 : decode cX1_allOfThem 2 = .ok (.getfield 81, 3) := by decide +kernel
theorem dX1_allOfThem_5 : decode cX1_allOfThem 5 = .ok (.ishl, 1) := by decide +kernel
theorem dX1_allOfThem_6 : decode cX1_allOfThem 6 = .ok (.iconst 1, 1) := by decide +kernel
theorem dX1_allOfThem_7 : decode cX1_allOfThem 7 = .ok (.isub, 1) := by decide +kernel
theorem dX1_allOfThem_8 : decode cX1_allOfThem 8 = .ok (.ireturn, 1) := by decide +kernel
theorem dX1_clearPlans_0 : decode cX1_clearPlans 0 = .ok (.aload_n 0, 1) := by decide +kernel
theorem dX1_clearPlans_1 : decode cX1_clearPlans 1 = .ok (.getfield 23, 3) := by decide +kernel
theorem dX1_clearPlans_4 : decode cX1_clearPlans 4 = .ok (.ldc2_w 135, 3) := by decide +kernel
theorem dX1_clearPlans_7 : decode cX1_clearPlans 7 = .ok (.invokestatic 149, 3) := by decide +kernel
theorem dX1_clearPlans_10 : decode cX1_clearPlans 10 = .ok (.aload_n 0, 1) := by decide +kernel
theorem dX1_clearPlans_11 : decode cX1_clearPlans 11 = .ok (.getfield 23, 3) := by decide +kernel
theorem dX1_clearPlans_14 : decode cX1_clearPlans 14 = .ok (.iconst 0, 1) := by decide +kernel
theorem dX1_clearPlans_15 : decode cX1_clearPlans 15 = .ok (.lconst 0, 1) := by decide +kernel
theorem dX1_clearPlans_16 : decode cX1_clearPlans 16 = .ok (.lastore, 1) := by decide +kernel
theorem dX1_clearPlans_17 : decode cX1_clearPlans 17 = .ok (.return_, 1) := by decide +kernel
theorem dX1_callOn_0 : decode cX1_callOn 0 = .ok (.aload_n 0, 1) := by decide +kernel
theorem dX1_callOn_1 : decode cX1_callOn 1 = .ok (.iload_n 1, 1) := by decide +kernel
theorem dX1_callOn_2 : decode cX1_callOn 2 = .ok (.invokevirtual 155, 3) := by decide +kernel
theorem dX1_callOn_5 : decode cX1_callOn 5 = .ok (.istore_n 3, 1) := by decide +kernel
theorem dX1_callOn_6 : decode cX1_callOn 6 = .ok (.iload_n 2, 1) := by decide +kernel
theorem dX1_callOn_7 : decode cX1_callOn 7 = .ok (.istore 4, 2) := by decide +kernel
theorem dX1_callOn_9 : decode cX1_callOn 9 = .ok (.iload 4, 2) := by decide +kernel
theorem dX1_callOn_11 : decode cX1_callOn 11 = .ok (.ifCond .le 101, 3) := by decide +kernel
theorem dX1_callOn_14 : decode cX1_callOn 14 = .ok (.iload 4, 2) := by decide +kernel
theorem dX1_callOn_16 : decode cX1_callOn 16 = .ok (.iload_n 3, 1) := by decide +kernel
theorem dX1_callOn_17 : decode cX1_callOn 17 = .ok (.iand, 1) := by decide +kernel
theorem dX1_callOn_18 : decode cX1_callOn 18 = .ok (.istore 5, 2) := by decide +kernel
theorem dX1_callOn_20 : decode cX1_callOn 20 = .ok (.iload 5, 2) := by decide +kernel
theorem dX1_callOn_22 : decode cX1_callOn 22 = .ok (.ifCond .le 79, 3) := by decide +kernel
theorem dX1_callOn_25 : decode cX1_callOn 25 = .ok (.aload_n 0, 1) := by decide +kernel
theorem dX1_callOn_26 : decode cX1_callOn 26 = .ok (.getfield 23, 3) := by decide +kernel
theorem dX1_callOn_29 : decode cX1_callOn 29 = .ok (.iload 4, 2) := by decide +kernel
theorem dX1_callOn_31 : decode cX1_callOn 31 = .ok (.iload 5, 2) := by decide +kernel
theorem dX1_callOn_33 : decode cX1_callOn 33 = .ok (.iconst (-1), 1) := by decide +kernel
theorem dX1_callOn_34 : decode cX1_callOn 34 = .ok (.ixor, 1) := by decide +kernel
theorem dX1_callOn_35 : decode cX1_callOn 35 = .ok (.iand, 1) := by decide +kernel
theorem dX1_callOn_36 : decode cX1_callOn 36 = .ok (.laload, 1) := by decide +kernel
theorem dX1_callOn_37 : decode cX1_callOn 37 = .ok (.lstore 6, 2) := by decide +kernel
theorem dX1_callOn_39 : decode cX1_callOn 39 = .ok (.lload 6, 2) := by decide +kernel
theorem dX1_callOn_41 : decode cX1_callOn 41 = .ok (.lconst 0, 1) := by decide +kernel
theorem dX1_callOn_42 : decode cX1_callOn 42 = .ok (.lcmp, 1) := by decide +kernel
theorem dX1_callOn_43 : decode cX1_callOn 43 = .ok (.ifCond .lt 44, 3) := by decide +kernel
theorem dX1_callOn_46 : decode cX1_callOn 46 = .ok (.iload 5, 2) := by decide +kernel
theorem dX1_callOn_48 : decode cX1_callOn 48 = .ok (.invokestatic 87, 3) := by decide +kernel
theorem dX1_callOn_51 : decode cX1_callOn 51 = .ok (.aload_n 0, 1) := by decide +kernel
theorem dX1_callOn_52 : decode cX1_callOn 52 = .ok (.getfield 20, 3) := by decide +kernel
theorem dX1_callOn_55 : decode cX1_callOn 55 = .ok (.iload_n 1, 1) := by decide +kernel
theorem dX1_callOn_56 : decode cX1_callOn 56 = .ok (.iaload, 1) := by decide +kernel
theorem dX1_callOn_57 : decode cX1_callOn 57 = .ok (.if_icmp .gt 30, 3) := by decide +kernel
theorem dX1_callOn_60 : decode cX1_callOn 60 = .ok (.aload_n 0, 1) := by decide +kernel
theorem dX1_callOn_61 : decode cX1_callOn 61 = .ok (.getfield 23, 3) := by decide +kernel
theorem dX1_callOn_64 : decode cX1_callOn 64 = .ok (.iload 4, 2) := by decide +kernel
theorem dX1_callOn_66 : decode cX1_callOn 66 = .ok (.aload_n 0, 1) := by decide +kernel
theorem dX1_callOn_67 : decode cX1_callOn 67 = .ok (.getfield 23, 3) := by decide +kernel
theorem dX1_callOn_70 : decode cX1_callOn 70 = .ok (.iload 4, 2) := by decide +kernel
theorem dX1_callOn_72 : decode cX1_callOn 72 = .ok (.laload, 1) := by decide +kernel
theorem dX1_callOn_73 : decode cX1_callOn 73 = .ok (.lload 6, 2) := by decide +kernel
theorem dX1_callOn_75 : decode cX1_callOn 75 = .ok (.aload_n 0, 1) := by decide +kernel
theorem dX1_callOn_76 : decode cX1_callOn 76 = .ok (.getfield 27, 3) := by decide +kernel
theorem dX1_callOn_79 : decode cX1_callOn 79 = .ok (.iload 5, 2) := by decide +kernel
theorem dX1_callOn_81 : decode cX1_callOn 81 = .ok (.laload, 1) := by decide +kernel
theorem dX1_callOn_82 : decode cX1_callOn 82 = .ok (.ladd, 1) := by decide +kernel
theorem dX1_callOn_83 : decode cX1_callOn 83 = .ok (.invokestatic 158, 3) := by decide +kernel
theorem dX1_callOn_86 : decode cX1_callOn 86 = .ok (.lastore, 1) := by decide +kernel
theorem dX1_callOn_87 : decode cX1_callOn 87 = .ok (.iload 5, 2) := by decide +kernel
theorem dX1_callOn_89 : decode cX1_callOn 89 = .ok (.iconst 1, 1) := by decide +kernel
theorem dX1_callOn_90 : decode cX1_callOn 90 = .ok (.isub, 1) := by decide +kernel
theorem dX1_callOn_91 : decode cX1_callOn 91 = .ok (.iload 4, 2) := by decide +kernel
theorem dX1_callOn_93 : decode cX1_callOn 93 = .ok (.iand, 1) := by decide +kernel
theorem dX1_callOn_94 : decode cX1_callOn 94 = .ok (.iload_n 3, 1) := by decide +kernel
theorem dX1_callOn_95 : decode cX1_callOn 95 = .ok (.iand, 1) := by decide +kernel
theorem dX1_callOn_96 : decode cX1_callOn 96 = .ok (.istore 5, 2) := by decide +kernel
theorem dX1_callOn_98 : decode cX1_callOn 98 = .ok (.goto (-78), 3) := by decide +kernel
theorem dX1_callOn_101 : decode cX1_callOn 101 = .ok (.iload 4, 2) := by decide +kernel
theorem dX1_callOn_103 : decode cX1_callOn 103 = .ok (.iconst 1, 1) := by decide +kernel
theorem dX1_callOn_104 : decode cX1_callOn 104 = .ok (.isub, 1) := by decide +kernel
theorem dX1_callOn_105 : decode cX1_callOn 105 = .ok (.iload_n 2, 1) := by decide +kernel
theorem dX1_callOn_106 : decode cX1_callOn 106 = .ok (.iand, 1) := by decide +kernel
theorem dX1_callOn_107 : decode cX1_callOn 107 = .ok (.istore 4, 2) := by decide +kernel
theorem dX1_callOn_109 : decode cX1_callOn 109 = .ok (.goto (-100), 3) := by decide +kernel
theorem dX1_callOn_112 : decode cX1_callOn 112 = .ok (.return_, 1) := by decide +kernel
theorem dX1_addUp_0 : decode cX1_addUp 0 = .ok (.iconst 0, 1) := by decide +kernel
theorem dX1_addUp_1 : decode cX1_addUp 1 = .ok (.istore_n 2, 1) := by decide +kernel
theorem dX1_addUp_2 : decode cX1_addUp 2 = .ok (.aload_n 0, 1) := by decide +kernel
theorem dX1_addUp_3 : decode cX1_addUp 3 = .ok (.getfield 27, 3) := by decide +kernel
theorem dX1_addUp_6 : decode cX1_addUp 6 = .ok (.iconst 0, 1) := by decide +kernel
theorem dX1_addUp_7 : decode cX1_addUp 7 = .ok (.lconst 0, 1) := by decide +kernel
theorem dX1_addUp_8 : decode cX1_addUp 8 = .ok (.lastore, 1) := by decide +kernel
theorem dX1_addUp_9 : decode cX1_addUp 9 = .ok (.iconst 0, 1) := by decide +kernel
theorem dX1_addUp_10 : decode cX1_addUp 10 = .ok (.istore_n 3, 1) := by decide +kernel
theorem dX1_addUp_11 : decode cX1_addUp 11 = .ok (.iload_n 3, 1) := by decide +kernel
theorem dX1_addUp_12 : decode cX1_addUp 12 = .ok (.aload_n 0, 1) := by decide +kernel
theorem dX1_addUp_13 : decode cX1_addUp 13 = .ok (.getfield 81, 3) := by decide +kernel
theorem dX1_addUp_16 : decode cX1_addUp 16 = .ok (.if_icmp .ge 74, 3) := by decide +kernel
theorem dX1_addUp_19 : decode cX1_addUp 19 = .ok (.iconst 1, 1) := by decide +kernel
theorem dX1_addUp_20 : decode cX1_addUp 20 = .ok (.iload_n 3, 1) := by decide +kernel
theorem dX1_addUp_21 : decode cX1_addUp 21 = .ok (.ishl, 1) := by decide +kernel
theorem dX1_addUp_22 : decode cX1_addUp 22 = .ok (.istore 4, 2) := by decide +kernel
theorem dX1_addUp_24 : decode cX1_addUp 24 = .ok (.aload_n 0, 1) := by decide +kernel
theorem dX1_addUp_25 : decode cX1_addUp 25 = .ok (.getfield 17, 3) := by decide +kernel
theorem dX1_addUp_28 : decode cX1_addUp 28 = .ok (.iload_n 3, 1) := by decide +kernel
theorem dX1_addUp_29 : decode cX1_addUp 29 = .ok (.aaload, 1) := by decide +kernel
theorem dX1_addUp_30 : decode cX1_addUp 30 = .ok (.iload_n 1, 1) := by decide +kernel
theorem dX1_addUp_31 : decode cX1_addUp 31 = .ok (.laload, 1) := by decide +kernel
theorem dX1_addUp_32 : decode cX1_addUp 32 = .ok (.lconst 0, 1) := by decide +kernel
theorem dX1_addUp_33 : decode cX1_addUp 33 = .ok (.lcmp, 1) := by decide +kernel
theorem dX1_addUp_34 : decode cX1_addUp 34 = .ok (.ifCond .lt 8, 3) := by decide +kernel
theorem dX1_addUp_37 : decode cX1_addUp 37 = .ok (.iload_n 2, 1) := by decide +kernel
theorem dX1_addUp_38 : decode cX1_addUp 38 = .ok (.iload 4, 2) := by decide +kernel
theorem dX1_addUp_40 : decode cX1_addUp 40 = .ok (.ior, 1) := by decide +kernel
theorem dX1_addUp_41 : decode cX1_addUp 41 = .ok (.istore_n 2, 1) := by decide +kernel
theorem dX1_addUp_42 : decode cX1_addUp 42 = .ok (.iconst 0, 1) := by decide +kernel
theorem dX1_addUp_43 : decode cX1_addUp 43 = .ok (.istore 5, 2) := by decide +kernel
theorem dX1_addUp_45 : decode cX1_addUp 45 = .ok (.iload 5, 2) := by decide +kernel
theorem dX1_addUp_47 : decode cX1_addUp 47 = .ok (.iload 4, 2) := by decide +kernel
theorem dX1_addUp_49 : decode cX1_addUp 49 = .ok (.if_icmp .ge 35, 3) := by decide +kernel
theorem dX1_addUp_52 : decode cX1_addUp 52 = .ok (.aload_n 0, 1) := by decide +kernel
theorem dX1_addUp_53 : decode cX1_addUp 53 = .ok (.getfield 27, 3) := by decide +kernel
theorem dX1_addUp_56 : decode cX1_addUp 56 = .ok (.iload 5, 2) := by decide +kernel
theorem dX1_addUp_58 : decode cX1_addUp 58 = .ok (.iload 4, 2) := by decide +kernel
theorem dX1_addUp_60 : decode cX1_addUp 60 = .ok (.ior, 1) := by decide +kernel
theorem dX1_addUp_61 : decode cX1_addUp 61 = .ok (.aload_n 0, 1) := by decide +kernel
theorem dX1_addUp_62 : decode cX1_addUp 62 = .ok (.getfield 27, 3) := by decide +kernel
theorem dX1_addUp_65 : decode cX1_addUp 65 = .ok (.iload 5, 2) := by decide +kernel
theorem dX1_addUp_67 : decode cX1_addUp 67 = .ok (.laload, 1) := by decide +kernel
theorem dX1_addUp_68 : decode cX1_addUp 68 = .ok (.aload_n 0, 1) := by decide +kernel
theorem dX1_addUp_69 : decode cX1_addUp 69 = .ok (.getfield 17, 3) := by decide +kernel
theorem dX1_addUp_72 : decode cX1_addUp 72 = .ok (.iload_n 3, 1) := by decide +kernel
theorem dX1_addUp_73 : decode cX1_addUp 73 = .ok (.aaload, 1) := by decide +kernel
theorem dX1_addUp_74 : decode cX1_addUp 74 = .ok (.iload_n 1, 1) := by decide +kernel
theorem dX1_addUp_75 : decode cX1_addUp 75 = .ok (.laload, 1) := by decide +kernel
theorem dX1_addUp_76 : decode cX1_addUp 76 = .ok (.ladd, 1) := by decide +kernel
theorem dX1_addUp_77 : decode cX1_addUp 77 = .ok (.lastore, 1) := by decide +kernel
theorem dX1_addUp_78 : decode cX1_addUp 78 = .ok (.iinc 5 1, 3) := by decide +kernel
theorem dX1_addUp_81 : decode cX1_addUp 81 = .ok (.goto (-36), 3) := by decide +kernel
theorem dX1_addUp_84 : decode cX1_addUp 84 = .ok (.iinc 3 1, 3) := by decide +kernel
theorem dX1_addUp_87 : decode cX1_addUp 87 = .ok (.goto (-76), 3) := by decide +kernel
theorem dX1_addUp_90 : decode cX1_addUp 90 = .ok (.aload_n 0, 1) := by decide +kernel
theorem dX1_addUp_91 : decode cX1_addUp 91 = .ok (.getfield 20, 3) := by decide +kernel
theorem dX1_addUp_94 : decode cX1_addUp 94 = .ok (.iload_n 1, 1) := by decide +kernel
theorem dX1_addUp_95 : decode cX1_addUp 95 = .ok (.iaload, 1) := by decide +kernel
theorem dX1_addUp_96 : decode cX1_addUp 96 = .ok (.ifCond .le 7, 3) := by decide +kernel
theorem dX1_addUp_99 : decode cX1_addUp 99 = .ok (.iload_n 2, 1) := by decide +kernel
theorem dX1_addUp_100 : decode cX1_addUp 100 = .ok (.goto 4, 3) := by decide +kernel
theorem dX1_addUp_103 : decode cX1_addUp 103 = .ok (.iconst 0, 1) := by decide +kernel
theorem dX1_addUp_104 : decode cX1_addUp 104 = .ok (.ireturn, 1) := by decide +kernel
theorem dX1_greatest_0 : decode cX1_greatest 0 = .ok (.lconst 0, 1) := by decide +kernel
theorem dX1_greatest_1 : decode cX1_greatest 1 = .ok (.lstore_n 1, 1) := by decide +kernel
theorem dX1_greatest_2 : decode cX1_greatest 2 = .ok (.iconst 0, 1) := by decide +kernel
theorem dX1_greatest_3 : decode cX1_greatest 3 = .ok (.istore_n 3, 1) := by decide +kernel
theorem dX1_greatest_4 : decode cX1_greatest 4 = .ok (.iload_n 3, 1) := by decide +kernel
theorem dX1_greatest_5 : decode cX1_greatest 5 = .ok (.aload_n 0, 1) := by decide +kernel
theorem dX1_greatest_6 : decode cX1_greatest 6 = .ok (.invokevirtual 52, 3) := by decide +kernel
theorem dX1_greatest_9 : decode cX1_greatest 9 = .ok (.if_icmp .gt 20, 3) := by decide +kernel
theorem dX1_greatest_12 : decode cX1_greatest 12 = .ok (.lload_n 1, 1) := by decide +kernel
theorem dX1_greatest_13 : decode cX1_greatest 13 = .ok (.aload_n 0, 1) := by decide +kernel
theorem dX1_greatest_14 : decode cX1_greatest 14 = .ok (.getfield 23, 3) := by decide +kernel
theorem dX1_greatest_17 : decode cX1_greatest 17 = .ok (.iload_n 3, 1) := by decide +kernel
theorem dX1_greatest_18 : decode cX1_greatest 18 = .ok (.laload, 1) := by decide +kernel
theorem dX1_greatest_19 : decode cX1_greatest 19 = .ok (.invokestatic 158, 3) := by decide +kernel
theorem dX1_greatest_22 : decode cX1_greatest 22 = .ok (.lstore_n 1, 1) := by decide +kernel
theorem dX1_greatest_23 : decode cX1_greatest 23 = .ok (.iinc 3 1, 3) := by decide +kernel
theorem dX1_greatest_26 : decode cX1_greatest 26 = .ok (.goto (-22), 3) := by decide +kernel
theorem dX1_greatest_29 : decode cX1_greatest 29 = .ok (.aload_n 0, 1) := by decide +kernel
theorem dX1_greatest_30 : decode cX1_greatest 30 = .ok (.getfield 143, 3) := by decide +kernel
theorem dX1_greatest_33 : decode cX1_greatest 33 = .ok (.lload_n 1, 1) := by decide +kernel
theorem dX1_greatest_34 : decode cX1_greatest 34 = .ok (.ladd, 1) := by decide +kernel
theorem dX1_greatest_35 : decode cX1_greatest 35 = .ok (.lreturn, 1) := by decide +kernel
theorem dX1_suffices_0 : decode cX1_suffices 0 = .ok (.aload_n 0, 1) := by decide +kernel
theorem dX1_suffices_1 : decode cX1_suffices 1 = .ok (.getfield 143, 3) := by decide +kernel
theorem dX1_suffices_4 : decode cX1_suffices 4 = .ok (.lload_n 1, 1) := by decide +kernel
theorem dX1_suffices_5 : decode cX1_suffices 5 = .ok (.ladd, 1) := by decide +kernel
theorem dX1_suffices_6 : decode cX1_suffices 6 = .ok (.aload_n 0, 1) := by decide +kernel
theorem dX1_suffices_7 : decode cX1_suffices 7 = .ok (.getfield 70, 3) := by decide +kernel
theorem dX1_suffices_10 : decode cX1_suffices 10 = .ok (.iload_n 3, 1) := by decide +kernel
theorem dX1_suffices_11 : decode cX1_suffices 11 = .ok (.lshl, 1) := by decide +kernel
theorem dX1_suffices_12 : decode cX1_suffices 12 = .ok (.lcmp, 1) := by decide +kernel
theorem dX1_suffices_13 : decode cX1_suffices 13 = .ok (.ifCond .lt 7, 3) := by decide +kernel
theorem dX1_suffices_16 : decode cX1_suffices 16 = .ok (.iconst 1, 1) := by decide +kernel
theorem dX1_suffices_17 : decode cX1_suffices 17 = .ok (.goto 4, 3) := by decide +kernel
theorem dX1_suffices_20 : decode cX1_suffices 20 = .ok (.iconst 0, 1) := by decide +kernel
theorem dX1_suffices_21 : decode cX1_suffices 21 = .ok (.ireturn, 1) := by decide +kernel
theorem dX1_fewestSpeakers_0 : decode cX1_fewestSpeakers 0 = .ok (.iconst (-1), 1) := by decide +kernel
theorem dX1_fewestSpeakers_1 : decode cX1_fewestSpeakers 1 = .ok (.istore_n 2, 1) := by decide +kernel
theorem dX1_fewestSpeakers_2 : decode cX1_fewestSpeakers 2 = .ok (.iconst 0, 1) := by decide +kernel
theorem dX1_fewestSpeakers_3 : decode cX1_fewestSpeakers 3 = .ok (.istore_n 3, 1) := by decide +kernel
theorem dX1_fewestSpeakers_4 : decode cX1_fewestSpeakers 4 = .ok (.iload_n 3, 1) := by decide +kernel
theorem dX1_fewestSpeakers_5 : decode cX1_fewestSpeakers 5 = .ok (.aload_n 0, 1) := by decide +kernel
theorem dX1_fewestSpeakers_6 : decode cX1_fewestSpeakers 6 = .ok (.invokevirtual 52, 3) := by decide +kernel
theorem dX1_fewestSpeakers_9 : decode cX1_fewestSpeakers 9 = .ok (.if_icmp .gt 64, 3) := by decide +kernel
theorem dX1_fewestSpeakers_12 : decode cX1_fewestSpeakers 12 = .ok (.iload_n 2, 1) := by decide +kernel
theorem dX1_fewestSpeakers_13 : decode cX1_fewestSpeakers 13 = .ok (.iconst (-1), 1) := by decide +kernel
theorem dX1_fewestSpeakers_14 : decode cX1_fewestSpeakers 14 = .ok (.if_icmp .eq 14, 3) := by decide +kernel
theorem dX1_fewestSpeakers_17 : decode cX1_fewestSpeakers 17 = .ok (.iload_n 3, 1) := by decide +kernel
theorem dX1_fewestSpeakers_18 : decode cX1_fewestSpeakers 18 = .ok (.invokestatic 87, 3) := by decide +kernel
theorem dX1_fewestSpeakers_21 : decode cX1_fewestSpeakers 21 = .ok (.iload_n 2, 1) := by decide +kernel
theorem dX1_fewestSpeakers_22 : decode cX1_fewestSpeakers 22 = .ok (.invokestatic 87, 3) := by decide +kernel
theorem dX1_fewestSpeakers_25 : decode cX1_fewestSpeakers 25 = .ok (.if_icmp .ge 7, 3) := by decide +kernel
theorem dX1_fewestSpeakers_28 : decode cX1_fewestSpeakers 28 = .ok (.iconst 1, 1) := by decide +kernel
theorem dX1_fewestSpeakers_29 : decode cX1_fewestSpeakers 29 = .ok (.goto 4, 3) := by decide +kernel
theorem dX1_fewestSpeakers_32 : decode cX1_fewestSpeakers 32 = .ok (.iconst 0, 1) := by decide +kernel
theorem dX1_fewestSpeakers_33 : decode cX1_fewestSpeakers 33 = .ok (.istore 4, 2) := by decide +kernel
theorem dX1_fewestSpeakers_35 : decode cX1_fewestSpeakers 35 = .ok (.iload 4, 2) := by decide +kernel
theorem dX1_fewestSpeakers_37 : decode cX1_fewestSpeakers 37 = .ok (.ifCond .eq 30, 3) := by decide +kernel
theorem dX1_fewestSpeakers_40 : decode cX1_fewestSpeakers 40 = .ok (.aload_n 0, 1) := by decide +kernel
theorem dX1_fewestSpeakers_41 : decode cX1_fewestSpeakers 41 = .ok (.getfield 23, 3) := by decide +kernel
theorem dX1_fewestSpeakers_44 : decode cX1_fewestSpeakers 44 = .ok (.iload_n 3, 1) := by decide +kernel
theorem dX1_fewestSpeakers_45 : decode cX1_fewestSpeakers 45 = .ok (.laload, 1) := by decide +kernel
theorem dX1_fewestSpeakers_46 : decode cX1_fewestSpeakers 46 = .ok (.lconst 0, 1) := by decide +kernel
theorem dX1_fewestSpeakers_47 : decode cX1_fewestSpeakers 47 = .ok (.lcmp, 1) := by decide +kernel
theorem dX1_fewestSpeakers_48 : decode cX1_fewestSpeakers 48 = .ok (.ifCond .lt 19, 3) := by decide +kernel
theorem dX1_fewestSpeakers_51 : decode cX1_fewestSpeakers 51 = .ok (.aload_n 0, 1) := by decide +kernel
theorem dX1_fewestSpeakers_52 : decode cX1_fewestSpeakers 52 = .ok (.aload_n 0, 1) := by decide +kernel
theorem dX1_fewestSpeakers_53 : decode cX1_fewestSpeakers 53 = .ok (.getfield 23, 3) := by decide +kernel
theorem dX1_fewestSpeakers_56 : decode cX1_fewestSpeakers 56 = .ok (.iload_n 3, 1) := by decide +kernel
theorem dX1_fewestSpeakers_57 : decode cX1_fewestSpeakers 57 = .ok (.laload, 1) := by decide +kernel
theorem dX1_fewestSpeakers_58 : decode cX1_fewestSpeakers 58 = .ok (.iload_n 1, 1) := by decide +kernel
theorem dX1_fewestSpeakers_59 : decode cX1_fewestSpeakers 59 = .ok (.invokevirtual 162, 3) := by decide +kernel
theorem dX1_fewestSpeakers_62 : decode cX1_fewestSpeakers 62 = .ok (.ifCond .eq 5, 3) := by decide +kernel
theorem dX1_fewestSpeakers_65 : decode cX1_fewestSpeakers 65 = .ok (.iload_n 3, 1) := by decide +kernel
theorem dX1_fewestSpeakers_66 : decode cX1_fewestSpeakers 66 = .ok (.istore_n 2, 1) := by decide +kernel
theorem dX1_fewestSpeakers_67 : decode cX1_fewestSpeakers 67 = .ok (.iinc 3 1, 3) := by decide +kernel
theorem dX1_fewestSpeakers_70 : decode cX1_fewestSpeakers 70 = .ok (.goto (-66), 3) := by decide +kernel
theorem dX1_fewestSpeakers_73 : decode cX1_fewestSpeakers 73 = .ok (.iconst 0, 1) := by decide +kernel
theorem dX1_fewestSpeakers_74 : decode cX1_fewestSpeakers 74 = .ok (.iload_n 2, 1) := by decide +kernel
theorem dX1_fewestSpeakers_75 : decode cX1_fewestSpeakers 75 = .ok (.invokestatic 166, 3) := by decide +kernel
theorem dX1_fewestSpeakers_78 : decode cX1_fewestSpeakers 78 = .ok (.ireturn, 1) := by decide +kernel
theorem dX1_setDays_0 : decode cX1_setDays 0 = .ok (.lconst 0, 1) := by decide +kernel
theorem dX1_setDays_1 : decode cX1_setDays 1 = .ok (.lstore_n 3, 1) := by decide +kernel
theorem dX1_setDays_2 : decode cX1_setDays 2 = .ok (.iload_n 2, 1) := by decide +kernel
theorem dX1_setDays_3 : decode cX1_setDays 3 = .ok (.istore 5, 2) := by decide +kernel
theorem dX1_setDays_5 : decode cX1_setDays 5 = .ok (.iconst 0, 1) := by decide +kernel
theorem dX1_setDays_6 : decode cX1_setDays 6 = .ok (.istore 6, 2) := by decide +kernel
theorem dX1_setDays_8 : decode cX1_setDays 8 = .ok (.iload 6, 2) := by decide +kernel
theorem dX1_setDays_10 : decode cX1_setDays 10 = .ok (.aload_n 0, 1) := by decide +kernel
theorem dX1_setDays_11 : decode cX1_setDays 11 = .ok (.getfield 81, 3) := by decide +kernel
theorem dX1_setDays_14 : decode cX1_setDays 14 = .ok (.if_icmp .ge 147, 3) := by decide +kernel
theorem dX1_setDays_17 : decode cX1_setDays 17 = .ok (.aload_n 0, 1) := by decide +kernel
theorem dX1_setDays_18 : decode cX1_setDays 18 = .ok (.getfield 34, 3) := by decide +kernel
theorem dX1_setDays_21 : decode cX1_setDays 21 = .ok (.iload 6, 2) := by decide +kernel
theorem dX1_setDays_23 : decode cX1_setDays 23 = .ok (.iconst (-1), 1) := by decide +kernel
theorem dX1_setDays_24 : decode cX1_setDays 24 = .ok (.iastore, 1) := by decide +kernel
theorem dX1_setDays_25 : decode cX1_setDays 25 = .ok (.iload_n 2, 1) := by decide +kernel
theorem dX1_setDays_26 : decode cX1_setDays 26 = .ok (.iload 6, 2) := by decide +kernel
theorem dX1_setDays_28 : decode cX1_setDays 28 = .ok (.ishr, 1) := by decide +kernel
theorem dX1_setDays_29 : decode cX1_setDays 29 = .ok (.iconst 1, 1) := by decide +kernel
theorem dX1_setDays_30 : decode cX1_setDays 30 = .ok (.iand, 1) := by decide +kernel
theorem dX1_setDays_31 : decode cX1_setDays 31 = .ok (.ifCond .ne 6, 3) := by decide +kernel
theorem dX1_setDays_34 : decode cX1_setDays 34 = .ok (.goto 121, 3) := by decide +kernel
theorem dX1_setDays_37 : decode cX1_setDays 37 = .ok (.iload 5, 2) := by decide +kernel
theorem dX1_setDays_39 : decode cX1_setDays 39 = .ok (.iconst 1, 1) := by decide +kernel
theorem dX1_setDays_40 : decode cX1_setDays 40 = .ok (.iload 6, 2) := by decide +kernel
theorem dX1_setDays_42 : decode cX1_setDays 42 = .ok (.ishl, 1) := by decide +kernel
theorem dX1_setDays_43 : decode cX1_setDays 43 = .ok (.iconst (-1), 1) := by decide +kernel
theorem dX1_setDays_44 : decode cX1_setDays 44 = .ok (.ixor, 1) := by decide +kernel
theorem dX1_setDays_45 : decode cX1_setDays 45 = .ok (.iand, 1) := by decide +kernel
theorem dX1_setDays_46 : decode cX1_setDays 46 = .ok (.istore 5, 2) := by decide +kernel
theorem dX1_setDays_48 : decode cX1_setDays 48 = .ok (.iload_n 1, 1) := by decide +kernel
theorem dX1_setDays_49 : decode cX1_setDays 49 = .ok (.istore 7, 2) := by decide +kernel
theorem dX1_setDays_51 : decode cX1_setDays 51 = .ok (.iload 7, 2) := by decide +kernel
theorem dX1_setDays_53 : decode cX1_setDays 53 = .ok (.ifCond .lt 102, 3) := by decide +kernel
theorem dX1_setDays_56 : decode cX1_setDays 56 = .ok (.aload_n 0, 1) := by decide +kernel
theorem dX1_setDays_57 : decode cX1_setDays 57 = .ok (.getfield 34, 3) := by decide +kernel
theorem dX1_setDays_60 : decode cX1_setDays 60 = .ok (.iload 6, 2) := by decide +kernel
theorem dX1_setDays_62 : decode cX1_setDays 62 = .ok (.iaload, 1) := by decide +kernel
theorem dX1_setDays_63 : decode cX1_setDays 63 = .ok (.iconst (-1), 1) := by decide +kernel
theorem dX1_setDays_64 : decode cX1_setDays 64 = .ok (.if_icmp .ne 91, 3) := by decide +kernel
theorem dX1_setDays_67 : decode cX1_setDays 67 = .ok (.aload_n 0, 1) := by decide +kernel
theorem dX1_setDays_68 : decode cX1_setDays 68 = .ok (.getfield 17, 3) := by decide +kernel
theorem dX1_setDays_71 : decode cX1_setDays 71 = .ok (.iload 6, 2) := by decide +kernel
theorem dX1_setDays_73 : decode cX1_setDays 73 = .ok (.aaload, 1) := by decide +kernel
theorem dX1_setDays_74 : decode cX1_setDays 74 = .ok (.iload 7, 2) := by decide +kernel
theorem dX1_setDays_76 : decode cX1_setDays 76 = .ok (.laload, 1) := by decide +kernel
theorem dX1_setDays_77 : decode cX1_setDays 77 = .ok (.lconst 0, 1) := by decide +kernel
theorem dX1_setDays_78 : decode cX1_setDays 78 = .ok (.lcmp, 1) := by decide +kernel
theorem dX1_setDays_79 : decode cX1_setDays 79 = .ok (.ifCond .lt 70, 3) := by decide +kernel
theorem dX1_setDays_82 : decode cX1_setDays 82 = .ok (.aload_n 0, 1) := by decide +kernel
theorem dX1_setDays_83 : decode cX1_setDays 83 = .ok (.getfield 20, 3) := by decide +kernel
theorem dX1_setDays_86 : decode cX1_setDays 86 = .ok (.iload 7, 2) := by decide +kernel
theorem dX1_setDays_88 : decode cX1_setDays 88 = .ok (.iaload, 1) := by decide +kernel
theorem dX1_setDays_89 : decode cX1_setDays 89 = .ok (.ifCond .le 60, 3) := by decide +kernel
theorem dX1_setDays_92 : decode cX1_setDays 92 = .ok (.aload_n 0, 1) := by decide +kernel
theorem dX1_setDays_93 : decode cX1_setDays 93 = .ok (.iload_n 1, 1) := by decide +kernel
theorem dX1_setDays_94 : decode cX1_setDays 94 = .ok (.iload 7, 2) := by decide +kernel
theorem dX1_setDays_96 : decode cX1_setDays 96 = .ok (.iload 5, 2) := by decide +kernel
theorem dX1_setDays_98 : decode cX1_setDays 98 = .ok (.lload_n 3, 1) := by decide +kernel
theorem dX1_setDays_99 : decode cX1_setDays 99 = .ok (.aload_n 0, 1) := by decide +kernel
theorem dX1_setDays_100 : decode cX1_setDays 100 = .ok (.getfield 17, 3) := by decide +kernel
theorem dX1_setDays_103 : decode cX1_setDays 103 = .ok (.iload 6, 2) := by decide +kernel
theorem dX1_setDays_105 : decode cX1_setDays 105 = .ok (.aaload, 1) := by decide +kernel
theorem dX1_setDays_106 : decode cX1_setDays 106 = .ok (.iload 7, 2) := by decide +kernel
theorem dX1_setDays_108 : decode cX1_setDays 108 = .ok (.laload, 1) := by decide +kernel
theorem dX1_setDays_109 : decode cX1_setDays 109 = .ok (.ladd, 1) := by decide +kernel
theorem dX1_setDays_110 : decode cX1_setDays 110 = .ok (.invokevirtual 168, 3) := by decide +kernel
theorem dX1_setDays_113 : decode cX1_setDays 113 = .ok (.ifCond .eq 36, 3) := by decide +kernel
theorem dX1_setDays_116 : decode cX1_setDays 116 = .ok (.aload_n 0, 1) := by decide +kernel
theorem dX1_setDays_117 : decode cX1_setDays 117 = .ok (.getfield 34, 3) := by decide +kernel
theorem dX1_setDays_120 : decode cX1_setDays 120 = .ok (.iload 6, 2) := by decide +kernel
theorem dX1_setDays_122 : decode cX1_setDays 122 = .ok (.iload 7, 2) := by decide +kernel
theorem dX1_setDays_124 : decode cX1_setDays 124 = .ok (.iastore, 1) := by decide +kernel
theorem dX1_setDays_125 : decode cX1_setDays 125 = .ok (.lload_n 3, 1) := by decide +kernel
theorem dX1_setDays_126 : decode cX1_setDays 126 = .ok (.aload_n 0, 1) := by decide +kernel
theorem dX1_setDays_127 : decode cX1_setDays 127 = .ok (.getfield 17, 3) := by decide +kernel
theorem dX1_setDays_130 : decode cX1_setDays 130 = .ok (.iload 6, 2) := by decide +kernel
theorem dX1_setDays_132 : decode cX1_setDays 132 = .ok (.aaload, 1) := by decide +kernel
theorem dX1_setDays_133 : decode cX1_setDays 133 = .ok (.iload 7, 2) := by decide +kernel
theorem dX1_setDays_135 : decode cX1_setDays 135 = .ok (.laload, 1) := by decide +kernel
theorem dX1_setDays_136 : decode cX1_setDays 136 = .ok (.ladd, 1) := by decide +kernel
theorem dX1_setDays_137 : decode cX1_setDays 137 = .ok (.lstore_n 3, 1) := by decide +kernel
theorem dX1_setDays_138 : decode cX1_setDays 138 = .ok (.aload_n 0, 1) := by decide +kernel
theorem dX1_setDays_139 : decode cX1_setDays 139 = .ok (.getfield 20, 3) := by decide +kernel
theorem dX1_setDays_142 : decode cX1_setDays 142 = .ok (.iload 7, 2) := by decide +kernel
theorem dX1_setDays_144 : decode cX1_setDays 144 = .ok (.dup2, 1) := by decide +kernel
theorem dX1_setDays_145 : decode cX1_setDays 145 = .ok (.iaload, 1) := by decide +kernel
theorem dX1_setDays_146 : decode cX1_setDays 146 = .ok (.iconst 1, 1) := by decide +kernel
theorem dX1_setDays_147 : decode cX1_setDays 147 = .ok (.isub, 1) := by decide +kernel
theorem dX1_setDays_148 : decode cX1_setDays 148 = .ok (.iastore, 1) := by decide +kernel
theorem dX1_setDays_149 : decode cX1_setDays 149 = .ok (.iinc 7 (-1), 3) := by decide +kernel
theorem dX1_setDays_152 : decode cX1_setDays 152 = .ok (.goto (-101), 3) := by decide +kernel
theorem dX1_setDays_155 : decode cX1_setDays 155 = .ok (.iinc 6 1, 3) := by decide +kernel
theorem dX1_setDays_158 : decode cX1_setDays 158 = .ok (.goto (-150), 3) := by decide +kernel
theorem dX1_setDays_161 : decode cX1_setDays 161 = .ok (.return_, 1) := by decide +kernel
theorem dX1_othersMakeUp_0 : decode cX1_othersMakeUp 0 = .ok (.aload_n 0, 1) := by decide +kernel
theorem dX1_othersMakeUp_1 : decode cX1_othersMakeUp 1 = .ok (.invokevirtual 45, 3) := by decide +kernel
theorem dX1_othersMakeUp_4 : decode cX1_othersMakeUp 4 = .ok (.aload_n 0, 1) := by decide +kernel
theorem dX1_othersMakeUp_5 : decode cX1_othersMakeUp 5 = .ok (.getfield 20, 3) := by decide +kernel
theorem dX1_othersMakeUp_8 : decode cX1_othersMakeUp 8 = .ok (.iload_n 2, 1) := by decide +kernel
theorem dX1_othersMakeUp_9 : decode cX1_othersMakeUp 9 = .ok (.dup2, 1) := by decide +kernel
theorem dX1_othersMakeUp_10 : decode cX1_othersMakeUp 10 = .ok (.iaload, 1) := by decide +kernel
theorem dX1_othersMakeUp_11 : decode cX1_othersMakeUp 11 = .ok (.iconst 1, 1) := by decide +kernel
theorem dX1_othersMakeUp_12 : decode cX1_othersMakeUp 12 = .ok (.isub, 1) := by decide +kernel
theorem dX1_othersMakeUp_13 : decode cX1_othersMakeUp 13 = .ok (.iastore, 1) := by decide +kernel
theorem dX1_othersMakeUp_14 : decode cX1_othersMakeUp 14 = .ok (.iconst 0, 1) := by decide +kernel
theorem dX1_othersMakeUp_15 : decode cX1_othersMakeUp 15 = .ok (.istore 6, 2) := by decide +kernel
theorem dX1_othersMakeUp_17 : decode cX1_othersMakeUp 17 = .ok (.iload 6, 2) := by decide +kernel
theorem dX1_othersMakeUp_19 : decode cX1_othersMakeUp 19 = .ok (.iload_n 1, 1) := by decide +kernel
theorem dX1_othersMakeUp_20 : decode cX1_othersMakeUp 20 = .ok (.if_icmp .gt 16, 3) := by decide +kernel
theorem dX1_othersMakeUp_23 : decode cX1_othersMakeUp 23 = .ok (.aload_n 0, 1) := by decide +kernel
theorem dX1_othersMakeUp_24 : decode cX1_othersMakeUp 24 = .ok (.iload 6, 2) := by decide +kernel
theorem dX1_othersMakeUp_26 : decode cX1_othersMakeUp 26 = .ok (.iload_n 3, 1) := by decide +kernel
theorem dX1_othersMakeUp_27 : decode cX1_othersMakeUp 27 = .ok (.invokevirtual 56, 3) := by decide +kernel
theorem dX1_othersMakeUp_30 : decode cX1_othersMakeUp 30 = .ok (.iinc 6 1, 3) := by decide +kernel
theorem dX1_othersMakeUp_33 : decode cX1_othersMakeUp 33 = .ok (.goto (-16), 3) := by decide +kernel
theorem dX1_othersMakeUp_36 : decode cX1_othersMakeUp 36 = .ok (.aload_n 0, 1) := by decide +kernel
theorem dX1_othersMakeUp_37 : decode cX1_othersMakeUp 37 = .ok (.getfield 20, 3) := by decide +kernel
theorem dX1_othersMakeUp_40 : decode cX1_othersMakeUp 40 = .ok (.iload_n 2, 1) := by decide +kernel
theorem dX1_othersMakeUp_41 : decode cX1_othersMakeUp 41 = .ok (.dup2, 1) := by decide +kernel
theorem dX1_othersMakeUp_42 : decode cX1_othersMakeUp 42 = .ok (.iaload, 1) := by decide +kernel
theorem dX1_othersMakeUp_43 : decode cX1_othersMakeUp 43 = .ok (.iconst 1, 1) := by decide +kernel
theorem dX1_othersMakeUp_44 : decode cX1_othersMakeUp 44 = .ok (.iadd, 1) := by decide +kernel
theorem dX1_othersMakeUp_45 : decode cX1_othersMakeUp 45 = .ok (.iastore, 1) := by decide +kernel
theorem dX1_othersMakeUp_46 : decode cX1_othersMakeUp 46 = .ok (.aload_n 0, 1) := by decide +kernel
theorem dX1_othersMakeUp_47 : decode cX1_othersMakeUp 47 = .ok (.getfield 23, 3) := by decide +kernel
theorem dX1_othersMakeUp_50 : decode cX1_othersMakeUp 50 = .ok (.iload_n 3, 1) := by decide +kernel
theorem dX1_othersMakeUp_51 : decode cX1_othersMakeUp 51 = .ok (.laload, 1) := by decide +kernel
theorem dX1_othersMakeUp_52 : decode cX1_othersMakeUp 52 = .ok (.lconst 0, 1) := by decide +kernel
theorem dX1_othersMakeUp_53 : decode cX1_othersMakeUp 53 = .ok (.lcmp, 1) := by decide +kernel
theorem dX1_othersMakeUp_54 : decode cX1_othersMakeUp 54 = .ok (.ifCond .lt 24, 3) := by decide +kernel
theorem dX1_othersMakeUp_57 : decode cX1_othersMakeUp 57 = .ok (.aload_n 0, 1) := by decide +kernel
theorem dX1_othersMakeUp_58 : decode cX1_othersMakeUp 58 = .ok (.lload 4, 2) := by decide +kernel
theorem dX1_othersMakeUp_60 : decode cX1_othersMakeUp 60 = .ok (.aload_n 0, 1) := by decide +kernel
theorem dX1_othersMakeUp_61 : decode cX1_othersMakeUp 61 = .ok (.getfield 23, 3) := by decide +kernel
theorem dX1_othersMakeUp_64 : decode cX1_othersMakeUp 64 = .ok (.iload_n 3, 1) := by decide +kernel
theorem dX1_othersMakeUp_65 : decode cX1_othersMakeUp 65 = .ok (.laload, 1) := by decide +kernel
theorem dX1_othersMakeUp_66 : decode cX1_othersMakeUp 66 = .ok (.ladd, 1) := by decide +kernel
theorem dX1_othersMakeUp_67 : decode cX1_othersMakeUp 67 = .ok (.iload_n 1, 1) := by decide +kernel
theorem dX1_othersMakeUp_68 : decode cX1_othersMakeUp 68 = .ok (.invokevirtual 162, 3) := by decide +kernel
theorem dX1_othersMakeUp_71 : decode cX1_othersMakeUp 71 = .ok (.ifCond .eq 7, 3) := by decide +kernel
theorem dX1_othersMakeUp_74 : decode cX1_othersMakeUp 74 = .ok (.iconst 1, 1) := by decide +kernel
theorem dX1_othersMakeUp_75 : decode cX1_othersMakeUp 75 = .ok (.goto 4, 3) := by decide +kernel
theorem dX1_othersMakeUp_78 : decode cX1_othersMakeUp 78 = .ok (.iconst 0, 1) := by decide +kernel
theorem dX1_othersMakeUp_79 : decode cX1_othersMakeUp 79 = .ok (.ireturn, 1) := by decide +kernel
theorem dX1_findWins_0 : decode cX1_findWins 0 = .ok (.aload_n 0, 1) := by decide +kernel
theorem dX1_findWins_1 : decode cX1_findWins 1 = .ok (.invokevirtual 45, 3) := by decide +kernel
theorem dX1_findWins_4 : decode cX1_findWins 4 = .ok (.iconst 0, 1) := by decide +kernel
theorem dX1_findWins_5 : decode cX1_findWins 5 = .ok (.istore_n 1, 1) := by decide +kernel
theorem dX1_findWins_6 : decode cX1_findWins 6 = .ok (.iload_n 1, 1) := by decide +kernel
theorem dX1_findWins_7 : decode cX1_findWins 7 = .ok (.bipush 64, 2) := by decide +kernel
theorem dX1_findWins_9 : decode cX1_findWins 9 = .ok (.if_icmp .ge 16, 3) := by decide +kernel
theorem dX1_findWins_12 : decode cX1_findWins 12 = .ok (.aload_n 0, 1) := by decide +kernel
theorem dX1_findWins_13 : decode cX1_findWins 13 = .ok (.getfield 30, 3) := by decide +kernel
theorem dX1_findWins_16 : decode cX1_findWins 16 = .ok (.iload_n 1, 1) := by decide +kernel
theorem dX1_findWins_17 : decode cX1_findWins 17 = .ok (.iconst 0, 1) := by decide +kernel
theorem dX1_findWins_18 : decode cX1_findWins 18 = .ok (.bastore, 1) := by decide +kernel
theorem dX1_findWins_19 : decode cX1_findWins 19 = .ok (.iinc 1 1, 3) := by decide +kernel
theorem dX1_findWins_22 : decode cX1_findWins 22 = .ok (.goto (-16), 3) := by decide +kernel
theorem dX1_findWins_25 : decode cX1_findWins 25 = .ok (.iconst 0, 1) := by decide +kernel
theorem dX1_findWins_26 : decode cX1_findWins 26 = .ok (.istore_n 1, 1) := by decide +kernel
theorem dX1_findWins_27 : decode cX1_findWins 27 = .ok (.iload_n 1, 1) := by decide +kernel
theorem dX1_findWins_28 : decode cX1_findWins 28 = .ok (.aload_n 0, 1) := by decide +kernel
theorem dX1_findWins_29 : decode cX1_findWins 29 = .ok (.getfield 48, 3) := by decide +kernel
theorem dX1_findWins_32 : decode cX1_findWins 32 = .ok (.if_icmp .gt 66, 3) := by decide +kernel
theorem dX1_findWins_35 : decode cX1_findWins 35 = .ok (.aload_n 0, 1) := by decide +kernel
theorem dX1_findWins_36 : decode cX1_findWins 36 = .ok (.iload_n 1, 1) := by decide +kernel
theorem dX1_findWins_37 : decode cX1_findWins 37 = .ok (.aload_n 0, 1) := by decide +kernel
theorem dX1_findWins_38 : decode cX1_findWins 38 = .ok (.invokevirtual 52, 3) := by decide +kernel
theorem dX1_findWins_41 : decode cX1_findWins 41 = .ok (.invokevirtual 56, 3) := by decide +kernel
theorem dX1_findWins_44 : decode cX1_findWins 44 = .ok (.iconst 0, 1) := by decide +kernel
theorem dX1_findWins_45 : decode cX1_findWins 45 = .ok (.istore_n 2, 1) := by decide +kernel
theorem dX1_findWins_46 : decode cX1_findWins 46 = .ok (.iload_n 2, 1) := by decide +kernel
theorem dX1_findWins_47 : decode cX1_findWins 47 = .ok (.aload_n 0, 1) := by decide +kernel
theorem dX1_findWins_48 : decode cX1_findWins 48 = .ok (.invokevirtual 52, 3) := by decide +kernel
theorem dX1_findWins_51 : decode cX1_findWins 51 = .ok (.if_icmp .gt 41, 3) := by decide +kernel
theorem dX1_findWins_54 : decode cX1_findWins 54 = .ok (.aload_n 0, 1) := by decide +kernel
theorem dX1_findWins_55 : decode cX1_findWins 55 = .ok (.getfield 23, 3) := by decide +kernel
theorem dX1_findWins_58 : decode cX1_findWins 58 = .ok (.iload_n 2, 1) := by decide +kernel
theorem dX1_findWins_59 : decode cX1_findWins 59 = .ok (.laload, 1) := by decide +kernel
theorem dX1_findWins_60 : decode cX1_findWins 60 = .ok (.lconst 0, 1) := by decide +kernel
theorem dX1_findWins_61 : decode cX1_findWins 61 = .ok (.lcmp, 1) := by decide +kernel
theorem dX1_findWins_62 : decode cX1_findWins 62 = .ok (.ifCond .lt 24, 3) := by decide +kernel
theorem dX1_findWins_65 : decode cX1_findWins 65 = .ok (.aload_n 0, 1) := by decide +kernel
theorem dX1_findWins_66 : decode cX1_findWins 66 = .ok (.aload_n 0, 1) := by decide +kernel
theorem dX1_findWins_67 : decode cX1_findWins 67 = .ok (.getfield 23, 3) := by decide +kernel
theorem dX1_findWins_70 : decode cX1_findWins 70 = .ok (.iload_n 2, 1) := by decide +kernel
theorem dX1_findWins_71 : decode cX1_findWins 71 = .ok (.laload, 1) := by decide +kernel
theorem dX1_findWins_72 : decode cX1_findWins 72 = .ok (.iload_n 1, 1) := by decide +kernel
theorem dX1_findWins_73 : decode cX1_findWins 73 = .ok (.invokevirtual 162, 3) := by decide +kernel
theorem dX1_findWins_76 : decode cX1_findWins 76 = .ok (.ifCond .eq 10, 3) := by decide +kernel
theorem dX1_findWins_79 : decode cX1_findWins 79 = .ok (.aload_n 0, 1) := by decide +kernel
theorem dX1_findWins_80 : decode cX1_findWins 80 = .ok (.getfield 30, 3) := by decide +kernel
theorem dX1_findWins_83 : decode cX1_findWins 83 = .ok (.iload_n 2, 1) := by decide +kernel
theorem dX1_findWins_84 : decode cX1_findWins 84 = .ok (.iconst 1, 1) := by decide +kernel
theorem dX1_findWins_85 : decode cX1_findWins 85 = .ok (.bastore, 1) := by decide +kernel
theorem dX1_findWins_86 : decode cX1_findWins 86 = .ok (.iinc 2 1, 3) := by decide +kernel
theorem dX1_findWins_89 : decode cX1_findWins 89 = .ok (.goto (-43), 3) := by decide +kernel
theorem dX1_findWins_92 : decode cX1_findWins 92 = .ok (.iinc 1 1, 3) := by decide +kernel
theorem dX1_findWins_95 : decode cX1_findWins 95 = .ok (.goto (-68), 3) := by decide +kernel
theorem dX1_findWins_98 : decode cX1_findWins 98 = .ok (.return_, 1) := by decide +kernel
theorem dX1_stopsAll_0 : decode cX1_stopsAll 0 = .ok (.iconst 0, 1) := by decide +kernel
theorem dX1_stopsAll_1 : decode cX1_stopsAll 1 = .ok (.istore_n 2, 1) := by decide +kernel
theorem dX1_stopsAll_2 : decode cX1_stopsAll 2 = .ok (.iload_n 2, 1) := by decide +kernel
theorem dX1_stopsAll_3 : decode cX1_stopsAll 3 = .ok (.aload_n 0, 1) := by decide +kernel
theorem dX1_stopsAll_4 : decode cX1_stopsAll 4 = .ok (.invokevirtual 52, 3) := by decide +kernel
theorem dX1_stopsAll_7 : decode cX1_stopsAll 7 = .ok (.if_icmp .gt 26, 3) := by decide +kernel
theorem dX1_stopsAll_10 : decode cX1_stopsAll 10 = .ok (.aload_n 0, 1) := by decide +kernel
theorem dX1_stopsAll_11 : decode cX1_stopsAll 11 = .ok (.getfield 30, 3) := by decide +kernel
theorem dX1_stopsAll_14 : decode cX1_stopsAll 14 = .ok (.iload_n 2, 1) := by decide +kernel
theorem dX1_stopsAll_15 : decode cX1_stopsAll 15 = .ok (.baload, 1) := by decide +kernel
theorem dX1_stopsAll_16 : decode cX1_stopsAll 16 = .ok (.ifCond .eq 11, 3) := by decide +kernel
theorem dX1_stopsAll_19 : decode cX1_stopsAll 19 = .ok (.iload_n 2, 1) := by decide +kernel
theorem dX1_stopsAll_20 : decode cX1_stopsAll 20 = .ok (.iload_n 1, 1) := by decide +kernel
theorem dX1_stopsAll_21 : decode cX1_stopsAll 21 = .ok (.iand, 1) := by decide +kernel
theorem dX1_stopsAll_22 : decode cX1_stopsAll 22 = .ok (.ifCond .ne 5, 3) := by decide +kernel
theorem dX1_stopsAll_25 : decode cX1_stopsAll 25 = .ok (.iconst 0, 1) := by decide +kernel
theorem dX1_stopsAll_26 : decode cX1_stopsAll 26 = .ok (.ireturn, 1) := by decide +kernel
theorem dX1_stopsAll_27 : decode cX1_stopsAll 27 = .ok (.iinc 2 1, 3) := by decide +kernel
theorem dX1_stopsAll_30 : decode cX1_stopsAll 30 = .ok (.goto (-28), 3) := by decide +kernel
theorem dX1_stopsAll_33 : decode cX1_stopsAll 33 = .ok (.iconst 1, 1) := by decide +kernel
theorem dX1_stopsAll_34 : decode cX1_stopsAll 34 = .ok (.ireturn, 1) := by decide +kernel
theorem dX1_asWitnesses_0 : decode cX1_asWitnesses 0 = .ok (.iconst 0, 1) := by decide +kernel
theorem dX1_asWitnesses_1 : decode cX1_asWitnesses 1 = .ok (.istore_n 2, 1) := by decide +kernel
theorem dX1_asWitnesses_2 : decode cX1_asWitnesses 2 = .ok (.iconst 0, 1) := by decide +kernel
theorem dX1_asWitnesses_3 : decode cX1_asWitnesses 3 = .ok (.istore_n 3, 1) := by decide +kernel
theorem dX1_asWitnesses_4 : decode cX1_asWitnesses 4 = .ok (.iload_n 3, 1) := by decide +kernel
theorem dX1_asWitnesses_5 : decode cX1_asWitnesses 5 = .ok (.aload_n 0, 1) := by decide +kernel
theorem dX1_asWitnesses_6 : decode cX1_asWitnesses 6 = .ok (.getfield 81, 3) := by decide +kernel
theorem dX1_asWitnesses_9 : decode cX1_asWitnesses 9 = .ok (.if_icmp .ge 29, 3) := by decide +kernel
theorem dX1_asWitnesses_12 : decode cX1_asWitnesses 12 = .ok (.iload_n 1, 1) := by decide +kernel
theorem dX1_asWitnesses_13 : decode cX1_asWitnesses 13 = .ok (.iload_n 3, 1) := by decide +kernel
theorem dX1_asWitnesses_14 : decode cX1_asWitnesses 14 = .ok (.ishr, 1) := by decide +kernel
theorem dX1_asWitnesses_15 : decode cX1_asWitnesses 15 = .ok (.iconst 1, 1) := by decide +kernel
theorem dX1_asWitnesses_16 : decode cX1_asWitnesses 16 = .ok (.iand, 1) := by decide +kernel
theorem dX1_asWitnesses_17 : decode cX1_asWitnesses 17 = .ok (.iconst 1, 1) := by decide +kernel
theorem dX1_asWitnesses_18 : decode cX1_asWitnesses 18 = .ok (.if_icmp .ne 14, 3) := by decide +kernel
theorem dX1_asWitnesses_21 : decode cX1_asWitnesses 21 = .ok (.iload_n 2, 1) := by decide +kernel
theorem dX1_asWitnesses_22 : decode cX1_asWitnesses 22 = .ok (.iconst 1, 1) := by decide +kernel
theorem dX1_asWitnesses_23 : decode cX1_asWitnesses 23 = .ok (.aload_n 0, 1) := by decide +kernel
theorem dX1_asWitnesses_24 : decode cX1_asWitnesses 24 = .ok (.getfield 9, 3) := by decide +kernel
theorem dX1_asWitnesses_27 : decode cX1_asWitnesses 27 = .ok (.iload_n 3, 1) := by decide +kernel
theorem dX1_asWitnesses_28 : decode cX1_asWitnesses 28 = .ok (.iaload, 1) := by decide +kernel
theorem dX1_asWitnesses_29 : decode cX1_asWitnesses 29 = .ok (.ishl, 1) := by decide +kernel
theorem dX1_asWitnesses_30 : decode cX1_asWitnesses 30 = .ok (.ior, 1) := by decide +kernel
theorem dX1_asWitnesses_31 : decode cX1_asWitnesses 31 = .ok (.istore_n 2, 1) := by decide +kernel
theorem dX1_asWitnesses_32 : decode cX1_asWitnesses 32 = .ok (.iinc 3 1, 3) := by decide +kernel
theorem dX1_asWitnesses_35 : decode cX1_asWitnesses 35 = .ok (.goto (-31), 3) := by decide +kernel
theorem dX1_asWitnesses_38 : decode cX1_asWitnesses 38 = .ok (.iload_n 2, 1) := by decide +kernel
theorem dX1_asWitnesses_39 : decode cX1_asWitnesses 39 = .ok (.ireturn, 1) := by decide +kernel
theorem dX2_init_0 : decode cX2_init 0 = .ok (.aload_n 0, 1) := by decide +kernel
theorem dX2_init_1 : decode cX2_init 1 = .ok (.invokespecial 3, 3) := by decide +kernel
theorem dX2_init_4 : decode cX2_init 4 = .ok (.aload_n 0, 1) := by decide +kernel
theorem dX2_init_5 : decode cX2_init 5 = .ok (.bipush 6, 2) := by decide +kernel
theorem dX2_init_7 : decode cX2_init 7 = .ok (.newarray .int, 2) := by decide +kernel
theorem dX2_init_9 : decode cX2_init 9 = .ok (.putfield 9, 3) := by decide +kernel
theorem dX2_init_12 : decode cX2_init 12 = .ok (.aload_n 0, 1) := by decide +kernel
theorem dX2_init_13 : decode cX2_init 13 = .ok (.bipush 6, 2) := by decide +kernel
theorem dX2_init_15 : decode cX2_init 15 = .ok (.newarray .int, 2) := by decide +kernel
theorem dX2_init_17 : decode cX2_init 17 = .ok (.putfield 15, 3) := by decide +kernel
theorem dX2_init_20 : decode cX2_init 20 = .ok (.aload_n 0, 1) := by decide +kernel
theorem dX2_init_21 : decode cX2_init 21 = .ok (.bipush 6, 2) := by decide +kernel
theorem dX2_init_23 : decode cX2_init 23 = .ok (.newarray .int, 2) := by decide +kernel
theorem dX2_init_25 : decode cX2_init 25 = .ok (.putfield 18, 3) := by decide +kernel
theorem dX2_init_28 : decode cX2_init 28 = .ok (.aload_n 0, 1) := by decide +kernel
theorem dX2_init_29 : decode cX2_init 29 = .ok (.bipush 12, 2) := by decide +kernel
theorem dX2_init_31 : decode cX2_init 31 = .ok (.newarray .int, 2) := by decide +kernel
theorem dX2_init_33 : decode cX2_init 33 = .ok (.putfield 21, 3) := by decide +kernel
theorem dX2_init_36 : decode cX2_init 36 = .ok (.aload_n 0, 1) := by decide +kernel
theorem dX2_init_37 : decode cX2_init 37 = .ok (.bipush 12, 2) := by decide +kernel
theorem dX2_init_39 : decode cX2_init 39 = .ok (.newarray .int, 2) := by decide +kernel
theorem dX2_init_41 : decode cX2_init 41 = .ok (.putfield 24, 3) := by decide +kernel
theorem dX2_init_44 : decode cX2_init 44 = .ok (.aload_n 0, 1) := by decide +kernel
theorem dX2_init_45 : decode cX2_init 45 = .ok (.bipush 12, 2) := by decide +kernel
theorem dX2_init_47 : decode cX2_init 47 = .ok (.newarray .int, 2) := by decide +kernel
theorem dX2_init_49 : decode cX2_init 49 = .ok (.putfield 27, 3) := by decide +kernel
theorem dX2_init_52 : decode cX2_init 52 = .ok (.return_, 1) := by decide +kernel
theorem dX2_hasSuit_0 : decode cX2_hasSuit 0 = .ok (.iload_n 1, 1) := by decide +kernel
theorem dX2_hasSuit_1 : decode cX2_hasSuit 1 = .ok (.ifCond .lt 21, 3) := by decide +kernel
theorem dX2_hasSuit_4 : decode cX2_hasSuit 4 = .ok (.iload_n 1, 1) := by decide +kernel
theorem dX2_hasSuit_5 : decode cX2_hasSuit 5 = .ok (.aload_n 0, 1) := by decide +kernel
theorem dX2_hasSuit_6 : decode cX2_hasSuit 6 = .ok (.getfield 30, 3) := by decide +kernel
theorem dX2_hasSuit_9 : decode cX2_hasSuit 9 = .ok (.if_icmp .ge 13, 3) := by decide +kernel
theorem dX2_hasSuit_12 : decode cX2_hasSuit 12 = .ok (.iload_n 1, 1) := by decide +kernel
theorem dX2_hasSuit_13 : decode cX2_hasSuit 13 = .ok (.bipush 6, 2) := by decide +kernel
theorem dX2_hasSuit_15 : decode cX2_hasSuit 15 = .ok (.if_icmp .ge 7, 3) := by decide +kernel
theorem dX2_hasSuit_18 : decode cX2_hasSuit 18 = .ok (.iconst 1, 1) := by decide +kernel
theorem dX2_hasSuit_19 : decode cX2_hasSuit 19 = .ok (.goto 4, 3) := by decide +kernel
theorem dX2_hasSuit_22 : decode cX2_hasSuit 22 = .ok (.iconst 0, 1) := by decide +kernel
theorem dX2_hasSuit_23 : decode cX2_hasSuit 23 = .ok (.ireturn, 1) := by decide +kernel
theorem dX2_hasWitness_0 : decode cX2_hasWitness 0 = .ok (.iload_n 1, 1) := by decide +kernel
theorem dX2_hasWitness_1 : decode cX2_hasWitness 1 = .ok (.ifCond .lt 21, 3) := by decide +kernel
theorem dX2_hasWitness_4 : decode cX2_hasWitness 4 = .ok (.iload_n 1, 1) := by decide +kernel
theorem dX2_hasWitness_5 : decode cX2_hasWitness 5 = .ok (.aload_n 0, 1) := by decide +kernel
theorem dX2_hasWitness_6 : decode cX2_hasWitness 6 = .ok (.getfield 34, 3) := by decide +kernel
theorem dX2_hasWitness_9 : decode cX2_hasWitness 9 = .ok (.if_icmp .ge 13, 3) := by decide +kernel
theorem dX2_hasWitness_12 : decode cX2_hasWitness 12 = .ok (.iload_n 1, 1) := by decide +kernel
theorem dX2_hasWitness_13 : decode cX2_hasWitness 13 = .ok (.bipush 12, 2) := by decide +kernel
theorem dX2_hasWitness_15 : decode cX2_hasWitness 15 = .ok (.if_icmp .ge 7, 3) := by decide +kernel
theorem dX2_hasWitness_18 : decode cX2_hasWitness 18 = .ok (.iconst 1, 1) := by decide +kernel
theorem dX2_hasWitness_19 : decode cX2_hasWitness 19 = .ok (.goto 4, 3) := by decide +kernel
theorem dX2_hasWitness_22 : decode cX2_hasWitness 22 = .ok (.iconst 0, 1) := by decide +kernel
theorem dX2_hasWitness_23 : decode cX2_hasWitness 23 = .ok (.ireturn, 1) := by decide +kernel
theorem dX2_goalOf_0 : decode cX2_goalOf 0 = .ok (.aload_n 0, 1) := by decide +kernel
theorem dX2_goalOf_1 : decode cX2_goalOf 1 = .ok (.iload_n 1, 1) := by decide +kernel
theorem dX2_goalOf_2 : decode cX2_goalOf 2 = .ok (.invokevirtual 37, 3) := by decide +kernel
theorem dX2_goalOf_5 : decode cX2_goalOf 5 = .ok (.ifCond .eq 14, 3) := by decide +kernel
theorem dX2_goalOf_8 : decode cX2_goalOf 8 = .ok (.iconst 3, 1) := by decide +kernel
theorem dX2_goalOf_9 : decode cX2_goalOf 9 = .ok (.aload_n 0, 1) := by decide +kernel
theorem dX2_goalOf_10 : decode cX2_goalOf 10 = .ok (.getfield 9, 3) := by decide +kernel
theorem dX2_goalOf_13 : decode cX2_goalOf 13 = .ok (.iload_n 1, 1) := by decide +kernel
theorem dX2_goalOf_14 : decode cX2_goalOf 14 = .ok (.iaload, 1) := by decide +kernel
theorem dX2_goalOf_15 : decode cX2_goalOf 15 = .ok (.imul, 1) := by decide +kernel
theorem dX2_goalOf_16 : decode cX2_goalOf 16 = .ok (.goto 4, 3) := by decide +kernel
theorem dX2_goalOf_19 : decode cX2_goalOf 19 = .ok (.iconst 0, 1) := by decide +kernel
theorem dX2_goalOf_20 : decode cX2_goalOf 20 = .ok (.ireturn, 1) := by decide +kernel
theorem dX2_witnessesOf_0 : decode cX2_witnessesOf 0 = .ok (.iconst 0, 1) := by decide +kernel
theorem dX2_witnessesOf_1 : decode cX2_witnessesOf 1 = .ok (.istore_n 2, 1) := by decide +kernel
theorem dX2_witnessesOf_2 : decode cX2_witnessesOf 2 = .ok (.iconst 0, 1) := by decide +kernel
theorem dX2_witnessesOf_3 : decode cX2_witnessesOf 3 = .ok (.istore_n 3, 1) := by decide +kernel
theorem dX2_witnessesOf_4 : decode cX2_witnessesOf 4 = .ok (.iload_n 3, 1) := by decide +kernel
theorem dX2_witnessesOf_5 : decode cX2_witnessesOf 5 = .ok (.aload_n 0, 1) := by decide +kernel
theorem dX2_witnessesOf_6 : decode cX2_witnessesOf 6 = .ok (.getfield 34, 3) := by decide +kernel
theorem dX2_witnessesOf_9 : decode cX2_witnessesOf 9 = .ok (.if_icmp .ge 31, 3) := by decide +kernel
theorem dX2_witnessesOf_12 : decode cX2_witnessesOf 12 = .ok (.iload_n 3, 1) := by decide +kernel
theorem dX2_witnessesOf_13 : decode cX2_witnessesOf 13 = .ok (.bipush 12, 2) := by decide +kernel
theorem dX2_witnessesOf_15 : decode cX2_witnessesOf 15 = .ok (.if_icmp .ge 25, 3) := by decide +kernel
theorem dX2_witnessesOf_18 : decode cX2_witnessesOf 18 = .ok (.aload_n 0, 1) := by decide +kernel
theorem dX2_witnessesOf_19 : decode cX2_witnessesOf 19 = .ok (.getfield 21, 3) := by decide +kernel
theorem dX2_witnessesOf_22 : decode cX2_witnessesOf 22 = .ok (.iload_n 3, 1) := by decide +kernel
theorem dX2_witnessesOf_23 : decode cX2_witnessesOf 23 = .ok (.iaload, 1) := by decide +kernel
theorem dX2_witnessesOf_24 : decode cX2_witnessesOf 24 = .ok (.iload_n 1, 1) := by decide +kernel
theorem dX2_witnessesOf_25 : decode cX2_witnessesOf 25 = .ok (.if_icmp .ne 9, 3) := by decide +kernel
theorem dX2_witnessesOf_28 : decode cX2_witnessesOf 28 = .ok (.iload_n 2, 1) := by decide +kernel
theorem dX2_witnessesOf_29 : decode cX2_witnessesOf 29 = .ok (.iconst 1, 1) := by decide +kernel
theorem dX2_witnessesOf_30 : decode cX2_witnessesOf 30 = .ok (.iload_n 3, 1) := by decide +kernel
theorem dX2_witnessesOf_31 : decode cX2_witnessesOf 31 = .ok (.ishl, 1) := by decide +kernel
theorem dX2_witnessesOf_32 : decode cX2_witnessesOf 32 = .ok (.ior, 1) := by decide +kernel
theorem dX2_witnessesOf_33 : decode cX2_witnessesOf 33 = .ok (.istore_n 2, 1) := by decide +kernel
theorem dX2_witnessesOf_34 : decode cX2_witnessesOf 34 = .ok (.iinc 3 1, 3) := by decide +kernel
theorem dX2_witnessesOf_37 : decode cX2_witnessesOf 37 = .ok (.goto (-33), 3) := by decide +kernel
theorem dX2_witnessesOf_40 : decode cX2_witnessesOf 40 = .ok (.iload_n 2, 1) := by decide +kernel
theorem dX2_witnessesOf_41 : decode cX2_witnessesOf 41 = .ok (.ireturn, 1) := by decide +kernel
theorem dX2_readFrom_0 : decode cX2_readFrom 0 = .ok (.aload_n 0, 1) := by decide +kernel
theorem dX2_readFrom_1 : decode cX2_readFrom 1 = .ok (.iconst 0, 1) := by decide +kernel
theorem dX2_readFrom_2 : decode cX2_readFrom 2 = .ok (.putfield 30, 3) := by decide +kernel
theorem dX2_readFrom_5 : decode cX2_readFrom 5 = .ok (.aload_n 0, 1) := by decide +kernel
theorem dX2_readFrom_6 : decode cX2_readFrom 6 = .ok (.iconst 0, 1) := by decide +kernel
theorem dX2_readFrom_7 : decode cX2_readFrom 7 = .ok (.putfield 34, 3) := by decide +kernel
theorem dX2_readFrom_10 : decode cX2_readFrom 10 = .ok (.iconst 0, 1) := by decide +kernel
theorem dX2_readFrom_11 : decode cX2_readFrom 11 = .ok (.istore_n 2, 1) := by decide +kernel
theorem dX2_readFrom_12 : decode cX2_readFrom 12 = .ok (.iload_n 2, 1) := by decide +kernel
theorem dX2_readFrom_13 : decode cX2_readFrom 13 = .ok (.sipush 500, 3) := by decide +kernel
theorem dX2_readFrom_16 : decode cX2_readFrom 16 = .ok (.if_icmp .ge 55, 3) := by decide +kernel
theorem dX2_readFrom_19 : decode cX2_readFrom 19 = .ok (.aload_n 1, 1) := by decide +kernel
theorem dX2_readFrom_20 : decode cX2_readFrom 20 = .ok (.invokevirtual 41, 3) := by decide +kernel
theorem dX2_readFrom_23 : decode cX2_readFrom 23 = .ok (.ifCond .eq 48, 3) := by decide +kernel
theorem dX2_readFrom_26 : decode cX2_readFrom 26 = .ok (.aload_n 1, 1) := by decide +kernel
theorem dX2_readFrom_27 : decode cX2_readFrom 27 = .ok (.ldc 47, 2) := by decide +kernel
theorem dX2_readFrom_29 : decode cX2_readFrom 29 = .ok (.invokevirtual 49, 3) := by decide +kernel
theorem dX2_readFrom_32 : decode cX2_readFrom 32 = .ok (.ifCond .eq 11, 3) := by decide +kernel
theorem dX2_readFrom_35 : decode cX2_readFrom 35 = .ok (.aload_n 0, 1) := by decide +kernel
theorem dX2_readFrom_36 : decode cX2_readFrom 36 = .ok (.aload_n 1, 1) := by decide +kernel
theorem dX2_readFrom_37 : decode cX2_readFrom 37 = .ok (.invokevirtual 53, 3) := by decide +kernel
theorem dX2_readFrom_40 : decode cX2_readFrom 40 = .ok (.goto 25, 3) := by decide +kernel
theorem dX2_readFrom_43 : decode cX2_readFrom 43 = .ok (.aload_n 1, 1) := by decide +kernel
theorem dX2_readFrom_44 : decode cX2_readFrom 44 = .ok (.ldc 57, 2) := by decide +kernel
theorem dX2_readFrom_46 : decode cX2_readFrom 46 = .ok (.invokevirtual 49, 3) := by decide +kernel
theorem dX2_readFrom_49 : decode cX2_readFrom 49 = .ok (.ifCond .eq 11, 3) := by decide +kernel
theorem dX2_readFrom_52 : decode cX2_readFrom 52 = .ok (.aload_n 0, 1) := by decide +kernel
theorem dX2_readFrom_53 : decode cX2_readFrom 53 = .ok (.aload_n 1, 1) := by decide +kernel
theorem dX2_readFrom_54 : decode cX2_readFrom 54 = .ok (.invokevirtual 59, 3) := by decide +kernel
theorem dX2_readFrom_57 : decode cX2_readFrom 57 = .ok (.goto 8, 3) := by decide +kernel
theorem dX2_readFrom_60 : decode cX2_readFrom 60 = .ok (.aload_n 1, 1) := by decide +kernel
theorem dX2_readFrom_61 : decode cX2_readFrom 61 = .ok (.iconst 1, 1) := by decide +kernel
theorem dX2_readFrom_62 : decode cX2_readFrom 62 = .ok (.invokevirtual 62, 3) := by decide +kernel
theorem dX2_readFrom_65 : decode cX2_readFrom 65 = .ok (.iinc 2 1, 3) := by decide +kernel
theorem dX2_readFrom_68 : decode cX2_readFrom 68 = .ok (.goto (-56), 3) := by decide +kernel
theorem dX2_readFrom_71 : decode cX2_readFrom 71 = .ok (.return_, 1) := by decide +kernel
theorem dX2_readSuit_0 : decode cX2_readSuit 0 = .ok (.aload_n 0, 1) := by decide +kernel
theorem dX2_readSuit_1 : decode cX2_readSuit 1 = .ok (.getfield 30, 3) := by decide +kernel
theorem dX2_readSuit_4 : decode cX2_readSuit 4 = .ok (.bipush 6, 2) := by decide +kernel
theorem dX2_readSuit_6 : decode cX2_readSuit 6 = .ok (.if_icmp .lt 9, 3) := by decide +kernel
theorem dX2_readSuit_9 : decode cX2_readSuit 9 = .ok (.aload_n 1, 1) := by decide +kernel
theorem dX2_readSuit_10 : decode cX2_readSuit 10 = .ok (.iconst 3, 1) := by decide +kernel
theorem dX2_readSuit_11 : decode cX2_readSuit 11 = .ok (.invokevirtual 66, 3) := by decide +kernel
theorem dX2_readSuit_14 : decode cX2_readSuit 14 = .ok (.return_, 1) := by decide +kernel
theorem dX2_readSuit_15 : decode cX2_readSuit 15 = .ok (.aload_n 0, 1) := by decide +kernel
theorem dX2_readSuit_16 : decode cX2_readSuit 16 = .ok (.getfield 9, 3) := by decide +kernel
theorem dX2_readSuit_19 : decode cX2_readSuit 19 = .ok (.aload_n 0, 1) := by decide +kernel
theorem dX2_readSuit_20 : decode cX2_readSuit 20 = .ok (.getfield 30, 3) := by decide +kernel
theorem dX2_readSuit_23 : decode cX2_readSuit 23 = .ok (.aload_n 1, 1) := by decide +kernel
theorem dX2_readSuit_24 : decode cX2_readSuit 24 = .ok (.iconst 1, 1) := by decide +kernel
theorem dX2_readSuit_25 : decode cX2_readSuit 25 = .ok (.sipush 999, 3) := by decide +kernel
theorem dX2_readSuit_28 : decode cX2_readSuit 28 = .ok (.invokevirtual 69, 3) := by decide +kernel
theorem dX2_readSuit_31 : decode cX2_readSuit 31 = .ok (.iastore, 1) := by decide +kernel
theorem dX2_readSuit_32 : decode cX2_readSuit 32 = .ok (.aload_n 0, 1) := by decide +kernel
theorem dX2_readSuit_33 : decode cX2_readSuit 33 = .ok (.getfield 15, 3) := by decide +kernel
theorem dX2_readSuit_36 : decode cX2_readSuit 36 = .ok (.aload_n 0, 1) := by decide +kernel
theorem dX2_readSuit_37 : decode cX2_readSuit 37 = .ok (.getfield 30, 3) := by decide +kernel
theorem dX2_readSuit_40 : decode cX2_readSuit 40 = .ok (.aload_n 1, 1) := by decide +kernel
theorem dX2_readSuit_41 : decode cX2_readSuit 41 = .ok (.iconst 1, 1) := by decide +kernel
theorem dX2_readSuit_42 : decode cX2_readSuit 42 = .ok (.sipush 399, 3) := by decide +kernel
theorem dX2_readSuit_45 : decode cX2_readSuit 45 = .ok (.invokevirtual 69, 3) := by decide +kernel
theorem dX2_readSuit_48 : decode cX2_readSuit 48 = .ok (.iastore, 1) := by decide +kernel
theorem dX2_readSuit_49 : decode cX2_readSuit 49 = .ok (.aload_n 0, 1) := by decide +kernel
theorem dX2_readSuit_50 : decode cX2_readSuit 50 = .ok (.getfield 18, 3) := by decide +kernel
theorem dX2_readSuit_53 : decode cX2_readSuit 53 = .ok (.aload_n 0, 1) := by decide +kernel
theorem dX2_readSuit_54 : decode cX2_readSuit 54 = .ok (.getfield 30, 3) := by decide +kernel
theorem dX2_readSuit_57 : decode cX2_readSuit 57 = .ok (.aload_n 1, 1) := by decide +kernel
theorem dX2_readSuit_58 : decode cX2_readSuit 58 = .ok (.ldc 73, 2) := by decide +kernel
theorem dX2_readSuit_60 : decode cX2_readSuit 60 = .ok (.invokevirtual 49, 3) := by decide +kernel
theorem dX2_readSuit_63 : decode cX2_readSuit 63 = .ok (.ifCond .eq 17, 3) := by decide +kernel
theorem dX2_readSuit_66 : decode cX2_readSuit 66 = .ok (.aload_n 1, 1) := by decide +kernel
theorem dX2_readSuit_67 : decode cX2_readSuit 67 = .ok (.iconst 0, 1) := by decide +kernel
theorem dX2_readSuit_68 : decode cX2_readSuit 68 = .ok (.aload_n 0, 1) := by decide +kernel
theorem dX2_readSuit_69 : decode cX2_readSuit 69 = .ok (.getfield 30, 3) := by decide +kernel
theorem dX2_readSuit_72 : decode cX2_readSuit 72 = .ok (.iconst 1, 1) := by decide +kernel
theorem dX2_readSuit_73 : decode cX2_readSuit 73 = .ok (.isub, 1) := by decide +kernel
theorem dX2_readSuit_74 : decode cX2_readSuit 74 = .ok (.invokevirtual 69, 3) := by decide +kernel
theorem dX2_readSuit_77 : decode cX2_readSuit 77 = .ok (.goto 4, 3) := by decide +kernel
theorem dX2_readSuit_80 : decode cX2_readSuit 80 = .ok (.iconst (-1), 1) := by decide +kernel
theorem dX2_readSuit_81 : decode cX2_readSuit 81 = .ok (.iastore, 1) := by decide +kernel
theorem dX2_readSuit_82 : decode cX2_readSuit 82 = .ok (.aload_n 1, 1) := by decide +kernel
theorem dX2_readSuit_83 : decode cX2_readSuit 83 = .ok (.invokevirtual 75, 3) := by decide +kernel
theorem dX2_readSuit_86 : decode cX2_readSuit 86 = .ok (.aload_n 0, 1) := by decide +kernel
theorem dX2_readSuit_87 : decode cX2_readSuit 87 = .ok (.dup, 1) := by decide +kernel
theorem dX2_readSuit_88 : decode cX2_readSuit 88 = .ok (.getfield 30, 3) := by decide +kernel
theorem dX2_readSuit_91 : decode cX2_readSuit 91 = .ok (.iconst 1, 1) := by decide +kernel
theorem dX2_readSuit_92 : decode cX2_readSuit 92 = .ok (.iadd, 1) := by decide +kernel
theorem dX2_readSuit_93 : decode cX2_readSuit 93 = .ok (.putfield 30, 3) := by decide +kernel
theorem dX2_readSuit_96 : decode cX2_readSuit 96 = .ok (.return_, 1) := by decide +kernel
theorem dX2_readWitness_0 : decode cX2_readWitness 0 = .ok (.aload_n 0, 1) := by decide +kernel
theorem dX2_readWitness_1 : decode cX2_readWitness 1 = .ok (.getfield 34, 3) := by decide +kernel
theorem dX2_readWitness_4 : decode cX2_readWitness 4 = .ok (.bipush 12, 2) := by decide +kernel
theorem dX2_readWitness_6 : decode cX2_readWitness 6 = .ok (.if_icmp .lt 9, 3) := by decide +kernel
theorem dX2_readWitness_9 : decode cX2_readWitness 9 = .ok (.aload_n 1, 1) := by decide +kernel
theorem dX2_readWitness_10 : decode cX2_readWitness 10 = .ok (.iconst 3, 1) := by decide +kernel
theorem dX2_readWitness_11 : decode cX2_readWitness 11 = .ok (.invokevirtual 66, 3) := by decide +kernel
theorem dX2_readWitness_14 : decode cX2_readWitness 14 = .ok (.return_, 1) := by decide +kernel
theorem dX2_readWitness_15 : decode cX2_readWitness 15 = .ok (.aload_n 1, 1) := by decide +kernel
theorem dX2_readWitness_16 : decode cX2_readWitness 16 = .ok (.iconst 0, 1) := by decide +kernel
theorem dX2_readWitness_17 : decode cX2_readWitness 17 = .ok (.aload_n 0, 1) := by decide +kernel
theorem dX2_readWitness_18 : decode cX2_readWitness 18 = .ok (.getfield 30, 3) := by decide +kernel
theorem dX2_readWitness_21 : decode cX2_readWitness 21 = .ok (.iconst 1, 1) := by decide +kernel
theorem dX2_readWitness_22 : decode cX2_readWitness 22 = .ok (.isub, 1) := by decide +kernel
theorem dX2_readWitness_23 : decode cX2_readWitness 23 = .ok (.invokevirtual 69, 3) := by decide +kernel
theorem dX2_readWitness_26 : decode cX2_readWitness 26 = .ok (.istore_n 2, 1) := by decide +kernel
theorem dX2_readWitness_27 : decode cX2_readWitness 27 = .ok (.aload_n 1, 1) := by decide +kernel
theorem dX2_readWitness_28 : decode cX2_readWitness 28 = .ok (.invokevirtual 78, 3) := by decide +kernel
theorem dX2_readWitness_31 : decode cX2_readWitness 31 = .ok (.ifCond .eq 21, 3) := by decide +kernel
theorem dX2_readWitness_34 : decode cX2_readWitness 34 = .ok (.aload_n 0, 1) := by decide +kernel
theorem dX2_readWitness_35 : decode cX2_readWitness 35 = .ok (.iload_n 2, 1) := by decide +kernel
theorem dX2_readWitness_36 : decode cX2_readWitness 36 = .ok (.invokevirtual 81, 3) := by decide +kernel
theorem dX2_readWitness_39 : decode cX2_readWitness 39 = .ok (.invokestatic 85, 3) := by decide +kernel
theorem dX2_readWitness_42 : decode cX2_readWitness 42 = .ok (.bipush 6, 2) := by decide +kernel
theorem dX2_readWitness_44 : decode cX2_readWitness 44 = .ok (.if_icmp .lt 8, 3) := by decide +kernel
theorem dX2_readWitness_47 : decode cX2_readWitness 47 = .ok (.aload_n 1, 1) := by decide +kernel
theorem dX2_readWitness_48 : decode cX2_readWitness 48 = .ok (.iconst 4, 1) := by decide +kernel
theorem dX2_readWitness_49 : decode cX2_readWitness 49 = .ok (.invokevirtual 66, 3) := by decide +kernel
theorem dX2_readWitness_52 : decode cX2_readWitness 52 = .ok (.aload_n 0, 1) := by decide +kernel
theorem dX2_readWitness_53 : decode cX2_readWitness 53 = .ok (.getfield 21, 3) := by decide +kernel
theorem dX2_readWitness_56 : decode cX2_readWitness 56 = .ok (.aload_n 0, 1) := by decide +kernel
theorem dX2_readWitness_57 : decode cX2_readWitness 57 = .ok (.getfield 34, 3) := by decide +kernel
theorem dX2_readWitness_60 : decode cX2_readWitness 60 = .ok (.iload_n 2, 1) := by decide +kernel
theorem dX2_readWitness_61 : decode cX2_readWitness 61 = .ok (.iastore, 1) := by decide +kernel
theorem dX2_readWitness_62 : decode cX2_readWitness 62 = .ok (.aload_n 0, 1) := by decide +kernel
theorem dX2_readWitness_63 : decode cX2_readWitness 63 = .ok (.getfield 24, 3) := by decide +kernel
theorem dX2_readWitness_66 : decode cX2_readWitness 66 = .ok (.aload_n 0, 1) := by decide +kernel
theorem dX2_readWitness_67 : decode cX2_readWitness 67 = .ok (.getfield 34, 3) := by decide +kernel
theorem dX2_readWitness_70 : decode cX2_readWitness 70 = .ok (.aload_n 1, 1) := by decide +kernel
theorem dX2_readWitness_71 : decode cX2_readWitness 71 = .ok (.iconst 1, 1) := by decide +kernel
theorem dX2_readWitness_72 : decode cX2_readWitness 72 = .ok (.bipush 99, 2) := by decide +kernel
theorem dX2_readWitness_74 : decode cX2_readWitness 74 = .ok (.invokevirtual 69, 3) := by decide +kernel
theorem dX2_readWitness_77 : decode cX2_readWitness 77 = .ok (.iastore, 1) := by decide +kernel
theorem dX2_readWitness_78 : decode cX2_readWitness 78 = .ok (.aload_n 0, 1) := by decide +kernel
theorem dX2_readWitness_79 : decode cX2_readWitness 79 = .ok (.getfield 27, 3) := by decide +kernel
theorem dX2_readWitness_82 : decode cX2_readWitness 82 = .ok (.aload_n 0, 1) := by decide +kernel
theorem dX2_readWitness_83 : decode cX2_readWitness 83 = .ok (.getfield 34, 3) := by decide +kernel
theorem dX2_readWitness_86 : decode cX2_readWitness 86 = .ok (.aload_n 1, 1) := by decide +kernel
theorem dX2_readWitness_87 : decode cX2_readWitness 87 = .ok (.invokestatic 90, 3) := by decide +kernel
theorem dX2_readWitness_90 : decode cX2_readWitness 90 = .ok (.iastore, 1) := by decide +kernel
theorem dX2_readWitness_91 : decode cX2_readWitness 91 = .ok (.aload_n 1, 1) := by decide +kernel
theorem dX2_readWitness_92 : decode cX2_readWitness 92 = .ok (.invokevirtual 75, 3) := by decide +kernel
theorem dX2_readWitness_95 : decode cX2_readWitness 95 = .ok (.aload_n 0, 1) := by decide +kernel
theorem dX2_readWitness_96 : decode cX2_readWitness 96 = .ok (.dup, 1) := by decide +kernel
theorem dX2_readWitness_97 : decode cX2_readWitness 97 = .ok (.getfield 34, 3) := by decide +kernel
theorem dX2_readWitness_100 : decode cX2_readWitness 100 = .ok (.iconst 1, 1) := by decide +kernel
theorem dX2_readWitness_101 : decode cX2_readWitness 101 = .ok (.iadd, 1) := by decide +kernel
theorem dX2_readWitness_102 : decode cX2_readWitness 102 = .ok (.putfield 34, 3) := by decide +kernel
theorem dX2_readWitness_105 : decode cX2_readWitness 105 = .ok (.return_, 1) := by decide +kernel
theorem dX2_readKind_0 : decode cX2_readKind 0 = .ok (.aload_n 0, 1) := by decide +kernel
theorem dX2_readKind_1 : decode cX2_readKind 1 = .ok (.ldc 94, 2) := by decide +kernel
theorem dX2_readKind_3 : decode cX2_readKind 3 = .ok (.invokevirtual 49, 3) := by decide +kernel
theorem dX2_readKind_6 : decode cX2_readKind 6 = .ok (.ifCond .eq 5, 3) := by decide +kernel
theorem dX2_readKind_9 : decode cX2_readKind 9 = .ok (.iconst 0, 1) := by decide +kernel
theorem dX2_readKind_10 : decode cX2_readKind 10 = .ok (.ireturn, 1) := by decide +kernel
theorem dX2_readKind_11 : decode cX2_readKind 11 = .ok (.aload_n 0, 1) := by decide +kernel
theorem dX2_readKind_12 : decode cX2_readKind 12 = .ok (.ldc 96, 2) := by decide +kernel
theorem dX2_readKind_14 : decode cX2_readKind 14 = .ok (.invokevirtual 49, 3) := by decide +kernel
theorem dX2_readKind_17 : decode cX2_readKind 17 = .ok (.ifCond .eq 5, 3) := by decide +kernel
theorem dX2_readKind_20 : decode cX2_readKind 20 = .ok (.iconst 1, 1) := by decide +kernel
theorem dX2_readKind_21 : decode cX2_readKind 21 = .ok (.ireturn, 1) := by decide +kernel
theorem dX2_readKind_22 : decode cX2_readKind 22 = .ok (.aload_n 0, 1) := by decide +kernel
theorem dX2_readKind_23 : decode cX2_readKind 23 = .ok (.ldc 98, 2) := by decide +kernel
theorem dX2_readKind_25 : decode cX2_readKind 25 = .ok (.invokevirtual 49, 3) := by decide +kernel
theorem dX2_readKind_28 : decode cX2_readKind 28 = .ok (.ifCond .eq 5, 3) := by decide +kernel
theorem dX2_readKind_31 : decode cX2_readKind 31 = .ok (.iconst 2, 1) := by decide +kernel
theorem dX2_readKind_32 : decode cX2_readKind 32 = .ok (.ireturn, 1) := by decide +kernel
theorem dX2_readKind_33 : decode cX2_readKind 33 = .ok (.aload_n 0, 1) := by decide +kernel
theorem dX2_readKind_34 : decode cX2_readKind 34 = .ok (.ldc 100, 2) := by decide +kernel
theorem dX2_readKind_36 : decode cX2_readKind 36 = .ok (.invokevirtual 49, 3) := by decide +kernel
theorem dX2_readKind_39 : decode cX2_readKind 39 = .ok (.ifCond .eq 5, 3) := by decide +kernel
theorem dX2_readKind_42 : decode cX2_readKind 42 = .ok (.iconst 3, 1) := by decide +kernel
theorem dX2_readKind_43 : decode cX2_readKind 43 = .ok (.ireturn, 1) := by decide +kernel
theorem dX2_readKind_44 : decode cX2_readKind 44 = .ok (.aload_n 0, 1) := by decide +kernel
theorem dX2_readKind_45 : decode cX2_readKind 45 = .ok (.iconst 1, 1) := by decide +kernel
theorem dX2_readKind_46 : decode cX2_readKind 46 = .ok (.invokevirtual 62, 3) := by decide +kernel
theorem dX2_readKind_49 : decode cX2_readKind 49 = .ok (.iconst 0, 1) := by decide +kernel
theorem dX2_readKind_50 : decode cX2_readKind 50 = .ok (.ireturn, 1) := by decide +kernel
theorem dX3_init_0 : decode cX3_init 0 = .ok (.aload_n 0, 1) := by decide +kernel
theorem dX3_init_1 : decode cX3_init 1 = .ok (.invokespecial 3, 3) := by decide +kernel
theorem dX3_init_4 : decode cX3_init 4 = .ok (.aload_n 0, 1) := by decide +kernel
theorem dX3_init_5 : decode cX3_init 5 = .ok (.bipush 12, 2) := by decide +kernel
theorem dX3_init_7 : decode cX3_init 7 = .ok (.newarray .int, 2) := by decide +kernel
theorem dX3_init_9 : decode cX3_init 9 = .ok (.putfield 9, 3) := by decide +kernel
theorem dX3_init_12 : decode cX3_init 12 = .ok (.aload_n 0, 1) := by decide +kernel
theorem dX3_init_13 : decode cX3_init 13 = .ok (.aload_n 1, 1) := by decide +kernel
theorem dX3_init_14 : decode cX3_init 14 = .ok (.putfield 15, 3) := by decide +kernel
theorem dX3_init_17 : decode cX3_init 17 = .ok (.return_, 1) := by decide +kernel
theorem dX3_prepare_0 : decode cX3_prepare 0 = .ok (.aload_n 0, 1) := by decide +kernel
theorem dX3_prepare_1 : decode cX3_prepare 1 = .ok (.iconst 0, 1) := by decide +kernel
theorem dX3_prepare_2 : decode cX3_prepare 2 = .ok (.putfield 19, 3) := by decide +kernel
theorem dX3_prepare_5 : decode cX3_prepare 5 = .ok (.iconst 0, 1) := by decide +kernel
theorem dX3_prepare_6 : decode cX3_prepare 6 = .ok (.istore_n 2, 1) := by decide +kernel
theorem dX3_prepare_7 : decode cX3_prepare 7 = .ok (.iload_n 2, 1) := by decide +kernel
theorem dX3_prepare_8 : decode cX3_prepare 8 = .ok (.aload_n 0, 1) := by decide +kernel
theorem dX3_prepare_9 : decode cX3_prepare 9 = .ok (.getfield 15, 3) := by decide +kernel
theorem dX3_prepare_12 : decode cX3_prepare 12 = .ok (.getfield 23, 3) := by decide +kernel
theorem dX3_prepare_15 : decode cX3_prepare 15 = .ok (.getfield 29, 3) := by decide +kernel
theorem dX3_prepare_18 : decode cX3_prepare 18 = .ok (.if_icmp .ge 88, 3) := by decide +kernel
theorem dX3_prepare_21 : decode cX3_prepare 21 = .ok (.iload_n 2, 1) := by decide +kernel
theorem dX3_prepare_22 : decode cX3_prepare 22 = .ok (.bipush 12, 2) := by decide +kernel
theorem dX3_prepare_24 : decode cX3_prepare 24 = .ok (.if_icmp .ge 82, 3) := by decide +kernel
theorem dX3_prepare_27 : decode cX3_prepare 27 = .ok (.aload_n 0, 1) := by decide +kernel
theorem dX3_prepare_28 : decode cX3_prepare 28 = .ok (.getfield 9, 3) := by decide +kernel
theorem dX3_prepare_31 : decode cX3_prepare 31 = .ok (.iload_n 2, 1) := by decide +kernel
theorem dX3_prepare_32 : decode cX3_prepare 32 = .ok (.aload_n 0, 1) := by decide +kernel
theorem dX3_prepare_33 : decode cX3_prepare 33 = .ok (.getfield 15, 3) := by decide +kernel
theorem dX3_prepare_36 : decode cX3_prepare 36 = .ok (.iload_n 2, 1) := by decide +kernel
theorem dX3_prepare_37 : decode cX3_prepare 37 = .ok (.aload_n 0, 1) := by decide +kernel
theorem dX3_prepare_38 : decode cX3_prepare 38 = .ok (.getfield 15, 3) := by decide +kernel
theorem dX3_prepare_41 : decode cX3_prepare 41 = .ok (.getfield 34, 3) := by decide +kernel
theorem dX3_prepare_44 : decode cX3_prepare 44 = .ok (.getfield 38, 3) := by decide +kernel
theorem dX3_prepare_47 : decode cX3_prepare 47 = .ok (.invokevirtual 43, 3) := by decide +kernel
theorem dX3_prepare_50 : decode cX3_prepare 50 = .ok (.iastore, 1) := by decide +kernel
theorem dX3_prepare_51 : decode cX3_prepare 51 = .ok (.aload_n 0, 1) := by decide +kernel
theorem dX3_prepare_52 : decode cX3_prepare 52 = .ok (.getfield 15, 3) := by decide +kernel
theorem dX3_prepare_55 : decode cX3_prepare 55 = .ok (.getfield 23, 3) := by decide +kernel
theorem dX3_prepare_58 : decode cX3_prepare 58 = .ok (.getfield 47, 3) := by decide +kernel
theorem dX3_prepare_61 : decode cX3_prepare 61 = .ok (.iload_n 2, 1) := by decide +kernel
theorem dX3_prepare_62 : decode cX3_prepare 62 = .ok (.iaload, 1) := by decide +kernel
theorem dX3_prepare_63 : decode cX3_prepare 63 = .ok (.iload_n 1, 1) := by decide +kernel
theorem dX3_prepare_64 : decode cX3_prepare 64 = .ok (.if_icmp .ne 36, 3) := by decide +kernel
theorem dX3_prepare_67 : decode cX3_prepare 67 = .ok (.aload_n 0, 1) := by decide +kernel
theorem dX3_prepare_68 : decode cX3_prepare 68 = .ok (.getfield 15, 3) := by decide +kernel
theorem dX3_prepare_71 : decode cX3_prepare 71 = .ok (.iload_n 2, 1) := by decide +kernel
theorem dX3_prepare_72 : decode cX3_prepare 72 = .ok (.aload_n 0, 1) := by decide +kernel
theorem dX3_prepare_73 : decode cX3_prepare 73 = .ok (.getfield 15, 3) := by decide +kernel
theorem dX3_prepare_76 : decode cX3_prepare 76 = .ok (.getfield 34, 3) := by decide +kernel
theorem dX3_prepare_79 : decode cX3_prepare 79 = .ok (.getfield 38, 3) := by decide +kernel
theorem dX3_prepare_82 : decode cX3_prepare 82 = .ok (.invokevirtual 50, 3) := by decide +kernel
theorem dX3_prepare_85 : decode cX3_prepare 85 = .ok (.ifCond .eq 15, 3) := by decide +kernel
theorem dX3_prepare_88 : decode cX3_prepare 88 = .ok (.aload_n 0, 1) := by decide +kernel
theorem dX3_prepare_89 : decode cX3_prepare 89 = .ok (.dup, 1) := by decide +kernel
theorem dX3_prepare_90 : decode cX3_prepare 90 = .ok (.getfield 19, 3) := by decide +kernel
theorem dX3_prepare_93 : decode cX3_prepare 93 = .ok (.iconst 1, 1) := by decide +kernel
theorem dX3_prepare_94 : decode cX3_prepare 94 = .ok (.iload_n 2, 1) := by decide +kernel
theorem dX3_prepare_95 : decode cX3_prepare 95 = .ok (.ishl, 1) := by decide +kernel
theorem dX3_prepare_96 : decode cX3_prepare 96 = .ok (.ior, 1) := by decide +kernel
theorem dX3_prepare_97 : decode cX3_prepare 97 = .ok (.putfield 19, 3) := by decide +kernel
theorem dX3_prepare_100 : decode cX3_prepare 100 = .ok (.iinc 2 1, 3) := by decide +kernel
theorem dX3_prepare_103 : decode cX3_prepare 103 = .ok (.goto (-96), 3) := by decide +kernel
theorem dX3_prepare_106 : decode cX3_prepare 106 = .ok (.aload_n 0, 1) := by decide +kernel
theorem dX3_prepare_107 : decode cX3_prepare 107 = .ok (.aload_n 0, 1) := by decide +kernel
theorem dX3_prepare_108 : decode cX3_prepare 108 = .ok (.getfield 15, 3) := by decide +kernel
theorem dX3_prepare_111 : decode cX3_prepare 111 = .ok (.getfield 23, 3) := by decide +kernel
theorem dX3_prepare_114 : decode cX3_prepare 114 = .ok (.iload_n 1, 1) := by decide +kernel
theorem dX3_prepare_115 : decode cX3_prepare 115 = .ok (.invokevirtual 54, 3) := by decide +kernel
theorem dX3_prepare_118 : decode cX3_prepare 118 = .ok (.ifCond .eq 18, 3) := by decide +kernel
theorem dX3_prepare_121 : decode cX3_prepare 121 = .ok (.aload_n 0, 1) := by decide +kernel
theorem dX3_prepare_122 : decode cX3_prepare 122 = .ok (.getfield 15, 3) := by decide +kernel
theorem dX3_prepare_125 : decode cX3_prepare 125 = .ok (.getfield 34, 3) := by decide +kernel
theorem dX3_prepare_128 : decode cX3_prepare 128 = .ok (.getfield 58, 3) := by decide +kernel
theorem dX3_prepare_131 : decode cX3_prepare 131 = .ok (.iload_n 1, 1) := by decide +kernel
theorem dX3_prepare_132 : decode cX3_prepare 132 = .ok (.iaload, 1) := by decide +kernel
theorem dX3_prepare_133 : decode cX3_prepare 133 = .ok (.goto 4, 3) := by decide +kernel
theorem dX3_prepare_136 : decode cX3_prepare 136 = .ok (.iconst 0, 1) := by decide +kernel
theorem dX3_prepare_137 : decode cX3_prepare 137 = .ok (.putfield 61, 3) := by decide +kernel
theorem dX3_prepare_140 : decode cX3_prepare 140 = .ok (.aload_n 0, 1) := by decide +kernel
theorem dX3_prepare_141 : decode cX3_prepare 141 = .ok (.aload_n 0, 1) := by decide +kernel
theorem dX3_prepare_142 : decode cX3_prepare 142 = .ok (.getfield 15, 3) := by decide +kernel
theorem dX3_prepare_145 : decode cX3_prepare 145 = .ok (.getfield 23, 3) := by decide +kernel
theorem dX3_prepare_148 : decode cX3_prepare 148 = .ok (.iload_n 1, 1) := by decide +kernel
theorem dX3_prepare_149 : decode cX3_prepare 149 = .ok (.invokevirtual 64, 3) := by decide +kernel
theorem dX3_prepare_152 : decode cX3_prepare 152 = .ok (.putfield 68, 3) := by decide +kernel
theorem dX3_prepare_155 : decode cX3_prepare 155 = .ok (.return_, 1) := by decide +kernel
theorem dX3_isWon_0 : decode cX3_isWon 0 = .ok (.aload_n 0, 1) := by decide +kernel
theorem dX3_isWon_1 : decode cX3_isWon 1 = .ok (.aload_n 0, 1) := by decide +kernel
theorem dX3_isWon_2 : decode cX3_isWon 2 = .ok (.getfield 19, 3) := by decide +kernel
theorem dX3_isWon_5 : decode cX3_isWon 5 = .ok (.aload_n 0, 1) := by decide +kernel
theorem dX3_isWon_6 : decode cX3_isWon 6 = .ok (.getfield 61, 3) := by decide +kernel
theorem dX3_isWon_9 : decode cX3_isWon 9 = .ok (.iconst 0, 1) := by decide +kernel
theorem dX3_isWon_10 : decode cX3_isWon 10 = .ok (.invokevirtual 71, 3) := by decide +kernel
theorem dX3_isWon_13 : decode cX3_isWon 13 = .ok (.ireturn, 1) := by decide +kernel
theorem dX3_bestCall_0 : decode cX3_bestCall 0 = .ok (.iconst 0, 1) := by decide +kernel
theorem dX3_bestCall_1 : decode cX3_bestCall 1 = .ok (.istore_n 1, 1) := by decide +kernel
theorem dX3_bestCall_2 : decode cX3_bestCall 2 = .ok (.iload_n 1, 1) := by decide +kernel
theorem dX3_bestCall_3 : decode cX3_bestCall 3 = .ok (.bipush 12, 2) := by decide +kernel
theorem dX3_bestCall_5 : decode cX3_bestCall 5 = .ok (.if_icmp .ge 39, 3) := by decide +kernel
theorem dX3_bestCall_8 : decode cX3_bestCall 8 = .ok (.aload_n 0, 1) := by decide +kernel
theorem dX3_bestCall_9 : decode cX3_bestCall 9 = .ok (.getfield 19, 3) := by decide +kernel
theorem dX3_bestCall_12 : decode cX3_bestCall 12 = .ok (.iload_n 1, 1) := by decide +kernel
theorem dX3_bestCall_13 : decode cX3_bestCall 13 = .ok (.invokestatic 75, 3) := by decide +kernel
theorem dX3_bestCall_16 : decode cX3_bestCall 16 = .ok (.ifCond .eq 22, 3) := by decide +kernel
theorem dX3_bestCall_19 : decode cX3_bestCall 19 = .ok (.aload_n 0, 1) := by decide +kernel
theorem dX3_bestCall_20 : decode cX3_bestCall 20 = .ok (.iload_n 1, 1) := by decide +kernel
theorem dX3_bestCall_21 : decode cX3_bestCall 21 = .ok (.aload_n 0, 1) := by decide +kernel
theorem dX3_bestCall_22 : decode cX3_bestCall 22 = .ok (.getfield 19, 3) := by decide +kernel
theorem dX3_bestCall_25 : decode cX3_bestCall 25 = .ok (.aload_n 0, 1) := by decide +kernel
theorem dX3_bestCall_26 : decode cX3_bestCall 26 = .ok (.getfield 61, 3) := by decide +kernel
theorem dX3_bestCall_29 : decode cX3_bestCall 29 = .ok (.iconst 0, 1) := by decide +kernel
theorem dX3_bestCall_30 : decode cX3_bestCall 30 = .ok (.invokevirtual 78, 3) := by decide +kernel
theorem dX3_bestCall_33 : decode cX3_bestCall 33 = .ok (.ifCond .eq 5, 3) := by decide +kernel
theorem dX3_bestCall_36 : decode cX3_bestCall 36 = .ok (.iload_n 1, 1) := by decide +kernel
theorem dX3_bestCall_37 : decode cX3_bestCall 37 = .ok (.ireturn, 1) := by decide +kernel
theorem dX3_bestCall_38 : decode cX3_bestCall 38 = .ok (.iinc 1 1, 3) := by decide +kernel
theorem dX3_bestCall_41 : decode cX3_bestCall 41 = .ok (.goto (-39), 3) := by decide +kernel
theorem dX3_bestCall_44 : decode cX3_bestCall 44 = .ok (.iconst (-1), 1) := by decide +kernel
theorem dX3_bestCall_45 : decode cX3_bestCall 45 = .ok (.ireturn, 1) := by decide +kernel
theorem dX3_sideWins_0 : decode cX3_sideWins 0 = .ok (.iload_n 2, 1) := by decide +kernel
theorem dX3_sideWins_1 : decode cX3_sideWins 1 = .ok (.aload_n 0, 1) := by decide +kernel
theorem dX3_sideWins_2 : decode cX3_sideWins 2 = .ok (.getfield 68, 3) := by decide +kernel
theorem dX3_sideWins_5 : decode cX3_sideWins 5 = .ok (.if_icmp .lt 5, 3) := by decide +kernel
theorem dX3_sideWins_8 : decode cX3_sideWins 8 = .ok (.iconst 1, 1) := by decide +kernel
theorem dX3_sideWins_9 : decode cX3_sideWins 9 = .ok (.ireturn, 1) := by decide +kernel
theorem dX3_sideWins_10 : decode cX3_sideWins 10 = .ok (.iload_n 3, 1) := by decide +kernel
theorem dX3_sideWins_11 : decode cX3_sideWins 11 = .ok (.bipush 6, 2) := by decide +kernel
theorem dX3_sideWins_13 : decode cX3_sideWins 13 = .ok (.if_icmp .le 5, 3) := by decide +kernel
theorem dX3_sideWins_16 : decode cX3_sideWins 16 = .ok (.iconst 0, 1) := by decide +kernel
theorem dX3_sideWins_17 : decode cX3_sideWins 17 = .ok (.ireturn, 1) := by decide +kernel
theorem dX3_sideWins_18 : decode cX3_sideWins 18 = .ok (.iconst 0, 1) := by decide +kernel
theorem dX3_sideWins_19 : decode cX3_sideWins 19 = .ok (.istore 4, 2) := by decide +kernel
theorem dX3_sideWins_21 : decode cX3_sideWins 21 = .ok (.iload 4, 2) := by decide +kernel
theorem dX3_sideWins_23 : decode cX3_sideWins 23 = .ok (.bipush 12, 2) := by decide +kernel
theorem dX3_sideWins_25 : decode cX3_sideWins 25 = .ok (.if_icmp .ge 32, 3) := by decide +kernel
theorem dX3_sideWins_28 : decode cX3_sideWins 28 = .ok (.iload_n 1, 1) := by decide +kernel
theorem dX3_sideWins_29 : decode cX3_sideWins 29 = .ok (.iload 4, 2) := by decide +kernel
theorem dX3_sideWins_31 : decode cX3_sideWins 31 = .ok (.invokestatic 75, 3) := by decide +kernel
theorem dX3_sideWins_34 : decode cX3_sideWins 34 = .ok (.ifCond .eq 17, 3) := by decide +kernel
theorem dX3_sideWins_37 : decode cX3_sideWins 37 = .ok (.aload_n 0, 1) := by decide +kernel
theorem dX3_sideWins_38 : decode cX3_sideWins 38 = .ok (.iload 4, 2) := by decide +kernel
theorem dX3_sideWins_40 : decode cX3_sideWins 40 = .ok (.iload_n 1, 1) := by decide +kernel
theorem dX3_sideWins_41 : decode cX3_sideWins 41 = .ok (.iload_n 2, 1) := by decide +kernel
theorem dX3_sideWins_42 : decode cX3_sideWins 42 = .ok (.iload_n 3, 1) := by decide +kernel
theorem dX3_sideWins_43 : decode cX3_sideWins 43 = .ok (.invokevirtual 78, 3) := by decide +kernel
theorem dX3_sideWins_46 : decode cX3_sideWins 46 = .ok (.ifCond .eq 5, 3) := by decide +kernel
theorem dX3_sideWins_49 : decode cX3_sideWins 49 = .ok (.iconst 1, 1) := by decide +kernel
theorem dX3_sideWins_50 : decode cX3_sideWins 50 = .ok (.ireturn, 1) := by decide +kernel
theorem dX3_sideWins_51 : decode cX3_sideWins 51 = .ok (.iinc 4 1, 3) := by decide +kernel
theorem dX3_sideWins_54 : decode cX3_sideWins 54 = .ok (.goto (-33), 3) := by decide +kernel
theorem dX3_sideWins_57 : decode cX3_sideWins 57 = .ok (.iconst 0, 1) := by decide +kernel
theorem dX3_sideWins_58 : decode cX3_sideWins 58 = .ok (.ireturn, 1) := by decide +kernel
theorem dX3_winsByCalling_0 : decode cX3_winsByCalling 0 = .ok (.iload_n 3, 1) := by decide +kernel
theorem dX3_winsByCalling_1 : decode cX3_winsByCalling 1 = .ok (.aload_n 0, 1) := by decide +kernel
theorem dX3_winsByCalling_2 : decode cX3_winsByCalling 2 = .ok (.getfield 9, 3) := by decide +kernel
theorem dX3_winsByCalling_5 : decode cX3_winsByCalling 5 = .ok (.iload_n 1, 1) := by decide +kernel
theorem dX3_winsByCalling_6 : decode cX3_winsByCalling 6 = .ok (.iaload, 1) := by decide +kernel
theorem dX3_winsByCalling_7 : decode cX3_winsByCalling 7 = .ok (.iadd, 1) := by decide +kernel
theorem dX3_winsByCalling_8 : decode cX3_winsByCalling 8 = .ok (.istore 5, 2) := by decide +kernel
theorem dX3_winsByCalling_10 : decode cX3_winsByCalling 10 = .ok (.iload 5, 2) := by decide +kernel
theorem dX3_winsByCalling_12 : decode cX3_winsByCalling 12 = .ok (.aload_n 0, 1) := by decide +kernel
theorem dX3_winsByCalling_13 : decode cX3_winsByCalling 13 = .ok (.getfield 68, 3) := by decide +kernel
theorem dX3_winsByCalling_16 : decode cX3_winsByCalling 16 = .ok (.if_icmp .lt 5, 3) := by decide +kernel
theorem dX3_winsByCalling_19 : decode cX3_winsByCalling 19 = .ok (.iconst 1, 1) := by decide +kernel
theorem dX3_winsByCalling_20 : decode cX3_winsByCalling 20 = .ok (.ireturn, 1) := by decide +kernel
theorem dX3_winsByCalling_21 : decode cX3_winsByCalling 21 = .ok (.iload_n 2, 1) := by decide +kernel
theorem dX3_winsByCalling_22 : decode cX3_winsByCalling 22 = .ok (.iconst 1, 1) := by decide +kernel
theorem dX3_winsByCalling_23 : decode cX3_winsByCalling 23 = .ok (.iload_n 1, 1) := by decide +kernel
theorem dX3_winsByCalling_24 : decode cX3_winsByCalling 24 = .ok (.ishl, 1) := by decide +kernel
theorem dX3_winsByCalling_25 : decode cX3_winsByCalling 25 = .ok (.iconst (-1), 1) := by decide +kernel
theorem dX3_winsByCalling_26 : decode cX3_winsByCalling 26 = .ok (.ixor, 1) := by decide +kernel
theorem dX3_winsByCalling_27 : decode cX3_winsByCalling 27 = .ok (.iand, 1) := by decide +kernel
theorem dX3_winsByCalling_28 : decode cX3_winsByCalling 28 = .ok (.istore 6, 2) := by decide +kernel
theorem dX3_winsByCalling_30 : decode cX3_winsByCalling 30 = .ok (.iload 6, 2) := by decide +kernel
theorem dX3_winsByCalling_32 : decode cX3_winsByCalling 32 = .ok (.ifCond .ne 5, 3) := by decide +kernel
theorem dX3_winsByCalling_35 : decode cX3_winsByCalling 35 = .ok (.iconst 0, 1) := by decide +kernel
theorem dX3_winsByCalling_36 : decode cX3_winsByCalling 36 = .ok (.ireturn, 1) := by decide +kernel
theorem dX3_winsByCalling_37 : decode cX3_winsByCalling 37 = .ok (.iconst 0, 1) := by decide +kernel
theorem dX3_winsByCalling_38 : decode cX3_winsByCalling 38 = .ok (.istore 7, 2) := by decide +kernel
theorem dX3_winsByCalling_40 : decode cX3_winsByCalling 40 = .ok (.iload 7, 2) := by decide +kernel
theorem dX3_winsByCalling_42 : decode cX3_winsByCalling 42 = .ok (.bipush 12, 2) := by decide +kernel
theorem dX3_winsByCalling_44 : decode cX3_winsByCalling 44 = .ok (.if_icmp .ge 45, 3) := by decide +kernel
theorem dX3_winsByCalling_47 : decode cX3_winsByCalling 47 = .ok (.iload 6, 2) := by decide +kernel
theorem dX3_winsByCalling_49 : decode cX3_winsByCalling 49 = .ok (.iload 7, 2) := by decide +kernel
theorem dX3_winsByCalling_51 : decode cX3_winsByCalling 51 = .ok (.invokestatic 75, 3) := by decide +kernel
theorem dX3_winsByCalling_54 : decode cX3_winsByCalling 54 = .ok (.ifCond .eq 29, 3) := by decide +kernel
theorem dX3_winsByCalling_57 : decode cX3_winsByCalling 57 = .ok (.aload_n 0, 1) := by decide +kernel
theorem dX3_winsByCalling_58 : decode cX3_winsByCalling 58 = .ok (.iload 6, 2) := by decide +kernel
theorem dX3_winsByCalling_60 : decode cX3_winsByCalling 60 = .ok (.iconst 1, 1) := by decide +kernel
theorem dX3_winsByCalling_61 : decode cX3_winsByCalling 61 = .ok (.iload 7, 2) := by decide +kernel
theorem dX3_winsByCalling_63 : decode cX3_winsByCalling 63 = .ok (.ishl, 1) := by decide +kernel
theorem dX3_winsByCalling_64 : decode cX3_winsByCalling 64 = .ok (.iconst (-1), 1) := by decide +kernel
theorem dX3_winsByCalling_65 : decode cX3_winsByCalling 65 = .ok (.ixor, 1) := by decide +kernel
theorem dX3_winsByCalling_66 : decode cX3_winsByCalling 66 = .ok (.iand, 1) := by decide +kernel
theorem dX3_winsByCalling_67 : decode cX3_winsByCalling 67 = .ok (.iload 5, 2) := by decide +kernel
theorem dX3_winsByCalling_69 : decode cX3_winsByCalling 69 = .ok (.iconst 2, 1) := by decide +kernel
theorem dX3_winsByCalling_70 : decode cX3_winsByCalling 70 = .ok (.idiv, 1) := by decide +kernel
theorem dX3_winsByCalling_71 : decode cX3_winsByCalling 71 = .ok (.iload 4, 2) := by decide +kernel
theorem dX3_winsByCalling_73 : decode cX3_winsByCalling 73 = .ok (.iconst 1, 1) := by decide +kernel
theorem dX3_winsByCalling_74 : decode cX3_winsByCalling 74 = .ok (.iadd, 1) := by decide +kernel
theorem dX3_winsByCalling_75 : decode cX3_winsByCalling 75 = .ok (.invokevirtual 71, 3) := by decide +kernel
theorem dX3_winsByCalling_78 : decode cX3_winsByCalling 78 = .ok (.ifCond .ne 5, 3) := by decide +kernel
theorem dX3_winsByCalling_81 : decode cX3_winsByCalling 81 = .ok (.iconst 0, 1) := by decide +kernel
theorem dX3_winsByCalling_82 : decode cX3_winsByCalling 82 = .ok (.ireturn, 1) := by decide +kernel
theorem dX3_winsByCalling_83 : decode cX3_winsByCalling 83 = .ok (.iinc 7 1, 3) := by decide +kernel
theorem dX3_winsByCalling_86 : decode cX3_winsByCalling 86 = .ok (.goto (-46), 3) := by decide +kernel
theorem dX3_winsByCalling_89 : decode cX3_winsByCalling 89 = .ok (.iconst 1, 1) := by decide +kernel
theorem dX3_winsByCalling_90 : decode cX3_winsByCalling 90 = .ok (.ireturn, 1) := by decide +kernel
theorem dX3_has_0 : decode cX3_has 0 = .ok (.iload_n 0, 1) := by decide +kernel
theorem dX3_has_1 : decode cX3_has 1 = .ok (.iload_n 1, 1) := by decide +kernel
theorem dX3_has_2 : decode cX3_has 2 = .ok (.ishr, 1) := by decide +kernel
theorem dX3_has_3 : decode cX3_has 3 = .ok (.iconst 1, 1) := by decide +kernel
theorem dX3_has_4 : decode cX3_has 4 = .ok (.iand, 1) := by decide +kernel
theorem dX3_has_5 : decode cX3_has 5 = .ok (.iconst 1, 1) := by decide +kernel
theorem dX3_has_6 : decode cX3_has 6 = .ok (.if_icmp .ne 7, 3) := by decide +kernel
theorem dX3_has_9 : decode cX3_has 9 = .ok (.iconst 1, 1) := by decide +kernel
theorem dX3_has_10 : decode cX3_has 10 = .ok (.goto 4, 3) := by decide +kernel
theorem dX3_has_13 : decode cX3_has 13 = .ok (.iconst 0, 1) := by decide +kernel
theorem dX3_has_14 : decode cX3_has 14 = .ok (.ireturn, 1) := by decide +kernel
theorem dX4_init_0 : decode cX4_init 0 = .ok (.aload_n 0, 1) := by decide +kernel
theorem dX4_init_1 : decode cX4_init 1 = .ok (.invokespecial 3, 3) := by decide +kernel
theorem dX4_init_4 : decode cX4_init 4 = .ok (.aload_n 0, 1) := by decide +kernel
theorem dX4_init_5 : decode cX4_init 5 = .ok (.bipush 6, 2) := by decide +kernel
theorem dX4_init_7 : decode cX4_init 7 = .ok (.newarray .int, 2) := by decide +kernel
theorem dX4_init_9 : decode cX4_init 9 = .ok (.putfield 9, 3) := by decide +kernel
theorem dX4_init_12 : decode cX4_init 12 = .ok (.aload_n 0, 1) := by decide +kernel
theorem dX4_init_13 : decode cX4_init 13 = .ok (.bipush 6, 2) := by decide +kernel
theorem dX4_init_15 : decode cX4_init 15 = .ok (.newarray .int, 2) := by decide +kernel
theorem dX4_init_17 : decode cX4_init 17 = .ok (.putfield 15, 3) := by decide +kernel
theorem dX4_init_20 : decode cX4_init 20 = .ok (.aload_n 0, 1) := by decide +kernel
theorem dX4_init_21 : decode cX4_init 21 = .ok (.bipush 6, 2) := by decide +kernel
theorem dX4_init_23 : decode cX4_init 23 = .ok (.newarray .int, 2) := by decide +kernel
theorem dX4_init_25 : decode cX4_init 25 = .ok (.putfield 18, 3) := by decide +kernel
theorem dX4_init_28 : decode cX4_init 28 = .ok (.aload_n 0, 1) := by decide +kernel
theorem dX4_init_29 : decode cX4_init 29 = .ok (.bipush 6, 2) := by decide +kernel
theorem dX4_init_31 : decode cX4_init 31 = .ok (.newarray .int, 2) := by decide +kernel
theorem dX4_init_33 : decode cX4_init 33 = .ok (.putfield 21, 3) := by decide +kernel
theorem dX4_init_36 : decode cX4_init 36 = .ok (.return_, 1) := by decide +kernel
theorem dX4_copiesOn_0 : decode cX4_copiesOn 0 = .ok (.aload_n 0, 1) := by decide +kernel
theorem dX4_copiesOn_1 : decode cX4_copiesOn 1 = .ok (.iload_n 1, 1) := by decide +kernel
theorem dX4_copiesOn_2 : decode cX4_copiesOn 2 = .ok (.invokevirtual 24, 3) := by decide +kernel
theorem dX4_copiesOn_5 : decode cX4_copiesOn 5 = .ok (.istore_n 2, 1) := by decide +kernel
theorem dX4_copiesOn_6 : decode cX4_copiesOn 6 = .ok (.iload_n 2, 1) := by decide +kernel
theorem dX4_copiesOn_7 : decode cX4_copiesOn 7 = .ok (.ifCond .lt 12, 3) := by decide +kernel
theorem dX4_copiesOn_10 : decode cX4_copiesOn 10 = .ok (.aload_n 0, 1) := by decide +kernel
theorem dX4_copiesOn_11 : decode cX4_copiesOn 11 = .ok (.getfield 15, 3) := by decide +kernel
theorem dX4_copiesOn_14 : decode cX4_copiesOn 14 = .ok (.iload_n 2, 1) := by decide +kernel
theorem dX4_copiesOn_15 : decode cX4_copiesOn 15 = .ok (.iaload, 1) := by decide +kernel
theorem dX4_copiesOn_16 : decode cX4_copiesOn 16 = .ok (.goto 4, 3) := by decide +kernel
theorem dX4_copiesOn_19 : decode cX4_copiesOn 19 = .ok (.iconst 1, 1) := by decide +kernel
theorem dX4_copiesOn_20 : decode cX4_copiesOn 20 = .ok (.ireturn, 1) := by decide +kernel
theorem dX4_moonOn_0 : decode cX4_moonOn 0 = .ok (.aload_n 0, 1) := by decide +kernel
theorem dX4_moonOn_1 : decode cX4_moonOn 1 = .ok (.iload_n 1, 1) := by decide +kernel
theorem dX4_moonOn_2 : decode cX4_moonOn 2 = .ok (.invokevirtual 24, 3) := by decide +kernel
theorem dX4_moonOn_5 : decode cX4_moonOn 5 = .ok (.istore_n 2, 1) := by decide +kernel
theorem dX4_moonOn_6 : decode cX4_moonOn 6 = .ok (.iload_n 2, 1) := by decide +kernel
theorem dX4_moonOn_7 : decode cX4_moonOn 7 = .ok (.ifCond .lt 12, 3) := by decide +kernel
theorem dX4_moonOn_10 : decode cX4_moonOn 10 = .ok (.aload_n 0, 1) := by decide +kernel
theorem dX4_moonOn_11 : decode cX4_moonOn 11 = .ok (.getfield 18, 3) := by decide +kernel
theorem dX4_moonOn_14 : decode cX4_moonOn 14 = .ok (.iload_n 2, 1) := by decide +kernel
theorem dX4_moonOn_15 : decode cX4_moonOn 15 = .ok (.iaload, 1) := by decide +kernel
theorem dX4_moonOn_16 : decode cX4_moonOn 16 = .ok (.goto 5, 3) := by decide +kernel
theorem dX4_moonOn_19 : decode cX4_moonOn 19 = .ok (.bipush 28, 2) := by decide +kernel
theorem dX4_moonOn_21 : decode cX4_moonOn 21 = .ok (.ireturn, 1) := by decide +kernel
theorem dX4_talkersOn_0 : decode cX4_talkersOn 0 = .ok (.aload_n 0, 1) := by decide +kernel
theorem dX4_talkersOn_1 : decode cX4_talkersOn 1 = .ok (.iload_n 1, 1) := by decide +kernel
theorem dX4_talkersOn_2 : decode cX4_talkersOn 2 = .ok (.invokevirtual 24, 3) := by decide +kernel
theorem dX4_talkersOn_5 : decode cX4_talkersOn 5 = .ok (.istore_n 2, 1) := by decide +kernel
theorem dX4_talkersOn_6 : decode cX4_talkersOn 6 = .ok (.iload_n 2, 1) := by decide +kernel
theorem dX4_talkersOn_7 : decode cX4_talkersOn 7 = .ok (.ifCond .lt 12, 3) := by decide +kernel
theorem dX4_talkersOn_10 : decode cX4_talkersOn 10 = .ok (.aload_n 0, 1) := by decide +kernel
theorem dX4_talkersOn_11 : decode cX4_talkersOn 11 = .ok (.getfield 21, 3) := by decide +kernel
theorem dX4_talkersOn_14 : decode cX4_talkersOn 14 = .ok (.iload_n 2, 1) := by decide +kernel
theorem dX4_talkersOn_15 : decode cX4_talkersOn 15 = .ok (.iaload, 1) := by decide +kernel
theorem dX4_talkersOn_16 : decode cX4_talkersOn 16 = .ok (.goto 4, 3) := by decide +kernel
theorem dX4_talkersOn_19 : decode cX4_talkersOn 19 = .ok (.iconst 2, 1) := by decide +kernel
theorem dX4_talkersOn_20 : decode cX4_talkersOn 20 = .ok (.ireturn, 1) := by decide +kernel
theorem dX4_readFrom_0 : decode cX4_readFrom 0 = .ok (.aload_n 0, 1) := by decide +kernel
theorem dX4_readFrom_1 : decode cX4_readFrom 1 = .ok (.iconst 0, 1) := by decide +kernel
theorem dX4_readFrom_2 : decode cX4_readFrom 2 = .ok (.putfield 28, 3) := by decide +kernel
theorem dX4_readFrom_5 : decode cX4_readFrom 5 = .ok (.iconst 0, 1) := by decide +kernel
theorem dX4_readFrom_6 : decode cX4_readFrom 6 = .ok (.istore_n 2, 1) := by decide +kernel
theorem dX4_readFrom_7 : decode cX4_readFrom 7 = .ok (.iload_n 2, 1) := by decide +kernel
theorem dX4_readFrom_8 : decode cX4_readFrom 8 = .ok (.sipush 500, 3) := by decide +kernel
theorem dX4_readFrom_11 : decode cX4_readFrom 11 = .ok (.if_icmp .ge 38, 3) := by decide +kernel
theorem dX4_readFrom_14 : decode cX4_readFrom 14 = .ok (.aload_n 1, 1) := by decide +kernel
theorem dX4_readFrom_15 : decode cX4_readFrom 15 = .ok (.invokevirtual 32, 3) := by decide +kernel
theorem dX4_readFrom_18 : decode cX4_readFrom 18 = .ok (.ifCond .eq 31, 3) := by decide +kernel
theorem dX4_readFrom_21 : decode cX4_readFrom 21 = .ok (.aload_n 1, 1) := by decide +kernel
theorem dX4_readFrom_22 : decode cX4_readFrom 22 = .ok (.ldc 38, 2) := by decide +kernel
theorem dX4_readFrom_24 : decode cX4_readFrom 24 = .ok (.invokevirtual 39, 3) := by decide +kernel
theorem dX4_readFrom_27 : decode cX4_readFrom 27 = .ok (.ifCond .eq 11, 3) := by decide +kernel
theorem dX4_readFrom_30 : decode cX4_readFrom 30 = .ok (.aload_n 0, 1) := by decide +kernel
theorem dX4_readFrom_31 : decode cX4_readFrom 31 = .ok (.aload_n 1, 1) := by decide +kernel
theorem dX4_readFrom_32 : decode cX4_readFrom 32 = .ok (.invokevirtual 43, 3) := by decide +kernel
theorem dX4_readFrom_35 : decode cX4_readFrom 35 = .ok (.goto 8, 3) := by decide +kernel
theorem dX4_readFrom_38 : decode cX4_readFrom 38 = .ok (.aload_n 1, 1) := by decide +kernel
theorem dX4_readFrom_39 : decode cX4_readFrom 39 = .ok (.iconst 1, 1) := by decide +kernel
theorem dX4_readFrom_40 : decode cX4_readFrom 40 = .ok (.invokevirtual 47, 3) := by decide +kernel
theorem dX4_readFrom_43 : decode cX4_readFrom 43 = .ok (.iinc 2 1, 3) := by decide +kernel
theorem dX4_readFrom_46 : decode cX4_readFrom 46 = .ok (.goto (-39), 3) := by decide +kernel
theorem dX4_readFrom_49 : decode cX4_readFrom 49 = .ok (.return_, 1) := by decide +kernel
theorem dX4_readClause_0 : decode cX4_readClause 0 = .ok (.aload_n 0, 1) := by decide +kernel
theorem dX4_readClause_1 : decode cX4_readClause 1 = .ok (.getfield 28, 3) := by decide +kernel
theorem dX4_readClause_4 : decode cX4_readClause 4 = .ok (.bipush 6, 2) := by decide +kernel
theorem dX4_readClause_6 : decode cX4_readClause 6 = .ok (.if_icmp .lt 9, 3) := by decide +kernel
theorem dX4_readClause_9 : decode cX4_readClause 9 = .ok (.aload_n 1, 1) := by decide +kernel
theorem dX4_readClause_10 : decode cX4_readClause 10 = .ok (.iconst 3, 1) := by decide +kernel
theorem dX4_readClause_11 : decode cX4_readClause 11 = .ok (.invokevirtual 51, 3) := by decide +kernel
theorem dX4_readClause_14 : decode cX4_readClause 14 = .ok (.return_, 1) := by decide +kernel
theorem dX4_readClause_15 : decode cX4_readClause 15 = .ok (.aload_n 0, 1) := by decide +kernel
theorem dX4_readClause_16 : decode cX4_readClause 16 = .ok (.getfield 9, 3) := by decide +kernel
theorem dX4_readClause_19 : decode cX4_readClause 19 = .ok (.aload_n 0, 1) := by decide +kernel
theorem dX4_readClause_20 : decode cX4_readClause 20 = .ok (.getfield 28, 3) := by decide +kernel
theorem dX4_readClause_23 : decode cX4_readClause 23 = .ok (.aload_n 1, 1) := by decide +kernel
theorem dX4_readClause_24 : decode cX4_readClause 24 = .ok (.iconst 0, 1) := by decide +kernel
theorem dX4_readClause_25 : decode cX4_readClause 25 = .ok (.sipush 399, 3) := by decide +kernel
theorem dX4_readClause_28 : decode cX4_readClause 28 = .ok (.invokevirtual 54, 3) := by decide +kernel
theorem dX4_readClause_31 : decode cX4_readClause 31 = .ok (.iastore, 1) := by decide +kernel
theorem dX4_readClause_32 : decode cX4_readClause 32 = .ok (.aload_n 1, 1) := by decide +kernel
theorem dX4_readClause_33 : decode cX4_readClause 33 = .ok (.invokevirtual 58, 3) := by decide +kernel
theorem dX4_readClause_36 : decode cX4_readClause 36 = .ok (.ifCond .eq 38, 3) := by decide +kernel
theorem dX4_readClause_39 : decode cX4_readClause 39 = .ok (.aload_n 0, 1) := by decide +kernel
theorem dX4_readClause_40 : decode cX4_readClause 40 = .ok (.getfield 28, 3) := by decide +kernel
theorem dX4_readClause_43 : decode cX4_readClause 43 = .ok (.ifCond .le 31, 3) := by decide +kernel
theorem dX4_readClause_46 : decode cX4_readClause 46 = .ok (.aload_n 0, 1) := by decide +kernel
theorem dX4_readClause_47 : decode cX4_readClause 47 = .ok (.getfield 9, 3) := by decide +kernel
theorem dX4_readClause_50 : decode cX4_readClause 50 = .ok (.aload_n 0, 1) := by decide +kernel
theorem dX4_readClause_51 : decode cX4_readClause 51 = .ok (.getfield 28, 3) := by decide +kernel
theorem dX4_readClause_54 : decode cX4_readClause 54 = .ok (.iaload, 1) := by decide +kernel
theorem dX4_readClause_55 : decode cX4_readClause 55 = .ok (.aload_n 0, 1) := by decide +kernel
theorem dX4_readClause_56 : decode cX4_readClause 56 = .ok (.getfield 9, 3) := by decide +kernel
theorem dX4_readClause_59 : decode cX4_readClause 59 = .ok (.aload_n 0, 1) := by decide +kernel
theorem dX4_readClause_60 : decode cX4_readClause 60 = .ok (.getfield 28, 3) := by decide +kernel
theorem dX4_readClause_63 : decode cX4_readClause 63 = .ok (.iconst 1, 1) := by decide +kernel
theorem dX4_readClause_64 : decode cX4_readClause 64 = .ok (.isub, 1) := by decide +kernel
theorem dX4_readClause_65 : decode cX4_readClause 65 = .ok (.iaload, 1) := by decide +kernel
theorem dX4_readClause_66 : decode cX4_readClause 66 = .ok (.if_icmp .gt 8, 3) := by decide +kernel
theorem dX4_readClause_69 : decode cX4_readClause 69 = .ok (.aload_n 1, 1) := by decide +kernel
theorem dX4_readClause_70 : decode cX4_readClause 70 = .ok (.iconst 4, 1) := by decide +kernel
theorem dX4_readClause_71 : decode cX4_readClause 71 = .ok (.invokevirtual 51, 3) := by decide +kernel
theorem dX4_readClause_74 : decode cX4_readClause 74 = .ok (.aload_n 0, 1) := by decide +kernel
theorem dX4_readClause_75 : decode cX4_readClause 75 = .ok (.getfield 15, 3) := by decide +kernel
theorem dX4_readClause_78 : decode cX4_readClause 78 = .ok (.aload_n 0, 1) := by decide +kernel
theorem dX4_readClause_79 : decode cX4_readClause 79 = .ok (.getfield 28, 3) := by decide +kernel
theorem dX4_readClause_82 : decode cX4_readClause 82 = .ok (.aload_n 1, 1) := by decide +kernel
theorem dX4_readClause_83 : decode cX4_readClause 83 = .ok (.iconst 0, 1) := by decide +kernel
theorem dX4_readClause_84 : decode cX4_readClause 84 = .ok (.bipush 6, 2) := by decide +kernel
theorem dX4_readClause_86 : decode cX4_readClause 86 = .ok (.invokevirtual 54, 3) := by decide +kernel
theorem dX4_readClause_89 : decode cX4_readClause 89 = .ok (.iastore, 1) := by decide +kernel
theorem dX4_readClause_90 : decode cX4_readClause 90 = .ok (.aload_n 0, 1) := by decide +kernel
theorem dX4_readClause_91 : decode cX4_readClause 91 = .ok (.getfield 18, 3) := by decide +kernel
theorem dX4_readClause_94 : decode cX4_readClause 94 = .ok (.aload_n 0, 1) := by decide +kernel
theorem dX4_readClause_95 : decode cX4_readClause 95 = .ok (.getfield 28, 3) := by decide +kernel
theorem dX4_readClause_98 : decode cX4_readClause 98 = .ok (.aload_n 1, 1) := by decide +kernel
theorem dX4_readClause_99 : decode cX4_readClause 99 = .ok (.iconst 1, 1) := by decide +kernel
theorem dX4_readClause_100 : decode cX4_readClause 100 = .ok (.bipush 60, 2) := by decide +kernel
theorem dX4_readClause_102 : decode cX4_readClause 102 = .ok (.invokevirtual 54, 3) := by decide +kernel
theorem dX4_readClause_105 : decode cX4_readClause 105 = .ok (.iastore, 1) := by decide +kernel
theorem dX4_readClause_106 : decode cX4_readClause 106 = .ok (.aload_n 0, 1) := by decide +kernel
theorem dX4_readClause_107 : decode cX4_readClause 107 = .ok (.getfield 21, 3) := by decide +kernel
theorem dX4_readClause_110 : decode cX4_readClause 110 = .ok (.aload_n 0, 1) := by decide +kernel
theorem dX4_readClause_111 : decode cX4_readClause 111 = .ok (.getfield 28, 3) := by decide +kernel
theorem dX4_readClause_114 : decode cX4_readClause 114 = .ok (.aload_n 1, 1) := by decide +kernel
theorem dX4_readClause_115 : decode cX4_readClause 115 = .ok (.iconst 1, 1) := by decide +kernel
theorem dX4_readClause_116 : decode cX4_readClause 116 = .ok (.bipush 6, 2) := by decide +kernel
theorem dX4_readClause_118 : decode cX4_readClause 118 = .ok (.invokevirtual 54, 3) := by decide +kernel
theorem dX4_readClause_121 : decode cX4_readClause 121 = .ok (.iastore, 1) := by decide +kernel
theorem dX4_readClause_122 : decode cX4_readClause 122 = .ok (.aload_n 1, 1) := by decide +kernel
theorem dX4_readClause_123 : decode cX4_readClause 123 = .ok (.invokevirtual 61, 3) := by decide +kernel
theorem dX4_readClause_126 : decode cX4_readClause 126 = .ok (.aload_n 0, 1) := by decide +kernel
theorem dX4_readClause_127 : decode cX4_readClause 127 = .ok (.dup, 1) := by decide +kernel
theorem dX4_readClause_128 : decode cX4_readClause 128 = .ok (.getfield 28, 3) := by decide +kernel
theorem dX4_readClause_131 : decode cX4_readClause 131 = .ok (.iconst 1, 1) := by decide +kernel
theorem dX4_readClause_132 : decode cX4_readClause 132 = .ok (.iadd, 1) := by decide +kernel
theorem dX4_readClause_133 : decode cX4_readClause 133 = .ok (.putfield 28, 3) := by decide +kernel
theorem dX4_readClause_136 : decode cX4_readClause 136 = .ok (.return_, 1) := by decide +kernel
theorem dX4_clauseOn_0 : decode cX4_clauseOn 0 = .ok (.iconst (-1), 1) := by decide +kernel
theorem dX4_clauseOn_1 : decode cX4_clauseOn 1 = .ok (.istore_n 2, 1) := by decide +kernel
theorem dX4_clauseOn_2 : decode cX4_clauseOn 2 = .ok (.iconst 0, 1) := by decide +kernel
theorem dX4_clauseOn_3 : decode cX4_clauseOn 3 = .ok (.istore_n 3, 1) := by decide +kernel
theorem dX4_clauseOn_4 : decode cX4_clauseOn 4 = .ok (.iload_n 3, 1) := by decide +kernel
theorem dX4_clauseOn_5 : decode cX4_clauseOn 5 = .ok (.aload_n 0, 1) := by decide +kernel
theorem dX4_clauseOn_6 : decode cX4_clauseOn 6 = .ok (.getfield 28, 3) := by decide +kernel
theorem dX4_clauseOn_9 : decode cX4_clauseOn 9 = .ok (.if_icmp .ge 27, 3) := by decide +kernel
theorem dX4_clauseOn_12 : decode cX4_clauseOn 12 = .ok (.iload_n 3, 1) := by decide +kernel
theorem dX4_clauseOn_13 : decode cX4_clauseOn 13 = .ok (.bipush 6, 2) := by decide +kernel
theorem dX4_clauseOn_15 : decode cX4_clauseOn 15 = .ok (.if_icmp .ge 21, 3) := by decide +kernel
theorem dX4_clauseOn_18 : decode cX4_clauseOn 18 = .ok (.aload_n 0, 1) := by decide +kernel
theorem dX4_clauseOn_19 : decode cX4_clauseOn 19 = .ok (.getfield 9, 3) := by decide +kernel
theorem dX4_clauseOn_22 : decode cX4_clauseOn 22 = .ok (.iload_n 3, 1) := by decide +kernel
theorem dX4_clauseOn_23 : decode cX4_clauseOn 23 = .ok (.iaload, 1) := by decide +kernel
theorem dX4_clauseOn_24 : decode cX4_clauseOn 24 = .ok (.iload_n 1, 1) := by decide +kernel
theorem dX4_clauseOn_25 : decode cX4_clauseOn 25 = .ok (.if_icmp .gt 11, 3) := by decide +kernel
theorem dX4_clauseOn_28 : decode cX4_clauseOn 28 = .ok (.iload_n 3, 1) := by decide +kernel
theorem dX4_clauseOn_29 : decode cX4_clauseOn 29 = .ok (.istore_n 2, 1) := by decide +kernel
theorem dX4_clauseOn_30 : decode cX4_clauseOn 30 = .ok (.iinc 3 1, 3) := by decide +kernel
theorem dX4_clauseOn_33 : decode cX4_clauseOn 33 = .ok (.goto (-29), 3) := by decide +kernel
theorem dX4_clauseOn_36 : decode cX4_clauseOn 36 = .ok (.iload_n 2, 1) := by decide +kernel
theorem dX4_clauseOn_37 : decode cX4_clauseOn 37 = .ok (.ireturn, 1) := by decide +kernel
theorem dX5_init_0 : decode cX5_init 0 = .ok (.aload_n 0, 1) := by decide +kernel
theorem dX5_init_1 : decode cX5_init 1 = .ok (.invokespecial 3, 3) := by decide +kernel
theorem dX5_init_4 : decode cX5_init 4 = .ok (.aload_n 0, 1) := by decide +kernel
theorem dX5_init_5 : decode cX5_init 5 = .ok (.aload_n 1, 1) := by decide +kernel
theorem dX5_init_6 : decode cX5_init 6 = .ok (.putfield 9, 3) := by decide +kernel
theorem dX5_init_9 : decode cX5_init 9 = .ok (.return_, 1) := by decide +kernel
theorem dX5_start_0 : decode cX5_start 0 = .ok (.aload_n 0, 1) := by decide +kernel
theorem dX5_start_1 : decode cX5_start 1 = .ok (.iconst 0, 1) := by decide +kernel
theorem dX5_start_2 : decode cX5_start 2 = .ok (.putfield 15, 3) := by decide +kernel
theorem dX5_start_5 : decode cX5_start 5 = .ok (.aload_n 0, 1) := by decide +kernel
theorem dX5_start_6 : decode cX5_start 6 = .ok (.iconst (-1), 1) := by decide +kernel
theorem dX5_start_7 : decode cX5_start 7 = .ok (.putfield 19, 3) := by decide +kernel
theorem dX5_start_10 : decode cX5_start 10 = .ok (.aload_n 0, 1) := by decide +kernel
theorem dX5_start_11 : decode cX5_start 11 = .ok (.iconst 0, 1) := by decide +kernel
theorem dX5_start_12 : decode cX5_start 12 = .ok (.putfield 22, 3) := by decide +kernel
theorem dX5_start_15 : decode cX5_start 15 = .ok (.aload_n 0, 1) := by decide +kernel
theorem dX5_start_16 : decode cX5_start 16 = .ok (.iconst 0, 1) := by decide +kernel
theorem dX5_start_17 : decode cX5_start 17 = .ok (.invokevirtual 25, 3) := by decide +kernel
theorem dX5_start_20 : decode cX5_start 20 = .ok (.return_, 1) := by decide +kernel
theorem dX5_hasMore_0 : decode cX5_hasMore 0 = .ok (.aload_n 0, 1) := by decide +kernel
theorem dX5_hasMore_1 : decode cX5_hasMore 1 = .ok (.getfield 15, 3) := by decide +kernel
theorem dX5_hasMore_4 : decode cX5_hasMore 4 = .ok (.ifCond .ne 21, 3) := by decide +kernel
theorem dX5_hasMore_7 : decode cX5_hasMore 7 = .ok (.aload_n 0, 1) := by decide +kernel
theorem dX5_hasMore_8 : decode cX5_hasMore 8 = .ok (.getfield 22, 3) := by decide +kernel
theorem dX5_hasMore_11 : decode cX5_hasMore 11 = .ok (.aload_n 0, 1) := by decide +kernel
theorem dX5_hasMore_12 : decode cX5_hasMore 12 = .ok (.getfield 9, 3) := by decide +kernel
theorem dX5_hasMore_15 : decode cX5_hasMore 15 = .ok (.getfield 29, 3) := by decide +kernel
theorem dX5_hasMore_18 : decode cX5_hasMore 18 = .ok (.if_icmp .ge 7, 3) := by decide +kernel
theorem dX5_hasMore_21 : decode cX5_hasMore 21 = .ok (.iconst 1, 1) := by decide +kernel
theorem dX5_hasMore_22 : decode cX5_hasMore 22 = .ok (.goto 4, 3) := by decide +kernel
theorem dX5_hasMore_25 : decode cX5_hasMore 25 = .ok (.iconst 0, 1) := by decide +kernel
theorem dX5_hasMore_26 : decode cX5_hasMore 26 = .ok (.ireturn, 1) := by decide +kernel
theorem dX5_isSound_0 : decode cX5_isSound 0 = .ok (.aload_n 0, 1) := by decide +kernel
theorem dX5_isSound_1 : decode cX5_isSound 1 = .ok (.getfield 15, 3) := by decide +kernel
theorem dX5_isSound_4 : decode cX5_isSound 4 = .ok (.ifCond .ne 7, 3) := by decide +kernel
theorem dX5_isSound_7 : decode cX5_isSound 7 = .ok (.iconst 1, 1) := by decide +kernel
theorem dX5_isSound_8 : decode cX5_isSound 8 = .ok (.goto 4, 3) := by decide +kernel
theorem dX5_isSound_11 : decode cX5_isSound 11 = .ok (.iconst 0, 1) := by decide +kernel
theorem dX5_isSound_12 : decode cX5_isSound 12 = .ok (.ireturn, 1) := by decide +kernel
theorem dX5_refuseHere_0 : decode cX5_refuseHere 0 = .ok (.aload_n 0, 1) := by decide +kernel
theorem dX5_refuseHere_1 : decode cX5_refuseHere 1 = .ok (.aload_n 0, 1) := by decide +kernel
theorem dX5_refuseHere_2 : decode cX5_refuseHere 2 = .ok (.getfield 22, 3) := by decide +kernel
theorem dX5_refuseHere_5 : decode cX5_refuseHere 5 = .ok (.iload_n 1, 1) := by decide +kernel
theorem dX5_refuseHere_6 : decode cX5_refuseHere 6 = .ok (.invokevirtual 34, 3) := by decide +kernel
theorem dX5_refuseHere_9 : decode cX5_refuseHere 9 = .ok (.return_, 1) := by decide +kernel
theorem dX5_refuseTaken_0 : decode cX5_refuseTaken 0 = .ok (.aload_n 0, 1) := by decide +kernel
theorem dX5_refuseTaken_1 : decode cX5_refuseTaken 1 = .ok (.aload_n 0, 1) := by decide +kernel
theorem dX5_refuseTaken_2 : decode cX5_refuseTaken 2 = .ok (.getfield 38, 3) := by decide +kernel
theorem dX5_refuseTaken_5 : decode cX5_refuseTaken 5 = .ok (.iload_n 1, 1) := by decide +kernel
theorem dX5_refuseTaken_6 : decode cX5_refuseTaken 6 = .ok (.invokevirtual 34, 3) := by decide +kernel
theorem dX5_refuseTaken_9 : decode cX5_refuseTaken 9 = .ok (.return_, 1) := by decide +kernel
theorem dX5_takesWord_0 : decode cX5_takesWord 0 = .ok (.aload_n 0, 1) := by decide +kernel
theorem dX5_takesWord_1 : decode cX5_takesWord 1 = .ok (.invokevirtual 41, 3) := by decide +kernel
theorem dX5_takesWord_4 : decode cX5_takesWord 4 = .ok (.ifCond .eq 11, 3) := by decide +kernel
theorem dX5_takesWord_7 : decode cX5_takesWord 7 = .ok (.aload_n 0, 1) := by decide +kernel
theorem dX5_takesWord_8 : decode cX5_takesWord 8 = .ok (.aload_n 1, 1) := by decide +kernel
theorem dX5_takesWord_9 : decode cX5_takesWord 9 = .ok (.invokevirtual 45, 3) := by decide +kernel
theorem dX5_takesWord_12 : decode cX5_takesWord 12 = .ok (.ifCond .ne 5, 3) := by decide +kernel
theorem dX5_takesWord_15 : decode cX5_takesWord 15 = .ok (.iconst 0, 1) := by decide +kernel
theorem dX5_takesWord_16 : decode cX5_takesWord 16 = .ok (.ireturn, 1) := by decide +kernel
theorem dX5_takesWord_17 : decode cX5_takesWord 17 = .ok (.aload_n 0, 1) := by decide +kernel
theorem dX5_takesWord_18 : decode cX5_takesWord 18 = .ok (.aload_n 1, 1) := by decide +kernel
theorem dX5_takesWord_19 : decode cX5_takesWord 19 = .ok (.invokevirtual 49, 3) := by decide +kernel
theorem dX5_takesWord_22 : decode cX5_takesWord 22 = .ok (.invokevirtual 25, 3) := by decide +kernel
theorem dX5_takesWord_25 : decode cX5_takesWord 25 = .ok (.iconst 1, 1) := by decide +kernel
theorem dX5_takesWord_26 : decode cX5_takesWord 26 = .ok (.ireturn, 1) := by decide +kernel
theorem dX5_takeNumber_0 : decode cX5_takeNumber 0 = .ok (.aload_n 0, 1) := by decide +kernel
theorem dX5_takeNumber_1 : decode cX5_takeNumber 1 = .ok (.invokevirtual 41, 3) := by decide +kernel
theorem dX5_takeNumber_4 : decode cX5_takeNumber 4 = .ok (.ifCond .ne 5, 3) := by decide +kernel
theorem dX5_takeNumber_7 : decode cX5_takeNumber 7 = .ok (.iload_n 1, 1) := by decide +kernel
theorem dX5_takeNumber_8 : decode cX5_takeNumber 8 = .ok (.ireturn, 1) := by decide +kernel
theorem dX5_takeNumber_9 : decode cX5_takeNumber 9 = .ok (.iconst 0, 1) := by decide +kernel
theorem dX5_takeNumber_10 : decode cX5_takeNumber 10 = .ok (.istore_n 3, 1) := by decide +kernel
theorem dX5_takeNumber_11 : decode cX5_takeNumber 11 = .ok (.iconst 0, 1) := by decide +kernel
theorem dX5_takeNumber_12 : decode cX5_takeNumber 12 = .ok (.istore 4, 2) := by decide +kernel
theorem dX5_takeNumber_14 : decode cX5_takeNumber 14 = .ok (.aload_n 0, 1) := by decide +kernel
theorem dX5_takeNumber_15 : decode cX5_takeNumber 15 = .ok (.getfield 22, 3) := by decide +kernel
theorem dX5_takeNumber_18 : decode cX5_takeNumber 18 = .ok (.istore 5, 2) := by decide +kernel
theorem dX5_takeNumber_20 : decode cX5_takeNumber 20 = .ok (.iload 5, 2) := by decide +kernel
theorem dX5_takeNumber_22 : decode cX5_takeNumber 22 = .ok (.aload_n 0, 1) := by decide +kernel
theorem dX5_takeNumber_23 : decode cX5_takeNumber 23 = .ok (.getfield 9, 3) := by decide +kernel
theorem dX5_takeNumber_26 : decode cX5_takeNumber 26 = .ok (.getfield 29, 3) := by decide +kernel
theorem dX5_takeNumber_29 : decode cX5_takeNumber 29 = .ok (.if_icmp .ge 46, 3) := by decide +kernel
theorem dX5_takeNumber_32 : decode cX5_takeNumber 32 = .ok (.aload_n 0, 1) := by decide +kernel
theorem dX5_takeNumber_33 : decode cX5_takeNumber 33 = .ok (.iload 5, 2) := by decide +kernel
theorem dX5_takeNumber_35 : decode cX5_takeNumber 35 = .ok (.invokevirtual 54, 3) := by decide +kernel
theorem dX5_takeNumber_38 : decode cX5_takeNumber 38 = .ok (.invokestatic 58, 3) := by decide +kernel
theorem dX5_takeNumber_41 : decode cX5_takeNumber 41 = .ok (.ifCond .eq 34, 3) := by decide +kernel
theorem dX5_takeNumber_44 : decode cX5_takeNumber 44 = .ok (.iinc 3 1, 3) := by decide +kernel
theorem dX5_takeNumber_47 : decode cX5_takeNumber 47 = .ok (.iload_n 3, 1) := by decide +kernel
theorem dX5_takeNumber_48 : decode cX5_takeNumber 48 = .ok (.iconst 3, 1) := by decide +kernel
theorem dX5_takeNumber_49 : decode cX5_takeNumber 49 = .ok (.if_icmp .gt 20, 3) := by decide +kernel
theorem dX5_takeNumber_52 : decode cX5_takeNumber 52 = .ok (.iload 4, 2) := by decide +kernel
theorem dX5_takeNumber_54 : decode cX5_takeNumber 54 = .ok (.bipush 10, 2) := by decide +kernel
theorem dX5_takeNumber_56 : decode cX5_takeNumber 56 = .ok (.imul, 1) := by decide +kernel
theorem dX5_takeNumber_57 : decode cX5_takeNumber 57 = .ok (.aload_n 0, 1) := by decide +kernel
theorem dX5_takeNumber_58 : decode cX5_takeNumber 58 = .ok (.iload 5, 2) := by decide +kernel
theorem dX5_takeNumber_60 : decode cX5_takeNumber 60 = .ok (.invokevirtual 54, 3) := by decide +kernel
theorem dX5_takeNumber_63 : decode cX5_takeNumber 63 = .ok (.iadd, 1) := by decide +kernel
theorem dX5_takeNumber_64 : decode cX5_takeNumber 64 = .ok (.bipush 48, 2) := by decide +kernel
theorem dX5_takeNumber_66 : decode cX5_takeNumber 66 = .ok (.isub, 1) := by decide +kernel
theorem dX5_takeNumber_67 : decode cX5_takeNumber 67 = .ok (.istore 4, 2) := by decide +kernel
theorem dX5_takeNumber_69 : decode cX5_takeNumber 69 = .ok (.iinc 5 1, 3) := by decide +kernel
theorem dX5_takeNumber_72 : decode cX5_takeNumber 72 = .ok (.goto (-52), 3) := by decide +kernel
theorem dX5_takeNumber_75 : decode cX5_takeNumber 75 = .ok (.iload_n 3, 1) := by decide +kernel
theorem dX5_takeNumber_76 : decode cX5_takeNumber 76 = .ok (.ifCond .ne 10, 3) := by decide +kernel
theorem dX5_takeNumber_79 : decode cX5_takeNumber 79 = .ok (.aload_n 0, 1) := by decide +kernel
theorem dX5_takeNumber_80 : decode cX5_takeNumber 80 = .ok (.iconst 1, 1) := by decide +kernel
theorem dX5_takeNumber_81 : decode cX5_takeNumber 81 = .ok (.invokevirtual 62, 3) := by decide +kernel
theorem dX5_takeNumber_84 : decode cX5_takeNumber 84 = .ok (.iload_n 1, 1) := by decide +kernel
theorem dX5_takeNumber_85 : decode cX5_takeNumber 85 = .ok (.ireturn, 1) := by decide +kernel
theorem dX5_takeNumber_86 : decode cX5_takeNumber 86 = .ok (.iload_n 3, 1) := by decide +kernel
theorem dX5_takeNumber_87 : decode cX5_takeNumber 87 = .ok (.iconst 3, 1) := by decide +kernel
theorem dX5_takeNumber_88 : decode cX5_takeNumber 88 = .ok (.if_icmp .gt 15, 3) := by decide +kernel
theorem dX5_takeNumber_91 : decode cX5_takeNumber 91 = .ok (.iload 4, 2) := by decide +kernel
theorem dX5_takeNumber_93 : decode cX5_takeNumber 93 = .ok (.iload_n 1, 1) := by decide +kernel
theorem dX5_takeNumber_94 : decode cX5_takeNumber 94 = .ok (.if_icmp .lt 9, 3) := by decide +kernel
theorem dX5_takeNumber_97 : decode cX5_takeNumber 97 = .ok (.iload 4, 2) := by decide +kernel
theorem dX5_takeNumber_99 : decode cX5_takeNumber 99 = .ok (.iload_n 2, 1) := by decide +kernel
theorem dX5_takeNumber_100 : decode cX5_takeNumber 100 = .ok (.if_icmp .le 10, 3) := by decide +kernel
theorem dX5_takeNumber_103 : decode cX5_takeNumber 103 = .ok (.aload_n 0, 1) := by decide +kernel
theorem dX5_takeNumber_104 : decode cX5_takeNumber 104 = .ok (.iconst 2, 1) := by decide +kernel
theorem dX5_takeNumber_105 : decode cX5_takeNumber 105 = .ok (.invokevirtual 62, 3) := by decide +kernel
theorem dX5_takeNumber_108 : decode cX5_takeNumber 108 = .ok (.iload_n 1, 1) := by decide +kernel
theorem dX5_takeNumber_109 : decode cX5_takeNumber 109 = .ok (.ireturn, 1) := by decide +kernel
theorem dX5_takeNumber_110 : decode cX5_takeNumber 110 = .ok (.aload_n 0, 1) := by decide +kernel
theorem dX5_takeNumber_111 : decode cX5_takeNumber 111 = .ok (.iload_n 3, 1) := by decide +kernel
theorem dX5_takeNumber_112 : decode cX5_takeNumber 112 = .ok (.invokevirtual 25, 3) := by decide +kernel
theorem dX5_takeNumber_115 : decode cX5_takeNumber 115 = .ok (.iload 4, 2) := by decide +kernel
theorem dX5_takeNumber_117 : decode cX5_takeNumber 117 = .ok (.ireturn, 1) := by decide +kernel
theorem dX5_takeSemicolon_0 : decode cX5_takeSemicolon 0 = .ok (.aload_n 0, 1) := by decide +kernel
theorem dX5_takeSemicolon_1 : decode cX5_takeSemicolon 1 = .ok (.invokevirtual 41, 3) := by decide +kernel
theorem dX5_takeSemicolon_4 : decode cX5_takeSemicolon 4 = .ok (.ifCond .ne 4, 3) := by decide +kernel
theorem dX5_takeSemicolon_7 : decode cX5_takeSemicolon 7 = .ok (.return_, 1) := by decide +kernel
theorem dX5_takeSemicolon_8 : decode cX5_takeSemicolon 8 = .ok (.aload_n 0, 1) := by decide +kernel
theorem dX5_takeSemicolon_9 : decode cX5_takeSemicolon 9 = .ok (.aload_n 0, 1) := by decide +kernel
theorem dX5_takeSemicolon_10 : decode cX5_takeSemicolon 10 = .ok (.getfield 22, 3) := by decide +kernel
theorem dX5_takeSemicolon_13 : decode cX5_takeSemicolon 13 = .ok (.invokevirtual 54, 3) := by decide +kernel
theorem dX5_takeSemicolon_16 : decode cX5_takeSemicolon 16 = .ok (.bipush 59, 2) := by decide +kernel
theorem dX5_takeSemicolon_18 : decode cX5_takeSemicolon 18 = .ok (.if_icmp .eq 9, 3) := by decide +kernel
theorem dX5_takeSemicolon_21 : decode cX5_takeSemicolon 21 = .ok (.aload_n 0, 1) := by decide +kernel
theorem dX5_takeSemicolon_22 : decode cX5_takeSemicolon 22 = .ok (.iconst 1, 1) := by decide +kernel
theorem dX5_takeSemicolon_23 : decode cX5_takeSemicolon 23 = .ok (.invokevirtual 62, 3) := by decide +kernel
theorem dX5_takeSemicolon_26 : decode cX5_takeSemicolon 26 = .ok (.return_, 1) := by decide +kernel
theorem dX5_takeSemicolon_27 : decode cX5_takeSemicolon 27 = .ok (.aload_n 0, 1) := by decide +kernel
theorem dX5_takeSemicolon_28 : decode cX5_takeSemicolon 28 = .ok (.iconst 1, 1) := by decide +kernel
theorem dX5_takeSemicolon_29 : decode cX5_takeSemicolon 29 = .ok (.invokevirtual 25, 3) := by decide +kernel
theorem dX5_takeSemicolon_32 : decode cX5_takeSemicolon 32 = .ok (.return_, 1) := by decide +kernel
theorem dX5_refuseAt_0 : decode cX5_refuseAt 0 = .ok (.aload_n 0, 1) := by decide +kernel
theorem dX5_refuseAt_1 : decode cX5_refuseAt 1 = .ok (.getfield 15, 3) := by decide +kernel
theorem dX5_refuseAt_4 : decode cX5_refuseAt 4 = .ok (.ifCond .ne 13, 3) := by decide +kernel
theorem dX5_refuseAt_7 : decode cX5_refuseAt 7 = .ok (.aload_n 0, 1) := by decide +kernel
theorem dX5_refuseAt_8 : decode cX5_refuseAt 8 = .ok (.iload_n 2, 1) := by decide +kernel
theorem dX5_refuseAt_9 : decode cX5_refuseAt 9 = .ok (.putfield 15, 3) := by decide +kernel
theorem dX5_refuseAt_12 : decode cX5_refuseAt 12 = .ok (.aload_n 0, 1) := by decide +kernel
theorem dX5_refuseAt_13 : decode cX5_refuseAt 13 = .ok (.iload_n 1, 1) := by decide +kernel
theorem dX5_refuseAt_14 : decode cX5_refuseAt 14 = .ok (.putfield 19, 3) := by decide +kernel
theorem dX5_refuseAt_17 : decode cX5_refuseAt 17 = .ok (.return_, 1) := by decide +kernel
theorem dX5_pass_0 : decode cX5_pass 0 = .ok (.aload_n 0, 1) := by decide +kernel
theorem dX5_pass_1 : decode cX5_pass 1 = .ok (.aload_n 0, 1) := by decide +kernel
theorem dX5_pass_2 : decode cX5_pass 2 = .ok (.getfield 22, 3) := by decide +kernel
theorem dX5_pass_5 : decode cX5_pass 5 = .ok (.putfield 38, 3) := by decide +kernel
theorem dX5_pass_8 : decode cX5_pass 8 = .ok (.aload_n 0, 1) := by decide +kernel
theorem dX5_pass_9 : decode cX5_pass 9 = .ok (.dup, 1) := by decide +kernel
theorem dX5_pass_10 : decode cX5_pass 10 = .ok (.getfield 22, 3) := by decide +kernel
theorem dX5_pass_13 : decode cX5_pass 13 = .ok (.iload_n 1, 1) := by decide +kernel
theorem dX5_pass_14 : decode cX5_pass 14 = .ok (.iadd, 1) := by decide +kernel
theorem dX5_pass_15 : decode cX5_pass 15 = .ok (.putfield 22, 3) := by decide +kernel
theorem dX5_pass_18 : decode cX5_pass 18 = .ok (.iconst 0, 1) := by decide +kernel
theorem dX5_pass_19 : decode cX5_pass 19 = .ok (.istore_n 2, 1) := by decide +kernel
theorem dX5_pass_20 : decode cX5_pass 20 = .ok (.iload_n 2, 1) := by decide +kernel
theorem dX5_pass_21 : decode cX5_pass 21 = .ok (.sipush 500, 3) := by decide +kernel
theorem dX5_pass_24 : decode cX5_pass 24 = .ok (.if_icmp .ge 32, 3) := by decide +kernel
theorem dX5_pass_27 : decode cX5_pass 27 = .ok (.aload_n 0, 1) := by decide +kernel
theorem dX5_pass_28 : decode cX5_pass 28 = .ok (.aload_n 0, 1) := by decide +kernel
theorem dX5_pass_29 : decode cX5_pass 29 = .ok (.getfield 22, 3) := by decide +kernel
theorem dX5_pass_32 : decode cX5_pass 32 = .ok (.invokevirtual 54, 3) := by decide +kernel
theorem dX5_pass_35 : decode cX5_pass 35 = .ok (.bipush 32, 2) := by decide +kernel
theorem dX5_pass_37 : decode cX5_pass 37 = .ok (.if_icmp .ne 19, 3) := by decide +kernel
theorem dX5_pass_40 : decode cX5_pass 40 = .ok (.aload_n 0, 1) := by decide +kernel
theorem dX5_pass_41 : decode cX5_pass 41 = .ok (.dup, 1) := by decide +kernel
theorem dX5_pass_42 : decode cX5_pass 42 = .ok (.getfield 22, 3) := by decide +kernel
theorem dX5_pass_45 : decode cX5_pass 45 = .ok (.iconst 1, 1) := by decide +kernel
theorem dX5_pass_46 : decode cX5_pass 46 = .ok (.iadd, 1) := by decide +kernel
theorem dX5_pass_47 : decode cX5_pass 47 = .ok (.putfield 22, 3) := by decide +kernel
theorem dX5_pass_50 : decode cX5_pass 50 = .ok (.iinc 2 1, 3) := by decide +kernel
theorem dX5_pass_53 : decode cX5_pass 53 = .ok (.goto (-33), 3) := by decide +kernel
theorem dX5_pass_56 : decode cX5_pass 56 = .ok (.return_, 1) := by decide +kernel
theorem dX5_seesWord_0 : decode cX5_seesWord 0 = .ok (.iconst 0, 1) := by decide +kernel
theorem dX5_seesWord_1 : decode cX5_seesWord 1 = .ok (.istore_n 2, 1) := by decide +kernel
theorem dX5_seesWord_2 : decode cX5_seesWord 2 = .ok (.iload_n 2, 1) := by decide +kernel
theorem dX5_seesWord_3 : decode cX5_seesWord 3 = .ok (.aload_n 1, 1) := by decide +kernel
theorem dX5_seesWord_4 : decode cX5_seesWord 4 = .ok (.invokevirtual 49, 3) := by decide +kernel
theorem dX5_seesWord_7 : decode cX5_seesWord 7 = .ok (.if_icmp .ge 29, 3) := by decide +kernel
theorem dX5_seesWord_10 : decode cX5_seesWord 10 = .ok (.aload_n 0, 1) := by decide +kernel
theorem dX5_seesWord_11 : decode cX5_seesWord 11 = .ok (.aload_n 0, 1) := by decide +kernel
theorem dX5_seesWord_12 : decode cX5_seesWord 12 = .ok (.getfield 22, 3) := by decide +kernel
theorem dX5_seesWord_15 : decode cX5_seesWord 15 = .ok (.iload_n 2, 1) := by decide +kernel
theorem dX5_seesWord_16 : decode cX5_seesWord 16 = .ok (.iadd, 1) := by decide +kernel
theorem dX5_seesWord_17 : decode cX5_seesWord 17 = .ok (.invokevirtual 54, 3) := by decide +kernel
theorem dX5_seesWord_20 : decode cX5_seesWord 20 = .ok (.aload_n 1, 1) := by decide +kernel
theorem dX5_seesWord_21 : decode cX5_seesWord 21 = .ok (.iload_n 2, 1) := by decide +kernel
theorem dX5_seesWord_22 : decode cX5_seesWord 22 = .ok (.invokevirtual 65, 3) := by decide +kernel
theorem dX5_seesWord_25 : decode cX5_seesWord 25 = .ok (.if_icmp .eq 5, 3) := by decide +kernel
theorem dX5_seesWord_28 : decode cX5_seesWord 28 = .ok (.iconst 0, 1) := by decide +kernel
theorem dX5_seesWord_29 : decode cX5_seesWord 29 = .ok (.ireturn, 1) := by decide +kernel
theorem dX5_seesWord_30 : decode cX5_seesWord 30 = .ok (.iinc 2 1, 3) := by decide +kernel
theorem dX5_seesWord_33 : decode cX5_seesWord 33 = .ok (.goto (-31), 3) := by decide +kernel
theorem dX5_seesWord_36 : decode cX5_seesWord 36 = .ok (.aload_n 0, 1) := by decide +kernel
theorem dX5_seesWord_37 : decode cX5_seesWord 37 = .ok (.aload_n 0, 1) := by decide +kernel
theorem dX5_seesWord_38 : decode cX5_seesWord 38 = .ok (.getfield 22, 3) := by decide +kernel
theorem dX5_seesWord_41 : decode cX5_seesWord 41 = .ok (.aload_n 1, 1) := by decide +kernel
theorem dX5_seesWord_42 : decode cX5_seesWord 42 = .ok (.invokevirtual 49, 3) := by decide +kernel
theorem dX5_seesWord_45 : decode cX5_seesWord 45 = .ok (.iadd, 1) := by decide +kernel
theorem dX5_seesWord_46 : decode cX5_seesWord 46 = .ok (.invokevirtual 54, 3) := by decide +kernel
theorem dX5_seesWord_49 : decode cX5_seesWord 49 = .ok (.invokestatic 69, 3) := by decide +kernel
theorem dX5_seesWord_52 : decode cX5_seesWord 52 = .ok (.ifCond .ne 7, 3) := by decide +kernel
theorem dX5_seesWord_55 : decode cX5_seesWord 55 = .ok (.iconst 1, 1) := by decide +kernel
theorem dX5_seesWord_56 : decode cX5_seesWord 56 = .ok (.goto 4, 3) := by decide +kernel
theorem dX5_seesWord_59 : decode cX5_seesWord 59 = .ok (.iconst 0, 1) := by decide +kernel
theorem dX5_seesWord_60 : decode cX5_seesWord 60 = .ok (.ireturn, 1) := by decide +kernel
theorem dX5_byteAt_0 : decode cX5_byteAt 0 = .ok (.iload_n 1, 1) := by decide +kernel
theorem dX5_byteAt_1 : decode cX5_byteAt 1 = .ok (.ifCond .lt 37, 3) := by decide +kernel
theorem dX5_byteAt_4 : decode cX5_byteAt 4 = .ok (.iload_n 1, 1) := by decide +kernel
theorem dX5_byteAt_5 : decode cX5_byteAt 5 = .ok (.aload_n 0, 1) := by decide +kernel
theorem dX5_byteAt_6 : decode cX5_byteAt 6 = .ok (.getfield 9, 3) := by decide +kernel
theorem dX5_byteAt_9 : decode cX5_byteAt 9 = .ok (.getfield 29, 3) := by decide +kernel
theorem dX5_byteAt_12 : decode cX5_byteAt 12 = .ok (.if_icmp .ge 26, 3) := by decide +kernel
theorem dX5_byteAt_15 : decode cX5_byteAt 15 = .ok (.iload_n 1, 1) := by decide +kernel
theorem dX5_byteAt_16 : decode cX5_byteAt 16 = .ok (.sipush 500, 3) := by decide +kernel
theorem dX5_byteAt_19 : decode cX5_byteAt 19 = .ok (.if_icmp .ge 19, 3) := by decide +kernel
theorem dX5_byteAt_22 : decode cX5_byteAt 22 = .ok (.aload_n 0, 1) := by decide +kernel
theorem dX5_byteAt_23 : decode cX5_byteAt 23 = .ok (.getfield 9, 3) := by decide +kernel
theorem dX5_byteAt_26 : decode cX5_byteAt 26 = .ok (.getfield 72, 3) := by decide +kernel
theorem dX5_byteAt_29 : decode cX5_byteAt 29 = .ok (.iload_n 1, 1) := by decide +kernel
theorem dX5_byteAt_30 : decode cX5_byteAt 30 = .ok (.baload, 1) := by decide +kernel
theorem dX5_byteAt_31 : decode cX5_byteAt 31 = .ok (.sipush 255, 3) := by decide +kernel
theorem dX5_byteAt_34 : decode cX5_byteAt 34 = .ok (.iand, 1) := by decide +kernel
theorem dX5_byteAt_35 : decode cX5_byteAt 35 = .ok (.goto 4, 3) := by decide +kernel
theorem dX5_byteAt_38 : decode cX5_byteAt 38 = .ok (.iconst (-1), 1) := by decide +kernel
theorem dX5_byteAt_39 : decode cX5_byteAt 39 = .ok (.ireturn, 1) := by decide +kernel
theorem dX5_isFigure_0 : decode cX5_isFigure 0 = .ok (.iload_n 0, 1) := by decide +kernel
theorem dX5_isFigure_1 : decode cX5_isFigure 1 = .ok (.bipush 48, 2) := by decide +kernel
theorem dX5_isFigure_3 : decode cX5_isFigure 3 = .ok (.if_icmp .lt 13, 3) := by decide +kernel
theorem dX5_isFigure_6 : decode cX5_isFigure 6 = .ok (.iload_n 0, 1) := by decide +kernel
theorem dX5_isFigure_7 : decode cX5_isFigure 7 = .ok (.bipush 57, 2) := by decide +kernel
theorem dX5_isFigure_9 : decode cX5_isFigure 9 = .ok (.if_icmp .gt 7, 3) := by decide +kernel
theorem dX5_isFigure_12 : decode cX5_isFigure 12 = .ok (.iconst 1, 1) := by decide +kernel
theorem dX5_isFigure_13 : decode cX5_isFigure 13 = .ok (.goto 4, 3) := by decide +kernel
theorem dX5_isFigure_16 : decode cX5_isFigure 16 = .ok (.iconst 0, 1) := by decide +kernel
theorem dX5_isFigure_17 : decode cX5_isFigure 17 = .ok (.ireturn, 1) := by decide +kernel
theorem dX5_isLetter_0 : decode cX5_isLetter 0 = .ok (.iload_n 0, 1) := by decide +kernel
theorem dX5_isLetter_1 : decode cX5_isLetter 1 = .ok (.bipush 97, 2) := by decide +kernel
theorem dX5_isLetter_3 : decode cX5_isLetter 3 = .ok (.if_icmp .lt 13, 3) := by decide +kernel
theorem dX5_isLetter_6 : decode cX5_isLetter 6 = .ok (.iload_n 0, 1) := by decide +kernel
theorem dX5_isLetter_7 : decode cX5_isLetter 7 = .ok (.bipush 122, 2) := by decide +kernel
theorem dX5_isLetter_9 : decode cX5_isLetter 9 = .ok (.if_icmp .gt 7, 3) := by decide +kernel
theorem dX5_isLetter_12 : decode cX5_isLetter 12 = .ok (.iconst 1, 1) := by decide +kernel
theorem dX5_isLetter_13 : decode cX5_isLetter 13 = .ok (.goto 4, 3) := by decide +kernel
theorem dX5_isLetter_16 : decode cX5_isLetter 16 = .ok (.iconst 0, 1) := by decide +kernel
theorem dX5_isLetter_17 : decode cX5_isLetter 17 = .ok (.ireturn, 1) := by decide +kernel
theorem dX6_init_0 : decode cX6_init 0 = .ok (.aload_n 0, 1) := by decide +kernel
theorem dX6_init_1 : decode cX6_init 1 = .ok (.invokespecial 3, 3) := by decide +kernel
theorem dX6_init_4 : decode cX6_init 4 = .ok (.aload_n 0, 1) := by decide +kernel
theorem dX6_init_5 : decode cX6_init 5 = .ok (.bipush 12, 2) := by decide +kernel
theorem dX6_init_7 : decode cX6_init 7 = .ok (.newarray .int, 2) := by decide +kernel
theorem dX6_init_9 : decode cX6_init 9 = .ok (.putfield 9, 3) := by decide +kernel
theorem dX6_init_12 : decode cX6_init 12 = .ok (.aload_n 0, 1) := by decide +kernel
theorem dX6_init_13 : decode cX6_init 13 = .ok (.bipush 12, 2) := by decide +kernel
theorem dX6_init_15 : decode cX6_init 15 = .ok (.newarray .int, 2) := by decide +kernel
theorem dX6_init_17 : decode cX6_init 17 = .ok (.putfield 15, 3) := by decide +kernel
theorem dX6_init_20 : decode cX6_init 20 = .ok (.aload_n 0, 1) := by decide +kernel
theorem dX6_init_21 : decode cX6_init 21 = .ok (.bipush 12, 2) := by decide +kernel
theorem dX6_init_23 : decode cX6_init 23 = .ok (.newarray .int, 2) := by decide +kernel
theorem dX6_init_25 : decode cX6_init 25 = .ok (.putfield 18, 3) := by decide +kernel
theorem dX6_init_28 : decode cX6_init 28 = .ok (.aload_n 0, 1) := by decide +kernel
theorem dX6_init_29 : decode cX6_init 29 = .ok (.bipush 6, 2) := by decide +kernel
theorem dX6_init_31 : decode cX6_init 31 = .ok (.newarray .int, 2) := by decide +kernel
theorem dX6_init_33 : decode cX6_init 33 = .ok (.putfield 21, 3) := by decide +kernel
theorem dX6_init_36 : decode cX6_init 36 = .ok (.aload_n 0, 1) := by decide +kernel
theorem dX6_init_37 : decode cX6_init 37 = .ok (.bipush 6, 2) := by decide +kernel
theorem dX6_init_39 : decode cX6_init 39 = .ok (.newarray .int, 2) := by decide +kernel
theorem dX6_init_41 : decode cX6_init 41 = .ok (.putfield 24, 3) := by decide +kernel
theorem dX6_init_44 : decode cX6_init 44 = .ok (.aload_n 0, 1) := by decide +kernel
theorem dX6_init_45 : decode cX6_init 45 = .ok (.bipush 6, 2) := by decide +kernel
theorem dX6_init_47 : decode cX6_init 47 = .ok (.newarray .int, 2) := by decide +kernel
theorem dX6_init_49 : decode cX6_init 49 = .ok (.putfield 27, 3) := by decide +kernel
theorem dX6_init_52 : decode cX6_init 52 = .ok (.aload_n 0, 1) := by decide +kernel
theorem dX6_init_53 : decode cX6_init 53 = .ok (.bipush 6, 2) := by decide +kernel
theorem dX6_init_55 : decode cX6_init 55 = .ok (.sipush 400, 3) := by decide +kernel
theorem dX6_init_58 : decode cX6_init 58 = .ok (.multianewarray 30 2, 4) := by decide +kernel
theorem dX6_init_62 : decode cX6_init 62 = .ok (.putfield 32, 3) := by decide +kernel
theorem dX6_init_65 : decode cX6_init 65 = .ok (.aload_n 0, 1) := by decide +kernel
theorem dX6_init_66 : decode cX6_init 66 = .ok (.invokevirtual 35, 3) := by decide +kernel
theorem dX6_init_69 : decode cX6_init 69 = .ok (.return_, 1) := by decide +kernel
theorem dX6_startAgain_0 : decode cX6_startAgain 0 = .ok (.aload_n 0, 1) := by decide +kernel
theorem dX6_startAgain_1 : decode cX6_startAgain 1 = .ok (.iconst 0, 1) := by decide +kernel
theorem dX6_startAgain_2 : decode cX6_startAgain 2 = .ok (.putfield 38, 3) := by decide +kernel
theorem dX6_startAgain_5 : decode cX6_startAgain 5 = .ok (.aload_n 0, 1) := by decide +kernel
theorem dX6_startAgain_6 : decode cX6_startAgain 6 = .ok (.iconst 0, 1) := by decide +kernel
theorem dX6_startAgain_7 : decode cX6_startAgain 7 = .ok (.putfield 42, 3) := by decide +kernel
theorem dX6_startAgain_10 : decode cX6_startAgain 10 = .ok (.aload_n 0, 1) := by decide +kernel
theorem dX6_startAgain_11 : decode cX6_startAgain 11 = .ok (.getfield 9, 3) := by decide +kernel
theorem dX6_startAgain_14 : decode cX6_startAgain 14 = .ok (.iconst (-1), 1) := by decide +kernel
theorem dX6_startAgain_15 : decode cX6_startAgain 15 = .ok (.invokestatic 45, 3) := by decide +kernel
theorem dX6_startAgain_18 : decode cX6_startAgain 18 = .ok (.aload_n 0, 1) := by decide +kernel
theorem dX6_startAgain_19 : decode cX6_startAgain 19 = .ok (.getfield 15, 3) := by decide +kernel
theorem dX6_startAgain_22 : decode cX6_startAgain 22 = .ok (.iconst 0, 1) := by decide +kernel
theorem dX6_startAgain_23 : decode cX6_startAgain 23 = .ok (.invokestatic 45, 3) := by decide +kernel
theorem dX6_startAgain_26 : decode cX6_startAgain 26 = .ok (.aload_n 0, 1) := by decide +kernel
theorem dX6_startAgain_27 : decode cX6_startAgain 27 = .ok (.getfield 18, 3) := by decide +kernel
theorem dX6_startAgain_30 : decode cX6_startAgain 30 = .ok (.iconst 0, 1) := by decide +kernel
theorem dX6_startAgain_31 : decode cX6_startAgain 31 = .ok (.invokestatic 45, 3) := by decide +kernel
theorem dX6_startAgain_34 : decode cX6_startAgain 34 = .ok (.aload_n 0, 1) := by decide +kernel
theorem dX6_startAgain_35 : decode cX6_startAgain 35 = .ok (.getfield 21, 3) := by decide +kernel
theorem dX6_startAgain_38 : decode cX6_startAgain 38 = .ok (.iconst 0, 1) := by decide +kernel
theorem dX6_startAgain_39 : decode cX6_startAgain 39 = .ok (.invokestatic 45, 3) := by decide +kernel
theorem dX6_startAgain_42 : decode cX6_startAgain 42 = .ok (.aload_n 0, 1) := by decide +kernel
theorem dX6_startAgain_43 : decode cX6_startAgain 43 = .ok (.getfield 24, 3) := by decide +kernel
theorem dX6_startAgain_46 : decode cX6_startAgain 46 = .ok (.iconst 0, 1) := by decide +kernel
theorem dX6_startAgain_47 : decode cX6_startAgain 47 = .ok (.invokestatic 45, 3) := by decide +kernel
theorem dX6_startAgain_50 : decode cX6_startAgain 50 = .ok (.aload_n 0, 1) := by decide +kernel
theorem dX6_startAgain_51 : decode cX6_startAgain 51 = .ok (.getfield 27, 3) := by decide +kernel
theorem dX6_startAgain_54 : decode cX6_startAgain 54 = .ok (.iconst (-1), 1) := by decide +kernel
theorem dX6_startAgain_55 : decode cX6_startAgain 55 = .ok (.invokestatic 45, 3) := by decide +kernel
theorem dX6_startAgain_58 : decode cX6_startAgain 58 = .ok (.return_, 1) := by decide +kernel
theorem dX6_become_0 : decode cX6_become 0 = .ok (.aload_n 0, 1) := by decide +kernel
theorem dX6_become_1 : decode cX6_become 1 = .ok (.aload_n 1, 1) := by decide +kernel
theorem dX6_become_2 : decode cX6_become 2 = .ok (.getfield 38, 3) := by decide +kernel
theorem dX6_become_5 : decode cX6_become 5 = .ok (.putfield 38, 3) := by decide +kernel
theorem dX6_become_8 : decode cX6_become 8 = .ok (.aload_n 0, 1) := by decide +kernel
theorem dX6_become_9 : decode cX6_become 9 = .ok (.aload_n 1, 1) := by decide +kernel
theorem dX6_become_10 : decode cX6_become 10 = .ok (.getfield 42, 3) := by decide +kernel
theorem dX6_become_13 : decode cX6_become 13 = .ok (.putfield 42, 3) := by decide +kernel
theorem dX6_become_16 : decode cX6_become 16 = .ok (.aload_n 0, 1) := by decide +kernel
theorem dX6_become_17 : decode cX6_become 17 = .ok (.aload_n 1, 1) := by decide +kernel
theorem dX6_become_18 : decode cX6_become 18 = .ok (.getfield 51, 3) := by decide +kernel
theorem dX6_become_21 : decode cX6_become 21 = .ok (.putfield 51, 3) := by decide +kernel
theorem dX6_become_24 : decode cX6_become 24 = .ok (.aload_n 1, 1) := by decide +kernel
theorem dX6_become_25 : decode cX6_become 25 = .ok (.getfield 9, 3) := by decide +kernel
theorem dX6_become_28 : decode cX6_become 28 = .ok (.iconst 0, 1) := by decide +kernel
theorem dX6_become_29 : decode cX6_become 29 = .ok (.aload_n 0, 1) := by decide +kernel
theorem dX6_become_30 : decode cX6_become 30 = .ok (.getfield 9, 3) := by decide +kernel
theorem dX6_become_33 : decode cX6_become 33 = .ok (.iconst 0, 1) := by decide +kernel
theorem dX6_become_34 : decode cX6_become 34 = .ok (.bipush 12, 2) := by decide +kernel
theorem dX6_become_36 : decode cX6_become 36 = .ok (.invokestatic 54, 3) := by decide +kernel
theorem dX6_become_39 : decode cX6_become 39 = .ok (.aload_n 1, 1) := by decide +kernel
theorem dX6_become_40 : decode cX6_become 40 = .ok (.getfield 15, 3) := by decide +kernel
theorem dX6_become_43 : decode cX6_become 43 = .ok (.iconst 0, 1) := by decide +kernel
theorem dX6_become_44 : decode cX6_become 44 = .ok (.aload_n 0, 1) := by decide +kernel
theorem dX6_become_45 : decode cX6_become 45 = .ok (.getfield 15, 3) := by decide +kernel
theorem dX6_become_48 : decode cX6_become 48 = .ok (.iconst 0, 1) := by decide +kernel
theorem dX6_become_49 : decode cX6_become 49 = .ok (.bipush 12, 2) := by decide +kernel
theorem dX6_become_51 : decode cX6_become 51 = .ok (.invokestatic 54, 3) := by decide +kernel
theorem dX6_become_54 : decode cX6_become 54 = .ok (.aload_n 1, 1) := by decide +kernel
theorem dX6_become_55 : decode cX6_become 55 = .ok (.getfield 18, 3) := by decide +kernel
theorem dX6_become_58 : decode cX6_become 58 = .ok (.iconst 0, 1) := by decide +kernel
theorem dX6_become_59 : decode cX6_become 59 = .ok (.aload_n 0, 1) := by decide +kernel
theorem dX6_become_60 : decode cX6_become 60 = .ok (.getfield 18, 3) := by decide +kernel
theorem dX6_become_63 : decode cX6_become 63 = .ok (.iconst 0, 1) := by decide +kernel
theorem dX6_become_64 : decode cX6_become 64 = .ok (.bipush 12, 2) := by decide +kernel
theorem dX6_become_66 : decode cX6_become 66 = .ok (.invokestatic 54, 3) := by decide +kernel
theorem dX6_become_69 : decode cX6_become 69 = .ok (.aload_n 1, 1) := by decide +kernel
theorem dX6_become_70 : decode cX6_become 70 = .ok (.getfield 21, 3) := by decide +kernel
theorem dX6_become_73 : decode cX6_become 73 = .ok (.iconst 0, 1) := by decide +kernel
theorem dX6_become_74 : decode cX6_become 74 = .ok (.aload_n 0, 1) := by decide +kernel
theorem dX6_become_75 : decode cX6_become 75 = .ok (.getfield 21, 3) := by decide +kernel
theorem dX6_become_78 : decode cX6_become 78 = .ok (.iconst 0, 1) := by decide +kernel
theorem dX6_become_79 : decode cX6_become 79 = .ok (.bipush 6, 2) := by decide +kernel
theorem dX6_become_81 : decode cX6_become 81 = .ok (.invokestatic 54, 3) := by decide +kernel
theorem dX6_become_84 : decode cX6_become 84 = .ok (.aload_n 1, 1) := by decide +kernel
theorem dX6_become_85 : decode cX6_become 85 = .ok (.getfield 24, 3) := by decide +kernel
theorem dX6_become_88 : decode cX6_become 88 = .ok (.iconst 0, 1) := by decide +kernel
theorem dX6_become_89 : decode cX6_become 89 = .ok (.aload_n 0, 1) := by decide +kernel
theorem dX6_become_90 : decode cX6_become 90 = .ok (.getfield 24, 3) := by decide +kernel
theorem dX6_become_93 : decode cX6_become 93 = .ok (.iconst 0, 1) := by decide +kernel
theorem dX6_become_94 : decode cX6_become 94 = .ok (.bipush 6, 2) := by decide +kernel
theorem dX6_become_96 : decode cX6_become 96 = .ok (.invokestatic 54, 3) := by decide +kernel
theorem dX6_become_99 : decode cX6_become 99 = .ok (.aload_n 1, 1) := by decide +kernel
theorem dX6_become_100 : decode cX6_become 100 = .ok (.getfield 27, 3) := by decide +kernel
theorem dX6_become_103 : decode cX6_become 103 = .ok (.iconst 0, 1) := by decide +kernel
theorem dX6_become_104 : decode cX6_become 104 = .ok (.aload_n 0, 1) := by decide +kernel
theorem dX6_become_105 : decode cX6_become 105 = .ok (.getfield 27, 3) := by decide +kernel
theorem dX6_become_108 : decode cX6_become 108 = .ok (.iconst 0, 1) := by decide +kernel
theorem dX6_become_109 : decode cX6_become 109 = .ok (.bipush 6, 2) := by decide +kernel
theorem dX6_become_111 : decode cX6_become 111 = .ok (.invokestatic 54, 3) := by decide +kernel
theorem dX6_become_114 : decode cX6_become 114 = .ok (.iconst 0, 1) := by decide +kernel
theorem dX6_become_115 : decode cX6_become 115 = .ok (.istore_n 2, 1) := by decide +kernel
theorem dX6_become_116 : decode cX6_become 116 = .ok (.iload_n 2, 1) := by decide +kernel
theorem dX6_become_117 : decode cX6_become 117 = .ok (.bipush 6, 2) := by decide +kernel
theorem dX6_become_119 : decode cX6_become 119 = .ok (.if_icmp .ge 29, 3) := by decide +kernel
theorem dX6_become_122 : decode cX6_become 122 = .ok (.aload_n 1, 1) := by decide +kernel
theorem dX6_become_123 : decode cX6_become 123 = .ok (.getfield 32, 3) := by decide +kernel
theorem dX6_become_126 : decode cX6_become 126 = .ok (.iload_n 2, 1) := by decide +kernel
theorem dX6_become_127 : decode cX6_become 127 = .ok (.aaload, 1) := by decide +kernel
theorem dX6_become_128 : decode cX6_become 128 = .ok (.iconst 0, 1) := by decide +kernel
theorem dX6_become_129 : decode cX6_become 129 = .ok (.aload_n 0, 1) := by decide +kernel
theorem dX6_become_130 : decode cX6_become 130 = .ok (.getfield 32, 3) := by decide +kernel
theorem dX6_become_133 : decode cX6_become 133 = .ok (.iload_n 2, 1) := by decide +kernel
theorem dX6_become_134 : decode cX6_become 134 = .ok (.aaload, 1) := by decide +kernel
theorem dX6_become_135 : decode cX6_become 135 = .ok (.iconst 0, 1) := by decide +kernel
theorem dX6_become_136 : decode cX6_become 136 = .ok (.sipush 400, 3) := by decide +kernel
theorem dX6_become_139 : decode cX6_become 139 = .ok (.invokestatic 54, 3) := by decide +kernel
theorem dX6_become_142 : decode cX6_become 142 = .ok (.iinc 2 1, 3) := by decide +kernel
theorem dX6_become_145 : decode cX6_become 145 = .ok (.goto (-29), 3) := by decide +kernel
theorem dX6_become_148 : decode cX6_become 148 = .ok (.return_, 1) := by decide +kernel
theorem dX6_figure_0 : decode cX6_figure 0 = .ok (.aload_n 0, 1) := by decide +kernel
theorem dX6_figure_1 : decode cX6_figure 1 = .ok (.getfield 38, 3) := by decide +kernel
theorem dX6_figure_4 : decode cX6_figure 4 = .ok (.iconst 1, 1) := by decide +kernel
theorem dX6_figure_5 : decode cX6_figure 5 = .ok (.isub, 1) := by decide +kernel
theorem dX6_figure_6 : decode cX6_figure 6 = .ok (.iload_n 2, 1) := by decide +kernel
theorem dX6_figure_7 : decode cX6_figure 7 = .ok (.isub, 1) := by decide +kernel
theorem dX6_figure_8 : decode cX6_figure 8 = .ok (.istore_n 3, 1) := by decide +kernel
theorem dX6_figure_9 : decode cX6_figure 9 = .ok (.iload_n 3, 1) := by decide +kernel
theorem dX6_figure_10 : decode cX6_figure 10 = .ok (.ifCond .lt 33, 3) := by decide +kernel
theorem dX6_figure_13 : decode cX6_figure 13 = .ok (.iload_n 3, 1) := by decide +kernel
theorem dX6_figure_14 : decode cX6_figure 14 = .ok (.sipush 400, 3) := by decide +kernel
theorem dX6_figure_17 : decode cX6_figure 17 = .ok (.if_icmp .ge 26, 3) := by decide +kernel
theorem dX6_figure_20 : decode cX6_figure 20 = .ok (.iload_n 1, 1) := by decide +kernel
theorem dX6_figure_21 : decode cX6_figure 21 = .ok (.ifCond .lt 22, 3) := by decide +kernel
theorem dX6_figure_24 : decode cX6_figure 24 = .ok (.iload_n 1, 1) := by decide +kernel
theorem dX6_figure_25 : decode cX6_figure 25 = .ok (.bipush 6, 2) := by decide +kernel
theorem dX6_figure_27 : decode cX6_figure 27 = .ok (.if_icmp .ge 16, 3) := by decide +kernel
theorem dX6_figure_30 : decode cX6_figure 30 = .ok (.aload_n 0, 1) := by decide +kernel
theorem dX6_figure_31 : decode cX6_figure 31 = .ok (.getfield 32, 3) := by decide +kernel
theorem dX6_figure_34 : decode cX6_figure 34 = .ok (.iload_n 1, 1) := by decide +kernel
theorem dX6_figure_35 : decode cX6_figure 35 = .ok (.aaload, 1) := by decide +kernel
theorem dX6_figure_36 : decode cX6_figure 36 = .ok (.iload_n 3, 1) := by decide +kernel
theorem dX6_figure_37 : decode cX6_figure 37 = .ok (.iaload, 1) := by decide +kernel
theorem dX6_figure_38 : decode cX6_figure 38 = .ok (.iconst 1, 1) := by decide +kernel
theorem dX6_figure_39 : decode cX6_figure 39 = .ok (.iand, 1) := by decide +kernel
theorem dX6_figure_40 : decode cX6_figure 40 = .ok (.goto 4, 3) := by decide +kernel
theorem dX6_figure_43 : decode cX6_figure 43 = .ok (.iconst 0, 1) := by decide +kernel
theorem dX6_figure_44 : decode cX6_figure 44 = .ok (.ireturn, 1) := by decide +kernel
theorem dX6_halve_0 : decode cX6_halve 0 = .ok (.iload_n 1, 1) := by decide +kernel
theorem dX6_halve_1 : decode cX6_halve 1 = .ok (.ifCond .lt 57, 3) := by decide +kernel
theorem dX6_halve_4 : decode cX6_halve 4 = .ok (.iload_n 1, 1) := by decide +kernel
theorem dX6_halve_5 : decode cX6_halve 5 = .ok (.bipush 6, 2) := by decide +kernel
theorem dX6_halve_7 : decode cX6_halve 7 = .ok (.if_icmp .ge 51, 3) := by decide +kernel
theorem dX6_halve_10 : decode cX6_halve 10 = .ok (.aload_n 0, 1) := by decide +kernel
theorem dX6_halve_11 : decode cX6_halve 11 = .ok (.getfield 38, 3) := by decide +kernel
theorem dX6_halve_14 : decode cX6_halve 14 = .ok (.ifCond .lt 44, 3) := by decide +kernel
theorem dX6_halve_17 : decode cX6_halve 17 = .ok (.aload_n 0, 1) := by decide +kernel
theorem dX6_halve_18 : decode cX6_halve 18 = .ok (.getfield 38, 3) := by decide +kernel
theorem dX6_halve_21 : decode cX6_halve 21 = .ok (.sipush 400, 3) := by decide +kernel
theorem dX6_halve_24 : decode cX6_halve 24 = .ok (.if_icmp .ge 34, 3) := by decide +kernel
theorem dX6_halve_27 : decode cX6_halve 27 = .ok (.aload_n 0, 1) := by decide +kernel
theorem dX6_halve_28 : decode cX6_halve 28 = .ok (.getfield 32, 3) := by decide +kernel
theorem dX6_halve_31 : decode cX6_halve 31 = .ok (.iload_n 1, 1) := by decide +kernel
theorem dX6_halve_32 : decode cX6_halve 32 = .ok (.aaload, 1) := by decide +kernel
theorem dX6_halve_33 : decode cX6_halve 33 = .ok (.aload_n 0, 1) := by decide +kernel
theorem dX6_halve_34 : decode cX6_halve 34 = .ok (.getfield 38, 3) := by decide +kernel
theorem dX6_halve_37 : decode cX6_halve 37 = .ok (.aload_n 0, 1) := by decide +kernel
theorem dX6_halve_38 : decode cX6_halve 38 = .ok (.getfield 21, 3) := by decide +kernel
theorem dX6_halve_41 : decode cX6_halve 41 = .ok (.iload_n 1, 1) := by decide +kernel
theorem dX6_halve_42 : decode cX6_halve 42 = .ok (.iaload, 1) := by decide +kernel
theorem dX6_halve_43 : decode cX6_halve 43 = .ok (.iastore, 1) := by decide +kernel
theorem dX6_halve_44 : decode cX6_halve 44 = .ok (.aload_n 0, 1) := by decide +kernel
theorem dX6_halve_45 : decode cX6_halve 45 = .ok (.getfield 21, 3) := by decide +kernel
theorem dX6_halve_48 : decode cX6_halve 48 = .ok (.iload_n 1, 1) := by decide +kernel
theorem dX6_halve_49 : decode cX6_halve 49 = .ok (.aload_n 0, 1) := by decide +kernel
theorem dX6_halve_50 : decode cX6_halve 50 = .ok (.getfield 21, 3) := by decide +kernel
theorem dX6_halve_53 : decode cX6_halve 53 = .ok (.iload_n 1, 1) := by decide +kernel
theorem dX6_halve_54 : decode cX6_halve 54 = .ok (.iaload, 1) := by decide +kernel
theorem dX6_halve_55 : decode cX6_halve 55 = .ok (.iconst 2, 1) := by decide +kernel
theorem dX6_halve_56 : decode cX6_halve 56 = .ok (.idiv, 1) := by decide +kernel
theorem dX6_halve_57 : decode cX6_halve 57 = .ok (.iastore, 1) := by decide +kernel
theorem dX6_halve_58 : decode cX6_halve 58 = .ok (.return_, 1) := by decide +kernel
theorem dX6_end_0 : decode cX6_end 0 = .ok (.iload_n 1, 1) := by decide +kernel
theorem dX6_end_1 : decode cX6_end 1 = .ok (.ifCond .lt 26, 3) := by decide +kernel
theorem dX6_end_4 : decode cX6_end 4 = .ok (.iload_n 1, 1) := by decide +kernel
theorem dX6_end_5 : decode cX6_end 5 = .ok (.bipush 6, 2) := by decide +kernel
theorem dX6_end_7 : decode cX6_end 7 = .ok (.if_icmp .ge 20, 3) := by decide +kernel
theorem dX6_end_10 : decode cX6_end 10 = .ok (.aload_n 0, 1) := by decide +kernel
theorem dX6_end_11 : decode cX6_end 11 = .ok (.getfield 24, 3) := by decide +kernel
theorem dX6_end_14 : decode cX6_end 14 = .ok (.iload_n 1, 1) := by decide +kernel
theorem dX6_end_15 : decode cX6_end 15 = .ok (.iload_n 2, 1) := by decide +kernel
theorem dX6_end_16 : decode cX6_end 16 = .ok (.iastore, 1) := by decide +kernel
theorem dX6_end_17 : decode cX6_end 17 = .ok (.aload_n 0, 1) := by decide +kernel
theorem dX6_end_18 : decode cX6_end 18 = .ok (.getfield 27, 3) := by decide +kernel
theorem dX6_end_21 : decode cX6_end 21 = .ok (.iload_n 1, 1) := by decide +kernel
theorem dX6_end_22 : decode cX6_end 22 = .ok (.aload_n 0, 1) := by decide +kernel
theorem dX6_end_23 : decode cX6_end 23 = .ok (.getfield 38, 3) := by decide +kernel
theorem dX6_end_26 : decode cX6_end 26 = .ok (.iastore, 1) := by decide +kernel
theorem dX6_end_27 : decode cX6_end 27 = .ok (.return_, 1) := by decide +kernel
theorem dX6_draw_0 : decode cX6_draw 0 = .ok (.aload_n 0, 1) := by decide +kernel
theorem dX6_draw_1 : decode cX6_draw 1 = .ok (.aload_n 0, 1) := by decide +kernel
theorem dX6_draw_2 : decode cX6_draw 2 = .ok (.getfield 51, 3) := by decide +kernel
theorem dX6_draw_5 : decode cX6_draw 5 = .ok (.i2l, 1) := by decide +kernel
theorem dX6_draw_6 : decode cX6_draw 6 = .ok (.ldc2_w 60, 3) := by decide +kernel
theorem dX6_draw_9 : decode cX6_draw 9 = .ok (.lmul, 1) := by decide +kernel
theorem dX6_draw_10 : decode cX6_draw 10 = .ok (.ldc2_w 62, 3) := by decide +kernel
theorem dX6_draw_13 : decode cX6_draw 13 = .ok (.ladd, 1) := by decide +kernel
theorem dX6_draw_14 : decode cX6_draw 14 = .ok (.ldc2_w 64, 3) := by decide +kernel
theorem dX6_draw_17 : decode cX6_draw 17 = .ok (.land, 1) := by decide +kernel
theorem dX6_draw_18 : decode cX6_draw 18 = .ok (.l2i, 1) := by decide +kernel
theorem dX6_draw_19 : decode cX6_draw 19 = .ok (.putfield 51, 3) := by decide +kernel
theorem dX6_draw_22 : decode cX6_draw 22 = .ok (.iload_n 1, 1) := by decide +kernel
theorem dX6_draw_23 : decode cX6_draw 23 = .ok (.ifCond .le 15, 3) := by decide +kernel
theorem dX6_draw_26 : decode cX6_draw 26 = .ok (.aload_n 0, 1) := by decide +kernel
theorem dX6_draw_27 : decode cX6_draw 27 = .ok (.getfield 51, 3) := by decide +kernel
theorem dX6_draw_30 : decode cX6_draw 30 = .ok (.ldc 66, 2) := by decide +kernel
theorem dX6_draw_32 : decode cX6_draw 32 = .ok (.idiv, 1) := by decide +kernel
theorem dX6_draw_33 : decode cX6_draw 33 = .ok (.iload_n 1, 1) := by decide +kernel
theorem dX6_draw_34 : decode cX6_draw 34 = .ok (.irem, 1) := by decide +kernel
theorem dX6_draw_35 : decode cX6_draw 35 = .ok (.goto 4, 3) := by decide +kernel
theorem dX6_draw_38 : decode cX6_draw 38 = .ok (.iconst 0, 1) := by decide +kernel
theorem dX6_draw_39 : decode cX6_draw 39 = .ok (.ireturn, 1) := by decide +kernel
theorem dX7_init_0 : decode cX7_init 0 = .ok (.aload_n 0, 1) := by decide +kernel
theorem dX7_init_1 : decode cX7_init 1 = .ok (.invokespecial 3, 3) := by decide +kernel
theorem dX7_init_4 : decode cX7_init 4 = .ok (.aload_n 0, 1) := by decide +kernel
theorem dX7_init_5 : decode cX7_init 5 = .ok (.sipush 500, 3) := by decide +kernel
theorem dX7_init_8 : decode cX7_init 8 = .ok (.newarray .byte, 2) := by decide +kernel
theorem dX7_init_10 : decode cX7_init 10 = .ok (.putfield 9, 3) := by decide +kernel
theorem dX7_init_13 : decode cX7_init 13 = .ok (.return_, 1) := by decide +kernel
theorem dX7_append_0 : decode cX7_append 0 = .ok (.aload_n 0, 1) := by decide +kernel
theorem dX7_append_1 : decode cX7_append 1 = .ok (.getfield 15, 3) := by decide +kernel
theorem dX7_append_4 : decode cX7_append 4 = .ok (.ifCond .lt 33, 3) := by decide +kernel
theorem dX7_append_7 : decode cX7_append 7 = .ok (.aload_n 0, 1) := by decide +kernel
theorem dX7_append_8 : decode cX7_append 8 = .ok (.getfield 15, 3) := by decide +kernel
theorem dX7_append_11 : decode cX7_append 11 = .ok (.sipush 500, 3) := by decide +kernel
theorem dX7_append_14 : decode cX7_append 14 = .ok (.if_icmp .ge 23, 3) := by decide +kernel
theorem dX7_append_17 : decode cX7_append 17 = .ok (.aload_n 0, 1) := by decide +kernel
theorem dX7_append_18 : decode cX7_append 18 = .ok (.getfield 9, 3) := by decide +kernel
theorem dX7_append_21 : decode cX7_append 21 = .ok (.aload_n 0, 1) := by decide +kernel
theorem dX7_append_22 : decode cX7_append 22 = .ok (.getfield 15, 3) := by decide +kernel
theorem dX7_append_25 : decode cX7_append 25 = .ok (.iload_n 1, 1) := by decide +kernel
theorem dX7_append_26 : decode cX7_append 26 = .ok (.bastore, 1) := by decide +kernel
theorem dX7_append_27 : decode cX7_append 27 = .ok (.aload_n 0, 1) := by decide +kernel
theorem dX7_append_28 : decode cX7_append 28 = .ok (.dup, 1) := by decide +kernel
theorem dX7_append_29 : decode cX7_append 29 = .ok (.getfield 15, 3) := by decide +kernel
theorem dX7_append_32 : decode cX7_append 32 = .ok (.iconst 1, 1) := by decide +kernel
theorem dX7_append_33 : decode cX7_append 33 = .ok (.iadd, 1) := by decide +kernel
theorem dX7_append_34 : decode cX7_append 34 = .ok (.putfield 15, 3) := by decide +kernel
theorem dX7_append_37 : decode cX7_append 37 = .ok (.return_, 1) := by decide +kernel
theorem dX8_init_0 : decode cX8_init 0 = .ok (.aload_n 0, 1) := by decide +kernel
theorem dX8_init_1 : decode cX8_init 1 = .ok (.invokespecial 3, 3) := by decide +kernel
theorem dX8_init_4 : decode cX8_init 4 = .ok (.aload_n 0, 1) := by decide +kernel
theorem dX8_init_5 : decode cX8_init 5 = .ok (.bipush 6, 2) := by decide +kernel
theorem dX8_init_7 : decode cX8_init 7 = .ok (.newarray .int, 2) := by decide +kernel
theorem dX8_init_9 : decode cX8_init 9 = .ok (.putfield 9, 3) := by decide +kernel
theorem dX8_init_12 : decode cX8_init 12 = .ok (.aload_n 0, 1) := by decide +kernel
theorem dX8_init_13 : decode cX8_init 13 = .ok (.aload_n 1, 1) := by decide +kernel
theorem dX8_init_14 : decode cX8_init 14 = .ok (.putfield 15, 3) := by decide +kernel
theorem dX8_init_17 : decode cX8_init 17 = .ok (.return_, 1) := by decide +kernel
theorem dX8_winnableTogether_0 : decode cX8_winnableTogether 0 = .ok (.bipush 6, 2) := by decide +kernel
theorem dX8_winnableTogether_2 : decode cX8_winnableTogether 2 = .ok (.aload_n 0, 1) := by decide +kernel
theorem dX8_winnableTogether_3 : decode cX8_winnableTogether 3 = .ok (.getfield 15, 3) := by decide +kernel
theorem dX8_winnableTogether_6 : decode cX8_winnableTogether 6 = .ok (.getfield 19, 3) := by decide +kernel
theorem dX8_winnableTogether_9 : decode cX8_winnableTogether 9 = .ok (.getfield 25, 3) := by decide +kernel
theorem dX8_winnableTogether_12 : decode cX8_winnableTogether 12 = .ok (.invokestatic 31, 3) := by decide +kernel
theorem dX8_winnableTogether_15 : decode cX8_winnableTogether 15 = .ok (.istore_n 1, 1) := by decide +kernel
theorem dX8_winnableTogether_16 : decode cX8_winnableTogether 16 = .ok (.aload_n 0, 1) := by decide +kernel
theorem dX8_winnableTogether_17 : decode cX8_winnableTogether 17 = .ok (.getfield 15, 3) := by decide +kernel
theorem dX8_winnableTogether_20 : decode cX8_winnableTogether 20 = .ok (.aload_n 0, 1) := by decide +kernel
theorem dX8_winnableTogether_21 : decode cX8_winnableTogether 21 = .ok (.getfield 15, 3) := by decide +kernel
theorem dX8_winnableTogether_24 : decode cX8_winnableTogether 24 = .ok (.getfield 37, 3) := by decide +kernel
theorem dX8_winnableTogether_27 : decode cX8_winnableTogether 27 = .ok (.getfield 41, 3) := by decide +kernel
theorem dX8_winnableTogether_30 : decode cX8_winnableTogether 30 = .ok (.invokevirtual 46, 3) := by decide +kernel
theorem dX8_winnableTogether_33 : decode cX8_winnableTogether 33 = .ok (.istore_n 2, 1) := by decide +kernel
theorem dX8_winnableTogether_34 : decode cX8_winnableTogether 34 = .ok (.iconst 0, 1) := by decide +kernel
theorem dX8_winnableTogether_35 : decode cX8_winnableTogether 35 = .ok (.istore_n 3, 1) := by decide +kernel
theorem dX8_winnableTogether_36 : decode cX8_winnableTogether 36 = .ok (.iload_n 3, 1) := by decide +kernel
theorem dX8_winnableTogether_37 : decode cX8_winnableTogether 37 = .ok (.iload_n 1, 1) := by decide +kernel
theorem dX8_winnableTogether_38 : decode cX8_winnableTogether 38 = .ok (.if_icmp .ge 20, 3) := by decide +kernel
theorem dX8_winnableTogether_41 : decode cX8_winnableTogether 41 = .ok (.aload_n 0, 1) := by decide +kernel
theorem dX8_winnableTogether_42 : decode cX8_winnableTogether 42 = .ok (.getfield 9, 3) := by decide +kernel
theorem dX8_winnableTogether_45 : decode cX8_winnableTogether 45 = .ok (.iload_n 3, 1) := by decide +kernel
theorem dX8_winnableTogether_46 : decode cX8_winnableTogether 46 = .ok (.aload_n 0, 1) := by decide +kernel
theorem dX8_winnableTogether_47 : decode cX8_winnableTogether 47 = .ok (.iload_n 3, 1) := by decide +kernel
theorem dX8_winnableTogether_48 : decode cX8_winnableTogether 48 = .ok (.invokevirtual 50, 3) := by decide +kernel
theorem dX8_winnableTogether_51 : decode cX8_winnableTogether 51 = .ok (.iastore, 1) := by decide +kernel
theorem dX8_winnableTogether_52 : decode cX8_winnableTogether 52 = .ok (.iinc 3 1, 3) := by decide +kernel
theorem dX8_winnableTogether_55 : decode cX8_winnableTogether 55 = .ok (.goto (-19), 3) := by decide +kernel
theorem dX8_winnableTogether_58 : decode cX8_winnableTogether 58 = .ok (.iconst 0, 1) := by decide +kernel
theorem dX8_winnableTogether_59 : decode cX8_winnableTogether 59 = .ok (.istore_n 3, 1) := by decide +kernel
theorem dX8_winnableTogether_60 : decode cX8_winnableTogether 60 = .ok (.iconst 0, 1) := by decide +kernel
theorem dX8_winnableTogether_61 : decode cX8_winnableTogether 61 = .ok (.istore 4, 2) := by decide +kernel
theorem dX8_winnableTogether_63 : decode cX8_winnableTogether 63 = .ok (.iload 4, 2) := by decide +kernel
theorem dX8_winnableTogether_65 : decode cX8_winnableTogether 65 = .ok (.iconst 1, 1) := by decide +kernel
theorem dX8_winnableTogether_66 : decode cX8_winnableTogether 66 = .ok (.iload_n 1, 1) := by decide +kernel
theorem dX8_winnableTogether_67 : decode cX8_winnableTogether 67 = .ok (.ishl, 1) := by decide +kernel
theorem dX8_winnableTogether_68 : decode cX8_winnableTogether 68 = .ok (.if_icmp .ge 34, 3) := by decide +kernel
theorem dX8_winnableTogether_71 : decode cX8_winnableTogether 71 = .ok (.iload 4, 2) := by decide +kernel
theorem dX8_winnableTogether_73 : decode cX8_winnableTogether 73 = .ok (.invokestatic 53, 3) := by decide +kernel
theorem dX8_winnableTogether_76 : decode cX8_winnableTogether 76 = .ok (.iload_n 3, 1) := by decide +kernel
theorem dX8_winnableTogether_77 : decode cX8_winnableTogether 77 = .ok (.invokestatic 53, 3) := by decide +kernel
theorem dX8_winnableTogether_80 : decode cX8_winnableTogether 80 = .ok (.if_icmp .le 16, 3) := by decide +kernel
theorem dX8_winnableTogether_83 : decode cX8_winnableTogether 83 = .ok (.aload_n 0, 1) := by decide +kernel
theorem dX8_winnableTogether_84 : decode cX8_winnableTogether 84 = .ok (.iload 4, 2) := by decide +kernel
theorem dX8_winnableTogether_86 : decode cX8_winnableTogether 86 = .ok (.invokevirtual 58, 3) := by decide +kernel
theorem dX8_winnableTogether_89 : decode cX8_winnableTogether 89 = .ok (.iload_n 2, 1) := by decide +kernel
theorem dX8_winnableTogether_90 : decode cX8_winnableTogether 90 = .ok (.if_icmp .gt 6, 3) := by decide +kernel
theorem dX8_winnableTogether_93 : decode cX8_winnableTogether 93 = .ok (.iload 4, 2) := by decide +kernel
theorem dX8_winnableTogether_95 : decode cX8_winnableTogether 95 = .ok (.istore_n 3, 1) := by decide +kernel
theorem dX8_winnableTogether_96 : decode cX8_winnableTogether 96 = .ok (.iinc 4 1, 3) := by decide +kernel
theorem dX8_winnableTogether_99 : decode cX8_winnableTogether 99 = .ok (.goto (-36), 3) := by decide +kernel
theorem dX8_winnableTogether_102 : decode cX8_winnableTogether 102 = .ok (.iload_n 3, 1) := by decide +kernel
theorem dX8_winnableTogether_103 : decode cX8_winnableTogether 103 = .ok (.ireturn, 1) := by decide +kernel
theorem dX8_speakersOf_0 : decode cX8_speakersOf 0 = .ok (.iconst 0, 1) := by decide +kernel
theorem dX8_speakersOf_1 : decode cX8_speakersOf 1 = .ok (.istore_n 2, 1) := by decide +kernel
theorem dX8_speakersOf_2 : decode cX8_speakersOf 2 = .ok (.iconst 0, 1) := by decide +kernel
theorem dX8_speakersOf_3 : decode cX8_speakersOf 3 = .ok (.istore_n 3, 1) := by decide +kernel
theorem dX8_speakersOf_4 : decode cX8_speakersOf 4 = .ok (.iload_n 3, 1) := by decide +kernel
theorem dX8_speakersOf_5 : decode cX8_speakersOf 5 = .ok (.bipush 6, 2) := by decide +kernel
theorem dX8_speakersOf_7 : decode cX8_speakersOf 7 = .ok (.if_icmp .ge 27, 3) := by decide +kernel
theorem dX8_speakersOf_10 : decode cX8_speakersOf 10 = .ok (.iload_n 1, 1) := by decide +kernel
theorem dX8_speakersOf_11 : decode cX8_speakersOf 11 = .ok (.iload_n 3, 1) := by decide +kernel
theorem dX8_speakersOf_12 : decode cX8_speakersOf 12 = .ok (.ishr, 1) := by decide +kernel
theorem dX8_speakersOf_13 : decode cX8_speakersOf 13 = .ok (.iconst 1, 1) := by decide +kernel
theorem dX8_speakersOf_14 : decode cX8_speakersOf 14 = .ok (.iand, 1) := by decide +kernel
theorem dX8_speakersOf_15 : decode cX8_speakersOf 15 = .ok (.iconst 1, 1) := by decide +kernel
theorem dX8_speakersOf_16 : decode cX8_speakersOf 16 = .ok (.if_icmp .ne 12, 3) := by decide +kernel
theorem dX8_speakersOf_19 : decode cX8_speakersOf 19 = .ok (.iload_n 2, 1) := by decide +kernel
theorem dX8_speakersOf_20 : decode cX8_speakersOf 20 = .ok (.aload_n 0, 1) := by decide +kernel
theorem dX8_speakersOf_21 : decode cX8_speakersOf 21 = .ok (.getfield 9, 3) := by decide +kernel
theorem dX8_speakersOf_24 : decode cX8_speakersOf 24 = .ok (.iload_n 3, 1) := by decide +kernel
theorem dX8_speakersOf_25 : decode cX8_speakersOf 25 = .ok (.iaload, 1) := by decide +kernel
theorem dX8_speakersOf_26 : decode cX8_speakersOf 26 = .ok (.iadd, 1) := by decide +kernel
theorem dX8_speakersOf_27 : decode cX8_speakersOf 27 = .ok (.istore_n 2, 1) := by decide +kernel
theorem dX8_speakersOf_28 : decode cX8_speakersOf 28 = .ok (.iinc 3 1, 3) := by decide +kernel
theorem dX8_speakersOf_31 : decode cX8_speakersOf 31 = .ok (.goto (-27), 3) := by decide +kernel
theorem dX8_speakersOf_34 : decode cX8_speakersOf 34 = .ok (.iload_n 2, 1) := by decide +kernel
theorem dX8_speakersOf_35 : decode cX8_speakersOf 35 = .ok (.ireturn, 1) := by decide +kernel
theorem dX8_speakersNeeded_0 : decode cX8_speakersNeeded 0 = .ok (.aload_n 0, 1) := by decide +kernel
theorem dX8_speakersNeeded_1 : decode cX8_speakersNeeded 1 = .ok (.getfield 15, 3) := by decide +kernel
theorem dX8_speakersNeeded_4 : decode cX8_speakersNeeded 4 = .ok (.iload_n 1, 1) := by decide +kernel
theorem dX8_speakersNeeded_5 : decode cX8_speakersNeeded 5 = .ok (.invokevirtual 61, 3) := by decide +kernel
theorem dX8_speakersNeeded_8 : decode cX8_speakersNeeded 8 = .ok (.ifCond .ne 7, 3) := by decide +kernel
theorem dX8_speakersNeeded_11 : decode cX8_speakersNeeded 11 = .ok (.sipush 1000, 3) := by decide +kernel
theorem dX8_speakersNeeded_14 : decode cX8_speakersNeeded 14 = .ok (.ireturn, 1) := by decide +kernel
theorem dX8_speakersNeeded_15 : decode cX8_speakersNeeded 15 = .ok (.aload_n 0, 1) := by decide +kernel
theorem dX8_speakersNeeded_16 : decode cX8_speakersNeeded 16 = .ok (.getfield 15, 3) := by decide +kernel
theorem dX8_speakersNeeded_19 : decode cX8_speakersNeeded 19 = .ok (.getfield 37, 3) := by decide +kernel
theorem dX8_speakersNeeded_22 : decode cX8_speakersNeeded 22 = .ok (.getfield 41, 3) := by decide +kernel
theorem dX8_speakersNeeded_25 : decode cX8_speakersNeeded 25 = .ok (.istore_n 2, 1) := by decide +kernel
theorem dX8_speakersNeeded_26 : decode cX8_speakersNeeded 26 = .ok (.aload_n 0, 1) := by decide +kernel
theorem dX8_speakersNeeded_27 : decode cX8_speakersNeeded 27 = .ok (.getfield 15, 3) := by decide +kernel
theorem dX8_speakersNeeded_30 : decode cX8_speakersNeeded 30 = .ok (.getfield 19, 3) := by decide +kernel
theorem dX8_speakersNeeded_33 : decode cX8_speakersNeeded 33 = .ok (.iload_n 1, 1) := by decide +kernel
theorem dX8_speakersNeeded_34 : decode cX8_speakersNeeded 34 = .ok (.invokevirtual 65, 3) := by decide +kernel
theorem dX8_speakersNeeded_37 : decode cX8_speakersNeeded 37 = .ok (.istore_n 3, 1) := by decide +kernel
theorem dX8_speakersNeeded_38 : decode cX8_speakersNeeded 38 = .ok (.aload_n 0, 1) := by decide +kernel
theorem dX8_speakersNeeded_39 : decode cX8_speakersNeeded 39 = .ok (.getfield 15, 3) := by decide +kernel
theorem dX8_speakersNeeded_42 : decode cX8_speakersNeeded 42 = .ok (.getfield 37, 3) := by decide +kernel
theorem dX8_speakersNeeded_45 : decode cX8_speakersNeeded 45 = .ok (.getfield 68, 3) := by decide +kernel
theorem dX8_speakersNeeded_48 : decode cX8_speakersNeeded 48 = .ok (.iload_n 1, 1) := by decide +kernel
theorem dX8_speakersNeeded_49 : decode cX8_speakersNeeded 49 = .ok (.iaload, 1) := by decide +kernel
theorem dX8_speakersNeeded_50 : decode cX8_speakersNeeded 50 = .ok (.istore 4, 2) := by decide +kernel
theorem dX8_speakersNeeded_52 : decode cX8_speakersNeeded 52 = .ok (.iconst 0, 1) := by decide +kernel
theorem dX8_speakersNeeded_53 : decode cX8_speakersNeeded 53 = .ok (.istore 5, 2) := by decide +kernel
theorem dX8_speakersNeeded_55 : decode cX8_speakersNeeded 55 = .ok (.iconst 0, 1) := by decide +kernel
theorem dX8_speakersNeeded_56 : decode cX8_speakersNeeded 56 = .ok (.istore 6, 2) := by decide +kernel
theorem dX8_speakersNeeded_58 : decode cX8_speakersNeeded 58 = .ok (.iload 6, 2) := by decide +kernel
theorem dX8_speakersNeeded_60 : decode cX8_speakersNeeded 60 = .ok (.aload_n 0, 1) := by decide +kernel
theorem dX8_speakersNeeded_61 : decode cX8_speakersNeeded 61 = .ok (.getfield 15, 3) := by decide +kernel
theorem dX8_speakersNeeded_64 : decode cX8_speakersNeeded 64 = .ok (.getfield 19, 3) := by decide +kernel
theorem dX8_speakersNeeded_67 : decode cX8_speakersNeeded 67 = .ok (.getfield 71, 3) := by decide +kernel
theorem dX8_speakersNeeded_70 : decode cX8_speakersNeeded 70 = .ok (.if_icmp .ge 70, 3) := by decide +kernel
theorem dX8_speakersNeeded_73 : decode cX8_speakersNeeded 73 = .ok (.iload 6, 2) := by decide +kernel
theorem dX8_speakersNeeded_75 : decode cX8_speakersNeeded 75 = .ok (.bipush 12, 2) := by decide +kernel
theorem dX8_speakersNeeded_77 : decode cX8_speakersNeeded 77 = .ok (.if_icmp .ge 63, 3) := by decide +kernel
theorem dX8_speakersNeeded_80 : decode cX8_speakersNeeded 80 = .ok (.iload 4, 2) := by decide +kernel
theorem dX8_speakersNeeded_82 : decode cX8_speakersNeeded 82 = .ok (.iload_n 3, 1) := by decide +kernel
theorem dX8_speakersNeeded_83 : decode cX8_speakersNeeded 83 = .ok (.if_icmp .ge 57, 3) := by decide +kernel
theorem dX8_speakersNeeded_86 : decode cX8_speakersNeeded 86 = .ok (.aload_n 0, 1) := by decide +kernel
theorem dX8_speakersNeeded_87 : decode cX8_speakersNeeded 87 = .ok (.getfield 15, 3) := by decide +kernel
theorem dX8_speakersNeeded_90 : decode cX8_speakersNeeded 90 = .ok (.getfield 19, 3) := by decide +kernel
theorem dX8_speakersNeeded_93 : decode cX8_speakersNeeded 93 = .ok (.getfield 74, 3) := by decide +kernel
theorem dX8_speakersNeeded_96 : decode cX8_speakersNeeded 96 = .ok (.iload 6, 2) := by decide +kernel
theorem dX8_speakersNeeded_98 : decode cX8_speakersNeeded 98 = .ok (.iaload, 1) := by decide +kernel
theorem dX8_speakersNeeded_99 : decode cX8_speakersNeeded 99 = .ok (.iload_n 1, 1) := by decide +kernel
theorem dX8_speakersNeeded_100 : decode cX8_speakersNeeded 100 = .ok (.if_icmp .ne 34, 3) := by decide +kernel
theorem dX8_speakersNeeded_103 : decode cX8_speakersNeeded 103 = .ok (.aload_n 0, 1) := by decide +kernel
theorem dX8_speakersNeeded_104 : decode cX8_speakersNeeded 104 = .ok (.getfield 15, 3) := by decide +kernel
theorem dX8_speakersNeeded_107 : decode cX8_speakersNeeded 107 = .ok (.iload 6, 2) := by decide +kernel
theorem dX8_speakersNeeded_109 : decode cX8_speakersNeeded 109 = .ok (.iload_n 2, 1) := by decide +kernel
theorem dX8_speakersNeeded_110 : decode cX8_speakersNeeded 110 = .ok (.invokevirtual 77, 3) := by decide +kernel
theorem dX8_speakersNeeded_113 : decode cX8_speakersNeeded 113 = .ok (.ifCond .eq 21, 3) := by decide +kernel
theorem dX8_speakersNeeded_116 : decode cX8_speakersNeeded 116 = .ok (.iload 4, 2) := by decide +kernel
theorem dX8_speakersNeeded_118 : decode cX8_speakersNeeded 118 = .ok (.aload_n 0, 1) := by decide +kernel
theorem dX8_speakersNeeded_119 : decode cX8_speakersNeeded 119 = .ok (.getfield 15, 3) := by decide +kernel
theorem dX8_speakersNeeded_122 : decode cX8_speakersNeeded 122 = .ok (.iload 6, 2) := by decide +kernel
theorem dX8_speakersNeeded_124 : decode cX8_speakersNeeded 124 = .ok (.iload_n 2, 1) := by decide +kernel
theorem dX8_speakersNeeded_125 : decode cX8_speakersNeeded 125 = .ok (.invokevirtual 81, 3) := by decide +kernel
theorem dX8_speakersNeeded_128 : decode cX8_speakersNeeded 128 = .ok (.iadd, 1) := by decide +kernel
theorem dX8_speakersNeeded_129 : decode cX8_speakersNeeded 129 = .ok (.istore 4, 2) := by decide +kernel
theorem dX8_speakersNeeded_131 : decode cX8_speakersNeeded 131 = .ok (.iinc 5 1, 3) := by decide +kernel
theorem dX8_speakersNeeded_134 : decode cX8_speakersNeeded 134 = .ok (.iinc 6 1, 3) := by decide +kernel
theorem dX8_speakersNeeded_137 : decode cX8_speakersNeeded 137 = .ok (.goto (-79), 3) := by decide +kernel
theorem dX8_speakersNeeded_140 : decode cX8_speakersNeeded 140 = .ok (.iload 4, 2) := by decide +kernel
theorem dX8_speakersNeeded_142 : decode cX8_speakersNeeded 142 = .ok (.iload_n 3, 1) := by decide +kernel
theorem dX8_speakersNeeded_143 : decode cX8_speakersNeeded 143 = .ok (.if_icmp .lt 8, 3) := by decide +kernel
theorem dX8_speakersNeeded_146 : decode cX8_speakersNeeded 146 = .ok (.iload 5, 2) := by decide +kernel
theorem dX8_speakersNeeded_148 : decode cX8_speakersNeeded 148 = .ok (.goto 6, 3) := by decide +kernel
theorem dX8_speakersNeeded_151 : decode cX8_speakersNeeded 151 = .ok (.sipush 1000, 3) := by decide +kernel
theorem dX8_speakersNeeded_154 : decode cX8_speakersNeeded 154 = .ok (.ireturn, 1) := by decide +kernel
theorem dX9_init_0 : decode cX9_init 0 = .ok (.aload_n 0, 1) := by decide +kernel
theorem dX9_init_1 : decode cX9_init 1 = .ok (.invokespecial 3, 3) := by decide +kernel
theorem dX9_init_4 : decode cX9_init 4 = .ok (.aload_n 0, 1) := by decide +kernel
theorem dX9_init_5 : decode cX9_init 5 = .ok (.new 9, 3) := by decide +kernel
theorem dX9_init_8 : decode cX9_init 8 = .ok (.dup, 1) := by decide +kernel
theorem dX9_init_9 : decode cX9_init 9 = .ok (.invokespecial 11, 3) := by decide +kernel
theorem dX9_init_12 : decode cX9_init 12 = .ok (.putfield 12, 3) := by decide +kernel
theorem dX9_init_15 : decode cX9_init 15 = .ok (.aload_n 0, 1) := by decide +kernel
theorem dX9_init_16 : decode cX9_init 16 = .ok (.new 18, 3) := by decide +kernel
theorem dX9_init_19 : decode cX9_init 19 = .ok (.dup, 1) := by decide +kernel
theorem dX9_init_20 : decode cX9_init 20 = .ok (.invokespecial 20, 3) := by decide +kernel
theorem dX9_init_23 : decode cX9_init 23 = .ok (.putfield 21, 3) := by decide +kernel
theorem dX9_init_26 : decode cX9_init 26 = .ok (.aload_n 0, 1) := by decide +kernel
theorem dX9_init_27 : decode cX9_init 27 = .ok (.new 25, 3) := by decide +kernel
theorem dX9_init_30 : decode cX9_init 30 = .ok (.dup, 1) := by decide +kernel
theorem dX9_init_31 : decode cX9_init 31 = .ok (.invokespecial 27, 3) := by decide +kernel
theorem dX9_init_34 : decode cX9_init 34 = .ok (.putfield 28, 3) := by decide +kernel
theorem dX9_init_37 : decode cX9_init 37 = .ok (.return_, 1) := by decide +kernel
theorem dX9_goesOn_0 : decode cX9_goesOn 0 = .ok (.aload_n 0, 1) := by decide +kernel
theorem dX9_goesOn_1 : decode cX9_goesOn 1 = .ok (.getfield 12, 3) := by decide +kernel
theorem dX9_goesOn_4 : decode cX9_goesOn 4 = .ok (.iload_n 1, 1) := by decide +kernel
theorem dX9_goesOn_5 : decode cX9_goesOn 5 = .ok (.invokevirtual 32, 3) := by decide +kernel
theorem dX9_goesOn_8 : decode cX9_goesOn 8 = .ok (.ifCond .eq 19, 3) := by decide +kernel
theorem dX9_goesOn_11 : decode cX9_goesOn 11 = .ok (.aload_n 0, 1) := by decide +kernel
theorem dX9_goesOn_12 : decode cX9_goesOn 12 = .ok (.getfield 28, 3) := by decide +kernel
theorem dX9_goesOn_15 : decode cX9_goesOn 15 = .ok (.getfield 36, 3) := by decide +kernel
theorem dX9_goesOn_18 : decode cX9_goesOn 18 = .ok (.iload_n 1, 1) := by decide +kernel
theorem dX9_goesOn_19 : decode cX9_goesOn 19 = .ok (.iaload, 1) := by decide +kernel
theorem dX9_goesOn_20 : decode cX9_goesOn 20 = .ok (.ifCond .ne 7, 3) := by decide +kernel
theorem dX9_goesOn_23 : decode cX9_goesOn 23 = .ok (.iconst 1, 1) := by decide +kernel
theorem dX9_goesOn_24 : decode cX9_goesOn 24 = .ok (.goto 4, 3) := by decide +kernel
theorem dX9_goesOn_27 : decode cX9_goesOn 27 = .ok (.iconst 0, 1) := by decide +kernel
theorem dX9_goesOn_28 : decode cX9_goesOn 28 = .ok (.ireturn, 1) := by decide +kernel
theorem dX9_freshOn_0 : decode cX9_freshOn 0 = .ok (.aload_n 0, 1) := by decide +kernel
theorem dX9_freshOn_1 : decode cX9_freshOn 1 = .ok (.getfield 12, 3) := by decide +kernel
theorem dX9_freshOn_4 : decode cX9_freshOn 4 = .ok (.iload_n 1, 1) := by decide +kernel
theorem dX9_freshOn_5 : decode cX9_freshOn 5 = .ok (.invokevirtual 40, 3) := by decide +kernel
theorem dX9_freshOn_8 : decode cX9_freshOn 8 = .ok (.ifCond .ne 5, 3) := by decide +kernel
theorem dX9_freshOn_11 : decode cX9_freshOn 11 = .ok (.iconst 0, 1) := by decide +kernel
theorem dX9_freshOn_12 : decode cX9_freshOn 12 = .ok (.ireturn, 1) := by decide +kernel
theorem dX9_freshOn_13 : decode cX9_freshOn 13 = .ok (.aload_n 0, 1) := by decide +kernel
theorem dX9_freshOn_14 : decode cX9_freshOn 14 = .ok (.getfield 12, 3) := by decide +kernel
theorem dX9_freshOn_17 : decode cX9_freshOn 17 = .ok (.getfield 43, 3) := by decide +kernel
theorem dX9_freshOn_20 : decode cX9_freshOn 20 = .ok (.iload_n 1, 1) := by decide +kernel
theorem dX9_freshOn_21 : decode cX9_freshOn 21 = .ok (.iaload, 1) := by decide +kernel
theorem dX9_freshOn_22 : decode cX9_freshOn 22 = .ok (.lookupswitch 58 #[(1, 26), (3, 45)], 26) := by decide +kernel
theorem dX9_freshOn_48 : decode cX9_freshOn 48 = .ok (.aload_n 0, 1) := by decide +kernel
theorem dX9_freshOn_49 : decode cX9_freshOn 49 = .ok (.getfield 12, 3) := by decide +kernel
theorem dX9_freshOn_52 : decode cX9_freshOn 52 = .ok (.getfield 46, 3) := by decide +kernel
theorem dX9_freshOn_55 : decode cX9_freshOn 55 = .ok (.iload_n 1, 1) := by decide +kernel
theorem dX9_freshOn_56 : decode cX9_freshOn 56 = .ok (.iaload, 1) := by decide +kernel
theorem dX9_freshOn_57 : decode cX9_freshOn 57 = .ok (.aload_n 0, 1) := by decide +kernel
theorem dX9_freshOn_58 : decode cX9_freshOn 58 = .ok (.getfield 21, 3) := by decide +kernel
theorem dX9_freshOn_61 : decode cX9_freshOn 61 = .ok (.iload_n 2, 1) := by decide +kernel
theorem dX9_freshOn_62 : decode cX9_freshOn 62 = .ok (.invokevirtual 49, 3) := by decide +kernel
theorem dX9_freshOn_65 : decode cX9_freshOn 65 = .ok (.imul, 1) := by decide +kernel
theorem dX9_freshOn_66 : decode cX9_freshOn 66 = .ok (.ireturn, 1) := by decide +kernel
theorem dX9_freshOn_67 : decode cX9_freshOn 67 = .ok (.aload_n 0, 1) := by decide +kernel
theorem dX9_freshOn_68 : decode cX9_freshOn 68 = .ok (.getfield 12, 3) := by decide +kernel
theorem dX9_freshOn_71 : decode cX9_freshOn 71 = .ok (.getfield 46, 3) := by decide +kernel
theorem dX9_freshOn_74 : decode cX9_freshOn 74 = .ok (.iload_n 1, 1) := by decide +kernel
theorem dX9_freshOn_75 : decode cX9_freshOn 75 = .ok (.iaload, 1) := by decide +kernel
theorem dX9_freshOn_76 : decode cX9_freshOn 76 = .ok (.bipush 6, 2) := by decide +kernel
theorem dX9_freshOn_78 : decode cX9_freshOn 78 = .ok (.imul, 1) := by decide +kernel
theorem dX9_freshOn_79 : decode cX9_freshOn 79 = .ok (.ireturn, 1) := by decide +kernel
theorem dX9_freshOn_80 : decode cX9_freshOn 80 = .ok (.aload_n 0, 1) := by decide +kernel
theorem dX9_freshOn_81 : decode cX9_freshOn 81 = .ok (.getfield 12, 3) := by decide +kernel
theorem dX9_freshOn_84 : decode cX9_freshOn 84 = .ok (.getfield 46, 3) := by decide +kernel
theorem dX9_freshOn_87 : decode cX9_freshOn 87 = .ok (.iload_n 1, 1) := by decide +kernel
theorem dX9_freshOn_88 : decode cX9_freshOn 88 = .ok (.iaload, 1) := by decide +kernel
theorem dX9_freshOn_89 : decode cX9_freshOn 89 = .ok (.iconst 3, 1) := by decide +kernel
theorem dX9_freshOn_90 : decode cX9_freshOn 90 = .ok (.imul, 1) := by decide +kernel
theorem dX9_freshOn_91 : decode cX9_freshOn 91 = .ok (.ireturn, 1) := by decide +kernel
theorem dX9_mayBeCalled_0 : decode cX9_mayBeCalled 0 = .ok (.aload_n 0, 1) := by decide +kernel
theorem dX9_mayBeCalled_1 : decode cX9_mayBeCalled 1 = .ok (.getfield 12, 3) := by decide +kernel
theorem dX9_mayBeCalled_4 : decode cX9_mayBeCalled 4 = .ok (.iload_n 1, 1) := by decide +kernel
theorem dX9_mayBeCalled_5 : decode cX9_mayBeCalled 5 = .ok (.invokevirtual 40, 3) := by decide +kernel
theorem dX9_mayBeCalled_8 : decode cX9_mayBeCalled 8 = .ok (.ifCond .eq 32, 3) := by decide +kernel
theorem dX9_mayBeCalled_11 : decode cX9_mayBeCalled 11 = .ok (.aload_n 0, 1) := by decide +kernel
theorem dX9_mayBeCalled_12 : decode cX9_mayBeCalled 12 = .ok (.getfield 28, 3) := by decide +kernel
theorem dX9_mayBeCalled_15 : decode cX9_mayBeCalled 15 = .ok (.getfield 53, 3) := by decide +kernel
theorem dX9_mayBeCalled_18 : decode cX9_mayBeCalled 18 = .ok (.iload_n 1, 1) := by decide +kernel
theorem dX9_mayBeCalled_19 : decode cX9_mayBeCalled 19 = .ok (.iaload, 1) := by decide +kernel
theorem dX9_mayBeCalled_20 : decode cX9_mayBeCalled 20 = .ok (.iconst 1, 1) := by decide +kernel
theorem dX9_mayBeCalled_21 : decode cX9_mayBeCalled 21 = .ok (.if_icmp .eq 19, 3) := by decide +kernel
theorem dX9_mayBeCalled_24 : decode cX9_mayBeCalled 24 = .ok (.aload_n 0, 1) := by decide +kernel
theorem dX9_mayBeCalled_25 : decode cX9_mayBeCalled 25 = .ok (.aload_n 0, 1) := by decide +kernel
theorem dX9_mayBeCalled_26 : decode cX9_mayBeCalled 26 = .ok (.getfield 12, 3) := by decide +kernel
theorem dX9_mayBeCalled_29 : decode cX9_mayBeCalled 29 = .ok (.getfield 56, 3) := by decide +kernel
theorem dX9_mayBeCalled_32 : decode cX9_mayBeCalled 32 = .ok (.iload_n 1, 1) := by decide +kernel
theorem dX9_mayBeCalled_33 : decode cX9_mayBeCalled 33 = .ok (.iaload, 1) := by decide +kernel
theorem dX9_mayBeCalled_34 : decode cX9_mayBeCalled 34 = .ok (.invokevirtual 59, 3) := by decide +kernel
theorem dX9_mayBeCalled_37 : decode cX9_mayBeCalled 37 = .ok (.ifCond .ne 5, 3) := by decide +kernel
theorem dX9_mayBeCalled_40 : decode cX9_mayBeCalled 40 = .ok (.iconst 0, 1) := by decide +kernel
theorem dX9_mayBeCalled_41 : decode cX9_mayBeCalled 41 = .ok (.ireturn, 1) := by decide +kernel
theorem dX9_mayBeCalled_42 : decode cX9_mayBeCalled 42 = .ok (.aload_n 0, 1) := by decide +kernel
theorem dX9_mayBeCalled_43 : decode cX9_mayBeCalled 43 = .ok (.getfield 28, 3) := by decide +kernel
theorem dX9_mayBeCalled_46 : decode cX9_mayBeCalled 46 = .ok (.getfield 62, 3) := by decide +kernel
theorem dX9_mayBeCalled_49 : decode cX9_mayBeCalled 49 = .ok (.iload_n 1, 1) := by decide +kernel
theorem dX9_mayBeCalled_50 : decode cX9_mayBeCalled 50 = .ok (.iaload, 1) := by decide +kernel
theorem dX9_mayBeCalled_51 : decode cX9_mayBeCalled 51 = .ok (.ifCond .ne 5, 3) := by decide +kernel
theorem dX9_mayBeCalled_54 : decode cX9_mayBeCalled 54 = .ok (.iconst 1, 1) := by decide +kernel
theorem dX9_mayBeCalled_55 : decode cX9_mayBeCalled 55 = .ok (.ireturn, 1) := by decide +kernel
theorem dX9_mayBeCalled_56 : decode cX9_mayBeCalled 56 = .ok (.aload_n 0, 1) := by decide +kernel
theorem dX9_mayBeCalled_57 : decode cX9_mayBeCalled 57 = .ok (.getfield 12, 3) := by decide +kernel
theorem dX9_mayBeCalled_60 : decode cX9_mayBeCalled 60 = .ok (.getfield 43, 3) := by decide +kernel
theorem dX9_mayBeCalled_63 : decode cX9_mayBeCalled 63 = .ok (.iload_n 1, 1) := by decide +kernel
theorem dX9_mayBeCalled_64 : decode cX9_mayBeCalled 64 = .ok (.iaload, 1) := by decide +kernel
theorem dX9_mayBeCalled_65 : decode cX9_mayBeCalled 65 = .ok (.iconst 2, 1) := by decide +kernel
theorem dX9_mayBeCalled_66 : decode cX9_mayBeCalled 66 = .ok (.if_icmp .eq 29, 3) := by decide +kernel
theorem dX9_mayBeCalled_69 : decode cX9_mayBeCalled 69 = .ok (.iload_n 2, 1) := by decide +kernel
theorem dX9_mayBeCalled_70 : decode cX9_mayBeCalled 70 = .ok (.aload_n 0, 1) := by decide +kernel
theorem dX9_mayBeCalled_71 : decode cX9_mayBeCalled 71 = .ok (.getfield 28, 3) := by decide +kernel
theorem dX9_mayBeCalled_74 : decode cX9_mayBeCalled 74 = .ok (.getfield 65, 3) := by decide +kernel
theorem dX9_mayBeCalled_77 : decode cX9_mayBeCalled 77 = .ok (.iload_n 1, 1) := by decide +kernel
theorem dX9_mayBeCalled_78 : decode cX9_mayBeCalled 78 = .ok (.iaload, 1) := by decide +kernel
theorem dX9_mayBeCalled_79 : decode cX9_mayBeCalled 79 = .ok (.aload_n 0, 1) := by decide +kernel
theorem dX9_mayBeCalled_80 : decode cX9_mayBeCalled 80 = .ok (.getfield 21, 3) := by decide +kernel
theorem dX9_mayBeCalled_83 : decode cX9_mayBeCalled 83 = .ok (.iload_n 2, 1) := by decide +kernel
theorem dX9_mayBeCalled_84 : decode cX9_mayBeCalled 84 = .ok (.invokevirtual 68, 3) := by decide +kernel
theorem dX9_mayBeCalled_87 : decode cX9_mayBeCalled 87 = .ok (.iadd, 1) := by decide +kernel
theorem dX9_mayBeCalled_88 : decode cX9_mayBeCalled 88 = .ok (.if_icmp .lt 7, 3) := by decide +kernel
theorem dX9_mayBeCalled_91 : decode cX9_mayBeCalled 91 = .ok (.iconst 1, 1) := by decide +kernel
theorem dX9_mayBeCalled_92 : decode cX9_mayBeCalled 92 = .ok (.goto 4, 3) := by decide +kernel
theorem dX9_mayBeCalled_95 : decode cX9_mayBeCalled 95 = .ok (.iconst 0, 1) := by decide +kernel
theorem dX9_mayBeCalled_96 : decode cX9_mayBeCalled 96 = .ok (.ireturn, 1) := by decide +kernel
theorem dX9_maySpeak_0 : decode cX9_maySpeak 0 = .ok (.aload_n 0, 1) := by decide +kernel
theorem dX9_maySpeak_1 : decode cX9_maySpeak 1 = .ok (.iload_n 1, 1) := by decide +kernel
theorem dX9_maySpeak_2 : decode cX9_maySpeak 2 = .ok (.aload_n 0, 1) := by decide +kernel
theorem dX9_maySpeak_3 : decode cX9_maySpeak 3 = .ok (.getfield 28, 3) := by decide +kernel
theorem dX9_maySpeak_6 : decode cX9_maySpeak 6 = .ok (.getfield 71, 3) := by decide +kernel
theorem dX9_maySpeak_9 : decode cX9_maySpeak 9 = .ok (.invokevirtual 75, 3) := by decide +kernel
theorem dX9_maySpeak_12 : decode cX9_maySpeak 12 = .ok (.ifCond .eq 21, 3) := by decide +kernel
theorem dX9_maySpeak_15 : decode cX9_maySpeak 15 = .ok (.aload_n 0, 1) := by decide +kernel
theorem dX9_maySpeak_16 : decode cX9_maySpeak 16 = .ok (.aload_n 0, 1) := by decide +kernel
theorem dX9_maySpeak_17 : decode cX9_maySpeak 17 = .ok (.getfield 28, 3) := by decide +kernel
theorem dX9_maySpeak_20 : decode cX9_maySpeak 20 = .ok (.getfield 71, 3) := by decide +kernel
theorem dX9_maySpeak_23 : decode cX9_maySpeak 23 = .ok (.invokevirtual 79, 3) := by decide +kernel
theorem dX9_maySpeak_26 : decode cX9_maySpeak 26 = .ok (.ifCond .le 7, 3) := by decide +kernel
theorem dX9_maySpeak_29 : decode cX9_maySpeak 29 = .ok (.iconst 1, 1) := by decide +kernel
theorem dX9_maySpeak_30 : decode cX9_maySpeak 30 = .ok (.goto 4, 3) := by decide +kernel
theorem dX9_maySpeak_33 : decode cX9_maySpeak 33 = .ok (.iconst 0, 1) := by decide +kernel
theorem dX9_maySpeak_34 : decode cX9_maySpeak 34 = .ok (.ireturn, 1) := by decide +kernel
theorem dX9_roomOn_0 : decode cX9_roomOn 0 = .ok (.iload_n 1, 1) := by decide +kernel
theorem dX9_roomOn_1 : decode cX9_roomOn 1 = .ok (.aload_n 0, 1) := by decide +kernel
theorem dX9_roomOn_2 : decode cX9_roomOn 2 = .ok (.getfield 28, 3) := by decide +kernel
theorem dX9_roomOn_5 : decode cX9_roomOn 5 = .ok (.getfield 71, 3) := by decide +kernel
theorem dX9_roomOn_8 : decode cX9_roomOn 8 = .ok (.if_icmp .ne 13, 3) := by decide +kernel
theorem dX9_roomOn_11 : decode cX9_roomOn 11 = .ok (.aload_n 0, 1) := by decide +kernel
theorem dX9_roomOn_12 : decode cX9_roomOn 12 = .ok (.getfield 28, 3) := by decide +kernel
theorem dX9_roomOn_15 : decode cX9_roomOn 15 = .ok (.getfield 82, 3) := by decide +kernel
theorem dX9_roomOn_18 : decode cX9_roomOn 18 = .ok (.goto 4, 3) := by decide +kernel
theorem dX9_roomOn_21 : decode cX9_roomOn 21 = .ok (.iconst 0, 1) := by decide +kernel
theorem dX9_roomOn_22 : decode cX9_roomOn 22 = .ok (.istore_n 2, 1) := by decide +kernel
theorem dX9_roomOn_23 : decode cX9_roomOn 23 = .ok (.iconst 0, 1) := by decide +kernel
theorem dX9_roomOn_24 : decode cX9_roomOn 24 = .ok (.aload_n 0, 1) := by decide +kernel
theorem dX9_roomOn_25 : decode cX9_roomOn 25 = .ok (.getfield 21, 3) := by decide +kernel
theorem dX9_roomOn_28 : decode cX9_roomOn 28 = .ok (.iload_n 1, 1) := by decide +kernel
theorem dX9_roomOn_29 : decode cX9_roomOn 29 = .ok (.invokevirtual 85, 3) := by decide +kernel
theorem dX9_roomOn_32 : decode cX9_roomOn 32 = .ok (.iload_n 2, 1) := by decide +kernel
theorem dX9_roomOn_33 : decode cX9_roomOn 33 = .ok (.isub, 1) := by decide +kernel
theorem dX9_roomOn_34 : decode cX9_roomOn 34 = .ok (.invokestatic 88, 3) := by decide +kernel
theorem dX9_roomOn_37 : decode cX9_roomOn 37 = .ok (.ireturn, 1) := by decide +kernel
theorem dX9_hear_0 : decode cX9_hear 0 = .ok (.aload_n 0, 1) := by decide +kernel
theorem dX9_hear_1 : decode cX9_hear 1 = .ok (.getfield 12, 3) := by decide +kernel
theorem dX9_hear_4 : decode cX9_hear 4 = .ok (.iload_n 1, 1) := by decide +kernel
theorem dX9_hear_5 : decode cX9_hear 5 = .ok (.invokevirtual 40, 3) := by decide +kernel
theorem dX9_hear_8 : decode cX9_hear 8 = .ok (.ifCond .eq 22, 3) := by decide +kernel
theorem dX9_hear_11 : decode cX9_hear 11 = .ok (.aload_n 0, 1) := by decide +kernel
theorem dX9_hear_12 : decode cX9_hear 12 = .ok (.getfield 12, 3) := by decide +kernel
theorem dX9_hear_15 : decode cX9_hear 15 = .ok (.aload_n 0, 1) := by decide +kernel
theorem dX9_hear_16 : decode cX9_hear 16 = .ok (.getfield 12, 3) := by decide +kernel
theorem dX9_hear_19 : decode cX9_hear 19 = .ok (.getfield 56, 3) := by decide +kernel
theorem dX9_hear_22 : decode cX9_hear 22 = .ok (.iload_n 1, 1) := by decide +kernel
theorem dX9_hear_23 : decode cX9_hear 23 = .ok (.iaload, 1) := by decide +kernel
theorem dX9_hear_24 : decode cX9_hear 24 = .ok (.invokevirtual 32, 3) := by decide +kernel
theorem dX9_hear_27 : decode cX9_hear 27 = .ok (.ifCond .ne 5, 3) := by decide +kernel
theorem dX9_hear_30 : decode cX9_hear 30 = .ok (.iconst 0, 1) := by decide +kernel
theorem dX9_hear_31 : decode cX9_hear 31 = .ok (.ireturn, 1) := by decide +kernel
theorem dX9_hear_32 : decode cX9_hear 32 = .ok (.aload_n 0, 1) := by decide +kernel
theorem dX9_hear_33 : decode cX9_hear 33 = .ok (.getfield 12, 3) := by decide +kernel
theorem dX9_hear_36 : decode cX9_hear 36 = .ok (.getfield 56, 3) := by decide +kernel
theorem dX9_hear_39 : decode cX9_hear 39 = .ok (.iload_n 1, 1) := by decide +kernel
theorem dX9_hear_40 : decode cX9_hear 40 = .ok (.iaload, 1) := by decide +kernel
theorem dX9_hear_41 : decode cX9_hear 41 = .ok (.istore_n 2, 1) := by decide +kernel
theorem dX9_hear_42 : decode cX9_hear 42 = .ok (.aload_n 0, 1) := by decide +kernel
theorem dX9_hear_43 : decode cX9_hear 43 = .ok (.getfield 28, 3) := by decide +kernel
theorem dX9_hear_46 : decode cX9_hear 46 = .ok (.dup, 1) := by decide +kernel
theorem dX9_hear_47 : decode cX9_hear 47 = .ok (.getfield 82, 3) := by decide +kernel
theorem dX9_hear_50 : decode cX9_hear 50 = .ok (.iconst 1, 1) := by decide +kernel
theorem dX9_hear_51 : decode cX9_hear 51 = .ok (.iadd, 1) := by decide +kernel
theorem dX9_hear_52 : decode cX9_hear 52 = .ok (.putfield 82, 3) := by decide +kernel
theorem dX9_hear_55 : decode cX9_hear 55 = .ok (.aload_n 0, 1) := by decide +kernel
theorem dX9_hear_56 : decode cX9_hear 56 = .ok (.getfield 28, 3) := by decide +kernel
theorem dX9_hear_59 : decode cX9_hear 59 = .ok (.getfield 65, 3) := by decide +kernel
theorem dX9_hear_62 : decode cX9_hear 62 = .ok (.iload_n 1, 1) := by decide +kernel
theorem dX9_hear_63 : decode cX9_hear 63 = .ok (.aload_n 0, 1) := by decide +kernel
theorem dX9_hear_64 : decode cX9_hear 64 = .ok (.getfield 28, 3) := by decide +kernel
theorem dX9_hear_67 : decode cX9_hear 67 = .ok (.getfield 71, 3) := by decide +kernel
theorem dX9_hear_70 : decode cX9_hear 70 = .ok (.iastore, 1) := by decide +kernel
theorem dX9_hear_71 : decode cX9_hear 71 = .ok (.aload_n 0, 1) := by decide +kernel
theorem dX9_hear_72 : decode cX9_hear 72 = .ok (.getfield 28, 3) := by decide +kernel
theorem dX9_hear_75 : decode cX9_hear 75 = .ok (.getfield 62, 3) := by decide +kernel
theorem dX9_hear_78 : decode cX9_hear 78 = .ok (.iload_n 1, 1) := by decide +kernel
theorem dX9_hear_79 : decode cX9_hear 79 = .ok (.dup2, 1) := by decide +kernel
theorem dX9_hear_80 : decode cX9_hear 80 = .ok (.iaload, 1) := by decide +kernel
theorem dX9_hear_81 : decode cX9_hear 81 = .ok (.iconst 1, 1) := by decide +kernel
theorem dX9_hear_82 : decode cX9_hear 82 = .ok (.iadd, 1) := by decide +kernel
theorem dX9_hear_83 : decode cX9_hear 83 = .ok (.iastore, 1) := by decide +kernel
theorem dX9_hear_84 : decode cX9_hear 84 = .ok (.aload_n 0, 1) := by decide +kernel
theorem dX9_hear_85 : decode cX9_hear 85 = .ok (.getfield 28, 3) := by decide +kernel
theorem dX9_hear_88 : decode cX9_hear 88 = .ok (.getfield 94, 3) := by decide +kernel
theorem dX9_hear_91 : decode cX9_hear 91 = .ok (.iload_n 2, 1) := by decide +kernel
theorem dX9_hear_92 : decode cX9_hear 92 = .ok (.dup2, 1) := by decide +kernel
theorem dX9_hear_93 : decode cX9_hear 93 = .ok (.iaload, 1) := by decide +kernel
theorem dX9_hear_94 : decode cX9_hear 94 = .ok (.aload_n 0, 1) := by decide +kernel
theorem dX9_hear_95 : decode cX9_hear 95 = .ok (.iload_n 1, 1) := by decide +kernel
theorem dX9_hear_96 : decode cX9_hear 96 = .ok (.aload_n 0, 1) := by decide +kernel
theorem dX9_hear_97 : decode cX9_hear 97 = .ok (.getfield 28, 3) := by decide +kernel
theorem dX9_hear_100 : decode cX9_hear 100 = .ok (.getfield 71, 3) := by decide +kernel
theorem dX9_hear_103 : decode cX9_hear 103 = .ok (.invokevirtual 97, 3) := by decide +kernel
theorem dX9_hear_106 : decode cX9_hear 106 = .ok (.iadd, 1) := by decide +kernel
theorem dX9_hear_107 : decode cX9_hear 107 = .ok (.iastore, 1) := by decide +kernel
theorem dX9_hear_108 : decode cX9_hear 108 = .ok (.aload_n 0, 1) := by decide +kernel
theorem dX9_hear_109 : decode cX9_hear 109 = .ok (.iload_n 2, 1) := by decide +kernel
theorem dX9_hear_110 : decode cX9_hear 110 = .ok (.invokevirtual 100, 3) := by decide +kernel
theorem dX9_hear_113 : decode cX9_hear 113 = .ok (.aload_n 0, 1) := by decide +kernel
theorem dX9_hear_114 : decode cX9_hear 114 = .ok (.getfield 28, 3) := by decide +kernel
theorem dX9_hear_117 : decode cX9_hear 117 = .ok (.getfield 36, 3) := by decide +kernel
theorem dX9_hear_120 : decode cX9_hear 120 = .ok (.iload_n 2, 1) := by decide +kernel
theorem dX9_hear_121 : decode cX9_hear 121 = .ok (.iaload, 1) := by decide +kernel
theorem dX9_hear_122 : decode cX9_hear 122 = .ok (.ireturn, 1) := by decide +kernel
theorem dX9_endDay_0 : decode cX9_endDay 0 = .ok (.iconst 0, 1) := by decide +kernel
theorem dX9_endDay_1 : decode cX9_endDay 1 = .ok (.istore_n 1, 1) := by decide +kernel
theorem dX9_endDay_2 : decode cX9_endDay 2 = .ok (.iload_n 1, 1) := by decide +kernel
theorem dX9_endDay_3 : decode cX9_endDay 3 = .ok (.aload_n 0, 1) := by decide +kernel
theorem dX9_endDay_4 : decode cX9_endDay 4 = .ok (.getfield 12, 3) := by decide +kernel
theorem dX9_endDay_7 : decode cX9_endDay 7 = .ok (.getfield 104, 3) := by decide +kernel
theorem dX9_endDay_10 : decode cX9_endDay 10 = .ok (.if_icmp .ge 58, 3) := by decide +kernel
theorem dX9_endDay_13 : decode cX9_endDay 13 = .ok (.aload_n 0, 1) := by decide +kernel
theorem dX9_endDay_14 : decode cX9_endDay 14 = .ok (.iload_n 1, 1) := by decide +kernel
theorem dX9_endDay_15 : decode cX9_endDay 15 = .ok (.invokevirtual 100, 3) := by decide +kernel
theorem dX9_endDay_18 : decode cX9_endDay 18 = .ok (.aload_n 0, 1) := by decide +kernel
theorem dX9_endDay_19 : decode cX9_endDay 19 = .ok (.iload_n 1, 1) := by decide +kernel
theorem dX9_endDay_20 : decode cX9_endDay 20 = .ok (.invokevirtual 59, 3) := by decide +kernel
theorem dX9_endDay_23 : decode cX9_endDay 23 = .ok (.ifCond .eq 31, 3) := by decide +kernel
theorem dX9_endDay_26 : decode cX9_endDay 26 = .ok (.aload_n 0, 1) := by decide +kernel
theorem dX9_endDay_27 : decode cX9_endDay 27 = .ok (.getfield 28, 3) := by decide +kernel
theorem dX9_endDay_30 : decode cX9_endDay 30 = .ok (.getfield 71, 3) := by decide +kernel
theorem dX9_endDay_33 : decode cX9_endDay 33 = .ok (.aload_n 0, 1) := by decide +kernel
theorem dX9_endDay_34 : decode cX9_endDay 34 = .ok (.getfield 12, 3) := by decide +kernel
theorem dX9_endDay_37 : decode cX9_endDay 37 = .ok (.getfield 107, 3) := by decide +kernel
theorem dX9_endDay_40 : decode cX9_endDay 40 = .ok (.iload_n 1, 1) := by decide +kernel
theorem dX9_endDay_41 : decode cX9_endDay 41 = .ok (.iaload, 1) := by decide +kernel
theorem dX9_endDay_42 : decode cX9_endDay 42 = .ok (.if_icmp .ne 12, 3) := by decide +kernel
theorem dX9_endDay_45 : decode cX9_endDay 45 = .ok (.aload_n 0, 1) := by decide +kernel
theorem dX9_endDay_46 : decode cX9_endDay 46 = .ok (.getfield 28, 3) := by decide +kernel
theorem dX9_endDay_49 : decode cX9_endDay 49 = .ok (.iload_n 1, 1) := by decide +kernel
theorem dX9_endDay_50 : decode cX9_endDay 50 = .ok (.iconst 2, 1) := by decide +kernel
theorem dX9_endDay_51 : decode cX9_endDay 51 = .ok (.invokevirtual 110, 3) := by decide +kernel
theorem dX9_endDay_54 : decode cX9_endDay 54 = .ok (.aload_n 0, 1) := by decide +kernel
theorem dX9_endDay_55 : decode cX9_endDay 55 = .ok (.getfield 28, 3) := by decide +kernel
theorem dX9_endDay_58 : decode cX9_endDay 58 = .ok (.iload_n 1, 1) := by decide +kernel
theorem dX9_endDay_59 : decode cX9_endDay 59 = .ok (.invokevirtual 114, 3) := by decide +kernel
theorem dX9_endDay_62 : decode cX9_endDay 62 = .ok (.iinc 1 1, 3) := by decide +kernel
theorem dX9_endDay_65 : decode cX9_endDay 65 = .ok (.goto (-63), 3) := by decide +kernel
theorem dX9_endDay_68 : decode cX9_endDay 68 = .ok (.aload_n 0, 1) := by decide +kernel
theorem dX9_endDay_69 : decode cX9_endDay 69 = .ok (.getfield 28, 3) := by decide +kernel
theorem dX9_endDay_72 : decode cX9_endDay 72 = .ok (.dup, 1) := by decide +kernel
theorem dX9_endDay_73 : decode cX9_endDay 73 = .ok (.getfield 71, 3) := by decide +kernel
theorem dX9_endDay_76 : decode cX9_endDay 76 = .ok (.iconst 1, 1) := by decide +kernel
theorem dX9_endDay_77 : decode cX9_endDay 77 = .ok (.iadd, 1) := by decide +kernel
theorem dX9_endDay_78 : decode cX9_endDay 78 = .ok (.putfield 71, 3) := by decide +kernel
theorem dX9_endDay_81 : decode cX9_endDay 81 = .ok (.aload_n 0, 1) := by decide +kernel
theorem dX9_endDay_82 : decode cX9_endDay 82 = .ok (.getfield 28, 3) := by decide +kernel
theorem dX9_endDay_85 : decode cX9_endDay 85 = .ok (.iconst 0, 1) := by decide +kernel
theorem dX9_endDay_86 : decode cX9_endDay 86 = .ok (.putfield 82, 3) := by decide +kernel
theorem dX9_endDay_89 : decode cX9_endDay 89 = .ok (.return_, 1) := by decide +kernel
theorem dX9_passDayByDraws_0 : decode cX9_passDayByDraws 0 = .ok (.iconst 0, 1) := by decide +kernel
theorem dX9_passDayByDraws_1 : decode cX9_passDayByDraws 1 = .ok (.istore_n 2, 1) := by decide +kernel
theorem dX9_passDayByDraws_2 : decode cX9_passDayByDraws 2 = .ok (.iconst 0, 1) := by decide +kernel
theorem dX9_passDayByDraws_3 : decode cX9_passDayByDraws 3 = .ok (.istore_n 3, 1) := by decide +kernel
theorem dX9_passDayByDraws_4 : decode cX9_passDayByDraws 4 = .ok (.iload_n 3, 1) := by decide +kernel
theorem dX9_passDayByDraws_5 : decode cX9_passDayByDraws 5 = .ok (.aload_n 0, 1) := by decide +kernel
theorem dX9_passDayByDraws_6 : decode cX9_passDayByDraws 6 = .ok (.getfield 12, 3) := by decide +kernel
theorem dX9_passDayByDraws_9 : decode cX9_passDayByDraws 9 = .ok (.getfield 117, 3) := by decide +kernel
theorem dX9_passDayByDraws_12 : decode cX9_passDayByDraws 12 = .ok (.if_icmp .ge 39, 3) := by decide +kernel
theorem dX9_passDayByDraws_15 : decode cX9_passDayByDraws 15 = .ok (.aload_n 0, 1) := by decide +kernel
theorem dX9_passDayByDraws_16 : decode cX9_passDayByDraws 16 = .ok (.getfield 28, 3) := by decide +kernel
theorem dX9_passDayByDraws_19 : decode cX9_passDayByDraws 19 = .ok (.bipush 100, 2) := by decide +kernel
theorem dX9_passDayByDraws_21 : decode cX9_passDayByDraws 21 = .ok (.invokevirtual 120, 3) := by decide +kernel
theorem dX9_passDayByDraws_24 : decode cX9_passDayByDraws 24 = .ok (.iload_n 1, 1) := by decide +kernel
theorem dX9_passDayByDraws_25 : decode cX9_passDayByDraws 25 = .ok (.if_icmp .ge 20, 3) := by decide +kernel
theorem dX9_passDayByDraws_28 : decode cX9_passDayByDraws 28 = .ok (.aload_n 0, 1) := by decide +kernel
theorem dX9_passDayByDraws_29 : decode cX9_passDayByDraws 29 = .ok (.iload_n 3, 1) := by decide +kernel
theorem dX9_passDayByDraws_30 : decode cX9_passDayByDraws 30 = .ok (.invokevirtual 123, 3) := by decide +kernel
theorem dX9_passDayByDraws_33 : decode cX9_passDayByDraws 33 = .ok (.ifCond .eq 12, 3) := by decide +kernel
theorem dX9_passDayByDraws_36 : decode cX9_passDayByDraws 36 = .ok (.aload_n 0, 1) := by decide +kernel
theorem dX9_passDayByDraws_37 : decode cX9_passDayByDraws 37 = .ok (.iload_n 3, 1) := by decide +kernel
theorem dX9_passDayByDraws_38 : decode cX9_passDayByDraws 38 = .ok (.invokevirtual 126, 3) := by decide +kernel
theorem dX9_passDayByDraws_41 : decode cX9_passDayByDraws 41 = .ok (.pop, 1) := by decide +kernel
theorem dX9_passDayByDraws_42 : decode cX9_passDayByDraws 42 = .ok (.iinc 2 1, 3) := by decide +kernel
theorem dX9_passDayByDraws_45 : decode cX9_passDayByDraws 45 = .ok (.iinc 3 1, 3) := by decide +kernel
theorem dX9_passDayByDraws_48 : decode cX9_passDayByDraws 48 = .ok (.goto (-44), 3) := by decide +kernel
theorem dX9_passDayByDraws_51 : decode cX9_passDayByDraws 51 = .ok (.aload_n 0, 1) := by decide +kernel
theorem dX9_passDayByDraws_52 : decode cX9_passDayByDraws 52 = .ok (.invokevirtual 129, 3) := by decide +kernel
theorem dX9_passDayByDraws_55 : decode cX9_passDayByDraws 55 = .ok (.iload_n 2, 1) := by decide +kernel
theorem dX9_passDayByDraws_56 : decode cX9_passDayByDraws 56 = .ok (.ireturn, 1) := by decide +kernel
theorem dX9_look_0 : decode cX9_look 0 = .ok (.aload_n 0, 1) := by decide +kernel
theorem dX9_look_1 : decode cX9_look 1 = .ok (.iload_n 1, 1) := by decide +kernel
theorem dX9_look_2 : decode cX9_look 2 = .ok (.invokevirtual 59, 3) := by decide +kernel
theorem dX9_look_5 : decode cX9_look 5 = .ok (.ifCond .eq 40, 3) := by decide +kernel
theorem dX9_look_8 : decode cX9_look 8 = .ok (.aload_n 0, 1) := by decide +kernel
theorem dX9_look_9 : decode cX9_look 9 = .ok (.getfield 28, 3) := by decide +kernel
theorem dX9_look_12 : decode cX9_look 12 = .ok (.getfield 94, 3) := by decide +kernel
theorem dX9_look_15 : decode cX9_look 15 = .ok (.iload_n 1, 1) := by decide +kernel
theorem dX9_look_16 : decode cX9_look 16 = .ok (.iaload, 1) := by decide +kernel
theorem dX9_look_17 : decode cX9_look 17 = .ok (.aload_n 0, 1) := by decide +kernel
theorem dX9_look_18 : decode cX9_look 18 = .ok (.getfield 12, 3) := by decide +kernel
theorem dX9_look_21 : decode cX9_look 21 = .ok (.iload_n 1, 1) := by decide +kernel
theorem dX9_look_22 : decode cX9_look 22 = .ok (.invokevirtual 132, 3) := by decide +kernel
theorem dX9_look_25 : decode cX9_look 25 = .ok (.if_icmp .lt 20, 3) := by decide +kernel
theorem dX9_look_28 : decode cX9_look 28 = .ok (.aload_n 0, 1) := by decide +kernel
theorem dX9_look_29 : decode cX9_look 29 = .ok (.iload_n 1, 1) := by decide +kernel
theorem dX9_look_30 : decode cX9_look 30 = .ok (.invokevirtual 135, 3) := by decide +kernel
theorem dX9_look_33 : decode cX9_look 33 = .ok (.ifCond .eq 12, 3) := by decide +kernel
theorem dX9_look_36 : decode cX9_look 36 = .ok (.aload_n 0, 1) := by decide +kernel
theorem dX9_look_37 : decode cX9_look 37 = .ok (.getfield 28, 3) := by decide +kernel
theorem dX9_look_40 : decode cX9_look 40 = .ok (.iload_n 1, 1) := by decide +kernel
theorem dX9_look_41 : decode cX9_look 41 = .ok (.iconst 1, 1) := by decide +kernel
theorem dX9_look_42 : decode cX9_look 42 = .ok (.invokevirtual 110, 3) := by decide +kernel
theorem dX9_look_45 : decode cX9_look 45 = .ok (.return_, 1) := by decide +kernel
theorem dX9_isCarried_0 : decode cX9_isCarried 0 = .ok (.aload_n 0, 1) := by decide +kernel
theorem dX9_isCarried_1 : decode cX9_isCarried 1 = .ok (.getfield 12, 3) := by decide +kernel
theorem dX9_isCarried_4 : decode cX9_isCarried 4 = .ok (.iload_n 1, 1) := by decide +kernel
theorem dX9_isCarried_5 : decode cX9_isCarried 5 = .ok (.invokevirtual 32, 3) := by decide +kernel
theorem dX9_isCarried_8 : decode cX9_isCarried 8 = .ok (.ifCond .ne 5, 3) := by decide +kernel
theorem dX9_isCarried_11 : decode cX9_isCarried 11 = .ok (.iconst 0, 1) := by decide +kernel
theorem dX9_isCarried_12 : decode cX9_isCarried 12 = .ok (.ireturn, 1) := by decide +kernel
theorem dX9_isCarried_13 : decode cX9_isCarried 13 = .ok (.aload_n 0, 1) := by decide +kernel
theorem dX9_isCarried_14 : decode cX9_isCarried 14 = .ok (.getfield 12, 3) := by decide +kernel
theorem dX9_isCarried_17 : decode cX9_isCarried 17 = .ok (.getfield 138, 3) := by decide +kernel
theorem dX9_isCarried_20 : decode cX9_isCarried 20 = .ok (.iload_n 1, 1) := by decide +kernel
theorem dX9_isCarried_21 : decode cX9_isCarried 21 = .ok (.iaload, 1) := by decide +kernel
theorem dX9_isCarried_22 : decode cX9_isCarried 22 = .ok (.istore_n 2, 1) := by decide +kernel
theorem dX9_isCarried_23 : decode cX9_isCarried 23 = .ok (.aload_n 0, 1) := by decide +kernel
theorem dX9_isCarried_24 : decode cX9_isCarried 24 = .ok (.getfield 12, 3) := by decide +kernel
theorem dX9_isCarried_27 : decode cX9_isCarried 27 = .ok (.iload_n 2, 1) := by decide +kernel
theorem dX9_isCarried_28 : decode cX9_isCarried 28 = .ok (.invokevirtual 32, 3) := by decide +kernel
theorem dX9_isCarried_31 : decode cX9_isCarried 31 = .ok (.ifCond .eq 16, 3) := by decide +kernel
theorem dX9_isCarried_34 : decode cX9_isCarried 34 = .ok (.aload_n 0, 1) := by decide +kernel
theorem dX9_isCarried_35 : decode cX9_isCarried 35 = .ok (.getfield 28, 3) := by decide +kernel
theorem dX9_isCarried_38 : decode cX9_isCarried 38 = .ok (.getfield 36, 3) := by decide +kernel
theorem dX9_isCarried_41 : decode cX9_isCarried 41 = .ok (.iload_n 2, 1) := by decide +kernel
theorem dX9_isCarried_42 : decode cX9_isCarried 42 = .ok (.iaload, 1) := by decide +kernel
theorem dX9_isCarried_43 : decode cX9_isCarried 43 = .ok (.iconst 1, 1) := by decide +kernel
theorem dX9_isCarried_44 : decode cX9_isCarried 44 = .ok (.if_icmp .ne 7, 3) := by decide +kernel
theorem dX9_isCarried_47 : decode cX9_isCarried 47 = .ok (.iconst 1, 1) := by decide +kernel
theorem dX9_isCarried_48 : decode cX9_isCarried 48 = .ok (.goto 4, 3) := by decide +kernel
theorem dX9_isCarried_51 : decode cX9_isCarried 51 = .ok (.iconst 0, 1) := by decide +kernel
theorem dX9_isCarried_52 : decode cX9_isCarried 52 = .ok (.ireturn, 1) := by decide +kernel
theorem dX10_init_0 : decode cX10_init 0 = .ok (.aload_n 0, 1) := by decide +kernel
theorem dX10_init_1 : decode cX10_init 1 = .ok (.invokespecial 1, 3) := by decide +kernel
theorem dX10_init_4 : decode cX10_init 4 = .ok (.aload_n 0, 1) := by decide +kernel
theorem dX10_init_5 : decode cX10_init 5 = .ok (.new 7, 3) := by decide +kernel
theorem dX10_init_8 : decode cX10_init 8 = .ok (.dup, 1) := by decide +kernel
theorem dX10_init_9 : decode cX10_init 9 = .ok (.invokespecial 9, 3) := by decide +kernel
theorem dX10_init_12 : decode cX10_init 12 = .ok (.putfield 10, 3) := by decide +kernel
theorem dX10_init_15 : decode cX10_init 15 = .ok (.aload_n 0, 1) := by decide +kernel
theorem dX10_init_16 : decode cX10_init 16 = .ok (.new 16, 3) := by decide +kernel
theorem dX10_init_19 : decode cX10_init 19 = .ok (.dup, 1) := by decide +kernel
theorem dX10_init_20 : decode cX10_init 20 = .ok (.aload_n 0, 1) := by decide +kernel
theorem dX10_init_21 : decode cX10_init 21 = .ok (.getfield 10, 3) := by decide +kernel
theorem dX10_init_24 : decode cX10_init 24 = .ok (.invokespecial 18, 3) := by decide +kernel
theorem dX10_init_27 : decode cX10_init 27 = .ok (.putfield 21, 3) := by decide +kernel
theorem dX10_init_30 : decode cX10_init 30 = .ok (.aload_n 0, 1) := by decide +kernel
theorem dX10_init_31 : decode cX10_init 31 = .ok (.new 25, 3) := by decide +kernel
theorem dX10_init_34 : decode cX10_init 34 = .ok (.dup, 1) := by decide +kernel
theorem dX10_init_35 : decode cX10_init 35 = .ok (.invokespecial 27, 3) := by decide +kernel
theorem dX10_init_38 : decode cX10_init 38 = .ok (.putfield 28, 3) := by decide +kernel
theorem dX10_init_41 : decode cX10_init 41 = .ok (.aload_n 0, 1) := by decide +kernel
theorem dX10_init_42 : decode cX10_init 42 = .ok (.new 32, 3) := by decide +kernel
theorem dX10_init_45 : decode cX10_init 45 = .ok (.dup, 1) := by decide +kernel
theorem dX10_init_46 : decode cX10_init 46 = .ok (.aload_n 0, 1) := by decide +kernel
theorem dX10_init_47 : decode cX10_init 47 = .ok (.getfield 28, 3) := by decide +kernel
theorem dX10_init_50 : decode cX10_init 50 = .ok (.invokespecial 34, 3) := by decide +kernel
theorem dX10_init_53 : decode cX10_init 53 = .ok (.putfield 37, 3) := by decide +kernel
theorem dX10_init_56 : decode cX10_init 56 = .ok (.aload_n 0, 1) := by decide +kernel
theorem dX10_init_57 : decode cX10_init 57 = .ok (.new 41, 3) := by decide +kernel
theorem dX10_init_60 : decode cX10_init 60 = .ok (.dup, 1) := by decide +kernel
theorem dX10_init_61 : decode cX10_init 61 = .ok (.aload_n 0, 1) := by decide +kernel
theorem dX10_init_62 : decode cX10_init 62 = .ok (.getfield 28, 3) := by decide +kernel
theorem dX10_init_65 : decode cX10_init 65 = .ok (.invokespecial 43, 3) := by decide +kernel
theorem dX10_init_68 : decode cX10_init 68 = .ok (.putfield 44, 3) := by decide +kernel
theorem dX10_init_71 : decode cX10_init 71 = .ok (.aload_n 0, 1) := by decide +kernel
theorem dX10_init_72 : decode cX10_init 72 = .ok (.new 48, 3) := by decide +kernel
theorem dX10_init_75 : decode cX10_init 75 = .ok (.dup, 1) := by decide +kernel
theorem dX10_init_76 : decode cX10_init 76 = .ok (.aload_n 0, 1) := by decide +kernel
theorem dX10_init_77 : decode cX10_init 77 = .ok (.getfield 28, 3) := by decide +kernel
theorem dX10_init_80 : decode cX10_init 80 = .ok (.invokespecial 50, 3) := by decide +kernel
theorem dX10_init_83 : decode cX10_init 83 = .ok (.putfield 51, 3) := by decide +kernel
theorem dX10_init_86 : decode cX10_init 86 = .ok (.aload_n 0, 1) := by decide +kernel
theorem dX10_init_87 : decode cX10_init 87 = .ok (.new 55, 3) := by decide +kernel
theorem dX10_init_90 : decode cX10_init 90 = .ok (.dup, 1) := by decide +kernel
theorem dX10_init_91 : decode cX10_init 91 = .ok (.invokespecial 57, 3) := by decide +kernel
theorem dX10_init_94 : decode cX10_init 94 = .ok (.putfield 58, 3) := by decide +kernel
theorem dX10_init_97 : decode cX10_init 97 = .ok (.aload_n 0, 1) := by decide +kernel
theorem dX10_init_98 : decode cX10_init 98 = .ok (.iconst 2, 1) := by decide +kernel
theorem dX10_init_99 : decode cX10_init 99 = .ok (.anewarray 62, 3) := by decide +kernel
theorem dX10_init_102 : decode cX10_init 102 = .ok (.putfield 64, 3) := by decide +kernel
theorem dX10_init_105 : decode cX10_init 105 = .ok (.iconst 0, 1) := by decide +kernel
theorem dX10_init_106 : decode cX10_init 106 = .ok (.istore_n 1, 1) := by decide +kernel
theorem dX10_init_107 : decode cX10_init 107 = .ok (.iload_n 1, 1) := by decide +kernel
theorem dX10_init_108 : decode cX10_init 108 = .ok (.iconst 2, 1) := by decide +kernel
theorem dX10_init_109 : decode cX10_init 109 = .ok (.if_icmp .ge 22, 3) := by decide +kernel
theorem dX10_init_112 : decode cX10_init 112 = .ok (.aload_n 0, 1) := by decide +kernel
theorem dX10_init_113 : decode cX10_init 113 = .ok (.getfield 64, 3) := by decide +kernel
theorem dX10_init_116 : decode cX10_init 116 = .ok (.iload_n 1, 1) := by decide +kernel
theorem dX10_init_117 : decode cX10_init 117 = .ok (.new 62, 3) := by decide +kernel
theorem dX10_init_120 : decode cX10_init 120 = .ok (.dup, 1) := by decide +kernel
theorem dX10_init_121 : decode cX10_init 121 = .ok (.invokespecial 68, 3) := by decide +kernel
theorem dX10_init_124 : decode cX10_init 124 = .ok (.aastore, 1) := by decide +kernel
theorem dX10_init_125 : decode cX10_init 125 = .ok (.iinc 1 1, 3) := by decide +kernel
theorem dX10_init_128 : decode cX10_init 128 = .ok (.goto (-21), 3) := by decide +kernel
theorem dX10_init_131 : decode cX10_init 131 = .ok (.aload_n 0, 1) := by decide +kernel
theorem dX10_init_132 : decode cX10_init 132 = .ok (.iconst 2, 1) := by decide +kernel
theorem dX10_init_133 : decode cX10_init 133 = .ok (.newarray .boolean, 2) := by decide +kernel
theorem dX10_init_135 : decode cX10_init 135 = .ok (.putfield 69, 3) := by decide +kernel
theorem dX10_init_138 : decode cX10_init 138 = .ok (.aload_n 0, 1) := by decide +kernel
theorem dX10_init_139 : decode cX10_init 139 = .ok (.new 73, 3) := by decide +kernel
theorem dX10_init_142 : decode cX10_init 142 = .ok (.dup, 1) := by decide +kernel
theorem dX10_init_143 : decode cX10_init 143 = .ok (.invokespecial 75, 3) := by decide +kernel
theorem dX10_init_146 : decode cX10_init 146 = .ok (.putfield 76, 3) := by decide +kernel
theorem dX10_init_149 : decode cX10_init 149 = .ok (.aload_n 0, 1) := by decide +kernel
theorem dX10_init_150 : decode cX10_init 150 = .ok (.new 80, 3) := by decide +kernel
theorem dX10_init_153 : decode cX10_init 153 = .ok (.dup, 1) := by decide +kernel
theorem dX10_init_154 : decode cX10_init 154 = .ok (.invokespecial 82, 3) := by decide +kernel
theorem dX10_init_157 : decode cX10_init 157 = .ok (.putfield 83, 3) := by decide +kernel
theorem dX10_init_160 : decode cX10_init 160 = .ok (.aload_n 0, 1) := by decide +kernel
theorem dX10_init_161 : decode cX10_init 161 = .ok (.iconst (-1), 1) := by decide +kernel
theorem dX10_init_162 : decode cX10_init 162 = .ok (.putfield 87, 3) := by decide +kernel
theorem dX10_init_165 : decode cX10_init 165 = .ok (.return_, 1) := by decide +kernel
theorem dX10_feed_0 : decode cX10_feed 0 = .ok (.iload_n 1, 1) := by decide +kernel
theorem dX10_feed_1 : decode cX10_feed 1 = .ok (.iconst 1, 1) := by decide +kernel
theorem dX10_feed_2 : decode cX10_feed 2 = .ok (.if_icmp .lt 9, 3) := by decide +kernel
theorem dX10_feed_5 : decode cX10_feed 5 = .ok (.iload_n 1, 1) := by decide +kernel
theorem dX10_feed_6 : decode cX10_feed 6 = .ok (.bipush 8, 2) := by decide +kernel
theorem dX10_feed_8 : decode cX10_feed 8 = .ok (.if_icmp .le 6, 3) := by decide +kernel
theorem dX10_feed_11 : decode cX10_feed 11 = .ok (.ldc 91, 2) := by decide +kernel
theorem dX10_feed_13 : decode cX10_feed 13 = .ok (.ireturn, 1) := by decide +kernel
theorem dX10_feed_14 : decode cX10_feed 14 = .ok (.aload_n 0, 1) := by decide +kernel
theorem dX10_feed_15 : decode cX10_feed 15 = .ok (.getfield 10, 3) := by decide +kernel
theorem dX10_feed_18 : decode cX10_feed 18 = .ok (.getfield 92, 3) := by decide +kernel
theorem dX10_feed_21 : decode cX10_feed 21 = .ok (.iload_n 1, 1) := by decide +kernel
theorem dX10_feed_22 : decode cX10_feed 22 = .ok (.iadd, 1) := by decide +kernel
theorem dX10_feed_23 : decode cX10_feed 23 = .ok (.sipush 500, 3) := by decide +kernel
theorem dX10_feed_26 : decode cX10_feed 26 = .ok (.if_icmp .le 6, 3) := by decide +kernel
theorem dX10_feed_29 : decode cX10_feed 29 = .ok (.ldc 95, 2) := by decide +kernel
theorem dX10_feed_31 : decode cX10_feed 31 = .ok (.ireturn, 1) := by decide +kernel
theorem dX10_feed_32 : decode cX10_feed 32 = .ok (.iload_n 1, 1) := by decide +kernel
theorem dX10_feed_33 : decode cX10_feed 33 = .ok (.iconst 1, 1) := by decide +kernel
theorem dX10_feed_34 : decode cX10_feed 34 = .ok (.isub, 1) := by decide +kernel
theorem dX10_feed_35 : decode cX10_feed 35 = .ok (.istore 4, 2) := by decide +kernel
theorem dX10_feed_37 : decode cX10_feed 37 = .ok (.iload 4, 2) := by decide +kernel
theorem dX10_feed_39 : decode cX10_feed 39 = .ok (.ifCond .lt 25, 3) := by decide +kernel
theorem dX10_feed_42 : decode cX10_feed 42 = .ok (.aload_n 0, 1) := by decide +kernel
theorem dX10_feed_43 : decode cX10_feed 43 = .ok (.getfield 10, 3) := by decide +kernel
theorem dX10_feed_46 : decode cX10_feed 46 = .ok (.lload_n 2, 1) := by decide +kernel
theorem dX10_feed_47 : decode cX10_feed 47 = .ok (.bipush 8, 2) := by decide +kernel
theorem dX10_feed_49 : decode cX10_feed 49 = .ok (.iload 4, 2) := by decide +kernel
theorem dX10_feed_51 : decode cX10_feed 51 = .ok (.imul, 1) := by decide +kernel
theorem dX10_feed_52 : decode cX10_feed 52 = .ok (.lshr, 1) := by decide +kernel
theorem dX10_feed_53 : decode cX10_feed 53 = .ok (.l2i, 1) := by decide +kernel
theorem dX10_feed_54 : decode cX10_feed 54 = .ok (.i2b, 1) := by decide +kernel
theorem dX10_feed_55 : decode cX10_feed 55 = .ok (.invokevirtual 96, 3) := by decide +kernel
theorem dX10_feed_58 : decode cX10_feed 58 = .ok (.iinc 4 (-1), 3) := by decide +kernel
theorem dX10_feed_61 : decode cX10_feed 61 = .ok (.goto (-24), 3) := by decide +kernel
theorem dX10_feed_64 : decode cX10_feed 64 = .ok (.aload_n 0, 1) := by decide +kernel
theorem dX10_feed_65 : decode cX10_feed 65 = .ok (.getfield 10, 3) := by decide +kernel
theorem dX10_feed_68 : decode cX10_feed 68 = .ok (.getfield 92, 3) := by decide +kernel
theorem dX10_feed_71 : decode cX10_feed 71 = .ok (.ireturn, 1) := by decide +kernel
theorem dX10_court_0 : decode cX10_court 0 = .ok (.aload_n 0, 1) := by decide +kernel
theorem dX10_court_1 : decode cX10_court 1 = .ok (.getfield 21, 3) := by decide +kernel
theorem dX10_court_4 : decode cX10_court 4 = .ok (.invokevirtual 100, 3) := by decide +kernel
theorem dX10_court_7 : decode cX10_court 7 = .ok (.aload_n 0, 1) := by decide +kernel
theorem dX10_court_8 : decode cX10_court 8 = .ok (.getfield 76, 3) := by decide +kernel
theorem dX10_court_11 : decode cX10_court 11 = .ok (.aload_n 0, 1) := by decide +kernel
theorem dX10_court_12 : decode cX10_court 12 = .ok (.getfield 21, 3) := by decide +kernel
theorem dX10_court_15 : decode cX10_court 15 = .ok (.invokevirtual 103, 3) := by decide +kernel
theorem dX10_court_18 : decode cX10_court 18 = .ok (.aload_n 0, 1) := by decide +kernel
theorem dX10_court_19 : decode cX10_court 19 = .ok (.getfield 10, 3) := by decide +kernel
theorem dX10_court_22 : decode cX10_court 22 = .ok (.iconst 0, 1) := by decide +kernel
theorem dX10_court_23 : decode cX10_court 23 = .ok (.putfield 92, 3) := by decide +kernel
theorem dX10_court_26 : decode cX10_court 26 = .ok (.aload_n 0, 1) := by decide +kernel
theorem dX10_court_27 : decode cX10_court 27 = .ok (.aload_n 0, 1) := by decide +kernel
theorem dX10_court_28 : decode cX10_court 28 = .ok (.getfield 21, 3) := by decide +kernel
theorem dX10_court_31 : decode cX10_court 31 = .ok (.getfield 107, 3) := by decide +kernel
theorem dX10_court_34 : decode cX10_court 34 = .ok (.putfield 87, 3) := by decide +kernel
theorem dX10_court_37 : decode cX10_court 37 = .ok (.aload_n 0, 1) := by decide +kernel
theorem dX10_court_38 : decode cX10_court 38 = .ok (.getfield 21, 3) := by decide +kernel
theorem dX10_court_41 : decode cX10_court 41 = .ok (.getfield 108, 3) := by decide +kernel
theorem dX10_court_44 : decode cX10_court 44 = .ok (.ifCond .eq 14, 3) := by decide +kernel
theorem dX10_court_47 : decode cX10_court 47 = .ok (.bipush (-10), 2) := by decide +kernel
theorem dX10_court_49 : decode cX10_court 49 = .ok (.aload_n 0, 1) := by decide +kernel
theorem dX10_court_50 : decode cX10_court 50 = .ok (.getfield 21, 3) := by decide +kernel
theorem dX10_court_53 : decode cX10_court 53 = .ok (.getfield 108, 3) := by decide +kernel
theorem dX10_court_56 : decode cX10_court 56 = .ok (.isub, 1) := by decide +kernel
theorem dX10_court_57 : decode cX10_court 57 = .ok (.ireturn, 1) := by decide +kernel
theorem dX10_court_58 : decode cX10_court 58 = .ok (.aload_n 0, 1) := by decide +kernel
theorem dX10_court_59 : decode cX10_court 59 = .ok (.getfield 28, 3) := by decide +kernel
theorem dX10_court_62 : decode cX10_court 62 = .ok (.getfield 111, 3) := by decide +kernel
theorem dX10_court_65 : decode cX10_court 65 = .ok (.astore_n 1, 1) := by decide +kernel
theorem dX10_court_66 : decode cX10_court 66 = .ok (.aload_n 0, 1) := by decide +kernel
theorem dX10_court_67 : decode cX10_court 67 = .ok (.getfield 28, 3) := by decide +kernel
theorem dX10_court_70 : decode cX10_court 70 = .ok (.aload_n 0, 1) := by decide +kernel
theorem dX10_court_71 : decode cX10_court 71 = .ok (.getfield 76, 3) := by decide +kernel
theorem dX10_court_74 : decode cX10_court 74 = .ok (.putfield 111, 3) := by decide +kernel
theorem dX10_court_77 : decode cX10_court 77 = .ok (.aload_n 0, 1) := by decide +kernel
theorem dX10_court_78 : decode cX10_court 78 = .ok (.aload_n 1, 1) := by decide +kernel
theorem dX10_court_79 : decode cX10_court 79 = .ok (.putfield 76, 3) := by decide +kernel
theorem dX10_court_82 : decode cX10_court 82 = .ok (.aload_n 0, 1) := by decide +kernel
theorem dX10_court_83 : decode cX10_court 83 = .ok (.getfield 28, 3) := by decide +kernel
theorem dX10_court_86 : decode cX10_court 86 = .ok (.getfield 114, 3) := by decide +kernel
theorem dX10_court_89 : decode cX10_court 89 = .ok (.invokevirtual 118, 3) := by decide +kernel
theorem dX10_court_92 : decode cX10_court 92 = .ok (.aload_n 0, 1) := by decide +kernel
theorem dX10_court_93 : decode cX10_court 93 = .ok (.getfield 58, 3) := by decide +kernel
theorem dX10_court_96 : decode cX10_court 96 = .ok (.invokevirtual 121, 3) := by decide +kernel
theorem dX10_court_99 : decode cX10_court 99 = .ok (.iconst 0, 1) := by decide +kernel
theorem dX10_court_100 : decode cX10_court 100 = .ok (.istore_n 2, 1) := by decide +kernel
theorem dX10_court_101 : decode cX10_court 101 = .ok (.iload_n 2, 1) := by decide +kernel
theorem dX10_court_102 : decode cX10_court 102 = .ok (.iconst 2, 1) := by decide +kernel
theorem dX10_court_103 : decode cX10_court 103 = .ok (.if_icmp .ge 16, 3) := by decide +kernel
theorem dX10_court_106 : decode cX10_court 106 = .ok (.aload_n 0, 1) := by decide +kernel
theorem dX10_court_107 : decode cX10_court 107 = .ok (.getfield 69, 3) := by decide +kernel
theorem dX10_court_110 : decode cX10_court 110 = .ok (.iload_n 2, 1) := by decide +kernel
theorem dX10_court_111 : decode cX10_court 111 = .ok (.iconst 0, 1) := by decide +kernel
theorem dX10_court_112 : decode cX10_court 112 = .ok (.bastore, 1) := by decide +kernel
theorem dX10_court_113 : decode cX10_court 113 = .ok (.iinc 2 1, 3) := by decide +kernel
theorem dX10_court_116 : decode cX10_court 116 = .ok (.goto (-15), 3) := by decide +kernel
theorem dX10_court_119 : decode cX10_court 119 = .ok (.aload_n 0, 1) := by decide +kernel
theorem dX10_court_120 : decode cX10_court 120 = .ok (.getfield 28, 3) := by decide +kernel
theorem dX10_court_123 : decode cX10_court 123 = .ok (.getfield 111, 3) := by decide +kernel
theorem dX10_court_126 : decode cX10_court 126 = .ok (.getfield 124, 3) := by decide +kernel
theorem dX10_court_129 : decode cX10_court 129 = .ok (.ireturn, 1) := by decide +kernel
theorem dX10_laws_0 : decode cX10_laws 0 = .ok (.aload_n 0, 1) := by decide +kernel
theorem dX10_laws_1 : decode cX10_laws 1 = .ok (.getfield 10, 3) := by decide +kernel
theorem dX10_laws_4 : decode cX10_laws 4 = .ok (.getfield 92, 3) := by decide +kernel
theorem dX10_laws_7 : decode cX10_laws 7 = .ok (.sipush 200, 3) := by decide +kernel
theorem dX10_laws_10 : decode cX10_laws 10 = .ok (.if_icmp .le 6, 3) := by decide +kernel
theorem dX10_laws_13 : decode cX10_laws 13 = .ok (.ldc 127, 2) := by decide +kernel
theorem dX10_laws_15 : decode cX10_laws 15 = .ok (.ireturn, 1) := by decide +kernel
theorem dX10_laws_16 : decode cX10_laws 16 = .ok (.aload_n 0, 1) := by decide +kernel
theorem dX10_laws_17 : decode cX10_laws 17 = .ok (.getfield 21, 3) := by decide +kernel
theorem dX10_laws_20 : decode cX10_laws 20 = .ok (.invokevirtual 100, 3) := by decide +kernel
theorem dX10_laws_23 : decode cX10_laws 23 = .ok (.aload_n 0, 1) := by decide +kernel
theorem dX10_laws_24 : decode cX10_laws 24 = .ok (.getfield 83, 3) := by decide +kernel
theorem dX10_laws_27 : decode cX10_laws 27 = .ok (.aload_n 0, 1) := by decide +kernel
theorem dX10_laws_28 : decode cX10_laws 28 = .ok (.getfield 21, 3) := by decide +kernel
theorem dX10_laws_31 : decode cX10_laws 31 = .ok (.invokevirtual 128, 3) := by decide +kernel
theorem dX10_laws_34 : decode cX10_laws 34 = .ok (.aload_n 0, 1) := by decide +kernel
theorem dX10_laws_35 : decode cX10_laws 35 = .ok (.getfield 10, 3) := by decide +kernel
theorem dX10_laws_38 : decode cX10_laws 38 = .ok (.iconst 0, 1) := by decide +kernel
theorem dX10_laws_39 : decode cX10_laws 39 = .ok (.putfield 92, 3) := by decide +kernel
theorem dX10_laws_42 : decode cX10_laws 42 = .ok (.aload_n 0, 1) := by decide +kernel
theorem dX10_laws_43 : decode cX10_laws 43 = .ok (.aload_n 0, 1) := by decide +kernel
theorem dX10_laws_44 : decode cX10_laws 44 = .ok (.getfield 21, 3) := by decide +kernel
theorem dX10_laws_47 : decode cX10_laws 47 = .ok (.getfield 107, 3) := by decide +kernel
theorem dX10_laws_50 : decode cX10_laws 50 = .ok (.putfield 87, 3) := by decide +kernel
theorem dX10_laws_53 : decode cX10_laws 53 = .ok (.aload_n 0, 1) := by decide +kernel
theorem dX10_laws_54 : decode cX10_laws 54 = .ok (.getfield 21, 3) := by decide +kernel
theorem dX10_laws_57 : decode cX10_laws 57 = .ok (.getfield 108, 3) := by decide +kernel
theorem dX10_laws_60 : decode cX10_laws 60 = .ok (.ifCond .eq 14, 3) := by decide +kernel
theorem dX10_laws_63 : decode cX10_laws 63 = .ok (.bipush (-10), 2) := by decide +kernel
theorem dX10_laws_65 : decode cX10_laws 65 = .ok (.aload_n 0, 1) := by decide +kernel
theorem dX10_laws_66 : decode cX10_laws 66 = .ok (.getfield 21, 3) := by decide +kernel
theorem dX10_laws_69 : decode cX10_laws 69 = .ok (.getfield 108, 3) := by decide +kernel
theorem dX10_laws_72 : decode cX10_laws 72 = .ok (.isub, 1) := by decide +kernel
theorem dX10_laws_73 : decode cX10_laws 73 = .ok (.ireturn, 1) := by decide +kernel
theorem dX10_laws_74 : decode cX10_laws 74 = .ok (.aload_n 0, 1) := by decide +kernel
theorem dX10_laws_75 : decode cX10_laws 75 = .ok (.getfield 28, 3) := by decide +kernel
theorem dX10_laws_78 : decode cX10_laws 78 = .ok (.getfield 129, 3) := by decide +kernel
theorem dX10_laws_81 : decode cX10_laws 81 = .ok (.astore_n 1, 1) := by decide +kernel
theorem dX10_laws_82 : decode cX10_laws 82 = .ok (.aload_n 0, 1) := by decide +kernel
theorem dX10_laws_83 : decode cX10_laws 83 = .ok (.getfield 28, 3) := by decide +kernel
theorem dX10_laws_86 : decode cX10_laws 86 = .ok (.aload_n 0, 1) := by decide +kernel
theorem dX10_laws_87 : decode cX10_laws 87 = .ok (.getfield 83, 3) := by decide +kernel
theorem dX10_laws_90 : decode cX10_laws 90 = .ok (.putfield 129, 3) := by decide +kernel
theorem dX10_laws_93 : decode cX10_laws 93 = .ok (.aload_n 0, 1) := by decide +kernel
theorem dX10_laws_94 : decode cX10_laws 94 = .ok (.aload_n 1, 1) := by decide +kernel
theorem dX10_laws_95 : decode cX10_laws 95 = .ok (.putfield 83, 3) := by decide +kernel
theorem dX10_laws_98 : decode cX10_laws 98 = .ok (.aload_n 0, 1) := by decide +kernel
theorem dX10_laws_99 : decode cX10_laws 99 = .ok (.getfield 28, 3) := by decide +kernel
theorem dX10_laws_102 : decode cX10_laws 102 = .ok (.getfield 129, 3) := by decide +kernel
theorem dX10_laws_105 : decode cX10_laws 105 = .ok (.getfield 132, 3) := by decide +kernel
theorem dX10_laws_108 : decode cX10_laws 108 = .ok (.ireturn, 1) := by decide +kernel
theorem dX10_fault_0 : decode cX10_fault 0 = .ok (.aload_n 0, 1) := by decide +kernel
theorem dX10_fault_1 : decode cX10_fault 1 = .ok (.getfield 87, 3) := by decide +kernel
theorem dX10_fault_4 : decode cX10_fault 4 = .ok (.ireturn, 1) := by decide +kernel
theorem dX10_told_0 : decode cX10_told 0 = .ok (.aload_n 0, 1) := by decide +kernel
theorem dX10_told_1 : decode cX10_told 1 = .ok (.getfield 28, 3) := by decide +kernel
theorem dX10_told_4 : decode cX10_told 4 = .ok (.getfield 114, 3) := by decide +kernel
theorem dX10_told_7 : decode cX10_told 7 = .ok (.getfield 135, 3) := by decide +kernel
theorem dX10_told_10 : decode cX10_told 10 = .ok (.istore_n 2, 1) := by decide +kernel
theorem dX10_told_11 : decode cX10_told 11 = .ok (.iload_n 1, 1) := by decide +kernel
theorem dX10_told_12 : decode cX10_told 12 = .ok (.tableswitch 142 0 8 #[52, 63, 74, 85, 87, 95, 106, 118, 130], 52) := by decide +kernel
theorem dX10_told_64 : decode cX10_told 64 = .ok (.aload_n 0, 1) := by decide +kernel
theorem dX10_told_65 : decode cX10_told 65 = .ok (.getfield 28, 3) := by decide +kernel
theorem dX10_told_68 : decode cX10_told 68 = .ok (.getfield 111, 3) := by decide +kernel
theorem dX10_told_71 : decode cX10_told 71 = .ok (.getfield 124, 3) := by decide +kernel
theorem dX10_told_74 : decode cX10_told 74 = .ok (.ireturn, 1) := by decide +kernel
theorem dX10_told_75 : decode cX10_told 75 = .ok (.aload_n 0, 1) := by decide +kernel
theorem dX10_told_76 : decode cX10_told 76 = .ok (.getfield 28, 3) := by decide +kernel
theorem dX10_told_79 : decode cX10_told 79 = .ok (.getfield 111, 3) := by decide +kernel
theorem dX10_told_82 : decode cX10_told 82 = .ok (.getfield 138, 3) := by decide +kernel
theorem dX10_told_85 : decode cX10_told 85 = .ok (.ireturn, 1) := by decide +kernel
theorem dX10_told_86 : decode cX10_told 86 = .ok (.aload_n 0, 1) := by decide +kernel
theorem dX10_told_87 : decode cX10_told 87 = .ok (.getfield 28, 3) := by decide +kernel
theorem dX10_told_90 : decode cX10_told 90 = .ok (.getfield 129, 3) := by decide +kernel
theorem dX10_told_93 : decode cX10_told 93 = .ok (.getfield 132, 3) := by decide +kernel
theorem dX10_told_96 : decode cX10_told 96 = .ok (.ireturn, 1) := by decide +kernel
theorem dX10_told_97 : decode cX10_told 97 = .ok (.iload_n 2, 1) := by decide +kernel
theorem dX10_told_98 : decode cX10_told 98 = .ok (.ireturn, 1) := by decide +kernel
theorem dX10_told_99 : decode cX10_told 99 = .ok (.aload_n 0, 1) := by decide +kernel
theorem dX10_told_100 : decode cX10_told 100 = .ok (.getfield 10, 3) := by decide +kernel
theorem dX10_told_103 : decode cX10_told 103 = .ok (.getfield 92, 3) := by decide +kernel
theorem dX10_told_106 : decode cX10_told 106 = .ok (.ireturn, 1) := by decide +kernel
theorem dX10_told_107 : decode cX10_told 107 = .ok (.aload_n 0, 1) := by decide +kernel
theorem dX10_told_108 : decode cX10_told 108 = .ok (.getfield 28, 3) := by decide +kernel
theorem dX10_told_111 : decode cX10_told 111 = .ok (.getfield 114, 3) := by decide +kernel
theorem dX10_told_114 : decode cX10_told 114 = .ok (.getfield 141, 3) := by decide +kernel
theorem dX10_told_117 : decode cX10_told 117 = .ok (.ireturn, 1) := by decide +kernel
theorem dX10_told_118 : decode cX10_told 118 = .ok (.aload_n 0, 1) := by decide +kernel
theorem dX10_told_119 : decode cX10_told 119 = .ok (.getfield 28, 3) := by decide +kernel
theorem dX10_told_122 : decode cX10_told 122 = .ok (.getfield 129, 3) := by decide +kernel
theorem dX10_told_125 : decode cX10_told 125 = .ok (.iload_n 2, 1) := by decide +kernel
theorem dX10_told_126 : decode cX10_told 126 = .ok (.invokevirtual 144, 3) := by decide +kernel
theorem dX10_told_129 : decode cX10_told 129 = .ok (.ireturn, 1) := by decide +kernel
theorem dX10_told_130 : decode cX10_told 130 = .ok (.aload_n 0, 1) := by decide +kernel
theorem dX10_told_131 : decode cX10_told 131 = .ok (.getfield 28, 3) := by decide +kernel
theorem dX10_told_134 : decode cX10_told 134 = .ok (.getfield 129, 3) := by decide +kernel
theorem dX10_told_137 : decode cX10_told 137 = .ok (.iload_n 2, 1) := by decide +kernel
theorem dX10_told_138 : decode cX10_told 138 = .ok (.invokevirtual 148, 3) := by decide +kernel
theorem dX10_told_141 : decode cX10_told 141 = .ok (.ireturn, 1) := by decide +kernel
theorem dX10_told_142 : decode cX10_told 142 = .ok (.aload_n 0, 1) := by decide +kernel
theorem dX10_told_143 : decode cX10_told 143 = .ok (.getfield 28, 3) := by decide +kernel
theorem dX10_told_146 : decode cX10_told 146 = .ok (.getfield 129, 3) := by decide +kernel
theorem dX10_told_149 : decode cX10_told 149 = .ok (.iload_n 2, 1) := by decide +kernel
theorem dX10_told_150 : decode cX10_told 150 = .ok (.invokevirtual 151, 3) := by decide +kernel
theorem dX10_told_153 : decode cX10_told 153 = .ok (.ireturn, 1) := by decide +kernel
theorem dX10_told_154 : decode cX10_told 154 = .ok (.ldc 91, 2) := by decide +kernel
theorem dX10_told_156 : decode cX10_told 156 = .ok (.ireturn, 1) := by decide +kernel
theorem dX10_suit_0 : decode cX10_suit 0 = .ok (.aload_n 0, 1) := by decide +kernel
theorem dX10_suit_1 : decode cX10_suit 1 = .ok (.getfield 28, 3) := by decide +kernel
theorem dX10_suit_4 : decode cX10_suit 4 = .ok (.getfield 111, 3) := by decide +kernel
theorem dX10_suit_7 : decode cX10_suit 7 = .ok (.iload_n 1, 1) := by decide +kernel
theorem dX10_suit_8 : decode cX10_suit 8 = .ok (.invokevirtual 154, 3) := by decide +kernel
theorem dX10_suit_11 : decode cX10_suit 11 = .ok (.ifCond .ne 6, 3) := by decide +kernel
theorem dX10_suit_14 : decode cX10_suit 14 = .ok (.ldc 158, 2) := by decide +kernel
theorem dX10_suit_16 : decode cX10_suit 16 = .ok (.ireturn, 1) := by decide +kernel
theorem dX10_suit_17 : decode cX10_suit 17 = .ok (.iload_n 2, 1) := by decide +kernel
theorem dX10_suit_18 : decode cX10_suit 18 = .ok (.tableswitch 115 0 5 #[38, 51, 64, 77, 90, 103], 38) := by decide +kernel
theorem dX10_suit_56 : decode cX10_suit 56 = .ok (.aload_n 0, 1) := by decide +kernel
theorem dX10_suit_57 : decode cX10_suit 57 = .ok (.getfield 28, 3) := by decide +kernel
theorem dX10_suit_60 : decode cX10_suit 60 = .ok (.getfield 111, 3) := by decide +kernel
theorem dX10_suit_63 : decode cX10_suit 63 = .ok (.getfield 159, 3) := by decide +kernel
theorem dX10_suit_66 : decode cX10_suit 66 = .ok (.iload_n 1, 1) := by decide +kernel
theorem dX10_suit_67 : decode cX10_suit 67 = .ok (.iaload, 1) := by decide +kernel
theorem dX10_suit_68 : decode cX10_suit 68 = .ok (.ireturn, 1) := by decide +kernel
theorem dX10_suit_69 : decode cX10_suit 69 = .ok (.aload_n 0, 1) := by decide +kernel
theorem dX10_suit_70 : decode cX10_suit 70 = .ok (.getfield 28, 3) := by decide +kernel
theorem dX10_suit_73 : decode cX10_suit 73 = .ok (.getfield 111, 3) := by decide +kernel
theorem dX10_suit_76 : decode cX10_suit 76 = .ok (.getfield 163, 3) := by decide +kernel
theorem dX10_suit_79 : decode cX10_suit 79 = .ok (.iload_n 1, 1) := by decide +kernel
theorem dX10_suit_80 : decode cX10_suit 80 = .ok (.iaload, 1) := by decide +kernel
theorem dX10_suit_81 : decode cX10_suit 81 = .ok (.ireturn, 1) := by decide +kernel
theorem dX10_suit_82 : decode cX10_suit 82 = .ok (.aload_n 0, 1) := by decide +kernel
theorem dX10_suit_83 : decode cX10_suit 83 = .ok (.getfield 28, 3) := by decide +kernel
theorem dX10_suit_86 : decode cX10_suit 86 = .ok (.getfield 111, 3) := by decide +kernel
theorem dX10_suit_89 : decode cX10_suit 89 = .ok (.getfield 166, 3) := by decide +kernel
theorem dX10_suit_92 : decode cX10_suit 92 = .ok (.iload_n 1, 1) := by decide +kernel
theorem dX10_suit_93 : decode cX10_suit 93 = .ok (.iaload, 1) := by decide +kernel
theorem dX10_suit_94 : decode cX10_suit 94 = .ok (.ireturn, 1) := by decide +kernel
theorem dX10_suit_95 : decode cX10_suit 95 = .ok (.aload_n 0, 1) := by decide +kernel
theorem dX10_suit_96 : decode cX10_suit 96 = .ok (.getfield 28, 3) := by decide +kernel
theorem dX10_suit_99 : decode cX10_suit 99 = .ok (.getfield 114, 3) := by decide +kernel
theorem dX10_suit_102 : decode cX10_suit 102 = .ok (.getfield 169, 3) := by decide +kernel
theorem dX10_suit_105 : decode cX10_suit 105 = .ok (.iload_n 1, 1) := by decide +kernel
theorem dX10_suit_106 : decode cX10_suit 106 = .ok (.iaload, 1) := by decide +kernel
theorem dX10_suit_107 : decode cX10_suit 107 = .ok (.ireturn, 1) := by decide +kernel
theorem dX10_suit_108 : decode cX10_suit 108 = .ok (.aload_n 0, 1) := by decide +kernel
theorem dX10_suit_109 : decode cX10_suit 109 = .ok (.getfield 28, 3) := by decide +kernel
theorem dX10_suit_112 : decode cX10_suit 112 = .ok (.getfield 114, 3) := by decide +kernel
theorem dX10_suit_115 : decode cX10_suit 115 = .ok (.getfield 172, 3) := by decide +kernel
theorem dX10_suit_118 : decode cX10_suit 118 = .ok (.iload_n 1, 1) := by decide +kernel
theorem dX10_suit_119 : decode cX10_suit 119 = .ok (.iaload, 1) := by decide +kernel
theorem dX10_suit_120 : decode cX10_suit 120 = .ok (.ireturn, 1) := by decide +kernel
theorem dX10_suit_121 : decode cX10_suit 121 = .ok (.aload_n 0, 1) := by decide +kernel
theorem dX10_suit_122 : decode cX10_suit 122 = .ok (.getfield 28, 3) := by decide +kernel
theorem dX10_suit_125 : decode cX10_suit 125 = .ok (.getfield 111, 3) := by decide +kernel
theorem dX10_suit_128 : decode cX10_suit 128 = .ok (.iload_n 1, 1) := by decide +kernel
theorem dX10_suit_129 : decode cX10_suit 129 = .ok (.invokevirtual 175, 3) := by decide +kernel
theorem dX10_suit_132 : decode cX10_suit 132 = .ok (.ireturn, 1) := by decide +kernel
theorem dX10_suit_133 : decode cX10_suit 133 = .ok (.ldc 91, 2) := by decide +kernel
theorem dX10_suit_135 : decode cX10_suit 135 = .ok (.ireturn, 1) := by decide +kernel
theorem dX10_witness_0 : decode cX10_witness 0 = .ok (.aload_n 0, 1) := by decide +kernel
theorem dX10_witness_1 : decode cX10_witness 1 = .ok (.getfield 28, 3) := by decide +kernel
theorem dX10_witness_4 : decode cX10_witness 4 = .ok (.getfield 111, 3) := by decide +kernel
theorem dX10_witness_7 : decode cX10_witness 7 = .ok (.iload_n 1, 1) := by decide +kernel
theorem dX10_witness_8 : decode cX10_witness 8 = .ok (.invokevirtual 178, 3) := by decide +kernel
theorem dX10_witness_11 : decode cX10_witness 11 = .ok (.ifCond .ne 6, 3) := by decide +kernel
theorem dX10_witness_14 : decode cX10_witness 14 = .ok (.ldc 158, 2) := by decide +kernel
theorem dX10_witness_16 : decode cX10_witness 16 = .ok (.ireturn, 1) := by decide +kernel
theorem dX10_witness_17 : decode cX10_witness 17 = .ok (.iload_n 2, 1) := by decide +kernel
theorem dX10_witness_18 : decode cX10_witness 18 = .ok (.tableswitch 155 0 7 #[46, 59, 72, 85, 104, 117, 130, 143], 46) := by decide +kernel
theorem dX10_witness_64 : decode cX10_witness 64 = .ok (.aload_n 0, 1) := by decide +kernel
theorem dX10_witness_65 : decode cX10_witness 65 = .ok (.getfield 28, 3) := by decide +kernel
theorem dX10_witness_68 : decode cX10_witness 68 = .ok (.getfield 111, 3) := by decide +kernel
theorem dX10_witness_71 : decode cX10_witness 71 = .ok (.getfield 181, 3) := by decide +kernel
theorem dX10_witness_74 : decode cX10_witness 74 = .ok (.iload_n 1, 1) := by decide +kernel
theorem dX10_witness_75 : decode cX10_witness 75 = .ok (.iaload, 1) := by decide +kernel
theorem dX10_witness_76 : decode cX10_witness 76 = .ok (.ireturn, 1) := by decide +kernel
theorem dX10_witness_77 : decode cX10_witness 77 = .ok (.aload_n 0, 1) := by decide +kernel
theorem dX10_witness_78 : decode cX10_witness 78 = .ok (.getfield 28, 3) := by decide +kernel
theorem dX10_witness_81 : decode cX10_witness 81 = .ok (.getfield 111, 3) := by decide +kernel
theorem dX10_witness_84 : decode cX10_witness 84 = .ok (.getfield 184, 3) := by decide +kernel
theorem dX10_witness_87 : decode cX10_witness 87 = .ok (.iload_n 1, 1) := by decide +kernel
theorem dX10_witness_88 : decode cX10_witness 88 = .ok (.iaload, 1) := by decide +kernel
theorem dX10_witness_89 : decode cX10_witness 89 = .ok (.ireturn, 1) := by decide +kernel
theorem dX10_witness_90 : decode cX10_witness 90 = .ok (.aload_n 0, 1) := by decide +kernel
theorem dX10_witness_91 : decode cX10_witness 91 = .ok (.getfield 28, 3) := by decide +kernel
theorem dX10_witness_94 : decode cX10_witness 94 = .ok (.getfield 111, 3) := by decide +kernel
theorem dX10_witness_97 : decode cX10_witness 97 = .ok (.getfield 187, 3) := by decide +kernel
theorem dX10_witness_100 : decode cX10_witness 100 = .ok (.iload_n 1, 1) := by decide +kernel
theorem dX10_witness_101 : decode cX10_witness 101 = .ok (.iaload, 1) := by decide +kernel
theorem dX10_witness_102 : decode cX10_witness 102 = .ok (.ireturn, 1) := by decide +kernel
theorem dX10_witness_103 : decode cX10_witness 103 = .ok (.aload_n 0, 1) := by decide +kernel
theorem dX10_witness_104 : decode cX10_witness 104 = .ok (.getfield 28, 3) := by decide +kernel
theorem dX10_witness_107 : decode cX10_witness 107 = .ok (.iload_n 1, 1) := by decide +kernel
theorem dX10_witness_108 : decode cX10_witness 108 = .ok (.aload_n 0, 1) := by decide +kernel
theorem dX10_witness_109 : decode cX10_witness 109 = .ok (.getfield 28, 3) := by decide +kernel
theorem dX10_witness_112 : decode cX10_witness 112 = .ok (.getfield 114, 3) := by decide +kernel
theorem dX10_witness_115 : decode cX10_witness 115 = .ok (.getfield 135, 3) := by decide +kernel
theorem dX10_witness_118 : decode cX10_witness 118 = .ok (.invokevirtual 190, 3) := by decide +kernel
theorem dX10_witness_121 : decode cX10_witness 121 = .ok (.ireturn, 1) := by decide +kernel
theorem dX10_witness_122 : decode cX10_witness 122 = .ok (.aload_n 0, 1) := by decide +kernel
theorem dX10_witness_123 : decode cX10_witness 123 = .ok (.getfield 28, 3) := by decide +kernel
theorem dX10_witness_126 : decode cX10_witness 126 = .ok (.getfield 114, 3) := by decide +kernel
theorem dX10_witness_129 : decode cX10_witness 129 = .ok (.getfield 194, 3) := by decide +kernel
theorem dX10_witness_132 : decode cX10_witness 132 = .ok (.iload_n 1, 1) := by decide +kernel
theorem dX10_witness_133 : decode cX10_witness 133 = .ok (.iaload, 1) := by decide +kernel
theorem dX10_witness_134 : decode cX10_witness 134 = .ok (.ireturn, 1) := by decide +kernel
theorem dX10_witness_135 : decode cX10_witness 135 = .ok (.aload_n 0, 1) := by decide +kernel
theorem dX10_witness_136 : decode cX10_witness 136 = .ok (.getfield 28, 3) := by decide +kernel
theorem dX10_witness_139 : decode cX10_witness 139 = .ok (.getfield 114, 3) := by decide +kernel
theorem dX10_witness_142 : decode cX10_witness 142 = .ok (.getfield 197, 3) := by decide +kernel
theorem dX10_witness_145 : decode cX10_witness 145 = .ok (.iload_n 1, 1) := by decide +kernel
theorem dX10_witness_146 : decode cX10_witness 146 = .ok (.iaload, 1) := by decide +kernel
theorem dX10_witness_147 : decode cX10_witness 147 = .ok (.ireturn, 1) := by decide +kernel
theorem dX10_witness_148 : decode cX10_witness 148 = .ok (.aload_n 0, 1) := by decide +kernel
theorem dX10_witness_149 : decode cX10_witness 149 = .ok (.getfield 28, 3) := by decide +kernel
theorem dX10_witness_152 : decode cX10_witness 152 = .ok (.getfield 114, 3) := by decide +kernel
theorem dX10_witness_155 : decode cX10_witness 155 = .ok (.getfield 200, 3) := by decide +kernel
theorem dX10_witness_158 : decode cX10_witness 158 = .ok (.iload_n 1, 1) := by decide +kernel
theorem dX10_witness_159 : decode cX10_witness 159 = .ok (.iaload, 1) := by decide +kernel
theorem dX10_witness_160 : decode cX10_witness 160 = .ok (.ireturn, 1) := by decide +kernel
theorem dX10_witness_161 : decode cX10_witness 161 = .ok (.aload_n 0, 1) := by decide +kernel
theorem dX10_witness_162 : decode cX10_witness 162 = .ok (.getfield 28, 3) := by decide +kernel
theorem dX10_witness_165 : decode cX10_witness 165 = .ok (.iload_n 1, 1) := by decide +kernel
theorem dX10_witness_166 : decode cX10_witness 166 = .ok (.invokevirtual 203, 3) := by decide +kernel
theorem dX10_witness_169 : decode cX10_witness 169 = .ok (.invokestatic 206, 3) := by decide +kernel
theorem dX10_witness_172 : decode cX10_witness 172 = .ok (.ireturn, 1) := by decide +kernel
theorem dX10_witness_173 : decode cX10_witness 173 = .ok (.ldc 91, 2) := by decide +kernel
theorem dX10_witness_175 : decode cX10_witness 175 = .ok (.ireturn, 1) := by decide +kernel
theorem dX10_weight_0 : decode cX10_weight 0 = .ok (.aload_n 0, 1) := by decide +kernel
theorem dX10_weight_1 : decode cX10_weight 1 = .ok (.getfield 28, 3) := by decide +kernel
theorem dX10_weight_4 : decode cX10_weight 4 = .ok (.getfield 111, 3) := by decide +kernel
theorem dX10_weight_7 : decode cX10_weight 7 = .ok (.iload_n 1, 1) := by decide +kernel
theorem dX10_weight_8 : decode cX10_weight 8 = .ok (.invokevirtual 154, 3) := by decide +kernel
theorem dX10_weight_11 : decode cX10_weight 11 = .ok (.ifCond .ne 6, 3) := by decide +kernel
theorem dX10_weight_14 : decode cX10_weight 14 = .ok (.ldc 158, 2) := by decide +kernel
theorem dX10_weight_16 : decode cX10_weight 16 = .ok (.ireturn, 1) := by decide +kernel
theorem dX10_weight_17 : decode cX10_weight 17 = .ok (.iload_n 2, 1) := by decide +kernel
theorem dX10_weight_18 : decode cX10_weight 18 = .ok (.iconst (-1), 1) := by decide +kernel
theorem dX10_weight_19 : decode cX10_weight 19 = .ok (.if_icmp .lt 10, 3) := by decide +kernel
theorem dX10_weight_22 : decode cX10_weight 22 = .ok (.iload_n 2, 1) := by decide +kernel
theorem dX10_weight_23 : decode cX10_weight 23 = .ok (.sipush 400, 3) := by decide +kernel
theorem dX10_weight_26 : decode cX10_weight 26 = .ok (.if_icmp .lt 6, 3) := by decide +kernel
theorem dX10_weight_29 : decode cX10_weight 29 = .ok (.ldc 91, 2) := by decide +kernel
theorem dX10_weight_31 : decode cX10_weight 31 = .ok (.ireturn, 1) := by decide +kernel
theorem dX10_weight_32 : decode cX10_weight 32 = .ok (.iload_n 2, 1) := by decide +kernel
theorem dX10_weight_33 : decode cX10_weight 33 = .ok (.iconst (-1), 1) := by decide +kernel
theorem dX10_weight_34 : decode cX10_weight 34 = .ok (.if_icmp .ne 18, 3) := by decide +kernel
theorem dX10_weight_37 : decode cX10_weight 37 = .ok (.aload_n 0, 1) := by decide +kernel
theorem dX10_weight_38 : decode cX10_weight 38 = .ok (.getfield 28, 3) := by decide +kernel
theorem dX10_weight_41 : decode cX10_weight 41 = .ok (.getfield 114, 3) := by decide +kernel
theorem dX10_weight_44 : decode cX10_weight 44 = .ok (.getfield 210, 3) := by decide +kernel
theorem dX10_weight_47 : decode cX10_weight 47 = .ok (.iload_n 1, 1) := by decide +kernel
theorem dX10_weight_48 : decode cX10_weight 48 = .ok (.iaload, 1) := by decide +kernel
theorem dX10_weight_49 : decode cX10_weight 49 = .ok (.goto 15, 3) := by decide +kernel
theorem dX10_weight_52 : decode cX10_weight 52 = .ok (.aload_n 0, 1) := by decide +kernel
theorem dX10_weight_53 : decode cX10_weight 53 = .ok (.getfield 28, 3) := by decide +kernel
theorem dX10_weight_56 : decode cX10_weight 56 = .ok (.getfield 114, 3) := by decide +kernel
theorem dX10_weight_59 : decode cX10_weight 59 = .ok (.iload_n 1, 1) := by decide +kernel
theorem dX10_weight_60 : decode cX10_weight 60 = .ok (.iload_n 2, 1) := by decide +kernel
theorem dX10_weight_61 : decode cX10_weight 61 = .ok (.invokevirtual 213, 3) := by decide +kernel
theorem dX10_weight_64 : decode cX10_weight 64 = .ok (.ireturn, 1) := by decide +kernel
theorem dX10_say_0 : decode cX10_say 0 = .ok (.aload_n 0, 1) := by decide +kernel
theorem dX10_say_1 : decode cX10_say 1 = .ok (.getfield 28, 3) := by decide +kernel
theorem dX10_say_4 : decode cX10_say 4 = .ok (.getfield 111, 3) := by decide +kernel
theorem dX10_say_7 : decode cX10_say 7 = .ok (.iload_n 1, 1) := by decide +kernel
theorem dX10_say_8 : decode cX10_say 8 = .ok (.invokevirtual 178, 3) := by decide +kernel
theorem dX10_say_11 : decode cX10_say 11 = .ok (.ifCond .ne 6, 3) := by decide +kernel
theorem dX10_say_14 : decode cX10_say 14 = .ok (.ldc 158, 2) := by decide +kernel
theorem dX10_say_16 : decode cX10_say 16 = .ok (.ireturn, 1) := by decide +kernel
theorem dX10_say_17 : decode cX10_say 17 = .ok (.aload_n 0, 1) := by decide +kernel
theorem dX10_say_18 : decode cX10_say 18 = .ok (.getfield 28, 3) := by decide +kernel
theorem dX10_say_21 : decode cX10_say 21 = .ok (.iload_n 1, 1) := by decide +kernel
theorem dX10_say_22 : decode cX10_say 22 = .ok (.invokevirtual 203, 3) := by decide +kernel
theorem dX10_say_25 : decode cX10_say 25 = .ok (.ifCond .ne 6, 3) := by decide +kernel
theorem dX10_say_28 : decode cX10_say 28 = .ok (.ldc 127, 2) := by decide +kernel
theorem dX10_say_30 : decode cX10_say 30 = .ok (.ireturn, 1) := by decide +kernel
theorem dX10_say_31 : decode cX10_say 31 = .ok (.aload_n 0, 1) := by decide +kernel
theorem dX10_say_32 : decode cX10_say 32 = .ok (.getfield 28, 3) := by decide +kernel
theorem dX10_say_35 : decode cX10_say 35 = .ok (.iload_n 1, 1) := by decide +kernel
theorem dX10_say_36 : decode cX10_say 36 = .ok (.invokevirtual 216, 3) := by decide +kernel
theorem dX10_say_39 : decode cX10_say 39 = .ok (.ireturn, 1) := by decide +kernel
theorem dX10_strike_0 : decode cX10_strike 0 = .ok (.aload_n 0, 1) := by decide +kernel
theorem dX10_strike_1 : decode cX10_strike 1 = .ok (.getfield 28, 3) := by decide +kernel
theorem dX10_strike_4 : decode cX10_strike 4 = .ok (.getfield 111, 3) := by decide +kernel
theorem dX10_strike_7 : decode cX10_strike 7 = .ok (.iload_n 1, 1) := by decide +kernel
theorem dX10_strike_8 : decode cX10_strike 8 = .ok (.invokevirtual 178, 3) := by decide +kernel
theorem dX10_strike_11 : decode cX10_strike 11 = .ok (.ifCond .ne 6, 3) := by decide +kernel
theorem dX10_strike_14 : decode cX10_strike 14 = .ok (.ldc 158, 2) := by decide +kernel
theorem dX10_strike_16 : decode cX10_strike 16 = .ok (.ireturn, 1) := by decide +kernel
theorem dX10_strike_17 : decode cX10_strike 17 = .ok (.aload_n 0, 1) := by decide +kernel
theorem dX10_strike_18 : decode cX10_strike 18 = .ok (.getfield 28, 3) := by decide +kernel
theorem dX10_strike_21 : decode cX10_strike 21 = .ok (.getfield 114, 3) := by decide +kernel
theorem dX10_strike_24 : decode cX10_strike 24 = .ok (.getfield 200, 3) := by decide +kernel
theorem dX10_strike_27 : decode cX10_strike 27 = .ok (.iload_n 1, 1) := by decide +kernel
theorem dX10_strike_28 : decode cX10_strike 28 = .ok (.iaload, 1) := by decide +kernel
theorem dX10_strike_29 : decode cX10_strike 29 = .ok (.istore_n 3, 1) := by decide +kernel
theorem dX10_strike_30 : decode cX10_strike 30 = .ok (.aload_n 0, 1) := by decide +kernel
theorem dX10_strike_31 : decode cX10_strike 31 = .ok (.getfield 28, 3) := by decide +kernel
theorem dX10_strike_34 : decode cX10_strike 34 = .ok (.getfield 114, 3) := by decide +kernel
theorem dX10_strike_37 : decode cX10_strike 37 = .ok (.getfield 200, 3) := by decide +kernel
theorem dX10_strike_40 : decode cX10_strike 40 = .ok (.iload_n 1, 1) := by decide +kernel
theorem dX10_strike_41 : decode cX10_strike 41 = .ok (.iload_n 2, 1) := by decide +kernel
theorem dX10_strike_42 : decode cX10_strike 42 = .ok (.invokestatic 206, 3) := by decide +kernel
theorem dX10_strike_45 : decode cX10_strike 45 = .ok (.iastore, 1) := by decide +kernel
theorem dX10_strike_46 : decode cX10_strike 46 = .ok (.iload_n 3, 1) := by decide +kernel
theorem dX10_strike_47 : decode cX10_strike 47 = .ok (.ireturn, 1) := by decide +kernel
theorem dX10_dusk_0 : decode cX10_dusk 0 = .ok (.iload_n 1, 1) := by decide +kernel
theorem dX10_dusk_1 : decode cX10_dusk 1 = .ok (.iconst 1, 1) := by decide +kernel
theorem dX10_dusk_2 : decode cX10_dusk 2 = .ok (.if_icmp .lt 10, 3) := by decide +kernel
theorem dX10_dusk_5 : decode cX10_dusk 5 = .ok (.iload_n 1, 1) := by decide +kernel
theorem dX10_dusk_6 : decode cX10_dusk 6 = .ok (.sipush 400, 3) := by decide +kernel
theorem dX10_dusk_9 : decode cX10_dusk 9 = .ok (.if_icmp .le 6, 3) := by decide +kernel
theorem dX10_dusk_12 : decode cX10_dusk 12 = .ok (.ldc 91, 2) := by decide +kernel
theorem dX10_dusk_14 : decode cX10_dusk 14 = .ok (.ireturn, 1) := by decide +kernel
theorem dX10_dusk_15 : decode cX10_dusk 15 = .ok (.iconst 0, 1) := by decide +kernel
theorem dX10_dusk_16 : decode cX10_dusk 16 = .ok (.istore_n 2, 1) := by decide +kernel
theorem dX10_dusk_17 : decode cX10_dusk 17 = .ok (.iload_n 2, 1) := by decide +kernel
theorem dX10_dusk_18 : decode cX10_dusk 18 = .ok (.iload_n 1, 1) := by decide +kernel
theorem dX10_dusk_19 : decode cX10_dusk 19 = .ok (.if_icmp .ge 32, 3) := by decide +kernel
theorem dX10_dusk_22 : decode cX10_dusk 22 = .ok (.aload_n 0, 1) := by decide +kernel
theorem dX10_dusk_23 : decode cX10_dusk 23 = .ok (.getfield 28, 3) := by decide +kernel
theorem dX10_dusk_26 : decode cX10_dusk 26 = .ok (.getfield 114, 3) := by decide +kernel
theorem dX10_dusk_29 : decode cX10_dusk 29 = .ok (.getfield 135, 3) := by decide +kernel
theorem dX10_dusk_32 : decode cX10_dusk 32 = .ok (.sipush 399, 3) := by decide +kernel
theorem dX10_dusk_35 : decode cX10_dusk 35 = .ok (.if_icmp .ge 16, 3) := by decide +kernel
theorem dX10_dusk_38 : decode cX10_dusk 38 = .ok (.aload_n 0, 1) := by decide +kernel
theorem dX10_dusk_39 : decode cX10_dusk 39 = .ok (.getfield 28, 3) := by decide +kernel
theorem dX10_dusk_42 : decode cX10_dusk 42 = .ok (.invokevirtual 219, 3) := by decide +kernel
theorem dX10_dusk_45 : decode cX10_dusk 45 = .ok (.iinc 2 1, 3) := by decide +kernel
theorem dX10_dusk_48 : decode cX10_dusk 48 = .ok (.goto (-31), 3) := by decide +kernel
theorem dX10_dusk_51 : decode cX10_dusk 51 = .ok (.aload_n 0, 1) := by decide +kernel
theorem dX10_dusk_52 : decode cX10_dusk 52 = .ok (.getfield 28, 3) := by decide +kernel
theorem dX10_dusk_55 : decode cX10_dusk 55 = .ok (.getfield 114, 3) := by decide +kernel
theorem dX10_dusk_58 : decode cX10_dusk 58 = .ok (.getfield 135, 3) := by decide +kernel
theorem dX10_dusk_61 : decode cX10_dusk 61 = .ok (.ireturn, 1) := by decide +kernel
theorem dX10_drift_0 : decode cX10_drift 0 = .ok (.iload_n 1, 1) := by decide +kernel
theorem dX10_drift_1 : decode cX10_drift 1 = .ok (.iconst 1, 1) := by decide +kernel
theorem dX10_drift_2 : decode cX10_drift 2 = .ok (.if_icmp .lt 19, 3) := by decide +kernel
theorem dX10_drift_5 : decode cX10_drift 5 = .ok (.iload_n 1, 1) := by decide +kernel
theorem dX10_drift_6 : decode cX10_drift 6 = .ok (.bipush 60, 2) := by decide +kernel
theorem dX10_drift_8 : decode cX10_drift 8 = .ok (.if_icmp .gt 13, 3) := by decide +kernel
theorem dX10_drift_11 : decode cX10_drift 11 = .ok (.iload_n 2, 1) := by decide +kernel
theorem dX10_drift_12 : decode cX10_drift 12 = .ok (.ifCond .lt 9, 3) := by decide +kernel
theorem dX10_drift_15 : decode cX10_drift 15 = .ok (.iload_n 2, 1) := by decide +kernel
theorem dX10_drift_16 : decode cX10_drift 16 = .ok (.bipush 100, 2) := by decide +kernel
theorem dX10_drift_18 : decode cX10_drift 18 = .ok (.if_icmp .le 6, 3) := by decide +kernel
theorem dX10_drift_21 : decode cX10_drift 21 = .ok (.ldc 91, 2) := by decide +kernel
theorem dX10_drift_23 : decode cX10_drift 23 = .ok (.ireturn, 1) := by decide +kernel
theorem dX10_drift_24 : decode cX10_drift 24 = .ok (.iconst 0, 1) := by decide +kernel
theorem dX10_drift_25 : decode cX10_drift 25 = .ok (.istore_n 3, 1) := by decide +kernel
theorem dX10_drift_26 : decode cX10_drift 26 = .ok (.iconst 0, 1) := by decide +kernel
theorem dX10_drift_27 : decode cX10_drift 27 = .ok (.istore 4, 2) := by decide +kernel
theorem dX10_drift_29 : decode cX10_drift 29 = .ok (.iload 4, 2) := by decide +kernel
theorem dX10_drift_31 : decode cX10_drift 31 = .ok (.iload_n 1, 1) := by decide +kernel
theorem dX10_drift_32 : decode cX10_drift 32 = .ok (.if_icmp .ge 36, 3) := by decide +kernel
theorem dX10_drift_35 : decode cX10_drift 35 = .ok (.aload_n 0, 1) := by decide +kernel
theorem dX10_drift_36 : decode cX10_drift 36 = .ok (.getfield 28, 3) := by decide +kernel
theorem dX10_drift_39 : decode cX10_drift 39 = .ok (.getfield 114, 3) := by decide +kernel
theorem dX10_drift_42 : decode cX10_drift 42 = .ok (.getfield 135, 3) := by decide +kernel
theorem dX10_drift_45 : decode cX10_drift 45 = .ok (.sipush 399, 3) := by decide +kernel
theorem dX10_drift_48 : decode cX10_drift 48 = .ok (.if_icmp .ge 20, 3) := by decide +kernel
theorem dX10_drift_51 : decode cX10_drift 51 = .ok (.iload_n 3, 1) := by decide +kernel
theorem dX10_drift_52 : decode cX10_drift 52 = .ok (.aload_n 0, 1) := by decide +kernel
theorem dX10_drift_53 : decode cX10_drift 53 = .ok (.getfield 28, 3) := by decide +kernel
theorem dX10_drift_56 : decode cX10_drift 56 = .ok (.iload_n 2, 1) := by decide +kernel
theorem dX10_drift_57 : decode cX10_drift 57 = .ok (.invokevirtual 222, 3) := by decide +kernel
theorem dX10_drift_60 : decode cX10_drift 60 = .ok (.iadd, 1) := by decide +kernel
theorem dX10_drift_61 : decode cX10_drift 61 = .ok (.istore_n 3, 1) := by decide +kernel
theorem dX10_drift_62 : decode cX10_drift 62 = .ok (.iinc 4 1, 3) := by decide +kernel
theorem dX10_drift_65 : decode cX10_drift 65 = .ok (.goto (-36), 3) := by decide +kernel
theorem dX10_drift_68 : decode cX10_drift 68 = .ok (.iload_n 3, 1) := by decide +kernel
theorem dX10_drift_69 : decode cX10_drift 69 = .ok (.ireturn, 1) := by decide +kernel
theorem dX10_begin_0 : decode cX10_begin 0 = .ok (.aload_n 0, 1) := by decide +kernel
theorem dX10_begin_1 : decode cX10_begin 1 = .ok (.getfield 28, 3) := by decide +kernel
theorem dX10_begin_4 : decode cX10_begin 4 = .ok (.getfield 114, 3) := by decide +kernel
theorem dX10_begin_7 : decode cX10_begin 7 = .ok (.getfield 135, 3) := by decide +kernel
theorem dX10_begin_10 : decode cX10_begin 10 = .ok (.istore_n 1, 1) := by decide +kernel
theorem dX10_begin_11 : decode cX10_begin 11 = .ok (.aload_n 0, 1) := by decide +kernel
theorem dX10_begin_12 : decode cX10_begin 12 = .ok (.getfield 28, 3) := by decide +kernel
theorem dX10_begin_15 : decode cX10_begin 15 = .ok (.getfield 114, 3) := by decide +kernel
theorem dX10_begin_18 : decode cX10_begin 18 = .ok (.invokevirtual 118, 3) := by decide +kernel
theorem dX10_begin_21 : decode cX10_begin 21 = .ok (.iload_n 1, 1) := by decide +kernel
theorem dX10_begin_22 : decode cX10_begin 22 = .ok (.ireturn, 1) := by decide +kernel
theorem dX10_most_0 : decode cX10_most 0 = .ok (.aload_n 0, 1) := by decide +kernel
theorem dX10_most_1 : decode cX10_most 1 = .ok (.getfield 28, 3) := by decide +kernel
theorem dX10_most_4 : decode cX10_most 4 = .ok (.getfield 111, 3) := by decide +kernel
theorem dX10_most_7 : decode cX10_most 7 = .ok (.iload_n 1, 1) := by decide +kernel
theorem dX10_most_8 : decode cX10_most 8 = .ok (.invokevirtual 154, 3) := by decide +kernel
theorem dX10_most_11 : decode cX10_most 11 = .ok (.ifCond .ne 6, 3) := by decide +kernel
theorem dX10_most_14 : decode cX10_most 14 = .ok (.ldc 158, 2) := by decide +kernel
theorem dX10_most_16 : decode cX10_most 16 = .ok (.ireturn, 1) := by decide +kernel
theorem dX10_most_17 : decode cX10_most 17 = .ok (.iload_n 2, 1) := by decide +kernel
theorem dX10_most_18 : decode cX10_most 18 = .ok (.ifCond .lt 9, 3) := by decide +kernel
theorem dX10_most_21 : decode cX10_most 21 = .ok (.iload_n 2, 1) := by decide +kernel
theorem dX10_most_22 : decode cX10_most 22 = .ok (.bipush 31, 2) := by decide +kernel
theorem dX10_most_24 : decode cX10_most 24 = .ok (.if_icmp .lt 6, 3) := by decide +kernel
theorem dX10_most_27 : decode cX10_most 27 = .ok (.ldc 91, 2) := by decide +kernel
theorem dX10_most_29 : decode cX10_most 29 = .ok (.ireturn, 1) := by decide +kernel
theorem dX10_most_30 : decode cX10_most 30 = .ok (.aload_n 0, 1) := by decide +kernel
theorem dX10_most_31 : decode cX10_most 31 = .ok (.getfield 28, 3) := by decide +kernel
theorem dX10_most_34 : decode cX10_most 34 = .ok (.iload_n 1, 1) := by decide +kernel
theorem dX10_most_35 : decode cX10_most 35 = .ok (.invokevirtual 225, 3) := by decide +kernel
theorem dX10_most_38 : decode cX10_most 38 = .ok (.ifCond .eq 21, 3) := by decide +kernel
theorem dX10_most_41 : decode cX10_most 41 = .ok (.aload_n 0, 1) := by decide +kernel
theorem dX10_most_42 : decode cX10_most 42 = .ok (.getfield 28, 3) := by decide +kernel
theorem dX10_most_45 : decode cX10_most 45 = .ok (.getfield 114, 3) := by decide +kernel
theorem dX10_most_48 : decode cX10_most 48 = .ok (.getfield 135, 3) := by decide +kernel
theorem dX10_most_51 : decode cX10_most 51 = .ok (.iload_n 2, 1) := by decide +kernel
theorem dX10_most_52 : decode cX10_most 52 = .ok (.iadd, 1) := by decide +kernel
theorem dX10_most_53 : decode cX10_most 53 = .ok (.sipush 399, 3) := by decide +kernel
theorem dX10_most_56 : decode cX10_most 56 = .ok (.if_icmp .le 6, 3) := by decide +kernel
theorem dX10_most_59 : decode cX10_most 59 = .ok (.ldc 127, 2) := by decide +kernel
theorem dX10_most_61 : decode cX10_most 61 = .ok (.ireturn, 1) := by decide +kernel
theorem dX10_most_62 : decode cX10_most 62 = .ok (.aload_n 0, 1) := by decide +kernel
theorem dX10_most_63 : decode cX10_most 63 = .ok (.getfield 37, 3) := by decide +kernel
theorem dX10_most_66 : decode cX10_most 66 = .ok (.iload_n 1, 1) := by decide +kernel
theorem dX10_most_67 : decode cX10_most 67 = .ok (.iload_n 2, 1) := by decide +kernel
theorem dX10_most_68 : decode cX10_most 68 = .ok (.invokevirtual 228, 3) := by decide +kernel
theorem dX10_most_71 : decode cX10_most 71 = .ok (.ireturn, 1) := by decide +kernel
theorem dX10_soonest_0 : decode cX10_soonest 0 = .ok (.aload_n 0, 1) := by decide +kernel
theorem dX10_soonest_1 : decode cX10_soonest 1 = .ok (.getfield 28, 3) := by decide +kernel
theorem dX10_soonest_4 : decode cX10_soonest 4 = .ok (.getfield 111, 3) := by decide +kernel
theorem dX10_soonest_7 : decode cX10_soonest 7 = .ok (.iload_n 1, 1) := by decide +kernel
theorem dX10_soonest_8 : decode cX10_soonest 8 = .ok (.invokevirtual 154, 3) := by decide +kernel
theorem dX10_soonest_11 : decode cX10_soonest 11 = .ok (.ifCond .ne 6, 3) := by decide +kernel
theorem dX10_soonest_14 : decode cX10_soonest 14 = .ok (.ldc 158, 2) := by decide +kernel
theorem dX10_soonest_16 : decode cX10_soonest 16 = .ok (.ireturn, 1) := by decide +kernel
theorem dX10_soonest_17 : decode cX10_soonest 17 = .ok (.aload_n 0, 1) := by decide +kernel
theorem dX10_soonest_18 : decode cX10_soonest 18 = .ok (.getfield 37, 3) := by decide +kernel
theorem dX10_soonest_21 : decode cX10_soonest 21 = .ok (.iload_n 1, 1) := by decide +kernel
theorem dX10_soonest_22 : decode cX10_soonest 22 = .ok (.invokevirtual 231, 3) := by decide +kernel
theorem dX10_soonest_25 : decode cX10_soonest 25 = .ok (.ireturn, 1) := by decide +kernel
theorem dX10_plan_0 : decode cX10_plan 0 = .ok (.aload_n 0, 1) := by decide +kernel
theorem dX10_plan_1 : decode cX10_plan 1 = .ok (.getfield 28, 3) := by decide +kernel
theorem dX10_plan_4 : decode cX10_plan 4 = .ok (.getfield 111, 3) := by decide +kernel
theorem dX10_plan_7 : decode cX10_plan 7 = .ok (.iload_n 1, 1) := by decide +kernel
theorem dX10_plan_8 : decode cX10_plan 8 = .ok (.invokevirtual 178, 3) := by decide +kernel
theorem dX10_plan_11 : decode cX10_plan 11 = .ok (.ifCond .ne 6, 3) := by decide +kernel
theorem dX10_plan_14 : decode cX10_plan 14 = .ok (.ldc 158, 2) := by decide +kernel
theorem dX10_plan_16 : decode cX10_plan 16 = .ok (.ireturn, 1) := by decide +kernel
theorem dX10_plan_17 : decode cX10_plan 17 = .ok (.aload_n 0, 1) := by decide +kernel
theorem dX10_plan_18 : decode cX10_plan 18 = .ok (.getfield 37, 3) := by decide +kernel
theorem dX10_plan_21 : decode cX10_plan 21 = .ok (.aload_n 0, 1) := by decide +kernel
theorem dX10_plan_22 : decode cX10_plan 22 = .ok (.getfield 28, 3) := by decide +kernel
theorem dX10_plan_25 : decode cX10_plan 25 = .ok (.getfield 111, 3) := by decide +kernel
theorem dX10_plan_28 : decode cX10_plan 28 = .ok (.getfield 181, 3) := by decide +kernel
theorem dX10_plan_31 : decode cX10_plan 31 = .ok (.iload_n 1, 1) := by decide +kernel
theorem dX10_plan_32 : decode cX10_plan 32 = .ok (.iaload, 1) := by decide +kernel
theorem dX10_plan_33 : decode cX10_plan 33 = .ok (.invokevirtual 231, 3) := by decide +kernel
theorem dX10_plan_36 : decode cX10_plan 36 = .ok (.istore_n 2, 1) := by decide +kernel
theorem dX10_plan_37 : decode cX10_plan 37 = .ok (.iload_n 2, 1) := by decide +kernel
theorem dX10_plan_38 : decode cX10_plan 38 = .ok (.iconst (-1), 1) := by decide +kernel
theorem dX10_plan_39 : decode cX10_plan 39 = .ok (.if_icmp .ne 7, 3) := by decide +kernel
theorem dX10_plan_42 : decode cX10_plan 42 = .ok (.iconst (-1), 1) := by decide +kernel
theorem dX10_plan_43 : decode cX10_plan 43 = .ok (.goto 12, 3) := by decide +kernel
theorem dX10_plan_46 : decode cX10_plan 46 = .ok (.aload_n 0, 1) := by decide +kernel
theorem dX10_plan_47 : decode cX10_plan 47 = .ok (.getfield 37, 3) := by decide +kernel
theorem dX10_plan_50 : decode cX10_plan 50 = .ok (.iload_n 1, 1) := by decide +kernel
theorem dX10_plan_51 : decode cX10_plan 51 = .ok (.iload_n 2, 1) := by decide +kernel
theorem dX10_plan_52 : decode cX10_plan 52 = .ok (.invokevirtual 234, 3) := by decide +kernel
theorem dX10_plan_55 : decode cX10_plan 55 = .ok (.ireturn, 1) := by decide +kernel
theorem dX10_cut_0 : decode cX10_cut 0 = .ok (.aload_n 0, 1) := by decide +kernel
theorem dX10_cut_1 : decode cX10_cut 1 = .ok (.getfield 28, 3) := by decide +kernel
theorem dX10_cut_4 : decode cX10_cut 4 = .ok (.getfield 111, 3) := by decide +kernel
theorem dX10_cut_7 : decode cX10_cut 7 = .ok (.iload_n 1, 1) := by decide +kernel
theorem dX10_cut_8 : decode cX10_cut 8 = .ok (.invokevirtual 154, 3) := by decide +kernel
theorem dX10_cut_11 : decode cX10_cut 11 = .ok (.ifCond .ne 6, 3) := by decide +kernel
theorem dX10_cut_14 : decode cX10_cut 14 = .ok (.ldc 158, 2) := by decide +kernel
theorem dX10_cut_16 : decode cX10_cut 16 = .ok (.ireturn, 1) := by decide +kernel
theorem dX10_cut_17 : decode cX10_cut 17 = .ok (.aload_n 0, 1) := by decide +kernel
theorem dX10_cut_18 : decode cX10_cut 18 = .ok (.getfield 28, 3) := by decide +kernel
theorem dX10_cut_21 : decode cX10_cut 21 = .ok (.iload_n 1, 1) := by decide +kernel
theorem dX10_cut_22 : decode cX10_cut 22 = .ok (.invokevirtual 225, 3) := by decide +kernel
theorem dX10_cut_25 : decode cX10_cut 25 = .ok (.ifCond .ne 6, 3) := by decide +kernel
theorem dX10_cut_28 : decode cX10_cut 28 = .ok (.ldc 127, 2) := by decide +kernel
theorem dX10_cut_30 : decode cX10_cut 30 = .ok (.ireturn, 1) := by decide +kernel
theorem dX10_cut_31 : decode cX10_cut 31 = .ok (.aload_n 0, 1) := by decide +kernel
theorem dX10_cut_32 : decode cX10_cut 32 = .ok (.getfield 37, 3) := by decide +kernel
theorem dX10_cut_35 : decode cX10_cut 35 = .ok (.iload_n 1, 1) := by decide +kernel
theorem dX10_cut_36 : decode cX10_cut 36 = .ok (.invokevirtual 237, 3) := by decide +kernel
theorem dX10_cut_39 : decode cX10_cut 39 = .ok (.ireturn, 1) := by decide +kernel
theorem dX10_turns_0 : decode cX10_turns 0 = .ok (.aload_n 0, 1) := by decide +kernel
theorem dX10_turns_1 : decode cX10_turns 1 = .ok (.getfield 28, 3) := by decide +kernel
theorem dX10_turns_4 : decode cX10_turns 4 = .ok (.getfield 111, 3) := by decide +kernel
theorem dX10_turns_7 : decode cX10_turns 7 = .ok (.iload_n 1, 1) := by decide +kernel
theorem dX10_turns_8 : decode cX10_turns 8 = .ok (.invokevirtual 154, 3) := by decide +kernel
theorem dX10_turns_11 : decode cX10_turns 11 = .ok (.ifCond .ne 6, 3) := by decide +kernel
theorem dX10_turns_14 : decode cX10_turns 14 = .ok (.ldc 158, 2) := by decide +kernel
theorem dX10_turns_16 : decode cX10_turns 16 = .ok (.ireturn, 1) := by decide +kernel
theorem dX10_turns_17 : decode cX10_turns 17 = .ok (.iload_n 2, 1) := by decide +kernel
theorem dX10_turns_18 : decode cX10_turns 18 = .ok (.ifCond .lt 8, 3) := by decide +kernel
theorem dX10_turns_21 : decode cX10_turns 21 = .ok (.iload_n 2, 1) := by decide +kernel
theorem dX10_turns_22 : decode cX10_turns 22 = .ok (.iconst 1, 1) := by decide +kernel
theorem dX10_turns_23 : decode cX10_turns 23 = .ok (.if_icmp .le 6, 3) := by decide +kernel
theorem dX10_turns_26 : decode cX10_turns 26 = .ok (.ldc 91, 2) := by decide +kernel
theorem dX10_turns_28 : decode cX10_turns 28 = .ok (.ireturn, 1) := by decide +kernel
theorem dX10_turns_29 : decode cX10_turns 29 = .ok (.aload_n 0, 1) := by decide +kernel
theorem dX10_turns_30 : decode cX10_turns 30 = .ok (.getfield 28, 3) := by decide +kernel
theorem dX10_turns_33 : decode cX10_turns 33 = .ok (.iload_n 1, 1) := by decide +kernel
theorem dX10_turns_34 : decode cX10_turns 34 = .ok (.invokevirtual 225, 3) := by decide +kernel
theorem dX10_turns_37 : decode cX10_turns 37 = .ok (.ifCond .ne 6, 3) := by decide +kernel
theorem dX10_turns_40 : decode cX10_turns 40 = .ok (.ldc 127, 2) := by decide +kernel
theorem dX10_turns_42 : decode cX10_turns 42 = .ok (.ireturn, 1) := by decide +kernel
theorem dX10_turns_43 : decode cX10_turns 43 = .ok (.aload_n 0, 1) := by decide +kernel
theorem dX10_turns_44 : decode cX10_turns 44 = .ok (.getfield 44, 3) := by decide +kernel
theorem dX10_turns_47 : decode cX10_turns 47 = .ok (.iload_n 1, 1) := by decide +kernel
theorem dX10_turns_48 : decode cX10_turns 48 = .ok (.invokevirtual 240, 3) := by decide +kernel
theorem dX10_turns_51 : decode cX10_turns 51 = .ok (.iload_n 2, 1) := by decide +kernel
theorem dX10_turns_52 : decode cX10_turns 52 = .ok (.ifCond .ne 16, 3) := by decide +kernel
theorem dX10_turns_55 : decode cX10_turns 55 = .ok (.aload_n 0, 1) := by decide +kernel
theorem dX10_turns_56 : decode cX10_turns 56 = .ok (.getfield 44, 3) := by decide +kernel
theorem dX10_turns_59 : decode cX10_turns 59 = .ok (.invokevirtual 244, 3) := by decide +kernel
theorem dX10_turns_62 : decode cX10_turns 62 = .ok (.invokestatic 206, 3) := by decide +kernel
theorem dX10_turns_65 : decode cX10_turns 65 = .ok (.goto 10, 3) := by decide +kernel
theorem dX10_turns_68 : decode cX10_turns 68 = .ok (.aload_n 0, 1) := by decide +kernel
theorem dX10_turns_69 : decode cX10_turns 69 = .ok (.getfield 44, 3) := by decide +kernel
theorem dX10_turns_72 : decode cX10_turns 72 = .ok (.invokevirtual 248, 3) := by decide +kernel
theorem dX10_turns_75 : decode cX10_turns 75 = .ok (.ireturn, 1) := by decide +kernel
theorem dX10_many_0 : decode cX10_many 0 = .ok (.iload_n 1, 1) := by decide +kernel
theorem dX10_many_1 : decode cX10_many 1 = .ok (.ifCond .lt 8, 3) := by decide +kernel
theorem dX10_many_4 : decode cX10_many 4 = .ok (.iload_n 1, 1) := by decide +kernel
theorem dX10_many_5 : decode cX10_many 5 = .ok (.iconst 1, 1) := by decide +kernel
theorem dX10_many_6 : decode cX10_many 6 = .ok (.if_icmp .le 6, 3) := by decide +kernel
theorem dX10_many_9 : decode cX10_many 9 = .ok (.ldc 91, 2) := by decide +kernel
theorem dX10_many_11 : decode cX10_many 11 = .ok (.ireturn, 1) := by decide +kernel
theorem dX10_many_12 : decode cX10_many 12 = .ok (.aload_n 0, 1) := by decide +kernel
theorem dX10_many_13 : decode cX10_many 13 = .ok (.getfield 51, 3) := by decide +kernel
theorem dX10_many_16 : decode cX10_many 16 = .ok (.invokevirtual 252, 3) := by decide +kernel
theorem dX10_many_19 : decode cX10_many 19 = .ok (.istore_n 2, 1) := by decide +kernel
theorem dX10_many_20 : decode cX10_many 20 = .ok (.iload_n 1, 1) := by decide +kernel
theorem dX10_many_21 : decode cX10_many 21 = .ok (.ifCond .ne 10, 3) := by decide +kernel
theorem dX10_many_24 : decode cX10_many 24 = .ok (.iload_n 2, 1) := by decide +kernel
theorem dX10_many_25 : decode cX10_many 25 = .ok (.invokestatic 255, 3) := by decide +kernel
theorem dX10_many_28 : decode cX10_many 28 = .ok (.goto 4, 3) := by decide +kernel
theorem dX10_many_31 : decode cX10_many 31 = .ok (.iload_n 2, 1) := by decide +kernel
theorem dX10_many_32 : decode cX10_many 32 = .ok (.ireturn, 1) := by decide +kernel
theorem dX10_write_0 : decode cX10_write 0 = .ok (.aload_n 0, 1) := by decide +kernel
theorem dX10_write_1 : decode cX10_write 1 = .ok (.getfield 28, 3) := by decide +kernel
theorem dX10_write_4 : decode cX10_write 4 = .ok (.getfield 111, 3) := by decide +kernel
theorem dX10_write_7 : decode cX10_write 7 = .ok (.iload_n 1, 1) := by decide +kernel
theorem dX10_write_8 : decode cX10_write 8 = .ok (.invokevirtual 154, 3) := by decide +kernel
theorem dX10_write_11 : decode cX10_write 11 = .ok (.ifCond .ne 6, 3) := by decide +kernel
theorem dX10_write_14 : decode cX10_write 14 = .ok (.ldc 158, 2) := by decide +kernel
theorem dX10_write_16 : decode cX10_write 16 = .ok (.ireturn, 1) := by decide +kernel
theorem dX10_write_17 : decode cX10_write 17 = .ok (.iload_n 2, 1) := by decide +kernel
theorem dX10_write_18 : decode cX10_write 18 = .ok (.ifCond .lt 10, 3) := by decide +kernel
theorem dX10_write_21 : decode cX10_write 21 = .ok (.iload_n 2, 1) := by decide +kernel
theorem dX10_write_22 : decode cX10_write 22 = .ok (.ldc_w 260, 3) := by decide +kernel
theorem dX10_write_25 : decode cX10_write 25 = .ok (.if_icmp .le 6, 3) := by decide +kernel
theorem dX10_write_28 : decode cX10_write 28 = .ok (.ldc 91, 2) := by decide +kernel
theorem dX10_write_30 : decode cX10_write 30 = .ok (.ireturn, 1) := by decide +kernel
theorem dX10_write_31 : decode cX10_write 31 = .ok (.aload_n 0, 1) := by decide +kernel
theorem dX10_write_32 : decode cX10_write 32 = .ok (.getfield 58, 3) := by decide +kernel
theorem dX10_write_35 : decode cX10_write 35 = .ok (.getfield 261, 3) := by decide +kernel
theorem dX10_write_38 : decode cX10_write 38 = .ok (.iload_n 1, 1) := by decide +kernel
theorem dX10_write_39 : decode cX10_write 39 = .ok (.iaload, 1) := by decide +kernel
theorem dX10_write_40 : decode cX10_write 40 = .ok (.bipush 60, 2) := by decide +kernel
theorem dX10_write_42 : decode cX10_write 42 = .ok (.if_icmp .lt 6, 3) := by decide +kernel
theorem dX10_write_45 : decode cX10_write 45 = .ok (.ldc 95, 2) := by decide +kernel
theorem dX10_write_47 : decode cX10_write 47 = .ok (.ireturn, 1) := by decide +kernel
theorem dX10_write_48 : decode cX10_write 48 = .ok (.aload_n 0, 1) := by decide +kernel
theorem dX10_write_49 : decode cX10_write 49 = .ok (.getfield 58, 3) := by decide +kernel
theorem dX10_write_52 : decode cX10_write 52 = .ok (.iload_n 1, 1) := by decide +kernel
theorem dX10_write_53 : decode cX10_write 53 = .ok (.iload_n 2, 1) := by decide +kernel
theorem dX10_write_54 : decode cX10_write 54 = .ok (.invokevirtual 264, 3) := by decide +kernel
theorem dX10_write_57 : decode cX10_write 57 = .ok (.ireturn, 1) := by decide +kernel
theorem dX10_tear_0 : decode cX10_tear 0 = .ok (.aload_n 0, 1) := by decide +kernel
theorem dX10_tear_1 : decode cX10_tear 1 = .ok (.getfield 28, 3) := by decide +kernel
theorem dX10_tear_4 : decode cX10_tear 4 = .ok (.getfield 111, 3) := by decide +kernel
theorem dX10_tear_7 : decode cX10_tear 7 = .ok (.iload_n 1, 1) := by decide +kernel
theorem dX10_tear_8 : decode cX10_tear 8 = .ok (.invokevirtual 154, 3) := by decide +kernel
theorem dX10_tear_11 : decode cX10_tear 11 = .ok (.ifCond .ne 6, 3) := by decide +kernel
theorem dX10_tear_14 : decode cX10_tear 14 = .ok (.ldc 158, 2) := by decide +kernel
theorem dX10_tear_16 : decode cX10_tear 16 = .ok (.ireturn, 1) := by decide +kernel
theorem dX10_tear_17 : decode cX10_tear 17 = .ok (.aload_n 0, 1) := by decide +kernel
theorem dX10_tear_18 : decode cX10_tear 18 = .ok (.getfield 58, 3) := by decide +kernel
theorem dX10_tear_21 : decode cX10_tear 21 = .ok (.getfield 261, 3) := by decide +kernel
theorem dX10_tear_24 : decode cX10_tear 24 = .ok (.iload_n 1, 1) := by decide +kernel
theorem dX10_tear_25 : decode cX10_tear 25 = .ok (.iaload, 1) := by decide +kernel
theorem dX10_tear_26 : decode cX10_tear 26 = .ok (.istore_n 2, 1) := by decide +kernel
theorem dX10_tear_27 : decode cX10_tear 27 = .ok (.aload_n 0, 1) := by decide +kernel
theorem dX10_tear_28 : decode cX10_tear 28 = .ok (.getfield 58, 3) := by decide +kernel
theorem dX10_tear_31 : decode cX10_tear 31 = .ok (.getfield 261, 3) := by decide +kernel
theorem dX10_tear_34 : decode cX10_tear 34 = .ok (.iload_n 1, 1) := by decide +kernel
theorem dX10_tear_35 : decode cX10_tear 35 = .ok (.iconst 0, 1) := by decide +kernel
theorem dX10_tear_36 : decode cX10_tear 36 = .ok (.iastore, 1) := by decide +kernel
theorem dX10_tear_37 : decode cX10_tear 37 = .ok (.iload_n 2, 1) := by decide +kernel
theorem dX10_tear_38 : decode cX10_tear 38 = .ok (.ireturn, 1) := by decide +kernel
theorem dX10_judge_0 : decode cX10_judge 0 = .ok (.aload_n 0, 1) := by decide +kernel
theorem dX10_judge_1 : decode cX10_judge 1 = .ok (.getfield 28, 3) := by decide +kernel
theorem dX10_judge_4 : decode cX10_judge 4 = .ok (.getfield 111, 3) := by decide +kernel
theorem dX10_judge_7 : decode cX10_judge 7 = .ok (.iload_n 1, 1) := by decide +kernel
theorem dX10_judge_8 : decode cX10_judge 8 = .ok (.invokevirtual 154, 3) := by decide +kernel
theorem dX10_judge_11 : decode cX10_judge 11 = .ok (.ifCond .ne 6, 3) := by decide +kernel
theorem dX10_judge_14 : decode cX10_judge 14 = .ok (.ldc 158, 2) := by decide +kernel
theorem dX10_judge_16 : decode cX10_judge 16 = .ok (.ireturn, 1) := by decide +kernel
theorem dX10_judge_17 : decode cX10_judge 17 = .ok (.aload_n 0, 1) := by decide +kernel
theorem dX10_judge_18 : decode cX10_judge 18 = .ok (.getfield 58, 3) := by decide +kernel
theorem dX10_judge_21 : decode cX10_judge 21 = .ok (.iload_n 1, 1) := by decide +kernel
theorem dX10_judge_22 : decode cX10_judge 22 = .ok (.aload_n 0, 1) := by decide +kernel
theorem dX10_judge_23 : decode cX10_judge 23 = .ok (.getfield 28, 3) := by decide +kernel
theorem dX10_judge_26 : decode cX10_judge 26 = .ok (.getfield 114, 3) := by decide +kernel
theorem dX10_judge_29 : decode cX10_judge 29 = .ok (.invokevirtual 266, 3) := by decide +kernel
theorem dX10_judge_32 : decode cX10_judge 32 = .ok (.ireturn, 1) := by decide +kernel
theorem dX10_evening_0 : decode cX10_evening 0 = .ok (.aload_n 0, 1) := by decide +kernel
theorem dX10_evening_1 : decode cX10_evening 1 = .ok (.getfield 28, 3) := by decide +kernel
theorem dX10_evening_4 : decode cX10_evening 4 = .ok (.getfield 111, 3) := by decide +kernel
theorem dX10_evening_7 : decode cX10_evening 7 = .ok (.iload_n 1, 1) := by decide +kernel
theorem dX10_evening_8 : decode cX10_evening 8 = .ok (.invokevirtual 154, 3) := by decide +kernel
theorem dX10_evening_11 : decode cX10_evening 11 = .ok (.ifCond .ne 6, 3) := by decide +kernel
theorem dX10_evening_14 : decode cX10_evening 14 = .ok (.ldc 158, 2) := by decide +kernel
theorem dX10_evening_16 : decode cX10_evening 16 = .ok (.ireturn, 1) := by decide +kernel
theorem dX10_evening_17 : decode cX10_evening 17 = .ok (.iload_n 2, 1) := by decide +kernel
theorem dX10_evening_18 : decode cX10_evening 18 = .ok (.ifCond .lt 10, 3) := by decide +kernel
theorem dX10_evening_21 : decode cX10_evening 21 = .ok (.iload_n 2, 1) := by decide +kernel
theorem dX10_evening_22 : decode cX10_evening 22 = .ok (.sipush 399, 3) := by decide +kernel
theorem dX10_evening_25 : decode cX10_evening 25 = .ok (.if_icmp .le 6, 3) := by decide +kernel
theorem dX10_evening_28 : decode cX10_evening 28 = .ok (.ldc 91, 2) := by decide +kernel
theorem dX10_evening_30 : decode cX10_evening 30 = .ok (.ireturn, 1) := by decide +kernel
theorem dX10_evening_31 : decode cX10_evening 31 = .ok (.iload_n 2, 1) := by decide +kernel
theorem dX10_evening_32 : decode cX10_evening 32 = .ok (.aload_n 0, 1) := by decide +kernel
theorem dX10_evening_33 : decode cX10_evening 33 = .ok (.getfield 28, 3) := by decide +kernel
theorem dX10_evening_36 : decode cX10_evening 36 = .ok (.getfield 114, 3) := by decide +kernel
theorem dX10_evening_39 : decode cX10_evening 39 = .ok (.getfield 135, 3) := by decide +kernel
theorem dX10_evening_42 : decode cX10_evening 42 = .ok (.if_icmp .ge 20, 3) := by decide +kernel
theorem dX10_evening_45 : decode cX10_evening 45 = .ok (.aload_n 0, 1) := by decide +kernel
theorem dX10_evening_46 : decode cX10_evening 46 = .ok (.getfield 28, 3) := by decide +kernel
theorem dX10_evening_49 : decode cX10_evening 49 = .ok (.getfield 114, 3) := by decide +kernel
theorem dX10_evening_52 : decode cX10_evening 52 = .ok (.getfield 270, 3) := by decide +kernel
theorem dX10_evening_55 : decode cX10_evening 55 = .ok (.iload_n 1, 1) := by decide +kernel
theorem dX10_evening_56 : decode cX10_evening 56 = .ok (.aaload, 1) := by decide +kernel
theorem dX10_evening_57 : decode cX10_evening 57 = .ok (.iload_n 2, 1) := by decide +kernel
theorem dX10_evening_58 : decode cX10_evening 58 = .ok (.iaload, 1) := by decide +kernel
theorem dX10_evening_59 : decode cX10_evening 59 = .ok (.goto 4, 3) := by decide +kernel
theorem dX10_evening_62 : decode cX10_evening 62 = .ok (.iconst (-1), 1) := by decide +kernel
theorem dX10_evening_63 : decode cX10_evening 63 = .ok (.ireturn, 1) := by decide +kernel
theorem dX10_seed_0 : decode cX10_seed 0 = .ok (.iload_n 1, 1) := by decide +kernel
theorem dX10_seed_1 : decode cX10_seed 1 = .ok (.ifCond .ge 6, 3) := by decide +kernel
theorem dX10_seed_4 : decode cX10_seed 4 = .ok (.ldc 91, 2) := by decide +kernel
theorem dX10_seed_6 : decode cX10_seed 6 = .ok (.ireturn, 1) := by decide +kernel
theorem dX10_seed_7 : decode cX10_seed 7 = .ok (.aload_n 0, 1) := by decide +kernel
theorem dX10_seed_8 : decode cX10_seed 8 = .ok (.getfield 28, 3) := by decide +kernel
theorem dX10_seed_11 : decode cX10_seed 11 = .ok (.getfield 114, 3) := by decide +kernel
theorem dX10_seed_14 : decode cX10_seed 14 = .ok (.getfield 274, 3) := by decide +kernel
theorem dX10_seed_17 : decode cX10_seed 17 = .ok (.istore_n 2, 1) := by decide +kernel
theorem dX10_seed_18 : decode cX10_seed 18 = .ok (.aload_n 0, 1) := by decide +kernel
theorem dX10_seed_19 : decode cX10_seed 19 = .ok (.getfield 28, 3) := by decide +kernel
theorem dX10_seed_22 : decode cX10_seed 22 = .ok (.getfield 114, 3) := by decide +kernel
theorem dX10_seed_25 : decode cX10_seed 25 = .ok (.iload_n 1, 1) := by decide +kernel
theorem dX10_seed_26 : decode cX10_seed 26 = .ok (.putfield 274, 3) := by decide +kernel
theorem dX10_seed_29 : decode cX10_seed 29 = .ok (.iload_n 2, 1) := by decide +kernel
theorem dX10_seed_30 : decode cX10_seed 30 = .ok (.ireturn, 1) := by decide +kernel
theorem dX10_keep_0 : decode cX10_keep 0 = .ok (.iload_n 1, 1) := by decide +kernel
theorem dX10_keep_1 : decode cX10_keep 1 = .ok (.ifCond .lt 8, 3) := by decide +kernel
theorem dX10_keep_4 : decode cX10_keep 4 = .ok (.iload_n 1, 1) := by decide +kernel
theorem dX10_keep_5 : decode cX10_keep 5 = .ok (.iconst 2, 1) := by decide +kernel
theorem dX10_keep_6 : decode cX10_keep 6 = .ok (.if_icmp .lt 6, 3) := by decide +kernel
theorem dX10_keep_9 : decode cX10_keep 9 = .ok (.ldc 158, 2) := by decide +kernel
theorem dX10_keep_11 : decode cX10_keep 11 = .ok (.ireturn, 1) := by decide +kernel
theorem dX10_keep_12 : decode cX10_keep 12 = .ok (.aload_n 0, 1) := by decide +kernel
theorem dX10_keep_13 : decode cX10_keep 13 = .ok (.getfield 64, 3) := by decide +kernel
theorem dX10_keep_16 : decode cX10_keep 16 = .ok (.iload_n 1, 1) := by decide +kernel
theorem dX10_keep_17 : decode cX10_keep 17 = .ok (.aaload, 1) := by decide +kernel
theorem dX10_keep_18 : decode cX10_keep 18 = .ok (.aload_n 0, 1) := by decide +kernel
theorem dX10_keep_19 : decode cX10_keep 19 = .ok (.getfield 28, 3) := by decide +kernel
theorem dX10_keep_22 : decode cX10_keep 22 = .ok (.getfield 114, 3) := by decide +kernel
theorem dX10_keep_25 : decode cX10_keep 25 = .ok (.invokevirtual 277, 3) := by decide +kernel
theorem dX10_keep_28 : decode cX10_keep 28 = .ok (.aload_n 0, 1) := by decide +kernel
theorem dX10_keep_29 : decode cX10_keep 29 = .ok (.getfield 69, 3) := by decide +kernel
theorem dX10_keep_32 : decode cX10_keep 32 = .ok (.iload_n 1, 1) := by decide +kernel
theorem dX10_keep_33 : decode cX10_keep 33 = .ok (.iconst 1, 1) := by decide +kernel
theorem dX10_keep_34 : decode cX10_keep 34 = .ok (.bastore, 1) := by decide +kernel
theorem dX10_keep_35 : decode cX10_keep 35 = .ok (.iconst 1, 1) := by decide +kernel
theorem dX10_keep_36 : decode cX10_keep 36 = .ok (.ireturn, 1) := by decide +kernel
theorem dX10_goBack_0 : decode cX10_goBack 0 = .ok (.iload_n 1, 1) := by decide +kernel
theorem dX10_goBack_1 : decode cX10_goBack 1 = .ok (.ifCond .lt 8, 3) := by decide +kernel
theorem dX10_goBack_4 : decode cX10_goBack 4 = .ok (.iload_n 1, 1) := by decide +kernel
theorem dX10_goBack_5 : decode cX10_goBack 5 = .ok (.iconst 2, 1) := by decide +kernel
theorem dX10_goBack_6 : decode cX10_goBack 6 = .ok (.if_icmp .lt 6, 3) := by decide +kernel
theorem dX10_goBack_9 : decode cX10_goBack 9 = .ok (.ldc 158, 2) := by decide +kernel
theorem dX10_goBack_11 : decode cX10_goBack 11 = .ok (.ireturn, 1) := by decide +kernel
theorem dX10_goBack_12 : decode cX10_goBack 12 = .ok (.aload_n 0, 1) := by decide +kernel
theorem dX10_goBack_13 : decode cX10_goBack 13 = .ok (.getfield 69, 3) := by decide +kernel
theorem dX10_goBack_16 : decode cX10_goBack 16 = .ok (.iload_n 1, 1) := by decide +kernel
theorem dX10_goBack_17 : decode cX10_goBack 17 = .ok (.baload, 1) := by decide +kernel
theorem dX10_goBack_18 : decode cX10_goBack 18 = .ok (.ifCond .ne 6, 3) := by decide +kernel
theorem dX10_goBack_21 : decode cX10_goBack 21 = .ok (.ldc 127, 2) := by decide +kernel
theorem dX10_goBack_23 : decode cX10_goBack 23 = .ok (.ireturn, 1) := by decide +kernel
theorem dX10_goBack_24 : decode cX10_goBack 24 = .ok (.aload_n 0, 1) := by decide +kernel
theorem dX10_goBack_25 : decode cX10_goBack 25 = .ok (.getfield 28, 3) := by decide +kernel
theorem dX10_goBack_28 : decode cX10_goBack 28 = .ok (.getfield 114, 3) := by decide +kernel
theorem dX10_goBack_31 : decode cX10_goBack 31 = .ok (.aload_n 0, 1) := by decide +kernel
theorem dX10_goBack_32 : decode cX10_goBack 32 = .ok (.getfield 64, 3) := by decide +kernel
theorem dX10_goBack_35 : decode cX10_goBack 35 = .ok (.iload_n 1, 1) := by decide +kernel
theorem dX10_goBack_36 : decode cX10_goBack 36 = .ok (.aaload, 1) := by decide +kernel
theorem dX10_goBack_37 : decode cX10_goBack 37 = .ok (.invokevirtual 277, 3) := by decide +kernel
theorem dX10_goBack_40 : decode cX10_goBack 40 = .ok (.iconst 1, 1) := by decide +kernel
theorem dX10_goBack_41 : decode cX10_goBack 41 = .ok (.ireturn, 1) := by decide +kernel
theorem dX10_oneIf_0 : decode cX10_oneIf 0 = .ok (.iload_n 0, 1) := by decide +kernel
theorem dX10_oneIf_1 : decode cX10_oneIf 1 = .ok (.ifCond .eq 7, 3) := by decide +kernel
theorem dX10_oneIf_4 : decode cX10_oneIf 4 = .ok (.iconst 1, 1) := by decide +kernel
theorem dX10_oneIf_5 : decode cX10_oneIf 5 = .ok (.goto 4, 3) := by decide +kernel
theorem dX10_oneIf_8 : decode cX10_oneIf 8 = .ok (.iconst 0, 1) := by decide +kernel
theorem dX10_oneIf_9 : decode cX10_oneIf 9 = .ok (.ireturn, 1) := by decide +kernel
theorem dJ6_bitCount_0f7a4_0 : decode cJ6_bitCount_0f7a4 0 = .ok (.iload_n 0, 1) := by decide +kernel
theorem dJ6_bitCount_0f7a4_1 : decode cJ6_bitCount_0f7a4 1 = .ok (.iload_n 0, 1) := by decide +kernel
theorem dJ6_bitCount_0f7a4_2 : decode cJ6_bitCount_0f7a4 2 = .ok (.iconst 1, 1) := by decide +kernel
theorem dJ6_bitCount_0f7a4_3 : decode cJ6_bitCount_0f7a4 3 = .ok (.iushr, 1) := by decide +kernel
theorem dJ6_bitCount_0f7a4_4 : decode cJ6_bitCount_0f7a4 4 = .ok (.ldc_w 265, 3) := by decide +kernel
theorem dJ6_bitCount_0f7a4_7 : decode cJ6_bitCount_0f7a4 7 = .ok (.iand, 1) := by decide +kernel
theorem dJ6_bitCount_0f7a4_8 : decode cJ6_bitCount_0f7a4 8 = .ok (.isub, 1) := by decide +kernel
theorem dJ6_bitCount_0f7a4_9 : decode cJ6_bitCount_0f7a4 9 = .ok (.istore_n 0, 1) := by decide +kernel
theorem dJ6_bitCount_0f7a4_10 : decode cJ6_bitCount_0f7a4 10 = .ok (.iload_n 0, 1) := by decide +kernel
theorem dJ6_bitCount_0f7a4_11 : decode cJ6_bitCount_0f7a4 11 = .ok (.ldc_w 266, 3) := by decide +kernel
theorem dJ6_bitCount_0f7a4_14 : decode cJ6_bitCount_0f7a4 14 = .ok (.iand, 1) := by decide +kernel
theorem dJ6_bitCount_0f7a4_15 : decode cJ6_bitCount_0f7a4 15 = .ok (.iload_n 0, 1) := by decide +kernel
theorem dJ6_bitCount_0f7a4_16 : decode cJ6_bitCount_0f7a4 16 = .ok (.iconst 2, 1) := by decide +kernel
theorem dJ6_bitCount_0f7a4_17 : decode cJ6_bitCount_0f7a4 17 = .ok (.iushr, 1) := by decide +kernel
theorem dJ6_bitCount_0f7a4_18 : decode cJ6_bitCount_0f7a4 18 = .ok (.ldc_w 266, 3) := by decide +kernel
theorem dJ6_bitCount_0f7a4_21 : decode cJ6_bitCount_0f7a4 21 = .ok (.iand, 1) := by decide +kernel
theorem dJ6_bitCount_0f7a4_22 : decode cJ6_bitCount_0f7a4 22 = .ok (.iadd, 1) := by decide +kernel
theorem dJ6_bitCount_0f7a4_23 : decode cJ6_bitCount_0f7a4 23 = .ok (.istore_n 0, 1) := by decide +kernel
theorem dJ6_bitCount_0f7a4_24 : decode cJ6_bitCount_0f7a4 24 = .ok (.iload_n 0, 1) := by decide +kernel
theorem dJ6_bitCount_0f7a4_25 : decode cJ6_bitCount_0f7a4 25 = .ok (.iload_n 0, 1) := by decide +kernel
theorem dJ6_bitCount_0f7a4_26 : decode cJ6_bitCount_0f7a4 26 = .ok (.iconst 4, 1) := by decide +kernel
theorem dJ6_bitCount_0f7a4_27 : decode cJ6_bitCount_0f7a4 27 = .ok (.iushr, 1) := by decide +kernel
theorem dJ6_bitCount_0f7a4_28 : decode cJ6_bitCount_0f7a4 28 = .ok (.iadd, 1) := by decide +kernel
theorem dJ6_bitCount_0f7a4_29 : decode cJ6_bitCount_0f7a4 29 = .ok (.ldc_w 267, 3) := by decide +kernel
theorem dJ6_bitCount_0f7a4_32 : decode cJ6_bitCount_0f7a4 32 = .ok (.iand, 1) := by decide +kernel
theorem dJ6_bitCount_0f7a4_33 : decode cJ6_bitCount_0f7a4 33 = .ok (.istore_n 0, 1) := by decide +kernel
theorem dJ6_bitCount_0f7a4_34 : decode cJ6_bitCount_0f7a4 34 = .ok (.iload_n 0, 1) := by decide +kernel
theorem dJ6_bitCount_0f7a4_35 : decode cJ6_bitCount_0f7a4 35 = .ok (.iload_n 0, 1) := by decide +kernel
theorem dJ6_bitCount_0f7a4_36 : decode cJ6_bitCount_0f7a4 36 = .ok (.bipush 8, 2) := by decide +kernel
theorem dJ6_bitCount_0f7a4_38 : decode cJ6_bitCount_0f7a4 38 = .ok (.iushr, 1) := by decide +kernel
theorem dJ6_bitCount_0f7a4_39 : decode cJ6_bitCount_0f7a4 39 = .ok (.iadd, 1) := by decide +kernel
theorem dJ6_bitCount_0f7a4_40 : decode cJ6_bitCount_0f7a4 40 = .ok (.istore_n 0, 1) := by decide +kernel
theorem dJ6_bitCount_0f7a4_41 : decode cJ6_bitCount_0f7a4 41 = .ok (.iload_n 0, 1) := by decide +kernel
theorem dJ6_bitCount_0f7a4_42 : decode cJ6_bitCount_0f7a4 42 = .ok (.iload_n 0, 1) := by decide +kernel
theorem dJ6_bitCount_0f7a4_43 : decode cJ6_bitCount_0f7a4 43 = .ok (.bipush 16, 2) := by decide +kernel
theorem dJ6_bitCount_0f7a4_45 : decode cJ6_bitCount_0f7a4 45 = .ok (.iushr, 1) := by decide +kernel
theorem dJ6_bitCount_0f7a4_46 : decode cJ6_bitCount_0f7a4 46 = .ok (.iadd, 1) := by decide +kernel
theorem dJ6_bitCount_0f7a4_47 : decode cJ6_bitCount_0f7a4 47 = .ok (.istore_n 0, 1) := by decide +kernel
theorem dJ6_bitCount_0f7a4_48 : decode cJ6_bitCount_0f7a4 48 = .ok (.iload_n 0, 1) := by decide +kernel
theorem dJ6_bitCount_0f7a4_49 : decode cJ6_bitCount_0f7a4 49 = .ok (.bipush 63, 2) := by decide +kernel
theorem dJ6_bitCount_0f7a4_51 : decode cJ6_bitCount_0f7a4 51 = .ok (.iand, 1) := by decide +kernel
theorem dJ6_bitCount_0f7a4_52 : decode cJ6_bitCount_0f7a4 52 = .ok (.ireturn, 1) := by decide +kernel
theorem dJ9_max_7cf53_0 : decode cJ9_max_7cf53 0 = .ok (.iload_n 0, 1) := by decide +kernel
theorem dJ9_max_7cf53_1 : decode cJ9_max_7cf53 1 = .ok (.iload_n 1, 1) := by decide +kernel
theorem dJ9_max_7cf53_2 : decode cJ9_max_7cf53 2 = .ok (.if_icmp .lt 7, 3) := by decide +kernel
theorem dJ9_max_7cf53_5 : decode cJ9_max_7cf53 5 = .ok (.iload_n 0, 1) := by decide +kernel
theorem dJ9_max_7cf53_6 : decode cJ9_max_7cf53 6 = .ok (.goto 4, 3) := by decide +kernel
theorem dJ9_max_7cf53_9 : decode cJ9_max_7cf53 9 = .ok (.iload_n 1, 1) := by decide +kernel
theorem dJ9_max_7cf53_10 : decode cJ9_max_7cf53 10 = .ok (.ireturn, 1) := by decide +kernel
theorem dJ9_max_f86c9_0 : decode cJ9_max_f86c9 0 = .ok (.lload_n 0, 1) := by decide +kernel
theorem dJ9_max_f86c9_1 : decode cJ9_max_f86c9 1 = .ok (.lload_n 2, 1) := by decide +kernel
theorem dJ9_max_f86c9_2 : decode cJ9_max_f86c9 2 = .ok (.lcmp, 1) := by decide +kernel
theorem dJ9_max_f86c9_3 : decode cJ9_max_f86c9 3 = .ok (.ifCond .lt 7, 3) := by decide +kernel
theorem dJ9_max_f86c9_6 : decode cJ9_max_f86c9 6 = .ok (.lload_n 0, 1) := by decide +kernel
theorem dJ9_max_f86c9_7 : decode cJ9_max_f86c9 7 = .ok (.goto 4, 3) := by decide +kernel
theorem dJ9_max_f86c9_10 : decode cJ9_max_f86c9 10 = .ok (.lload_n 2, 1) := by decide +kernel
theorem dJ9_max_f86c9_11 : decode cJ9_max_f86c9 11 = .ok (.lreturn, 1) := by decide +kernel
theorem dJ9_min_7cf53_0 : decode cJ9_min_7cf53 0 = .ok (.iload_n 0, 1) := by decide +kernel
theorem dJ9_min_7cf53_1 : decode cJ9_min_7cf53 1 = .ok (.iload_n 1, 1) := by decide +kernel
theorem dJ9_min_7cf53_2 : decode cJ9_min_7cf53 2 = .ok (.if_icmp .gt 7, 3) := by decide +kernel
theorem dJ9_min_7cf53_5 : decode cJ9_min_7cf53 5 = .ok (.iload_n 0, 1) := by decide +kernel
theorem dJ9_min_7cf53_6 : decode cJ9_min_7cf53 6 = .ok (.goto 4, 3) := by decide +kernel
theorem dJ9_min_7cf53_9 : decode cJ9_min_7cf53 9 = .ok (.iload_n 1, 1) := by decide +kernel
theorem dJ9_min_7cf53_10 : decode cJ9_min_7cf53 10 = .ok (.ireturn, 1) := by decide +kernel
theorem dJ0_length_8abf5_0 : decode cJ0_length_8abf5 0 = .ok (.aload_n 0, 1) := by decide +kernel
theorem dJ0_length_8abf5_1 : decode cJ0_length_8abf5 1 = .ok (.getfield 9, 3) := by decide +kernel
theorem dJ0_length_8abf5_4 : decode cJ0_length_8abf5 4 = .ok (.arraylength, 1) := by decide +kernel
theorem dJ0_length_8abf5_5 : decode cJ0_length_8abf5 5 = .ok (.aload_n 0, 1) := by decide +kernel
theorem dJ0_length_8abf5_6 : decode cJ0_length_8abf5 6 = .ok (.invokevirtual 335, 3) := by decide +kernel
theorem dJ0_length_8abf5_9 : decode cJ0_length_8abf5 9 = .ok (.ishr, 1) := by decide +kernel
theorem dJ0_length_8abf5_10 : decode cJ0_length_8abf5 10 = .ok (.ireturn, 1) := by decide +kernel
theorem dJ0_charAt_5068e_0 : decode cJ0_charAt_5068e 0 = .ok (.aload_n 0, 1) := by decide +kernel
theorem dJ0_charAt_5068e_1 : decode cJ0_charAt_5068e 1 = .ok (.invokevirtual 492, 3) := by decide +kernel
theorem dJ0_charAt_5068e_4 : decode cJ0_charAt_5068e 4 = .ok (.ifCond .eq 12, 3) := by decide +kernel
theorem dJ0_charAt_5068e_7 : decode cJ0_charAt_5068e 7 = .ok (.aload_n 0, 1) := by decide +kernel
theorem dJ0_charAt_5068e_8 : decode cJ0_charAt_5068e 8 = .ok (.getfield 9, 3) := by decide +kernel
theorem dJ0_charAt_5068e_11 : decode cJ0_charAt_5068e 11 = .ok (.iload_n 1, 1) := by decide +kernel
theorem dJ0_charAt_5068e_12 : decode cJ0_charAt_5068e 12 = .ok (.invokestatic 495, 3) := by decide +kernel
theorem dJ0_charAt_5068e_15 : decode cJ0_charAt_5068e 15 = .ok (.ireturn, 1) := by decide +kernel
theorem dJ0_charAt_5068e_16 : decode cJ0_charAt_5068e 16 = .ok (.aload_n 0, 1) := by decide +kernel
theorem dJ0_charAt_5068e_17 : decode cJ0_charAt_5068e 17 = .ok (.getfield 9, 3) := by decide +kernel
theorem dJ0_charAt_5068e_20 : decode cJ0_charAt_5068e 20 = .ok (.iload_n 1, 1) := by decide +kernel
theorem dJ0_charAt_5068e_21 : decode cJ0_charAt_5068e 21 = .ok (.invokestatic 498, 3) := by decide +kernel
theorem dJ0_charAt_5068e_24 : decode cJ0_charAt_5068e 24 = .ok (.ireturn, 1) := by decide +kernel
theorem dJ0_coder_7d493_0 : decode cJ0_coder_7d493 0 = .ok (.getstatic 38, 3) := by decide +kernel
theorem dJ0_coder_7d493_3 : decode cJ0_coder_7d493 3 = .ok (.ifCond .eq 10, 3) := by decide +kernel
theorem dJ0_coder_7d493_6 : decode cJ0_coder_7d493 6 = .ok (.aload_n 0, 1) := by decide +kernel
theorem dJ0_coder_7d493_7 : decode cJ0_coder_7d493 7 = .ok (.getfield 15, 3) := by decide +kernel
theorem dJ0_coder_7d493_10 : decode cJ0_coder_7d493 10 = .ok (.goto 4, 3) := by decide +kernel
theorem dJ0_coder_7d493_13 : decode cJ0_coder_7d493 13 = .ok (.iconst 1, 1) := by decide +kernel
theorem dJ0_coder_7d493_14 : decode cJ0_coder_7d493 14 = .ok (.ireturn, 1) := by decide +kernel
theorem dJ0_isLatin1_aae02_0 : decode cJ0_isLatin1_aae02 0 = .ok (.getstatic 38, 3) := by decide +kernel
theorem dJ0_isLatin1_aae02_3 : decode cJ0_isLatin1_aae02 3 = .ok (.ifCond .eq 14, 3) := by decide +kernel
theorem dJ0_isLatin1_aae02_6 : decode cJ0_isLatin1_aae02 6 = .ok (.aload_n 0, 1) := by decide +kernel
theorem dJ0_isLatin1_aae02_7 : decode cJ0_isLatin1_aae02 7 = .ok (.getfield 15, 3) := by decide +kernel
theorem dJ0_isLatin1_aae02_10 : decode cJ0_isLatin1_aae02 10 = .ok (.ifCond .ne 7, 3) := by decide +kernel
theorem dJ0_isLatin1_aae02_13 : decode cJ0_isLatin1_aae02 13 = .ok (.iconst 1, 1) := by decide +kernel
theorem dJ0_isLatin1_aae02_14 : decode cJ0_isLatin1_aae02 14 = .ok (.goto 4, 3) := by decide +kernel
theorem dJ0_isLatin1_aae02_17 : decode cJ0_isLatin1_aae02 17 = .ok (.iconst 0, 1) := by decide +kernel
theorem dJ0_isLatin1_aae02_18 : decode cJ0_isLatin1_aae02 18 = .ok (.ireturn, 1) := by decide +kernel
theorem dJ0_checkIndex_df160_0 : decode cJ0_checkIndex_df160 0 = .ok (.iload_n 0, 1) := by decide +kernel
theorem dJ0_checkIndex_df160_1 : decode cJ0_checkIndex_df160 1 = .ok (.iload_n 1, 1) := by decide +kernel
theorem dJ0_checkIndex_df160_2 : decode cJ0_checkIndex_df160 2 = .ok (.getstatic 1053, 3) := by decide +kernel
theorem dJ0_checkIndex_df160_5 : decode cJ0_checkIndex_df160 5 = .ok (.invokestatic 1059, 3) := by decide +kernel
theorem dJ0_checkIndex_df160_8 : decode cJ0_checkIndex_df160 8 = .ok (.pop, 1) := by decide +kernel
theorem dJ0_checkIndex_df160_9 : decode cJ0_checkIndex_df160 9 = .ok (.return_, 1) := by decide +kernel
theorem dJ1_charAt_3b067_0 : decode cJ1_charAt_3b067 0 = .ok (.iload_n 1, 1) := by decide +kernel
theorem dJ1_charAt_3b067_1 : decode cJ1_charAt_3b067 1 = .ok (.aload_n 0, 1) := by decide +kernel
theorem dJ1_charAt_3b067_2 : decode cJ1_charAt_3b067 2 = .ok (.arraylength, 1) := by decide +kernel
theorem dJ1_charAt_3b067_3 : decode cJ1_charAt_3b067 3 = .ok (.invokestatic 9, 3) := by decide +kernel
theorem dJ1_charAt_3b067_6 : decode cJ1_charAt_3b067 6 = .ok (.aload_n 0, 1) := by decide +kernel
theorem dJ1_charAt_3b067_7 : decode cJ1_charAt_3b067 7 = .ok (.iload_n 1, 1) := by decide +kernel
theorem dJ1_charAt_3b067_8 : decode cJ1_charAt_3b067 8 = .ok (.baload, 1) := by decide +kernel
theorem dJ1_charAt_3b067_9 : decode cJ1_charAt_3b067 9 = .ok (.sipush 255, 3) := by decide +kernel
theorem dJ1_charAt_3b067_12 : decode cJ1_charAt_3b067 12 = .ok (.iand, 1) := by decide +kernel
theorem dJ1_charAt_3b067_13 : decode cJ1_charAt_3b067 13 = .ok (.i2c, 1) := by decide +kernel
theorem dJ1_charAt_3b067_14 : decode cJ1_charAt_3b067 14 = .ok (.ireturn, 1) := by decide +kernel
theorem dJ2_getChar_3b067_0 : decode cJ2_getChar_3b067 0 = .ok (.getstatic 44, 3) := by decide +kernel
theorem dJ2_getChar_3b067_3 : decode cJ2_getChar_3b067 3 = .ok (.ifCond .ne 25, 3) := by decide +kernel
theorem dJ2_getChar_3b067_6 : decode cJ2_getChar_3b067 6 = .ok (.iload_n 1, 1) := by decide +kernel
theorem dJ2_getChar_3b067_7 : decode cJ2_getChar_3b067 7 = .ok (.ifCond .lt 11, 3) := by decide +kernel
theorem dJ2_getChar_3b067_10 : decode cJ2_getChar_3b067 10 = .ok (.iload_n 1, 1) := by decide +kernel
theorem dJ2_getChar_3b067_11 : decode cJ2_getChar_3b067 11 = .ok (.aload_n 0, 1) := by decide +kernel
theorem dJ2_getChar_3b067_12 : decode cJ2_getChar_3b067 12 = .ok (.invokestatic 48, 3) := by decide +kernel
theorem dJ2_getChar_3b067_15 : decode cJ2_getChar_3b067 15 = .ok (.if_icmp .lt 13, 3) := by decide +kernel
theorem dJ2_getChar_3b067_18 : decode cJ2_getChar_3b067 18 = .ok (.new 52, 3) := by decide +kernel
theorem dJ2_getChar_3b067_21 : decode cJ2_getChar_3b067 21 = .ok (.dup, 1) := by decide +kernel
theorem dJ2_getChar_3b067_22 : decode cJ2_getChar_3b067 22 = .ok (.ldc 54, 2) := by decide +kernel
theorem dJ2_getChar_3b067_24 : decode cJ2_getChar_3b067 24 = .ok (.invokespecial 56, 3) := by decide +kernel
theorem dJ2_getChar_3b067_27 : decode cJ2_getChar_3b067 27 = .ok (.athrow, 1) := by decide +kernel
theorem dJ2_getChar_3b067_28 : decode cJ2_getChar_3b067 28 = .ok (.iload_n 1, 1) := by decide +kernel
theorem dJ2_getChar_3b067_29 : decode cJ2_getChar_3b067 29 = .ok (.iconst 1, 1) := by decide +kernel
theorem dJ2_getChar_3b067_30 : decode cJ2_getChar_3b067 30 = .ok (.ishl, 1) := by decide +kernel
theorem dJ2_getChar_3b067_31 : decode cJ2_getChar_3b067 31 = .ok (.istore_n 1, 1) := by decide +kernel
theorem dJ2_getChar_3b067_32 : decode cJ2_getChar_3b067 32 = .ok (.aload_n 0, 1) := by decide +kernel
theorem dJ2_getChar_3b067_33 : decode cJ2_getChar_3b067 33 = .ok (.iload_n 1, 1) := by decide +kernel
theorem dJ2_getChar_3b067_34 : decode cJ2_getChar_3b067 34 = .ok (.iinc 1 1, 3) := by decide +kernel
theorem dJ2_getChar_3b067_37 : decode cJ2_getChar_3b067 37 = .ok (.baload, 1) := by decide +kernel
theorem dJ2_getChar_3b067_38 : decode cJ2_getChar_3b067 38 = .ok (.sipush 255, 3) := by decide +kernel
theorem dJ2_getChar_3b067_41 : decode cJ2_getChar_3b067 41 = .ok (.iand, 1) := by decide +kernel
theorem dJ2_getChar_3b067_42 : decode cJ2_getChar_3b067 42 = .ok (.getstatic 59, 3) := by decide +kernel
theorem dJ2_getChar_3b067_45 : decode cJ2_getChar_3b067 45 = .ok (.ishl, 1) := by decide +kernel
theorem dJ2_getChar_3b067_46 : decode cJ2_getChar_3b067 46 = .ok (.aload_n 0, 1) := by decide +kernel
theorem dJ2_getChar_3b067_47 : decode cJ2_getChar_3b067 47 = .ok (.iload_n 1, 1) := by decide +kernel
theorem dJ2_getChar_3b067_48 : decode cJ2_getChar_3b067 48 = .ok (.baload, 1) := by decide +kernel
theorem dJ2_getChar_3b067_49 : decode cJ2_getChar_3b067 49 = .ok (.sipush 255, 3) := by decide +kernel
theorem dJ2_getChar_3b067_52 : decode cJ2_getChar_3b067 52 = .ok (.iand, 1) := by decide +kernel
theorem dJ2_getChar_3b067_53 : decode cJ2_getChar_3b067 53 = .ok (.getstatic 63, 3) := by decide +kernel
theorem dJ2_getChar_3b067_56 : decode cJ2_getChar_3b067 56 = .ok (.ishl, 1) := by decide +kernel
theorem dJ2_getChar_3b067_57 : decode cJ2_getChar_3b067 57 = .ok (.ior, 1) := by decide +kernel
theorem dJ2_getChar_3b067_58 : decode cJ2_getChar_3b067 58 = .ok (.i2c, 1) := by decide +kernel
theorem dJ2_getChar_3b067_59 : decode cJ2_getChar_3b067 59 = .ok (.ireturn, 1) := by decide +kernel
theorem dJ2_length_9d52b_0 : decode cJ2_length_9d52b 0 = .ok (.aload_n 0, 1) := by decide +kernel
theorem dJ2_length_9d52b_1 : decode cJ2_length_9d52b 1 = .ok (.arraylength, 1) := by decide +kernel
theorem dJ2_length_9d52b_2 : decode cJ2_length_9d52b 2 = .ok (.iconst 1, 1) := by decide +kernel
theorem dJ2_length_9d52b_3 : decode cJ2_length_9d52b 3 = .ok (.ishr, 1) := by decide +kernel
theorem dJ2_length_9d52b_4 : decode cJ2_length_9d52b 4 = .ok (.ireturn, 1) := by decide +kernel
theorem dJ2_charAt_3b067_0 : decode cJ2_charAt_3b067 0 = .ok (.iload_n 1, 1) := by decide +kernel
theorem dJ2_charAt_3b067_1 : decode cJ2_charAt_3b067 1 = .ok (.aload_n 0, 1) := by decide +kernel
theorem dJ2_charAt_3b067_2 : decode cJ2_charAt_3b067 2 = .ok (.invokestatic 67, 3) := by decide +kernel
theorem dJ2_charAt_3b067_5 : decode cJ2_charAt_3b067 5 = .ok (.aload_n 0, 1) := by decide +kernel
theorem dJ2_charAt_3b067_6 : decode cJ2_charAt_3b067 6 = .ok (.iload_n 1, 1) := by decide +kernel
theorem dJ2_charAt_3b067_7 : decode cJ2_charAt_3b067 7 = .ok (.invokestatic 71, 3) := by decide +kernel
theorem dJ2_charAt_3b067_10 : decode cJ2_charAt_3b067 10 = .ok (.ireturn, 1) := by decide +kernel
theorem dJ2_checkIndex_2214a_0 : decode cJ2_checkIndex_2214a 0 = .ok (.iload_n 0, 1) := by decide +kernel
theorem dJ2_checkIndex_2214a_1 : decode cJ2_checkIndex_2214a 1 = .ok (.aload_n 1, 1) := by decide +kernel
theorem dJ2_checkIndex_2214a_2 : decode cJ2_checkIndex_2214a 2 = .ok (.invokestatic 48, 3) := by decide +kernel
theorem dJ2_checkIndex_2214a_5 : decode cJ2_checkIndex_2214a 5 = .ok (.invokestatic 414, 3) := by decide +kernel
theorem dJ2_checkIndex_2214a_8 : decode cJ2_checkIndex_2214a 8 = .ok (.return_, 1) := by decide +kernel
theorem dJ7_fill_d0a16_0 : decode cJ7_fill_d0a16 0 = .ok (.iconst 0, 1) := by decide +kernel
theorem dJ7_fill_d0a16_1 : decode cJ7_fill_d0a16 1 = .ok (.istore_n 3, 1) := by decide +kernel
theorem dJ7_fill_d0a16_2 : decode cJ7_fill_d0a16 2 = .ok (.aload_n 0, 1) := by decide +kernel
theorem dJ7_fill_d0a16_3 : decode cJ7_fill_d0a16 3 = .ok (.arraylength, 1) := by decide +kernel
theorem dJ7_fill_d0a16_4 : decode cJ7_fill_d0a16 4 = .ok (.istore 4, 2) := by decide +kernel
theorem dJ7_fill_d0a16_6 : decode cJ7_fill_d0a16 6 = .ok (.iload_n 3, 1) := by decide +kernel
theorem dJ7_fill_d0a16_7 : decode cJ7_fill_d0a16 7 = .ok (.iload 4, 2) := by decide +kernel
theorem dJ7_fill_d0a16_9 : decode cJ7_fill_d0a16 9 = .ok (.if_icmp .ge 13, 3) := by decide +kernel
theorem dJ7_fill_d0a16_12 : decode cJ7_fill_d0a16 12 = .ok (.aload_n 0, 1) := by decide +kernel
theorem dJ7_fill_d0a16_13 : decode cJ7_fill_d0a16 13 = .ok (.iload_n 3, 1) := by decide +kernel
theorem dJ7_fill_d0a16_14 : decode cJ7_fill_d0a16 14 = .ok (.lload_n 1, 1) := by decide +kernel
theorem dJ7_fill_d0a16_15 : decode cJ7_fill_d0a16 15 = .ok (.lastore, 1) := by decide +kernel
theorem dJ7_fill_d0a16_16 : decode cJ7_fill_d0a16 16 = .ok (.iinc 3 1, 3) := by decide +kernel
theorem dJ7_fill_d0a16_19 : decode cJ7_fill_d0a16 19 = .ok (.goto (-13), 3) := by decide +kernel
theorem dJ7_fill_d0a16_22 : decode cJ7_fill_d0a16 22 = .ok (.return_, 1) := by decide +kernel
theorem dJ7_fill_53178_0 : decode cJ7_fill_53178 0 = .ok (.iconst 0, 1) := by decide +kernel
theorem dJ7_fill_53178_1 : decode cJ7_fill_53178 1 = .ok (.istore_n 2, 1) := by decide +kernel
theorem dJ7_fill_53178_2 : decode cJ7_fill_53178 2 = .ok (.aload_n 0, 1) := by decide +kernel
theorem dJ7_fill_53178_3 : decode cJ7_fill_53178 3 = .ok (.arraylength, 1) := by decide +kernel
theorem dJ7_fill_53178_4 : decode cJ7_fill_53178 4 = .ok (.istore_n 3, 1) := by decide +kernel
theorem dJ7_fill_53178_5 : decode cJ7_fill_53178 5 = .ok (.iload_n 2, 1) := by decide +kernel
theorem dJ7_fill_53178_6 : decode cJ7_fill_53178 6 = .ok (.iload_n 3, 1) := by decide +kernel
theorem dJ7_fill_53178_7 : decode cJ7_fill_53178 7 = .ok (.if_icmp .ge 13, 3) := by decide +kernel
theorem dJ7_fill_53178_10 : decode cJ7_fill_53178 10 = .ok (.aload_n 0, 1) := by decide +kernel
theorem dJ7_fill_53178_11 : decode cJ7_fill_53178 11 = .ok (.iload_n 2, 1) := by decide +kernel
theorem dJ7_fill_53178_12 : decode cJ7_fill_53178 12 = .ok (.iload_n 1, 1) := by decide +kernel
theorem dJ7_fill_53178_13 : decode cJ7_fill_53178 13 = .ok (.iastore, 1) := by decide +kernel
theorem dJ7_fill_53178_14 : decode cJ7_fill_53178 14 = .ok (.iinc 2 1, 3) := by decide +kernel
theorem dJ7_fill_53178_17 : decode cJ7_fill_53178 17 = .ok (.goto (-12), 3) := by decide +kernel
theorem dJ7_fill_53178_20 : decode cJ7_fill_53178 20 = .ok (.return_, 1) := by decide +kernel
theorem dJ3_checkIndex_8e157_0 : decode cJ3_checkIndex_8e157 0 = .ok (.iload_n 0, 1) := by decide +kernel
theorem dJ3_checkIndex_8e157_1 : decode cJ3_checkIndex_8e157 1 = .ok (.ifCond .lt 8, 3) := by decide +kernel
theorem dJ3_checkIndex_8e157_4 : decode cJ3_checkIndex_8e157 4 = .ok (.iload_n 0, 1) := by decide +kernel
theorem dJ3_checkIndex_8e157_5 : decode cJ3_checkIndex_8e157 5 = .ok (.iload_n 1, 1) := by decide +kernel
theorem dJ3_checkIndex_8e157_6 : decode cJ3_checkIndex_8e157 6 = .ok (.if_icmp .lt 10, 3) := by decide +kernel
theorem dJ3_checkIndex_8e157_9 : decode cJ3_checkIndex_8e157 9 = .ok (.aload_n 2, 1) := by decide +kernel
theorem dJ3_checkIndex_8e157_10 : decode cJ3_checkIndex_8e157 10 = .ok (.iload_n 0, 1) := by decide +kernel
theorem dJ3_checkIndex_8e157_11 : decode cJ3_checkIndex_8e157 11 = .ok (.iload_n 1, 1) := by decide +kernel
theorem dJ3_checkIndex_8e157_12 : decode cJ3_checkIndex_8e157 12 = .ok (.invokestatic 95, 3) := by decide +kernel
theorem dJ3_checkIndex_8e157_15 : decode cJ3_checkIndex_8e157 15 = .ok (.athrow, 1) := by decide +kernel
theorem dJ3_checkIndex_8e157_16 : decode cJ3_checkIndex_8e157 16 = .ok (.iload_n 0, 1) := by decide +kernel
theorem dJ3_checkIndex_8e157_17 : decode cJ3_checkIndex_8e157 17 = .ok (.ireturn, 1) := by decide +kernel
end
section
theorem dL_law_0 : decode cL_law 0 = .ok (.new 7, 3) := by decide +kernel
theorem dL_law_3 : decode cL_law 3 = .ok (.dup, 1) := by decide +kernel
theorem dL_law_4 : decode cL_law 4 = .ok (.invokespecial 9, 3) := by decide +kernel
theorem dL_law_7 : decode cL_law 7 = .ok (.astore_n 1, 1) := by decide +kernel
theorem dL_law_8 : decode cL_law 8 = .ok (.new 10, 3) := by decide +kernel
theorem dL_law_11 : decode cL_law 11 = .ok (.dup, 1) := by decide +kernel
theorem dL_law_12 : decode cL_law 12 = .ok (.invokespecial 12, 3) := by decide +kernel
theorem dL_law_15 : decode cL_law 15 = .ok (.astore_n 2, 1) := by decide +kernel
theorem dL_law_16 : decode cL_law 16 = .ok (.iconst 0, 1) := by decide +kernel
theorem dL_law_17 : decode cL_law 17 = .ok (.istore_n 3, 1) := by decide +kernel
theorem dL_law_18 : decode cL_law 18 = .ok (.iload_n 3, 1) := by decide +kernel
theorem dL_law_19 : decode cL_law 19 = .ok (.aload_n 0, 1) := by decide +kernel
theorem dL_law_20 : decode cL_law 20 = .ok (.arraylength, 1) := by decide +kernel
theorem dL_law_21 : decode cL_law 21 = .ok (.iconst 4, 1) := by decide +kernel
theorem dL_law_22 : decode cL_law 22 = .ok (.isub, 1) := by decide +kernel
theorem dL_law_23 : decode cL_law 23 = .ok (.if_icmp .gt 839, 3) := by decide +kernel
theorem dL_law_26 : decode cL_law 26 = .ok (.aload_n 0, 1) := by decide +kernel
theorem dL_law_27 : decode cL_law 27 = .ok (.iload_n 3, 1) := by decide +kernel
theorem dL_law_28 : decode cL_law 28 = .ok (.iaload, 1) := by decide +kernel
theorem dL_law_29 : decode cL_law 29 = .ok (.bipush 31, 2) := by decide +kernel
theorem dL_law_31 : decode cL_law 31 = .ok (.iand, 1) := by decide +kernel
theorem dL_law_32 : decode cL_law 32 = .ok (.tableswitch 824 0 25 #[120, 183, 196, 209, 222, 245, 278, 311, 344, 367, 416, 439, 472, 485, 518, 541, 564, 587, 620, 643, 676, 699, 722, 755, 778, 801], 120) := by decide +kernel
theorem dL_law_152 : decode cL_law 152 = .ok (.aload_n 1, 1) := by decide +kernel
theorem dL_law_153 : decode cL_law 153 = .ok (.aload_n 0, 1) := by decide +kernel
theorem dL_law_154 : decode cL_law 154 = .ok (.iload_n 3, 1) := by decide +kernel
theorem dL_law_155 : decode cL_law 155 = .ok (.iconst 1, 1) := by decide +kernel
theorem dL_law_156 : decode cL_law 156 = .ok (.iadd, 1) := by decide +kernel
theorem dL_law_157 : decode cL_law 157 = .ok (.iaload, 1) := by decide +kernel
theorem dL_law_158 : decode cL_law 158 = .ok (.aload_n 0, 1) := by decide +kernel
theorem dL_law_159 : decode cL_law 159 = .ok (.iload_n 3, 1) := by decide +kernel
theorem dL_law_160 : decode cL_law 160 = .ok (.iconst 2, 1) := by decide +kernel
theorem dL_law_161 : decode cL_law 161 = .ok (.iadd, 1) := by decide +kernel
theorem dL_law_162 : decode cL_law 162 = .ok (.iaload, 1) := by decide +kernel
theorem dL_law_163 : decode cL_law 163 = .ok (.i2l, 1) := by decide +kernel
theorem dL_law_164 : decode cL_law 164 = .ok (.bipush 32, 2) := by decide +kernel
theorem dL_law_166 : decode cL_law 166 = .ok (.lshl, 1) := by decide +kernel
theorem dL_law_167 : decode cL_law 167 = .ok (.aload_n 0, 1) := by decide +kernel
theorem dL_law_168 : decode cL_law 168 = .ok (.iload_n 3, 1) := by decide +kernel
theorem dL_law_169 : decode cL_law 169 = .ok (.iconst 3, 1) := by decide +kernel
theorem dL_law_170 : decode cL_law 170 = .ok (.iadd, 1) := by decide +kernel
theorem dL_law_171 : decode cL_law 171 = .ok (.iaload, 1) := by decide +kernel
theorem dL_law_172 : decode cL_law 172 = .ok (.i2l, 1) := by decide +kernel
theorem dL_law_173 : decode cL_law 173 = .ok (.ldc2_w 13, 3) := by decide +kernel
theorem dL_law_176 : decode cL_law 176 = .ok (.land, 1) := by decide +kernel
theorem dL_law_177 : decode cL_law 177 = .ok (.lor, 1) := by decide +kernel
theorem dL_law_178 : decode cL_law 178 = .ok (.invokevirtual 15, 3) := by decide +kernel
theorem dL_law_181 : decode cL_law 181 = .ok (.aload_n 2, 1) := by decide +kernel
theorem dL_law_182 : decode cL_law 182 = .ok (.aload_n 0, 1) := by decide +kernel
theorem dL_law_183 : decode cL_law 183 = .ok (.iload_n 3, 1) := by decide +kernel
theorem dL_law_184 : decode cL_law 184 = .ok (.iconst 1, 1) := by decide +kernel
theorem dL_law_185 : decode cL_law 185 = .ok (.iadd, 1) := by decide +kernel
theorem dL_law_186 : decode cL_law 186 = .ok (.iaload, 1) := by decide +kernel
theorem dL_law_187 : decode cL_law 187 = .ok (.aload_n 0, 1) := by decide +kernel
theorem dL_law_188 : decode cL_law 188 = .ok (.iload_n 3, 1) := by decide +kernel
theorem dL_law_189 : decode cL_law 189 = .ok (.iconst 2, 1) := by decide +kernel
theorem dL_law_190 : decode cL_law 190 = .ok (.iadd, 1) := by decide +kernel
theorem dL_law_191 : decode cL_law 191 = .ok (.iaload, 1) := by decide +kernel
theorem dL_law_192 : decode cL_law 192 = .ok (.i2l, 1) := by decide +kernel
theorem dL_law_193 : decode cL_law 193 = .ok (.bipush 32, 2) := by decide +kernel
theorem dL_law_195 : decode cL_law 195 = .ok (.lshl, 1) := by decide +kernel
theorem dL_law_196 : decode cL_law 196 = .ok (.aload_n 0, 1) := by decide +kernel
theorem dL_law_197 : decode cL_law 197 = .ok (.iload_n 3, 1) := by decide +kernel
theorem dL_law_198 : decode cL_law 198 = .ok (.iconst 3, 1) := by decide +kernel
theorem dL_law_199 : decode cL_law 199 = .ok (.iadd, 1) := by decide +kernel
theorem dL_law_200 : decode cL_law 200 = .ok (.iaload, 1) := by decide +kernel
theorem dL_law_201 : decode cL_law 201 = .ok (.i2l, 1) := by decide +kernel
theorem dL_law_202 : decode cL_law 202 = .ok (.ldc2_w 13, 3) := by decide +kernel
theorem dL_law_205 : decode cL_law 205 = .ok (.land, 1) := by decide +kernel
theorem dL_law_206 : decode cL_law 206 = .ok (.lor, 1) := by decide +kernel
theorem dL_law_207 : decode cL_law 207 = .ok (.invokevirtual 19, 3) := by decide +kernel
theorem dL_law_210 : decode cL_law 210 = .ok (.if_icmp .eq 646, 3) := by decide +kernel
theorem dL_law_213 : decode cL_law 213 = .ok (.iconst 0, 1) := by decide +kernel
theorem dL_law_214 : decode cL_law 214 = .ok (.ireturn, 1) := by decide +kernel
theorem dL_law_215 : decode cL_law 215 = .ok (.aload_n 1, 1) := by decide +kernel
theorem dL_law_216 : decode cL_law 216 = .ok (.invokevirtual 20, 3) := by decide +kernel
theorem dL_law_219 : decode cL_law 219 = .ok (.aload_n 2, 1) := by decide +kernel
theorem dL_law_220 : decode cL_law 220 = .ok (.invokevirtual 24, 3) := by decide +kernel
theorem dL_law_223 : decode cL_law 223 = .ok (.if_icmp .eq 633, 3) := by decide +kernel
theorem dL_law_226 : decode cL_law 226 = .ok (.iconst 0, 1) := by decide +kernel
theorem dL_law_227 : decode cL_law 227 = .ok (.ireturn, 1) := by decide +kernel
theorem dL_law_228 : decode cL_law 228 = .ok (.aload_n 1, 1) := by decide +kernel
theorem dL_law_229 : decode cL_law 229 = .ok (.invokevirtual 25, 3) := by decide +kernel
theorem dL_law_232 : decode cL_law 232 = .ok (.aload_n 2, 1) := by decide +kernel
theorem dL_law_233 : decode cL_law 233 = .ok (.invokevirtual 28, 3) := by decide +kernel
theorem dL_law_236 : decode cL_law 236 = .ok (.if_icmp .eq 620, 3) := by decide +kernel
theorem dL_law_239 : decode cL_law 239 = .ok (.iconst 0, 1) := by decide +kernel
theorem dL_law_240 : decode cL_law 240 = .ok (.ireturn, 1) := by decide +kernel
theorem dL_law_241 : decode cL_law 241 = .ok (.aload_n 1, 1) := by decide +kernel
theorem dL_law_242 : decode cL_law 242 = .ok (.invokevirtual 29, 3) := by decide +kernel
theorem dL_law_245 : decode cL_law 245 = .ok (.aload_n 2, 1) := by decide +kernel
theorem dL_law_246 : decode cL_law 246 = .ok (.invokevirtual 32, 3) := by decide +kernel
theorem dL_law_249 : decode cL_law 249 = .ok (.if_icmp .eq 607, 3) := by decide +kernel
theorem dL_law_252 : decode cL_law 252 = .ok (.iconst 0, 1) := by decide +kernel
theorem dL_law_253 : decode cL_law 253 = .ok (.ireturn, 1) := by decide +kernel
theorem dL_law_254 : decode cL_law 254 = .ok (.aload_n 1, 1) := by decide +kernel
theorem dL_law_255 : decode cL_law 255 = .ok (.aload_n 0, 1) := by decide +kernel
theorem dL_law_256 : decode cL_law 256 = .ok (.iload_n 3, 1) := by decide +kernel
theorem dL_law_257 : decode cL_law 257 = .ok (.iconst 1, 1) := by decide +kernel
theorem dL_law_258 : decode cL_law 258 = .ok (.iadd, 1) := by decide +kernel
theorem dL_law_259 : decode cL_law 259 = .ok (.iaload, 1) := by decide +kernel
theorem dL_law_260 : decode cL_law 260 = .ok (.invokevirtual 33, 3) := by decide +kernel
theorem dL_law_263 : decode cL_law 263 = .ok (.aload_n 2, 1) := by decide +kernel
theorem dL_law_264 : decode cL_law 264 = .ok (.aload_n 0, 1) := by decide +kernel
theorem dL_law_265 : decode cL_law 265 = .ok (.iload_n 3, 1) := by decide +kernel
theorem dL_law_266 : decode cL_law 266 = .ok (.iconst 1, 1) := by decide +kernel
theorem dL_law_267 : decode cL_law 267 = .ok (.iadd, 1) := by decide +kernel
theorem dL_law_268 : decode cL_law 268 = .ok (.iaload, 1) := by decide +kernel
theorem dL_law_269 : decode cL_law 269 = .ok (.invokevirtual 37, 3) := by decide +kernel
theorem dL_law_272 : decode cL_law 272 = .ok (.if_icmp .eq 584, 3) := by decide +kernel
theorem dL_law_275 : decode cL_law 275 = .ok (.iconst 0, 1) := by decide +kernel
theorem dL_law_276 : decode cL_law 276 = .ok (.ireturn, 1) := by decide +kernel
theorem dL_law_277 : decode cL_law 277 = .ok (.aload_n 1, 1) := by decide +kernel
theorem dL_law_278 : decode cL_law 278 = .ok (.aload_n 0, 1) := by decide +kernel
theorem dL_law_279 : decode cL_law 279 = .ok (.iload_n 3, 1) := by decide +kernel
theorem dL_law_280 : decode cL_law 280 = .ok (.iconst 1, 1) := by decide +kernel
theorem dL_law_281 : decode cL_law 281 = .ok (.iadd, 1) := by decide +kernel
theorem dL_law_282 : decode cL_law 282 = .ok (.iaload, 1) := by decide +kernel
theorem dL_law_283 : decode cL_law 283 = .ok (.aload_n 0, 1) := by decide +kernel
theorem dL_law_284 : decode cL_law 284 = .ok (.iload_n 3, 1) := by decide +kernel
theorem dL_law_285 : decode cL_law 285 = .ok (.iconst 2, 1) := by decide +kernel
theorem dL_law_286 : decode cL_law 286 = .ok (.iadd, 1) := by decide +kernel
theorem dL_law_287 : decode cL_law 287 = .ok (.iaload, 1) := by decide +kernel
theorem dL_law_288 : decode cL_law 288 = .ok (.invokevirtual 38, 3) := by decide +kernel
theorem dL_law_291 : decode cL_law 291 = .ok (.aload_n 2, 1) := by decide +kernel
theorem dL_law_292 : decode cL_law 292 = .ok (.aload_n 0, 1) := by decide +kernel
theorem dL_law_293 : decode cL_law 293 = .ok (.iload_n 3, 1) := by decide +kernel
theorem dL_law_294 : decode cL_law 294 = .ok (.iconst 1, 1) := by decide +kernel
theorem dL_law_295 : decode cL_law 295 = .ok (.iadd, 1) := by decide +kernel
theorem dL_law_296 : decode cL_law 296 = .ok (.iaload, 1) := by decide +kernel
theorem dL_law_297 : decode cL_law 297 = .ok (.aload_n 0, 1) := by decide +kernel
theorem dL_law_298 : decode cL_law 298 = .ok (.iload_n 3, 1) := by decide +kernel
theorem dL_law_299 : decode cL_law 299 = .ok (.iconst 2, 1) := by decide +kernel
theorem dL_law_300 : decode cL_law 300 = .ok (.iadd, 1) := by decide +kernel
theorem dL_law_301 : decode cL_law 301 = .ok (.iaload, 1) := by decide +kernel
theorem dL_law_302 : decode cL_law 302 = .ok (.invokevirtual 42, 3) := by decide +kernel
theorem dL_law_305 : decode cL_law 305 = .ok (.if_icmp .eq 551, 3) := by decide +kernel
theorem dL_law_308 : decode cL_law 308 = .ok (.iconst 0, 1) := by decide +kernel
theorem dL_law_309 : decode cL_law 309 = .ok (.ireturn, 1) := by decide +kernel
theorem dL_law_310 : decode cL_law 310 = .ok (.aload_n 1, 1) := by decide +kernel
theorem dL_law_311 : decode cL_law 311 = .ok (.aload_n 0, 1) := by decide +kernel
theorem dL_law_312 : decode cL_law 312 = .ok (.iload_n 3, 1) := by decide +kernel
theorem dL_law_313 : decode cL_law 313 = .ok (.iconst 1, 1) := by decide +kernel
theorem dL_law_314 : decode cL_law 314 = .ok (.iadd, 1) := by decide +kernel
theorem dL_law_315 : decode cL_law 315 = .ok (.iaload, 1) := by decide +kernel
theorem dL_law_316 : decode cL_law 316 = .ok (.aload_n 0, 1) := by decide +kernel
theorem dL_law_317 : decode cL_law 317 = .ok (.iload_n 3, 1) := by decide +kernel
theorem dL_law_318 : decode cL_law 318 = .ok (.iconst 2, 1) := by decide +kernel
theorem dL_law_319 : decode cL_law 319 = .ok (.iadd, 1) := by decide +kernel
theorem dL_law_320 : decode cL_law 320 = .ok (.iaload, 1) := by decide +kernel
theorem dL_law_321 : decode cL_law 321 = .ok (.invokevirtual 43, 3) := by decide +kernel
theorem dL_law_324 : decode cL_law 324 = .ok (.aload_n 2, 1) := by decide +kernel
theorem dL_law_325 : decode cL_law 325 = .ok (.aload_n 0, 1) := by decide +kernel
theorem dL_law_326 : decode cL_law 326 = .ok (.iload_n 3, 1) := by decide +kernel
theorem dL_law_327 : decode cL_law 327 = .ok (.iconst 1, 1) := by decide +kernel
theorem dL_law_328 : decode cL_law 328 = .ok (.iadd, 1) := by decide +kernel
theorem dL_law_329 : decode cL_law 329 = .ok (.iaload, 1) := by decide +kernel
theorem dL_law_330 : decode cL_law 330 = .ok (.aload_n 0, 1) := by decide +kernel
theorem dL_law_331 : decode cL_law 331 = .ok (.iload_n 3, 1) := by decide +kernel
theorem dL_law_332 : decode cL_law 332 = .ok (.iconst 2, 1) := by decide +kernel
theorem dL_law_333 : decode cL_law 333 = .ok (.iadd, 1) := by decide +kernel
theorem dL_law_334 : decode cL_law 334 = .ok (.iaload, 1) := by decide +kernel
theorem dL_law_335 : decode cL_law 335 = .ok (.invokevirtual 46, 3) := by decide +kernel
theorem dL_law_338 : decode cL_law 338 = .ok (.if_icmp .eq 518, 3) := by decide +kernel
theorem dL_law_341 : decode cL_law 341 = .ok (.iconst 0, 1) := by decide +kernel
theorem dL_law_342 : decode cL_law 342 = .ok (.ireturn, 1) := by decide +kernel
theorem dL_law_343 : decode cL_law 343 = .ok (.aload_n 1, 1) := by decide +kernel
theorem dL_law_344 : decode cL_law 344 = .ok (.aload_n 0, 1) := by decide +kernel
theorem dL_law_345 : decode cL_law 345 = .ok (.iload_n 3, 1) := by decide +kernel
theorem dL_law_346 : decode cL_law 346 = .ok (.iconst 1, 1) := by decide +kernel
theorem dL_law_347 : decode cL_law 347 = .ok (.iadd, 1) := by decide +kernel
theorem dL_law_348 : decode cL_law 348 = .ok (.iaload, 1) := by decide +kernel
theorem dL_law_349 : decode cL_law 349 = .ok (.aload_n 0, 1) := by decide +kernel
theorem dL_law_350 : decode cL_law 350 = .ok (.iload_n 3, 1) := by decide +kernel
theorem dL_law_351 : decode cL_law 351 = .ok (.iconst 2, 1) := by decide +kernel
theorem dL_law_352 : decode cL_law 352 = .ok (.iadd, 1) := by decide +kernel
theorem dL_law_353 : decode cL_law 353 = .ok (.iaload, 1) := by decide +kernel
theorem dL_law_354 : decode cL_law 354 = .ok (.invokevirtual 47, 3) := by decide +kernel
theorem dL_law_357 : decode cL_law 357 = .ok (.aload_n 2, 1) := by decide +kernel
theorem dL_law_358 : decode cL_law 358 = .ok (.aload_n 0, 1) := by decide +kernel
theorem dL_law_359 : decode cL_law 359 = .ok (.iload_n 3, 1) := by decide +kernel
theorem dL_law_360 : decode cL_law 360 = .ok (.iconst 1, 1) := by decide +kernel
theorem dL_law_361 : decode cL_law 361 = .ok (.iadd, 1) := by decide +kernel
theorem dL_law_362 : decode cL_law 362 = .ok (.iaload, 1) := by decide +kernel
theorem dL_law_363 : decode cL_law 363 = .ok (.aload_n 0, 1) := by decide +kernel
theorem dL_law_364 : decode cL_law 364 = .ok (.iload_n 3, 1) := by decide +kernel
theorem dL_law_365 : decode cL_law 365 = .ok (.iconst 2, 1) := by decide +kernel
theorem dL_law_366 : decode cL_law 366 = .ok (.iadd, 1) := by decide +kernel
theorem dL_law_367 : decode cL_law 367 = .ok (.iaload, 1) := by decide +kernel
theorem dL_law_368 : decode cL_law 368 = .ok (.invokevirtual 50, 3) := by decide +kernel
theorem dL_law_371 : decode cL_law 371 = .ok (.if_icmp .eq 485, 3) := by decide +kernel
theorem dL_law_374 : decode cL_law 374 = .ok (.iconst 0, 1) := by decide +kernel
theorem dL_law_375 : decode cL_law 375 = .ok (.ireturn, 1) := by decide +kernel
theorem dL_law_376 : decode cL_law 376 = .ok (.aload_n 1, 1) := by decide +kernel
theorem dL_law_377 : decode cL_law 377 = .ok (.aload_n 0, 1) := by decide +kernel
theorem dL_law_378 : decode cL_law 378 = .ok (.iload_n 3, 1) := by decide +kernel
theorem dL_law_379 : decode cL_law 379 = .ok (.iconst 1, 1) := by decide +kernel
theorem dL_law_380 : decode cL_law 380 = .ok (.iadd, 1) := by decide +kernel
theorem dL_law_381 : decode cL_law 381 = .ok (.iaload, 1) := by decide +kernel
theorem dL_law_382 : decode cL_law 382 = .ok (.invokevirtual 51, 3) := by decide +kernel
theorem dL_law_385 : decode cL_law 385 = .ok (.aload_n 2, 1) := by decide +kernel
theorem dL_law_386 : decode cL_law 386 = .ok (.aload_n 0, 1) := by decide +kernel
theorem dL_law_387 : decode cL_law 387 = .ok (.iload_n 3, 1) := by decide +kernel
theorem dL_law_388 : decode cL_law 388 = .ok (.iconst 1, 1) := by decide +kernel
theorem dL_law_389 : decode cL_law 389 = .ok (.iadd, 1) := by decide +kernel
theorem dL_law_390 : decode cL_law 390 = .ok (.iaload, 1) := by decide +kernel
theorem dL_law_391 : decode cL_law 391 = .ok (.invokevirtual 54, 3) := by decide +kernel
theorem dL_law_394 : decode cL_law 394 = .ok (.if_icmp .eq 462, 3) := by decide +kernel
theorem dL_law_397 : decode cL_law 397 = .ok (.iconst 0, 1) := by decide +kernel
theorem dL_law_398 : decode cL_law 398 = .ok (.ireturn, 1) := by decide +kernel
theorem dL_law_399 : decode cL_law 399 = .ok (.aload_n 1, 1) := by decide +kernel
theorem dL_law_400 : decode cL_law 400 = .ok (.aload_n 0, 1) := by decide +kernel
theorem dL_law_401 : decode cL_law 401 = .ok (.iload_n 3, 1) := by decide +kernel
theorem dL_law_402 : decode cL_law 402 = .ok (.iconst 1, 1) := by decide +kernel
theorem dL_law_403 : decode cL_law 403 = .ok (.iadd, 1) := by decide +kernel
theorem dL_law_404 : decode cL_law 404 = .ok (.iaload, 1) := by decide +kernel
theorem dL_law_405 : decode cL_law 405 = .ok (.aload_n 0, 1) := by decide +kernel
theorem dL_law_406 : decode cL_law 406 = .ok (.iload_n 3, 1) := by decide +kernel
theorem dL_law_407 : decode cL_law 407 = .ok (.iconst 2, 1) := by decide +kernel
theorem dL_law_408 : decode cL_law 408 = .ok (.iadd, 1) := by decide +kernel
theorem dL_law_409 : decode cL_law 409 = .ok (.iaload, 1) := by decide +kernel
theorem dL_law_410 : decode cL_law 410 = .ok (.ifCond .eq 7, 3) := by decide +kernel
theorem dL_law_413 : decode cL_law 413 = .ok (.iconst 1, 1) := by decide +kernel
theorem dL_law_414 : decode cL_law 414 = .ok (.goto 4, 3) := by decide +kernel
theorem dL_law_417 : decode cL_law 417 = .ok (.iconst 0, 1) := by decide +kernel
theorem dL_law_418 : decode cL_law 418 = .ok (.invokevirtual 55, 3) := by decide +kernel
theorem dL_law_421 : decode cL_law 421 = .ok (.aload_n 2, 1) := by decide +kernel
theorem dL_law_422 : decode cL_law 422 = .ok (.aload_n 0, 1) := by decide +kernel
theorem dL_law_423 : decode cL_law 423 = .ok (.iload_n 3, 1) := by decide +kernel
theorem dL_law_424 : decode cL_law 424 = .ok (.iconst 1, 1) := by decide +kernel
theorem dL_law_425 : decode cL_law 425 = .ok (.iadd, 1) := by decide +kernel
theorem dL_law_426 : decode cL_law 426 = .ok (.iaload, 1) := by decide +kernel
theorem dL_law_427 : decode cL_law 427 = .ok (.aload_n 0, 1) := by decide +kernel
theorem dL_law_428 : decode cL_law 428 = .ok (.iload_n 3, 1) := by decide +kernel
theorem dL_law_429 : decode cL_law 429 = .ok (.iconst 2, 1) := by decide +kernel
theorem dL_law_430 : decode cL_law 430 = .ok (.iadd, 1) := by decide +kernel
theorem dL_law_431 : decode cL_law 431 = .ok (.iaload, 1) := by decide +kernel
theorem dL_law_432 : decode cL_law 432 = .ok (.ifCond .eq 7, 3) := by decide +kernel
theorem dL_law_435 : decode cL_law 435 = .ok (.iconst 1, 1) := by decide +kernel
theorem dL_law_436 : decode cL_law 436 = .ok (.goto 4, 3) := by decide +kernel
theorem dL_law_439 : decode cL_law 439 = .ok (.iconst 0, 1) := by decide +kernel
theorem dL_law_440 : decode cL_law 440 = .ok (.invokevirtual 59, 3) := by decide +kernel
theorem dL_law_443 : decode cL_law 443 = .ok (.if_icmp .eq 413, 3) := by decide +kernel
theorem dL_law_446 : decode cL_law 446 = .ok (.iconst 0, 1) := by decide +kernel
theorem dL_law_447 : decode cL_law 447 = .ok (.ireturn, 1) := by decide +kernel
theorem dL_law_448 : decode cL_law 448 = .ok (.aload_n 1, 1) := by decide +kernel
theorem dL_law_449 : decode cL_law 449 = .ok (.aload_n 0, 1) := by decide +kernel
theorem dL_law_450 : decode cL_law 450 = .ok (.iload_n 3, 1) := by decide +kernel
theorem dL_law_451 : decode cL_law 451 = .ok (.iconst 1, 1) := by decide +kernel
theorem dL_law_452 : decode cL_law 452 = .ok (.iadd, 1) := by decide +kernel
theorem dL_law_453 : decode cL_law 453 = .ok (.iaload, 1) := by decide +kernel
theorem dL_law_454 : decode cL_law 454 = .ok (.invokevirtual 60, 3) := by decide +kernel
theorem dL_law_457 : decode cL_law 457 = .ok (.aload_n 2, 1) := by decide +kernel
theorem dL_law_458 : decode cL_law 458 = .ok (.aload_n 0, 1) := by decide +kernel
theorem dL_law_459 : decode cL_law 459 = .ok (.iload_n 3, 1) := by decide +kernel
theorem dL_law_460 : decode cL_law 460 = .ok (.iconst 1, 1) := by decide +kernel
theorem dL_law_461 : decode cL_law 461 = .ok (.iadd, 1) := by decide +kernel
theorem dL_law_462 : decode cL_law 462 = .ok (.iaload, 1) := by decide +kernel
theorem dL_law_463 : decode cL_law 463 = .ok (.invokevirtual 63, 3) := by decide +kernel
theorem dL_law_466 : decode cL_law 466 = .ok (.if_icmp .eq 390, 3) := by decide +kernel
theorem dL_law_469 : decode cL_law 469 = .ok (.iconst 0, 1) := by decide +kernel
theorem dL_law_470 : decode cL_law 470 = .ok (.ireturn, 1) := by decide +kernel
theorem dL_law_471 : decode cL_law 471 = .ok (.aload_n 1, 1) := by decide +kernel
theorem dL_law_472 : decode cL_law 472 = .ok (.aload_n 0, 1) := by decide +kernel
theorem dL_law_473 : decode cL_law 473 = .ok (.iload_n 3, 1) := by decide +kernel
theorem dL_law_474 : decode cL_law 474 = .ok (.iconst 1, 1) := by decide +kernel
theorem dL_law_475 : decode cL_law 475 = .ok (.iadd, 1) := by decide +kernel
theorem dL_law_476 : decode cL_law 476 = .ok (.iaload, 1) := by decide +kernel
theorem dL_law_477 : decode cL_law 477 = .ok (.aload_n 0, 1) := by decide +kernel
theorem dL_law_478 : decode cL_law 478 = .ok (.iload_n 3, 1) := by decide +kernel
theorem dL_law_479 : decode cL_law 479 = .ok (.iconst 2, 1) := by decide +kernel
theorem dL_law_480 : decode cL_law 480 = .ok (.iadd, 1) := by decide +kernel
theorem dL_law_481 : decode cL_law 481 = .ok (.iaload, 1) := by decide +kernel
theorem dL_law_482 : decode cL_law 482 = .ok (.invokevirtual 64, 3) := by decide +kernel
theorem dL_law_485 : decode cL_law 485 = .ok (.aload_n 2, 1) := by decide +kernel
theorem dL_law_486 : decode cL_law 486 = .ok (.aload_n 0, 1) := by decide +kernel
theorem dL_law_487 : decode cL_law 487 = .ok (.iload_n 3, 1) := by decide +kernel
theorem dL_law_488 : decode cL_law 488 = .ok (.iconst 1, 1) := by decide +kernel
theorem dL_law_489 : decode cL_law 489 = .ok (.iadd, 1) := by decide +kernel
theorem dL_law_490 : decode cL_law 490 = .ok (.iaload, 1) := by decide +kernel
theorem dL_law_491 : decode cL_law 491 = .ok (.aload_n 0, 1) := by decide +kernel
theorem dL_law_492 : decode cL_law 492 = .ok (.iload_n 3, 1) := by decide +kernel
theorem dL_law_493 : decode cL_law 493 = .ok (.iconst 2, 1) := by decide +kernel
theorem dL_law_494 : decode cL_law 494 = .ok (.iadd, 1) := by decide +kernel
theorem dL_law_495 : decode cL_law 495 = .ok (.iaload, 1) := by decide +kernel
theorem dL_law_496 : decode cL_law 496 = .ok (.invokevirtual 67, 3) := by decide +kernel
theorem dL_law_499 : decode cL_law 499 = .ok (.if_icmp .eq 357, 3) := by decide +kernel
theorem dL_law_502 : decode cL_law 502 = .ok (.iconst 0, 1) := by decide +kernel
theorem dL_law_503 : decode cL_law 503 = .ok (.ireturn, 1) := by decide +kernel
theorem dL_law_504 : decode cL_law 504 = .ok (.aload_n 1, 1) := by decide +kernel
theorem dL_law_505 : decode cL_law 505 = .ok (.invokevirtual 68, 3) := by decide +kernel
theorem dL_law_508 : decode cL_law 508 = .ok (.aload_n 2, 1) := by decide +kernel
theorem dL_law_509 : decode cL_law 509 = .ok (.invokevirtual 71, 3) := by decide +kernel
theorem dL_law_512 : decode cL_law 512 = .ok (.if_icmp .eq 344, 3) := by decide +kernel
theorem dL_law_515 : decode cL_law 515 = .ok (.iconst 0, 1) := by decide +kernel
theorem dL_law_516 : decode cL_law 516 = .ok (.ireturn, 1) := by decide +kernel
theorem dL_law_517 : decode cL_law 517 = .ok (.aload_n 1, 1) := by decide +kernel
theorem dL_law_518 : decode cL_law 518 = .ok (.aload_n 0, 1) := by decide +kernel
theorem dL_law_519 : decode cL_law 519 = .ok (.iload_n 3, 1) := by decide +kernel
theorem dL_law_520 : decode cL_law 520 = .ok (.iconst 1, 1) := by decide +kernel
theorem dL_law_521 : decode cL_law 521 = .ok (.iadd, 1) := by decide +kernel
theorem dL_law_522 : decode cL_law 522 = .ok (.iaload, 1) := by decide +kernel
theorem dL_law_523 : decode cL_law 523 = .ok (.aload_n 0, 1) := by decide +kernel
theorem dL_law_524 : decode cL_law 524 = .ok (.iload_n 3, 1) := by decide +kernel
theorem dL_law_525 : decode cL_law 525 = .ok (.iconst 2, 1) := by decide +kernel
theorem dL_law_526 : decode cL_law 526 = .ok (.iadd, 1) := by decide +kernel
theorem dL_law_527 : decode cL_law 527 = .ok (.iaload, 1) := by decide +kernel
theorem dL_law_528 : decode cL_law 528 = .ok (.invokevirtual 72, 3) := by decide +kernel
theorem dL_law_531 : decode cL_law 531 = .ok (.aload_n 2, 1) := by decide +kernel
theorem dL_law_532 : decode cL_law 532 = .ok (.aload_n 0, 1) := by decide +kernel
theorem dL_law_533 : decode cL_law 533 = .ok (.iload_n 3, 1) := by decide +kernel
theorem dL_law_534 : decode cL_law 534 = .ok (.iconst 1, 1) := by decide +kernel
theorem dL_law_535 : decode cL_law 535 = .ok (.iadd, 1) := by decide +kernel
theorem dL_law_536 : decode cL_law 536 = .ok (.iaload, 1) := by decide +kernel
theorem dL_law_537 : decode cL_law 537 = .ok (.aload_n 0, 1) := by decide +kernel
theorem dL_law_538 : decode cL_law 538 = .ok (.iload_n 3, 1) := by decide +kernel
theorem dL_law_539 : decode cL_law 539 = .ok (.iconst 2, 1) := by decide +kernel
theorem dL_law_540 : decode cL_law 540 = .ok (.iadd, 1) := by decide +kernel
theorem dL_law_541 : decode cL_law 541 = .ok (.iaload, 1) := by decide +kernel
theorem dL_law_542 : decode cL_law 542 = .ok (.invokevirtual 75, 3) := by decide +kernel
theorem dL_law_545 : decode cL_law 545 = .ok (.if_icmp .eq 311, 3) := by decide +kernel
theorem dL_law_548 : decode cL_law 548 = .ok (.iconst 0, 1) := by decide +kernel
theorem dL_law_549 : decode cL_law 549 = .ok (.ireturn, 1) := by decide +kernel
theorem dL_law_550 : decode cL_law 550 = .ok (.aload_n 1, 1) := by decide +kernel
theorem dL_law_551 : decode cL_law 551 = .ok (.aload_n 0, 1) := by decide +kernel
theorem dL_law_552 : decode cL_law 552 = .ok (.iload_n 3, 1) := by decide +kernel
theorem dL_law_553 : decode cL_law 553 = .ok (.iconst 1, 1) := by decide +kernel
theorem dL_law_554 : decode cL_law 554 = .ok (.iadd, 1) := by decide +kernel
theorem dL_law_555 : decode cL_law 555 = .ok (.iaload, 1) := by decide +kernel
theorem dL_law_556 : decode cL_law 556 = .ok (.invokevirtual 76, 3) := by decide +kernel
theorem dL_law_559 : decode cL_law 559 = .ok (.aload_n 2, 1) := by decide +kernel
theorem dL_law_560 : decode cL_law 560 = .ok (.aload_n 0, 1) := by decide +kernel
theorem dL_law_561 : decode cL_law 561 = .ok (.iload_n 3, 1) := by decide +kernel
theorem dL_law_562 : decode cL_law 562 = .ok (.iconst 1, 1) := by decide +kernel
theorem dL_law_563 : decode cL_law 563 = .ok (.iadd, 1) := by decide +kernel
theorem dL_law_564 : decode cL_law 564 = .ok (.iaload, 1) := by decide +kernel
theorem dL_law_565 : decode cL_law 565 = .ok (.invokevirtual 79, 3) := by decide +kernel
theorem dL_law_568 : decode cL_law 568 = .ok (.if_icmp .eq 288, 3) := by decide +kernel
theorem dL_law_571 : decode cL_law 571 = .ok (.iconst 0, 1) := by decide +kernel
theorem dL_law_572 : decode cL_law 572 = .ok (.ireturn, 1) := by decide +kernel
theorem dL_law_573 : decode cL_law 573 = .ok (.aload_n 1, 1) := by decide +kernel
theorem dL_law_574 : decode cL_law 574 = .ok (.aload_n 0, 1) := by decide +kernel
theorem dL_law_575 : decode cL_law 575 = .ok (.iload_n 3, 1) := by decide +kernel
theorem dL_law_576 : decode cL_law 576 = .ok (.iconst 1, 1) := by decide +kernel
theorem dL_law_577 : decode cL_law 577 = .ok (.iadd, 1) := by decide +kernel
theorem dL_law_578 : decode cL_law 578 = .ok (.iaload, 1) := by decide +kernel
theorem dL_law_579 : decode cL_law 579 = .ok (.invokevirtual 80, 3) := by decide +kernel
theorem dL_law_582 : decode cL_law 582 = .ok (.aload_n 2, 1) := by decide +kernel
theorem dL_law_583 : decode cL_law 583 = .ok (.aload_n 0, 1) := by decide +kernel
theorem dL_law_584 : decode cL_law 584 = .ok (.iload_n 3, 1) := by decide +kernel
theorem dL_law_585 : decode cL_law 585 = .ok (.iconst 1, 1) := by decide +kernel
theorem dL_law_586 : decode cL_law 586 = .ok (.iadd, 1) := by decide +kernel
theorem dL_law_587 : decode cL_law 587 = .ok (.iaload, 1) := by decide +kernel
theorem dL_law_588 : decode cL_law 588 = .ok (.invokevirtual 83, 3) := by decide +kernel
theorem dL_law_591 : decode cL_law 591 = .ok (.if_icmp .eq 265, 3) := by decide +kernel
theorem dL_law_594 : decode cL_law 594 = .ok (.iconst 0, 1) := by decide +kernel
theorem dL_law_595 : decode cL_law 595 = .ok (.ireturn, 1) := by decide +kernel
theorem dL_law_596 : decode cL_law 596 = .ok (.aload_n 1, 1) := by decide +kernel
theorem dL_law_597 : decode cL_law 597 = .ok (.aload_n 0, 1) := by decide +kernel
theorem dL_law_598 : decode cL_law 598 = .ok (.iload_n 3, 1) := by decide +kernel
theorem dL_law_599 : decode cL_law 599 = .ok (.iconst 1, 1) := by decide +kernel
theorem dL_law_600 : decode cL_law 600 = .ok (.iadd, 1) := by decide +kernel
theorem dL_law_601 : decode cL_law 601 = .ok (.iaload, 1) := by decide +kernel
theorem dL_law_602 : decode cL_law 602 = .ok (.invokevirtual 84, 3) := by decide +kernel
theorem dL_law_605 : decode cL_law 605 = .ok (.aload_n 2, 1) := by decide +kernel
theorem dL_law_606 : decode cL_law 606 = .ok (.aload_n 0, 1) := by decide +kernel
theorem dL_law_607 : decode cL_law 607 = .ok (.iload_n 3, 1) := by decide +kernel
theorem dL_law_608 : decode cL_law 608 = .ok (.iconst 1, 1) := by decide +kernel
theorem dL_law_609 : decode cL_law 609 = .ok (.iadd, 1) := by decide +kernel
theorem dL_law_610 : decode cL_law 610 = .ok (.iaload, 1) := by decide +kernel
theorem dL_law_611 : decode cL_law 611 = .ok (.invokevirtual 87, 3) := by decide +kernel
theorem dL_law_614 : decode cL_law 614 = .ok (.if_icmp .eq 242, 3) := by decide +kernel
theorem dL_law_617 : decode cL_law 617 = .ok (.iconst 0, 1) := by decide +kernel
theorem dL_law_618 : decode cL_law 618 = .ok (.ireturn, 1) := by decide +kernel
theorem dL_law_619 : decode cL_law 619 = .ok (.aload_n 1, 1) := by decide +kernel
theorem dL_law_620 : decode cL_law 620 = .ok (.aload_n 0, 1) := by decide +kernel
theorem dL_law_621 : decode cL_law 621 = .ok (.iload_n 3, 1) := by decide +kernel
theorem dL_law_622 : decode cL_law 622 = .ok (.iconst 1, 1) := by decide +kernel
theorem dL_law_623 : decode cL_law 623 = .ok (.iadd, 1) := by decide +kernel
theorem dL_law_624 : decode cL_law 624 = .ok (.iaload, 1) := by decide +kernel
theorem dL_law_625 : decode cL_law 625 = .ok (.aload_n 0, 1) := by decide +kernel
theorem dL_law_626 : decode cL_law 626 = .ok (.iload_n 3, 1) := by decide +kernel
theorem dL_law_627 : decode cL_law 627 = .ok (.iconst 2, 1) := by decide +kernel
theorem dL_law_628 : decode cL_law 628 = .ok (.iadd, 1) := by decide +kernel
theorem dL_law_629 : decode cL_law 629 = .ok (.iaload, 1) := by decide +kernel
theorem dL_law_630 : decode cL_law 630 = .ok (.invokevirtual 88, 3) := by decide +kernel
theorem dL_law_633 : decode cL_law 633 = .ok (.aload_n 2, 1) := by decide +kernel
theorem dL_law_634 : decode cL_law 634 = .ok (.aload_n 0, 1) := by decide +kernel
theorem dL_law_635 : decode cL_law 635 = .ok (.iload_n 3, 1) := by decide +kernel
theorem dL_law_636 : decode cL_law 636 = .ok (.iconst 1, 1) := by decide +kernel
theorem dL_law_637 : decode cL_law 637 = .ok (.iadd, 1) := by decide +kernel
theorem dL_law_638 : decode cL_law 638 = .ok (.iaload, 1) := by decide +kernel
theorem dL_law_639 : decode cL_law 639 = .ok (.aload_n 0, 1) := by decide +kernel
theorem dL_law_640 : decode cL_law 640 = .ok (.iload_n 3, 1) := by decide +kernel
theorem dL_law_641 : decode cL_law 641 = .ok (.iconst 2, 1) := by decide +kernel
theorem dL_law_642 : decode cL_law 642 = .ok (.iadd, 1) := by decide +kernel
theorem dL_law_643 : decode cL_law 643 = .ok (.iaload, 1) := by decide +kernel
theorem dL_law_644 : decode cL_law 644 = .ok (.invokevirtual 91, 3) := by decide +kernel
theorem dL_law_647 : decode cL_law 647 = .ok (.if_icmp .eq 209, 3) := by decide +kernel
theorem dL_law_650 : decode cL_law 650 = .ok (.iconst 0, 1) := by decide +kernel
theorem dL_law_651 : decode cL_law 651 = .ok (.ireturn, 1) := by decide +kernel
theorem dL_law_652 : decode cL_law 652 = .ok (.aload_n 1, 1) := by decide +kernel
theorem dL_law_653 : decode cL_law 653 = .ok (.aload_n 0, 1) := by decide +kernel
theorem dL_law_654 : decode cL_law 654 = .ok (.iload_n 3, 1) := by decide +kernel
theorem dL_law_655 : decode cL_law 655 = .ok (.iconst 1, 1) := by decide +kernel
theorem dL_law_656 : decode cL_law 656 = .ok (.iadd, 1) := by decide +kernel
theorem dL_law_657 : decode cL_law 657 = .ok (.iaload, 1) := by decide +kernel
theorem dL_law_658 : decode cL_law 658 = .ok (.invokevirtual 92, 3) := by decide +kernel
theorem dL_law_661 : decode cL_law 661 = .ok (.aload_n 2, 1) := by decide +kernel
theorem dL_law_662 : decode cL_law 662 = .ok (.aload_n 0, 1) := by decide +kernel
theorem dL_law_663 : decode cL_law 663 = .ok (.iload_n 3, 1) := by decide +kernel
theorem dL_law_664 : decode cL_law 664 = .ok (.iconst 1, 1) := by decide +kernel
theorem dL_law_665 : decode cL_law 665 = .ok (.iadd, 1) := by decide +kernel
theorem dL_law_666 : decode cL_law 666 = .ok (.iaload, 1) := by decide +kernel
theorem dL_law_667 : decode cL_law 667 = .ok (.invokevirtual 95, 3) := by decide +kernel
theorem dL_law_670 : decode cL_law 670 = .ok (.if_icmp .eq 186, 3) := by decide +kernel
theorem dL_law_673 : decode cL_law 673 = .ok (.iconst 0, 1) := by decide +kernel
theorem dL_law_674 : decode cL_law 674 = .ok (.ireturn, 1) := by decide +kernel
theorem dL_law_675 : decode cL_law 675 = .ok (.aload_n 1, 1) := by decide +kernel
theorem dL_law_676 : decode cL_law 676 = .ok (.aload_n 0, 1) := by decide +kernel
theorem dL_law_677 : decode cL_law 677 = .ok (.iload_n 3, 1) := by decide +kernel
theorem dL_law_678 : decode cL_law 678 = .ok (.iconst 1, 1) := by decide +kernel
theorem dL_law_679 : decode cL_law 679 = .ok (.iadd, 1) := by decide +kernel
theorem dL_law_680 : decode cL_law 680 = .ok (.iaload, 1) := by decide +kernel
theorem dL_law_681 : decode cL_law 681 = .ok (.aload_n 0, 1) := by decide +kernel
theorem dL_law_682 : decode cL_law 682 = .ok (.iload_n 3, 1) := by decide +kernel
theorem dL_law_683 : decode cL_law 683 = .ok (.iconst 2, 1) := by decide +kernel
theorem dL_law_684 : decode cL_law 684 = .ok (.iadd, 1) := by decide +kernel
theorem dL_law_685 : decode cL_law 685 = .ok (.iaload, 1) := by decide +kernel
theorem dL_law_686 : decode cL_law 686 = .ok (.invokevirtual 96, 3) := by decide +kernel
theorem dL_law_689 : decode cL_law 689 = .ok (.aload_n 2, 1) := by decide +kernel
theorem dL_law_690 : decode cL_law 690 = .ok (.aload_n 0, 1) := by decide +kernel
theorem dL_law_691 : decode cL_law 691 = .ok (.iload_n 3, 1) := by decide +kernel
theorem dL_law_692 : decode cL_law 692 = .ok (.iconst 1, 1) := by decide +kernel
theorem dL_law_693 : decode cL_law 693 = .ok (.iadd, 1) := by decide +kernel
theorem dL_law_694 : decode cL_law 694 = .ok (.iaload, 1) := by decide +kernel
theorem dL_law_695 : decode cL_law 695 = .ok (.aload_n 0, 1) := by decide +kernel
theorem dL_law_696 : decode cL_law 696 = .ok (.iload_n 3, 1) := by decide +kernel
theorem dL_law_697 : decode cL_law 697 = .ok (.iconst 2, 1) := by decide +kernel
theorem dL_law_698 : decode cL_law 698 = .ok (.iadd, 1) := by decide +kernel
theorem dL_law_699 : decode cL_law 699 = .ok (.iaload, 1) := by decide +kernel
theorem dL_law_700 : decode cL_law 700 = .ok (.invokevirtual 99, 3) := by decide +kernel
theorem dL_law_703 : decode cL_law 703 = .ok (.if_icmp .eq 153, 3) := by decide +kernel
theorem dL_law_706 : decode cL_law 706 = .ok (.iconst 0, 1) := by decide +kernel
theorem dL_law_707 : decode cL_law 707 = .ok (.ireturn, 1) := by decide +kernel
theorem dL_law_708 : decode cL_law 708 = .ok (.aload_n 1, 1) := by decide +kernel
theorem dL_law_709 : decode cL_law 709 = .ok (.aload_n 0, 1) := by decide +kernel
theorem dL_law_710 : decode cL_law 710 = .ok (.iload_n 3, 1) := by decide +kernel
theorem dL_law_711 : decode cL_law 711 = .ok (.iconst 1, 1) := by decide +kernel
theorem dL_law_712 : decode cL_law 712 = .ok (.iadd, 1) := by decide +kernel
theorem dL_law_713 : decode cL_law 713 = .ok (.iaload, 1) := by decide +kernel
theorem dL_law_714 : decode cL_law 714 = .ok (.invokevirtual 100, 3) := by decide +kernel
theorem dL_law_717 : decode cL_law 717 = .ok (.aload_n 2, 1) := by decide +kernel
theorem dL_law_718 : decode cL_law 718 = .ok (.aload_n 0, 1) := by decide +kernel
theorem dL_law_719 : decode cL_law 719 = .ok (.iload_n 3, 1) := by decide +kernel
theorem dL_law_720 : decode cL_law 720 = .ok (.iconst 1, 1) := by decide +kernel
theorem dL_law_721 : decode cL_law 721 = .ok (.iadd, 1) := by decide +kernel
theorem dL_law_722 : decode cL_law 722 = .ok (.iaload, 1) := by decide +kernel
theorem dL_law_723 : decode cL_law 723 = .ok (.invokevirtual 103, 3) := by decide +kernel
theorem dL_law_726 : decode cL_law 726 = .ok (.if_icmp .eq 130, 3) := by decide +kernel
theorem dL_law_729 : decode cL_law 729 = .ok (.iconst 0, 1) := by decide +kernel
theorem dL_law_730 : decode cL_law 730 = .ok (.ireturn, 1) := by decide +kernel
theorem dL_law_731 : decode cL_law 731 = .ok (.aload_n 1, 1) := by decide +kernel
theorem dL_law_732 : decode cL_law 732 = .ok (.aload_n 0, 1) := by decide +kernel
theorem dL_law_733 : decode cL_law 733 = .ok (.iload_n 3, 1) := by decide +kernel
theorem dL_law_734 : decode cL_law 734 = .ok (.iconst 1, 1) := by decide +kernel
theorem dL_law_735 : decode cL_law 735 = .ok (.iadd, 1) := by decide +kernel
theorem dL_law_736 : decode cL_law 736 = .ok (.iaload, 1) := by decide +kernel
theorem dL_law_737 : decode cL_law 737 = .ok (.invokevirtual 104, 3) := by decide +kernel
theorem dL_law_740 : decode cL_law 740 = .ok (.aload_n 2, 1) := by decide +kernel
theorem dL_law_741 : decode cL_law 741 = .ok (.aload_n 0, 1) := by decide +kernel
theorem dL_law_742 : decode cL_law 742 = .ok (.iload_n 3, 1) := by decide +kernel
theorem dL_law_743 : decode cL_law 743 = .ok (.iconst 1, 1) := by decide +kernel
theorem dL_law_744 : decode cL_law 744 = .ok (.iadd, 1) := by decide +kernel
theorem dL_law_745 : decode cL_law 745 = .ok (.iaload, 1) := by decide +kernel
theorem dL_law_746 : decode cL_law 746 = .ok (.invokevirtual 107, 3) := by decide +kernel
theorem dL_law_749 : decode cL_law 749 = .ok (.if_icmp .eq 107, 3) := by decide +kernel
theorem dL_law_752 : decode cL_law 752 = .ok (.iconst 0, 1) := by decide +kernel
theorem dL_law_753 : decode cL_law 753 = .ok (.ireturn, 1) := by decide +kernel
theorem dL_law_754 : decode cL_law 754 = .ok (.aload_n 1, 1) := by decide +kernel
theorem dL_law_755 : decode cL_law 755 = .ok (.aload_n 0, 1) := by decide +kernel
theorem dL_law_756 : decode cL_law 756 = .ok (.iload_n 3, 1) := by decide +kernel
theorem dL_law_757 : decode cL_law 757 = .ok (.iconst 1, 1) := by decide +kernel
theorem dL_law_758 : decode cL_law 758 = .ok (.iadd, 1) := by decide +kernel
theorem dL_law_759 : decode cL_law 759 = .ok (.iaload, 1) := by decide +kernel
theorem dL_law_760 : decode cL_law 760 = .ok (.aload_n 0, 1) := by decide +kernel
theorem dL_law_761 : decode cL_law 761 = .ok (.iload_n 3, 1) := by decide +kernel
theorem dL_law_762 : decode cL_law 762 = .ok (.iconst 2, 1) := by decide +kernel
theorem dL_law_763 : decode cL_law 763 = .ok (.iadd, 1) := by decide +kernel
theorem dL_law_764 : decode cL_law 764 = .ok (.iaload, 1) := by decide +kernel
theorem dL_law_765 : decode cL_law 765 = .ok (.invokevirtual 108, 3) := by decide +kernel
theorem dL_law_768 : decode cL_law 768 = .ok (.aload_n 2, 1) := by decide +kernel
theorem dL_law_769 : decode cL_law 769 = .ok (.aload_n 0, 1) := by decide +kernel
theorem dL_law_770 : decode cL_law 770 = .ok (.iload_n 3, 1) := by decide +kernel
theorem dL_law_771 : decode cL_law 771 = .ok (.iconst 1, 1) := by decide +kernel
theorem dL_law_772 : decode cL_law 772 = .ok (.iadd, 1) := by decide +kernel
theorem dL_law_773 : decode cL_law 773 = .ok (.iaload, 1) := by decide +kernel
theorem dL_law_774 : decode cL_law 774 = .ok (.aload_n 0, 1) := by decide +kernel
theorem dL_law_775 : decode cL_law 775 = .ok (.iload_n 3, 1) := by decide +kernel
theorem dL_law_776 : decode cL_law 776 = .ok (.iconst 2, 1) := by decide +kernel
theorem dL_law_777 : decode cL_law 777 = .ok (.iadd, 1) := by decide +kernel
theorem dL_law_778 : decode cL_law 778 = .ok (.iaload, 1) := by decide +kernel
theorem dL_law_779 : decode cL_law 779 = .ok (.invokevirtual 111, 3) := by decide +kernel
theorem dL_law_782 : decode cL_law 782 = .ok (.if_icmp .eq 74, 3) := by decide +kernel
theorem dL_law_785 : decode cL_law 785 = .ok (.iconst 0, 1) := by decide +kernel
theorem dL_law_786 : decode cL_law 786 = .ok (.ireturn, 1) := by decide +kernel
theorem dL_law_787 : decode cL_law 787 = .ok (.aload_n 1, 1) := by decide +kernel
theorem dL_law_788 : decode cL_law 788 = .ok (.aload_n 0, 1) := by decide +kernel
theorem dL_law_789 : decode cL_law 789 = .ok (.iload_n 3, 1) := by decide +kernel
theorem dL_law_790 : decode cL_law 790 = .ok (.iconst 1, 1) := by decide +kernel
theorem dL_law_791 : decode cL_law 791 = .ok (.iadd, 1) := by decide +kernel
theorem dL_law_792 : decode cL_law 792 = .ok (.iaload, 1) := by decide +kernel
theorem dL_law_793 : decode cL_law 793 = .ok (.invokevirtual 112, 3) := by decide +kernel
theorem dL_law_796 : decode cL_law 796 = .ok (.aload_n 2, 1) := by decide +kernel
theorem dL_law_797 : decode cL_law 797 = .ok (.aload_n 0, 1) := by decide +kernel
theorem dL_law_798 : decode cL_law 798 = .ok (.iload_n 3, 1) := by decide +kernel
theorem dL_law_799 : decode cL_law 799 = .ok (.iconst 1, 1) := by decide +kernel
theorem dL_law_800 : decode cL_law 800 = .ok (.iadd, 1) := by decide +kernel
theorem dL_law_801 : decode cL_law 801 = .ok (.iaload, 1) := by decide +kernel
theorem dL_law_802 : decode cL_law 802 = .ok (.invokevirtual 115, 3) := by decide +kernel
theorem dL_law_805 : decode cL_law 805 = .ok (.if_icmp .eq 51, 3) := by decide +kernel
theorem dL_law_808 : decode cL_law 808 = .ok (.iconst 0, 1) := by decide +kernel
theorem dL_law_809 : decode cL_law 809 = .ok (.ireturn, 1) := by decide +kernel
theorem dL_law_810 : decode cL_law 810 = .ok (.aload_n 1, 1) := by decide +kernel
theorem dL_law_811 : decode cL_law 811 = .ok (.aload_n 0, 1) := by decide +kernel
theorem dL_law_812 : decode cL_law 812 = .ok (.iload_n 3, 1) := by decide +kernel
theorem dL_law_813 : decode cL_law 813 = .ok (.iconst 1, 1) := by decide +kernel
theorem dL_law_814 : decode cL_law 814 = .ok (.iadd, 1) := by decide +kernel
theorem dL_law_815 : decode cL_law 815 = .ok (.iaload, 1) := by decide +kernel
theorem dL_law_816 : decode cL_law 816 = .ok (.invokevirtual 116, 3) := by decide +kernel
theorem dL_law_819 : decode cL_law 819 = .ok (.aload_n 2, 1) := by decide +kernel
theorem dL_law_820 : decode cL_law 820 = .ok (.aload_n 0, 1) := by decide +kernel
theorem dL_law_821 : decode cL_law 821 = .ok (.iload_n 3, 1) := by decide +kernel
theorem dL_law_822 : decode cL_law 822 = .ok (.iconst 1, 1) := by decide +kernel
theorem dL_law_823 : decode cL_law 823 = .ok (.iadd, 1) := by decide +kernel
theorem dL_law_824 : decode cL_law 824 = .ok (.iaload, 1) := by decide +kernel
theorem dL_law_825 : decode cL_law 825 = .ok (.invokevirtual 119, 3) := by decide +kernel
theorem dL_law_828 : decode cL_law 828 = .ok (.if_icmp .eq 28, 3) := by decide +kernel
theorem dL_law_831 : decode cL_law 831 = .ok (.iconst 0, 1) := by decide +kernel
theorem dL_law_832 : decode cL_law 832 = .ok (.ireturn, 1) := by decide +kernel
theorem dL_law_833 : decode cL_law 833 = .ok (.aload_n 1, 1) := by decide +kernel
theorem dL_law_834 : decode cL_law 834 = .ok (.aload_n 0, 1) := by decide +kernel
theorem dL_law_835 : decode cL_law 835 = .ok (.iload_n 3, 1) := by decide +kernel
theorem dL_law_836 : decode cL_law 836 = .ok (.iconst 1, 1) := by decide +kernel
theorem dL_law_837 : decode cL_law 837 = .ok (.iadd, 1) := by decide +kernel
theorem dL_law_838 : decode cL_law 838 = .ok (.iaload, 1) := by decide +kernel
theorem dL_law_839 : decode cL_law 839 = .ok (.invokevirtual 120, 3) := by decide +kernel
theorem dL_law_842 : decode cL_law 842 = .ok (.aload_n 2, 1) := by decide +kernel
theorem dL_law_843 : decode cL_law 843 = .ok (.aload_n 0, 1) := by decide +kernel
theorem dL_law_844 : decode cL_law 844 = .ok (.iload_n 3, 1) := by decide +kernel
theorem dL_law_845 : decode cL_law 845 = .ok (.iconst 1, 1) := by decide +kernel
theorem dL_law_846 : decode cL_law 846 = .ok (.iadd, 1) := by decide +kernel
theorem dL_law_847 : decode cL_law 847 = .ok (.iaload, 1) := by decide +kernel
theorem dL_law_848 : decode cL_law 848 = .ok (.invokevirtual 123, 3) := by decide +kernel
theorem dL_law_851 : decode cL_law 851 = .ok (.if_icmp .eq 5, 3) := by decide +kernel
theorem dL_law_854 : decode cL_law 854 = .ok (.iconst 0, 1) := by decide +kernel
theorem dL_law_855 : decode cL_law 855 = .ok (.ireturn, 1) := by decide +kernel
theorem dL_law_856 : decode cL_law 856 = .ok (.iinc 3 4, 3) := by decide +kernel
theorem dL_law_859 : decode cL_law 859 = .ok (.goto (-841), 3) := by decide +kernel
theorem dL_law_862 : decode cL_law 862 = .ok (.iconst 1, 1) := by decide +kernel
theorem dL_law_863 : decode cL_law 863 = .ok (.ireturn, 1) := by decide +kernel
end
section
section ZA
/-- the words that every method is given -/
def zT : List Cond := lw_tbl.filter goodWord
theorem zT_in {w : Cond} (h : w ∈ lw_tbl) (g : goodWord w = true) : w ∈ zT := List.mem_filter.mpr ⟨h, g⟩
theorem zT_of {w : Cond} (h : w ∈ zT) : w ∈ lw_tbl ∧ goodWord w = true := List.mem_filter.mp h
abbrev classes : List vw_C := [(RX0, TX0, 2), (RX1, TX1, 12), (RX2, TX2, 8), (RX3, TX3, 5), (RX4, TX4, 5), (RX5, TX5, 5), (RX6, TX6, 10), (RX7, TX7, 2), (RX8, TX8, 2), (RX9, TX9, 3), (RX10, TX10, 12), (RX11, TX11, 53)]
def zt (tA : Nat → ClassId) : List (ClassId × FieldType) := [(tA 0, .int), (tA 1, .long), (tA 2, .boolean), (tA 3, .byte), (tA 4, .object "HalvedProof$State"), (tA 5, .array .int), (tA 6, .array .long)]
def zlet {α β : Type} (e : α) (k : α → β) : β := k e
def zjn {α β : Type} (k : α) (f : α → β) : β := f k
def zgd {α : Type} (i : Int32) (n : Nat) (o : Option α) : Option α := if 0 ≤ i.toInt ∧ i.toInt < (n : Int) then o else none
def zgz {α : Type} (v : Int32) (o : Option α) : Option α := if v = 0 ∨ v = 1 then o else none
def znz {α : Type} (y : Int32) (o : Option α) : Option α := if y = 0 then none else o
def znl {α : Type} (y : Int64) (o : Option α) : Option α := if y = 0 then none else o
def zup {α : Type} (f : Nat → α) (k : Nat) (x : α) : Nat → α := fun j => bif Nat.beq j k then x else f j
abbrev Ob : Type := (Nat → Int32) × (Nat → Int64) × (Nat → Nat → Int32) × (Nat → Nat → Int64)
def gi (o : Ob) (k : Nat) : Int32 := o.1 k
def gl (o : Ob) (k : Nat) : Int64 := o.2.1 k
def ga (o : Ob) (k : Nat) : Nat → Int32 := o.2.2.1 k
def gb (o : Ob) (k : Nat) : Nat → Int64 := o.2.2.2 k
def si (o : Ob) (k : Nat) (x : Int32) : Ob := (zup o.1 k x, o.2.1, o.2.2.1, o.2.2.2)
def sl (o : Ob) (k : Nat) (x : Int64) : Ob := (o.1, zup o.2.1 k x, o.2.2.1, o.2.2.2)
def sa (o : Ob) (k : Nat) (f : Nat → Int32) : Ob := (o.1, o.2.1, zup o.2.2.1 k f, o.2.2.2)
def sb (o : Ob) (k : Nat) (f : Nat → Int64) : Ob := (o.1, o.2.1, o.2.2.1, zup o.2.2.2 k f)
def zpr : Nat → List (Option Value) → List (Nat × Value)
  | _, [] => []
  | i, none :: r => zpr (i + 1) r
  | i, some v :: r => (i, v) :: zpr (i + 1) r
theorem zpr_mem : ∀ (lv : List (Option Value)) (k : Nat) (q : Nat × Value), q ∈ zpr k lv ↔ ∃ j, q.1 = k + j ∧ lv[j]? = some (some q.2) := by
  intro lv
  induction lv with
  | nil => intro k q; simp [zpr]
  | cons a r ih =>
    intro k q
    have shift : (∃ j, q.1 = k + 1 + j ∧ r[j]? = some (some q.2)) ↔ (∃ j, q.1 = k + (j + 1) ∧ (a :: r)[j + 1]? = some (some q.2)) := by
      constructor
      · rintro ⟨j, h1, h2⟩; exact ⟨j, by omega, by simpa using h2⟩
      · rintro ⟨j, h1, h2⟩; exact ⟨j, by omega, by simpa using h2⟩
    cases a with
    | none =>
      show q ∈ zpr (k + 1) r ↔ _
      rw [ih (k + 1) q, shift]
      constructor
      · rintro ⟨j, h1, h2⟩; exact ⟨j + 1, h1, h2⟩
      · rintro ⟨j, h1, h2⟩
        cases j with
        | zero => simp at h2
        | succ j => exact ⟨j, h1, h2⟩
    | some v =>
      show q ∈ (k, v) :: zpr (k + 1) r ↔ _
      rw [List.mem_cons, ih (k + 1) q, shift]
      constructor
      · rintro (h | ⟨j, h1, h2⟩)
        · exact ⟨0, by rw [h]; rfl, by rw [h]; rfl⟩
        · exact ⟨j + 1, h1, h2⟩
      · rintro ⟨j, h1, h2⟩
        cases j with
        | zero =>
          left
          have h3 : v = q.2 := by simpa using h2
          rw [h3]
          exact Prod.ext (by simpa using h1) rfl
        | succ j => exact Or.inr ⟨j, h1, h2⟩
def zh (ls : Array Slot) (lv : List (Option Value)) : Prop := ls.size = lv.length ∧ lv_wf ls ∧ ∀ (i : Nat) (v : Value), lv[i]? = some (some v) → ls[i]? = some (.val v)
theorem zh.has {ls : Array Slot} {lv : List (Option Value)} (h : zh ls lv) : lv_has ls lv.length (zpr 0 lv) :=
  ⟨h.1, h.2.1, fun q hq => by
    obtain ⟨j, h1, h2⟩ := (zpr_mem lv 0 q).mp hq
    have : q.1 = j := by omega
    rw [this]
    exact h.2.2 j q.2 h2⟩
def zc2 (lv : List (Option Value)) : Nat → Bool
  | 0 => true
  | j + 1 => match lv[j]? with
    | some (some w) => w.category != 2
    | _ => true
theorem zc2_at {lv : List (Option Value)} {i j : Nat} {w : Value} (h : zc2 lv i = true) (hj : j + 1 = i) (hw : lv[j]? = some (some w)) : ¬ w.category = 2 := by
  subst hj
  simp only [zc2, hw] at h
  simpa using h
theorem zh_st1 {ls' : Array Slot} {lv : List (Option Value)} {i : Nat} {v : Value} (h : lv_has ls' lv.length ((i, v) :: (zpr 0 lv).filter (fun q => !(q.1 == i) && !(q.1 + 1 == i && q.2.category == 2)))) (hc : zc2 lv i = true) : zh ls' (lv.set i (some v)) := by
  refine ⟨by rw [List.length_set]; exact h.1, h.2.1, fun j w hj => ?_⟩
  by_cases e : j = i
  · subst e
    have hl : j < lv.length := by
      have := (List.getElem?_eq_some_iff.mp hj).1
      rwa [List.length_set] at this
    rw [List.getElem?_set_self hl] at hj
    have : v = w := by simpa using hj
    rw [← this]
    exact h.2.2 (j, v) List.mem_cons_self
  · rw [List.getElem?_set_ne (Ne.symm e)] at hj
    refine h.2.2 (j, w) (List.mem_cons_of_mem _ (List.mem_filter.mpr ⟨(zpr_mem lv 0 (j, w)).mpr ⟨j, by omega, hj⟩, ?_⟩))
    have h2 : ¬ (j + 1 = i ∧ w.category = 2) := fun q => zc2_at hc q.1 hj q.2
    simp only [Bool.and_eq_true, Bool.not_eq_true', beq_eq_false_iff_ne, Bool.and_eq_false_iff, ne_eq]
    refine ⟨e, ?_⟩
    by_cases q : j + 1 = i
    · exact Or.inr (fun z => h2 ⟨q, z⟩)
    · exact Or.inl q
theorem zh_st2 {ls' : Array Slot} {lv : List (Option Value)} {i : Nat} {v : Value} (h : lv_has ls' lv.length ((i, v) :: (zpr 0 lv).filter (fun q => !(q.1 == i) && (!(q.1 == i + 1) && !(q.1 + 1 == i && q.2.category == 2))))) (hc : zc2 lv i = true) : zh ls' ((lv.set i (some v)).set (i + 1) none) := by
  refine ⟨by rw [List.length_set, List.length_set]; exact h.1, h.2.1, fun j w hj => ?_⟩
  by_cases e1 : j = i + 1
  · subst e1
    have hl : i + 1 < (lv.set i (some v)).length := by
      have := (List.getElem?_eq_some_iff.mp hj).1
      rwa [List.length_set] at this
    rw [List.getElem?_set_self hl] at hj
    simp at hj
  · rw [List.getElem?_set_ne (Ne.symm e1)] at hj
    by_cases e : j = i
    · subst e
      have hl : j < lv.length := by
        have := (List.getElem?_eq_some_iff.mp hj).1
        rwa [List.length_set] at this
      rw [List.getElem?_set_self hl] at hj
      have : v = w := by simpa using hj
      rw [← this]
      exact h.2.2 (j, v) List.mem_cons_self
    · rw [List.getElem?_set_ne (Ne.symm e)] at hj
      refine h.2.2 (j, w) (List.mem_cons_of_mem _ (List.mem_filter.mpr ⟨(zpr_mem lv 0 (j, w)).mpr ⟨j, by omega, hj⟩, ?_⟩))
      have h2 : ¬ (j + 1 = i ∧ w.category = 2) := fun q => zc2_at hc q.1 hj q.2
      simp only [Bool.and_eq_true, Bool.not_eq_true', beq_eq_false_iff_ne, Bool.and_eq_false_iff, ne_eq]
      refine ⟨e, e1, ?_⟩
      by_cases q : j + 1 = i
      · exact Or.inr (fun z => h2 ⟨q, z⟩)
      · exact Or.inl q
/-- fewer known places -/
def zle : List (Option Value) → List (Option Value) → Prop
  | [], [] => True
  | none :: a, _ :: b => zle a b
  | some v :: a, some w :: b => v = w ∧ zle a b
  | _, _ => False
theorem zle_at : ∀ (a b : List (Option Value)), zle a b → a.length = b.length ∧ ∀ (i : Nat) (v : Value), a[i]? = some (some v) → b[i]? = some (some v) := by
  intro a
  induction a with
  | nil =>
    intro b h
    cases b with
    | nil => exact ⟨rfl, fun i v h => h⟩
    | cons w b => exact absurd h (by simp [zle])
  | cons x a ih =>
    intro b h
    cases b with
    | nil => exact absurd h (by cases x <;> simp [zle])
    | cons w b =>
      cases x with
      | none =>
        obtain ⟨h1, h2⟩ := ih b h
        refine ⟨by simp [h1], fun i v hi => ?_⟩
        cases i with
        | zero => simp at hi
        | succ i => simpa using h2 i v (by simpa using hi)
      | some v0 =>
        cases w with
        | none => exact absurd h (by simp [zle])
        | some w0 =>
          obtain ⟨e, h⟩ := h
          obtain ⟨h1, h2⟩ := ih b h
          refine ⟨by simp [h1], fun i v hi => ?_⟩
          cases i with
          | zero => rw [← e]; simpa using hi
          | succ i => simpa using h2 i v (by simpa using hi)
theorem zh.le {ls : Array Slot} {a b : List (Option Value)} (h : zh ls b) (hl : zle a b) : zh ls a := by
  obtain ⟨h1, h2⟩ := zle_at a b hl
  exact ⟨by rw [h1]; exact h.1, h.2.1, fun i v hi => h.2.2 i v (h2 i v hi)⟩
/-- the locals at a method's start -/
def zent : List Value → Nat → List (Option Value)
  | [], n => List.replicate n none
  | v :: vs, n => match v.category with
    | 2 => some v :: none :: zent vs (n - 2)
    | _ => some v :: zent vs (n - 1)
theorem zent_at : ∀ (vs : List Value) (n k i : Nat) (v : Value), (zent vs n)[i]? = some (some v) → (k + i, v) ∈ lv_args k vs := by
  intro vs
  induction vs with
  | nil =>
    intro n k i v h
    have h1 := List.mem_of_getElem? h
    have h2 := List.eq_of_mem_replicate h1
    cases h2
  | cons w vs ih =>
    intro n k i v h
    rcases lv_cat w with hc | hc
    · have e : zent (w :: vs) n = some w :: zent vs (n - 1) := by simp [zent, hc]
      rw [e] at h
      show _ ∈ (k, w) :: lv_args _ vs
      rw [if_neg (by omega)]
      cases i with
      | zero =>
        have : w = v := by simpa using h
        rw [this]
        exact List.mem_cons_self
      | succ i =>
        have := ih (n - 1) (k + 1) i v (by simpa using h)
        rw [show k + 1 + i = k + (i + 1) by omega] at this
        exact List.mem_cons_of_mem _ this
    · have e : zent (w :: vs) n = some w :: none :: zent vs (n - 2) := by simp [zent, hc]
      rw [e] at h
      show _ ∈ (k, w) :: lv_args _ vs
      rw [if_pos hc]
      cases i with
      | zero =>
        have : w = v := by simpa using h
        rw [this]
        exact List.mem_cons_self
      | succ i =>
        cases i with
        | zero => simp at h
        | succ i =>
          have := ih (n - 2) (k + 2) i v (by simpa using h)
          rw [show k + 2 + i = k + (i + 1 + 1) by omega] at this
          exact List.mem_cons_of_mem _ this
theorem zent_len : ∀ (vs : List Value) (n : Nat), (lg_sl vs).length ≤ n → (zent vs n).length = n := by
  intro vs
  induction vs with
  | nil => intro n h; simp [zent]
  | cons w vs ih =>
    intro n h
    rcases lv_cat w with hc | hc
    · have e : zent (w :: vs) n = some w :: zent vs (n - 1) := by simp [zent, hc]
      have h1 : (lg_sl (w :: vs)).length = (lg_sl vs).length + 1 := by simp [lg_sl, hc]
      rw [e, List.length_cons, ih (n - 1) (by omega)]
      omega
    · have e : zent (w :: vs) n = some w :: none :: zent vs (n - 2) := by simp [zent, hc]
      have h1 : (lg_sl (w :: vs)).length = (lg_sl vs).length + 2 := by simp [lg_sl, hc]
      rw [e, List.length_cons, List.length_cons, ih (n - 2) (by omega)]
      omega
theorem zh_ent {vs : List Value} {n : Nat} (h : (lg_sl vs).length ≤ n) : zh ((lg_sl vs ++ List.replicate (n - (lg_sl vs).length) Slot.unset).toArray) (zent vs n) := by
  have hl := lv_entry vs (n := n) h
  refine ⟨by rw [zent_len vs n h]; exact hl.1, hl.2.1, fun i v hi => ?_⟩
  have := hl.2.2 (0 + i, v) (zent_at vs n 0 i v hi)
  rwa [Nat.zero_add] at this
end ZA
section ZG
/-- the class's String constants: owner, place in its pool, text, bytes -/
def zcon : List (String × Nat × String × List Int32) := [("HalvedProof$Court", 47, "suit", [115, 117, 105, 116]), ("HalvedProof$Court", 57, "witness", [119, 105, 116, 110, 101, 115, 115]), ("HalvedProof$Court", 73, "on", [111, 110]), ("HalvedProof$Court", 94, "sworn", [115, 119, 111, 114, 110]), ("HalvedProof$Court", 96, "copied", [99, 111, 112, 105, 101, 100]), ("HalvedProof$Court", 98, "shown", [115, 104, 111, 119, 110]), ("HalvedProof$Court", 100, "against", [97, 103, 97, 105, 110, 115, 116]), ("HalvedProof$Laws", 38, "from", [102, 114, 111, 109])]
def zbyt : List (List Int32) := zcon.map fun c => c.2.2.2
def zlen : List Nat := zbyt.map List.length
def zG (tA : Nat → ClassId) (A : Nat → Prop) (U : State) (H : Heap) : Prop :=
  vk_S 8 zlen zbyt (fun i => tA (100 + i)) (fun i => tA (200 + i)) A U H ∧ va_Z "java/lang/String" "COMPACT_STRINGS" "Z" (.int 1) A U H ∧ va_Zq "jdk/internal/util/Preconditions" "SIOOBE_FORMATTER" "Ljava/util/function/BiFunction;" A U H ∧ ∀ (i : Nat) (c : String × Nat × String × List Int32), zcon[i]? = some c → vk_R c.1 c.2.1 c.2.2.1 (tA (100 + i)) U
theorem zG.to {tA : Nat → ClassId} {A B : Nat → Prop} {s U : State} {H0 H : Heap} {locs : List Loc} (h : zG tA A s H0) (hS : va_S A H0 H locs) (hB : ∀ q, B q → A q) (hW : s.WarmedH U.vm) : zG tA B U H :=
  ⟨((h.1.kept hS.2.1).narrow hB).moved hW.alike, ((h.2.1.kept hS.2.1).narrow hB).moved hW.alike, ((h.2.2.1.kept hS.2.1).narrow hB).moved hW.alike, fun i c hc => (h.2.2.2 i c hc).warm hW⟩
theorem zG.call {tA : Nat → ClassId} {A : Nat → Prop} {U : State} {H : Heap} {g : JFrame} {mk : MethodId} {a : Array Value} (h : zG tA A U H) : zG tA A (U.calling g mk a) H :=
  ⟨vk_S.moved (u := U) (U := U.calling g mk a) (Vm.Alike.refl U.vm) h.1, va_Z.moved (u := U) (U := U.calling g mk a) (Vm.Alike.refl U.vm) h.2.1, va_Zq.moved (u := U) (U := U.calling g mk a) (Vm.Alike.refl U.vm) h.2.2.1, fun i c hc => vk_R.same (u := U) (U := U.calling g mk a) rfl (h.2.2.2 i c hc)⟩
end ZG
section ZB
abbrev ZX : Type := (Program × Launch × Env × Room × State × MethodId) × (Array Value × List Frame × Method × Code × (State → Prop)) × (Nat → Prop) × Heap
abbrev zp (X : ZX) : Program := X.1.1
abbrev zl (X : ZX) : Launch := X.1.2.1
abbrev ze (X : ZX) : Env := X.1.2.2.1
abbrev zR (X : ZX) : Room := X.1.2.2.2.1
abbrev zs (X : ZX) : State := X.1.2.2.2.2.1
abbrev zm (X : ZX) : MethodId := X.1.2.2.2.2.2
abbrev za (X : ZX) : Array Value := X.2.1.1
abbrev zb (X : ZX) : List Frame := X.2.1.2.1
abbrev zme (X : ZX) : Method := X.2.1.2.2.1
abbrev zc (X : ZX) : Code := X.2.1.2.2.2.1
abbrev zQ (X : ZX) : State → Prop := X.2.1.2.2.2.2
abbrev zA (X : ZX) : Nat → Prop := X.2.2.1
abbrev zH (X : ZX) : Heap := X.2.2.2
/-- a walk from a place, if the pure reading ends well -/
def zY {α : Type} (X : ZX) (D : va_G) (out : α) (o : Option α) (ws : va_W) (pc : Nat) (lv : List (Option Value)) (st : List Value) : Prop :=
  o = some out → ∀ (H : Heap) (locs : List Loc) (ls : Array Slot), va_P D classes ws H → va_D (zA X) ws → va_S (zA X) (zH X) H locs → zh ls lv →
    W (zp X) (zl X) (ze X) (zR X) (zs X) (zm X) (za X) (zb X) (zme X) (zc X) H locs 0 0 (zQ X) (F0 (zm X) pc ls st)
/-- what holds all along a walk -/
def zF (l : Launch) (D : va_G) (tA : Nat → ClassId) (own : String) (cc : ByteArray) (nL : Nat) (rm : Room) (X : ZX) : Prop :=
  (zp X).tables.exec = Jvm.exec ∧ (zc X).code = cc ∧ (zs X).vm.findClass own = some (zm X).cls ∧ (∀ w ∈ zT, w.before (za X) (zs X) = true) ∧ va_K D classes (zt tA) (zs X) ∧
  (∀ q : Nat, (zH X).size ≤ q → zA X q) ∧ (zc X).maxLocals = nL ∧ zl X = l ∧ (zR X).frames = rm.frames ∧ (zR X).locals = rm.locals ∧ zG tA (zA X) (zs X) (zH X) ∧ zH X = (zs X).heap
variable {l : Launch} {D : va_G} {tA : Nat → ClassId} {own : String} {cc : ByteArray} {nL : Nat} {rm : Room} {X : ZX} {α β : Type} {out : α} {o o1 o2 : Option α} {ws ws' : va_W} {pc : Nat} {lv lv' : List (Option Value)} {st : List Value} {cA : ClassId} {n : Nat} {a : Addr}
theorem y_iconst (F : zF l D tA own cc nL rm X) {z : Int} {v : Int32} (d : decode cc pc = .ok (.iconst z, 1)) (hv : Int32.ofInt z = v) (k : zY X D out o ws (pc + 1) lv (.int v :: st)) : zY X D out o ws pc lv st :=
  fun h H locs ls hP hD hS hl => lv_iconst F.1 F.2.1 d hv (k h H locs ls hP hD hS hl)
theorem y_bipush (F : zF l D tA own cc nL rm X) {z : Int} {v : Int32} (d : decode cc pc = .ok (.bipush z, 2)) (hv : (Int8.ofInt z).toInt32 = v) (k : zY X D out o ws (pc + 2) lv (.int v :: st)) : zY X D out o ws pc lv st :=
  fun h H locs ls hP hD hS hl => lv_bipush F.1 F.2.1 d hv (k h H locs ls hP hD hS hl)
theorem y_sipush (F : zF l D tA own cc nL rm X) {z : Int} {v : Int32} (d : decode cc pc = .ok (.sipush z, 3)) (hv : (Int16.ofInt z).toInt32 = v) (k : zY X D out o ws (pc + 3) lv (.int v :: st)) : zY X D out o ws pc lv st :=
  fun h H locs ls hP hD hS hl => lv_sipush F.1 F.2.1 d hv (k h H locs ls hP hD hS hl)
theorem y_lconst (F : zF l D tA own cc nL rm X) {z : Fin 2} {v : Int64} (d : decode cc pc = .ok (.lconst z, 1)) (hv : Int64.ofNat (z : Nat) = v) (k : zY X D out o ws (pc + 1) lv (.long v :: st)) : zY X D out o ws pc lv st :=
  fun h H locs ls hP hD hS hl => lv_lconst F.1 F.2.1 d hv (k h H locs ls hP hD hS hl)
theorem y_ldc (F : zF l D tA own cc nL rm X) {ix : Nat} {v : Int32} (d : decode cc pc = .ok (.ldc ix, 2)) (w : Cond.constant own ix v ∈ zT) (k : zY X D out o ws (pc + 2) lv (.int v :: st)) : zY X D out o ws pc lv st :=
  fun h H locs ls hP hD hS hl => lv_ldc F.1 F.2.1 F.2.2.1 (F.2.2.2.1 _ w) d (k h H locs ls hP hD hS hl)
theorem y_ldcw (F : zF l D tA own cc nL rm X) {ix : Nat} {v : Int32} (d : decode cc pc = .ok (.ldc_w ix, 3)) (w : Cond.constant own ix v ∈ zT) (k : zY X D out o ws (pc + 3) lv (.int v :: st)) : zY X D out o ws pc lv st :=
  fun h H locs ls hP hD hS hl => lv_ldcw F.1 F.2.1 F.2.2.1 (F.2.2.2.1 _ w) d (k h H locs ls hP hD hS hl)
theorem y_ldc2 (F : zF l D tA own cc nL rm X) {ix : Nat} {v : Int64} (d : decode cc pc = .ok (.ldc2_w ix, 3)) (w : Cond.constantLong own ix v ∈ zT) (k : zY X D out o ws (pc + 3) lv (.long v :: st)) : zY X D out o ws pc lv st :=
  fun h H locs ls hP hD hS hl => lv_ldc2 F.1 F.2.1 F.2.2.1 (F.2.2.2.1 _ w) d (k h H locs ls hP hD hS hl)
theorem y_iload_n (F : zF l D tA own cc nL rm X) {i : Fin 4} {x : Int32} (d : decode cc pc = .ok (.iload_n i, 1)) (hv : lv[(i : Nat)]? = some (some (.int x))) (k : zY X D out o ws (pc + 1) lv (.int x :: st)) : zY X D out o ws pc lv st :=
  fun h H locs ls hP hD hS hl => lv_iload_n F.1 F.2.1 d rfl (hl.2.2 _ _ hv) (k h H locs ls hP hD hS hl)
theorem y_iload (F : zF l D tA own cc nL rm X) {i : Nat} {x : Int32} (d : decode cc pc = .ok (.iload i, 2)) (hv : lv[i]? = some (some (.int x))) (k : zY X D out o ws (pc + 2) lv (.int x :: st)) : zY X D out o ws pc lv st :=
  fun h H locs ls hP hD hS hl => lv_iload F.1 F.2.1 d (hl.2.2 _ _ hv) (k h H locs ls hP hD hS hl)
theorem y_lload_n (F : zF l D tA own cc nL rm X) {i : Fin 4} {x : Int64} (d : decode cc pc = .ok (.lload_n i, 1)) (hv : lv[(i : Nat)]? = some (some (.long x))) (k : zY X D out o ws (pc + 1) lv (.long x :: st)) : zY X D out o ws pc lv st :=
  fun h H locs ls hP hD hS hl => lv_lload_n F.1 F.2.1 d rfl (hl.2.2 _ _ hv) (k h H locs ls hP hD hS hl)
theorem y_lload (F : zF l D tA own cc nL rm X) {i : Nat} {x : Int64} (d : decode cc pc = .ok (.lload i, 2)) (hv : lv[i]? = some (some (.long x))) (k : zY X D out o ws (pc + 2) lv (.long x :: st)) : zY X D out o ws pc lv st :=
  fun h H locs ls hP hD hS hl => lv_lload F.1 F.2.1 d (hl.2.2 _ _ hv) (k h H locs ls hP hD hS hl)
theorem y_aload_n (F : zF l D tA own cc nL rm X) {i : Fin 4} {x : Nat} (d : decode cc pc = .ok (.aload_n i, 1)) (hv : lv[(i : Nat)]? = some (some (.ref x))) (k : zY X D out o ws (pc + 1) lv (.ref x :: st)) : zY X D out o ws pc lv st :=
  fun h H locs ls hP hD hS hl => lv_aload_n F.1 F.2.1 d rfl (hl.2.2 _ _ hv) (k h H locs ls hP hD hS hl)
theorem y_istore_n (F : zF l D tA own cc nL rm X) {i : Fin 4} {x : Int32} (d : decode cc pc = .ok (.istore_n i, 1)) (hi : (i : Nat) < lv.length) (hc : zc2 lv (i : Nat) = true) (hl' : lv.set (i : Nat) (some (.int x)) = lv') (k : zY X D out o ws (pc + 1) lv' st) : zY X D out o ws pc lv (.int x :: st) :=
  fun h H locs ls hP hD hS hl => lv_istore_n F.1 F.2.1 d rfl hl.has hi rfl (fun ls' h' => k h H locs ls' hP hD hS (hl' ▸ zh_st1 h' hc))
theorem y_istore (F : zF l D tA own cc nL rm X) {i : Nat} {x : Int32} (d : decode cc pc = .ok (.istore i, 2)) (hi : i < lv.length) (hc : zc2 lv i = true) (hl' : lv.set i (some (.int x)) = lv') (k : zY X D out o ws (pc + 2) lv' st) : zY X D out o ws pc lv (.int x :: st) :=
  fun h H locs ls hP hD hS hl => lv_istore F.1 F.2.1 d hl.has hi rfl (fun ls' h' => k h H locs ls' hP hD hS (hl' ▸ zh_st1 h' hc))
theorem y_astore_n (F : zF l D tA own cc nL rm X) {i : Fin 4} {x : Nat} (d : decode cc pc = .ok (.astore_n i, 1)) (hi : (i : Nat) < lv.length) (hc : zc2 lv (i : Nat) = true) (hl' : lv.set (i : Nat) (some (.ref x)) = lv') (k : zY X D out o ws (pc + 1) lv' st) : zY X D out o ws pc lv (.ref x :: st) :=
  fun h H locs ls hP hD hS hl => lv_astore_n F.1 F.2.1 d rfl hl.has hi rfl (fun ls' h' => k h H locs ls' hP hD hS (hl' ▸ zh_st1 h' hc))
theorem y_lstore_n (F : zF l D tA own cc nL rm X) {i : Fin 4} {x : Int64} (d : decode cc pc = .ok (.lstore_n i, 1)) (hi : (i : Nat) + 1 < lv.length) (hc : zc2 lv (i : Nat) = true) (hl' : (lv.set (i : Nat) (some (.long x))).set ((i : Nat) + 1) none = lv') (k : zY X D out o ws (pc + 1) lv' st) : zY X D out o ws pc lv (.long x :: st) :=
  fun h H locs ls hP hD hS hl => lv_lstore_n F.1 F.2.1 d rfl hl.has hi rfl (fun ls' h' => k h H locs ls' hP hD hS (hl' ▸ zh_st2 h' hc))
theorem y_lstore (F : zF l D tA own cc nL rm X) {i : Nat} {x : Int64} (d : decode cc pc = .ok (.lstore i, 2)) (hi : i + 1 < lv.length) (hc : zc2 lv i = true) (hl' : (lv.set i (some (.long x))).set (i + 1) none = lv') (k : zY X D out o ws (pc + 2) lv' st) : zY X D out o ws pc lv (.long x :: st) :=
  fun h H locs ls hP hD hS hl => lv_lstore F.1 F.2.1 d hl.has hi rfl (fun ls' h' => k h H locs ls' hP hD hS (hl' ▸ zh_st2 h' hc))
theorem y_iinc (F : zF l D tA own cc nL rm X) {i : Nat} {z : Int} {x v : Int32} {kf : Int32 → Option α} {lf : Int32 → List (Option Value)} (d : decode cc pc = .ok (.iinc i z, 3)) (hx : lv[i]? = some (some (.int x))) (hz : Int32.ofInt z = v) (hc : zc2 lv i = true) (hl' : ∀ y : Int32, lv.set i (some (.int y)) = lf y) (k : ∀ y : Int32, zY X D out (kf y) ws (pc + 3) (lf y) st) : zY X D out (zlet (x + v) kf) ws pc lv st := by
  intro h H locs ls hP hD hS hl
  subst hz
  have hm : (i, Value.int x) ∈ zpr 0 lv := (zpr_mem lv 0 (i, .int x)).mpr ⟨i, by omega, hx⟩
  obtain ⟨j, hj⟩ := List.getElem?_of_mem hm
  exact lv_iinc F.1 F.2.1 d hl.has hj rfl (List.getElem?_eq_some_iff.mp hx).1 rfl (fun ls' h' => k _ h H locs ls' hP hD hS (hl' _ ▸ zh_st1 h' hc))
theorem y_lti {x : Int32} {kf : Int32 → Option α} (k : ∀ y : Int32, zY X D out (kf y) ws pc lv (.int y :: st)) : zY X D out (zlet x kf) ws pc lv (.int x :: st) := k x
theorem y_ltl {x : Int64} {kf : Int64 → Option α} (k : ∀ y : Int64, zY X D out (kf y) ws pc lv (.long y :: st)) : zY X D out (zlet x kf) ws pc lv (.long x :: st) := k x
theorem y_jn {κ : Type} {kd : κ} {f : κ → Option α} (P : κ → Prop) (hd : P kd) (hf : ∀ K : κ, P K → zY X D out (f K) ws pc lv st) : zY X D out (zjn kd f) ws pc lv st := hf kd hd
theorem y_le {lv' : List (Option Value)} (hl : zle lv' lv) (k : zY X D out o ws pc lv' st) : zY X D out o ws pc lv st :=
  fun h H locs ls hP hD hS h2 => k h H locs ls hP hD hS (h2.le hl)
theorem y_none : zY X D out none ws pc lv st := fun h => by cases h
theorem y_iadd (F : zF l D tA own cc nL rm X) {x y : Int32} (d : decode cc pc = .ok (.iadd, 1)) (k : zY X D out o ws (pc + 1) lv (.int (x + y) :: st)) : zY X D out o ws pc lv (.int y :: .int x :: st) :=
  fun h H locs ls hP hD hS hl => lv_iadd F.1 F.2.1 d (k h H locs ls hP hD hS hl)
theorem y_isub (F : zF l D tA own cc nL rm X) {x y : Int32} (d : decode cc pc = .ok (.isub, 1)) (k : zY X D out o ws (pc + 1) lv (.int (x - y) :: st)) : zY X D out o ws pc lv (.int y :: .int x :: st) :=
  fun h H locs ls hP hD hS hl => lv_isub F.1 F.2.1 d (k h H locs ls hP hD hS hl)
theorem y_imul (F : zF l D tA own cc nL rm X) {x y : Int32} (d : decode cc pc = .ok (.imul, 1)) (k : zY X D out o ws (pc + 1) lv (.int (x * y) :: st)) : zY X D out o ws pc lv (.int y :: .int x :: st) :=
  fun h H locs ls hP hD hS hl => lv_imul F.1 F.2.1 d (k h H locs ls hP hD hS hl)
theorem y_iand (F : zF l D tA own cc nL rm X) {x y : Int32} (d : decode cc pc = .ok (.iand, 1)) (k : zY X D out o ws (pc + 1) lv (.int (x &&& y) :: st)) : zY X D out o ws pc lv (.int y :: .int x :: st) :=
  fun h H locs ls hP hD hS hl => lv_iand F.1 F.2.1 d (k h H locs ls hP hD hS hl)
theorem y_ior (F : zF l D tA own cc nL rm X) {x y : Int32} (d : decode cc pc = .ok (.ior, 1)) (k : zY X D out o ws (pc + 1) lv (.int (x ||| y) :: st)) : zY X D out o ws pc lv (.int y :: .int x :: st) :=
  fun h H locs ls hP hD hS hl => lv_ior F.1 F.2.1 d (k h H locs ls hP hD hS hl)
theorem y_ixor (F : zF l D tA own cc nL rm X) {x y : Int32} (d : decode cc pc = .ok (.ixor, 1)) (k : zY X D out o ws (pc + 1) lv (.int (x ^^^ y) :: st)) : zY X D out o ws pc lv (.int y :: .int x :: st) :=
  fun h H locs ls hP hD hS hl => lv_ixor F.1 F.2.1 d (k h H locs ls hP hD hS hl)
theorem y_ishl (F : zF l D tA own cc nL rm X) {x y : Int32} (d : decode cc pc = .ok (.ishl, 1)) (k : zY X D out o ws (pc + 1) lv (.int (x <<< (y &&& 31)) :: st)) : zY X D out o ws pc lv (.int y :: .int x :: st) :=
  fun h H locs ls hP hD hS hl => lv_ishl F.1 F.2.1 d (k h H locs ls hP hD hS hl)
theorem y_ishr (F : zF l D tA own cc nL rm X) {x y : Int32} (d : decode cc pc = .ok (.ishr, 1)) (k : zY X D out o ws (pc + 1) lv (.int (x >>> (y &&& 31)) :: st)) : zY X D out o ws pc lv (.int y :: .int x :: st) :=
  fun h H locs ls hP hD hS hl => lv_ishr F.1 F.2.1 d (k h H locs ls hP hD hS hl)
theorem y_ladd (F : zF l D tA own cc nL rm X) {x y : Int64} (d : decode cc pc = .ok (.ladd, 1)) (k : zY X D out o ws (pc + 1) lv (.long (x + y) :: st)) : zY X D out o ws pc lv (.long y :: .long x :: st) :=
  fun h H locs ls hP hD hS hl => lv_ladd F.1 F.2.1 d (k h H locs ls hP hD hS hl)
theorem y_lsub (F : zF l D tA own cc nL rm X) {x y : Int64} (d : decode cc pc = .ok (.lsub, 1)) (k : zY X D out o ws (pc + 1) lv (.long (x - y) :: st)) : zY X D out o ws pc lv (.long y :: .long x :: st) :=
  fun h H locs ls hP hD hS hl => lv_lsub F.1 F.2.1 d (k h H locs ls hP hD hS hl)
theorem y_lmul (F : zF l D tA own cc nL rm X) {x y : Int64} (d : decode cc pc = .ok (.lmul, 1)) (k : zY X D out o ws (pc + 1) lv (.long (x * y) :: st)) : zY X D out o ws pc lv (.long y :: .long x :: st) :=
  fun h H locs ls hP hD hS hl => lv_lmul F.1 F.2.1 d (k h H locs ls hP hD hS hl)
theorem y_land (F : zF l D tA own cc nL rm X) {x y : Int64} (d : decode cc pc = .ok (.land, 1)) (k : zY X D out o ws (pc + 1) lv (.long (x &&& y) :: st)) : zY X D out o ws pc lv (.long y :: .long x :: st) :=
  fun h H locs ls hP hD hS hl => lv_land F.1 F.2.1 d (k h H locs ls hP hD hS hl)
theorem y_lor (F : zF l D tA own cc nL rm X) {x y : Int64} (d : decode cc pc = .ok (.lor, 1)) (k : zY X D out o ws (pc + 1) lv (.long (x ||| y) :: st)) : zY X D out o ws pc lv (.long y :: .long x :: st) :=
  fun h H locs ls hP hD hS hl => lv_lor F.1 F.2.1 d (k h H locs ls hP hD hS hl)
theorem y_lxor (F : zF l D tA own cc nL rm X) {x y : Int64} (d : decode cc pc = .ok (.lxor, 1)) (k : zY X D out o ws (pc + 1) lv (.long (x ^^^ y) :: st)) : zY X D out o ws pc lv (.long y :: .long x :: st) :=
  fun h H locs ls hP hD hS hl => lv_lxor F.1 F.2.1 d (k h H locs ls hP hD hS hl)
theorem y_lshl (F : zF l D tA own cc nL rm X) {x : Int64} {y : Int32} (d : decode cc pc = .ok (.lshl, 1)) (k : zY X D out o ws (pc + 1) lv (.long (x <<< (y.toInt64 &&& 63)) :: st)) : zY X D out o ws pc lv (.int y :: .long x :: st) :=
  fun h H locs ls hP hD hS hl => lv_lshl F.1 F.2.1 d rfl (k h H locs ls hP hD hS hl)
theorem y_lshr (F : zF l D tA own cc nL rm X) {x : Int64} {y : Int32} (d : decode cc pc = .ok (.lshr, 1)) (k : zY X D out o ws (pc + 1) lv (.long (x >>> (y.toInt64 &&& 63)) :: st)) : zY X D out o ws pc lv (.int y :: .long x :: st) :=
  fun h H locs ls hP hD hS hl => lv_lshr F.1 F.2.1 d rfl (k h H locs ls hP hD hS hl)
theorem y_i2l (F : zF l D tA own cc nL rm X) {x : Int32} (d : decode cc pc = .ok (.i2l, 1)) (k : zY X D out o ws (pc + 1) lv (.long (x.toInt64) :: st)) : zY X D out o ws pc lv (.int x :: st) :=
  fun h H locs ls hP hD hS hl => lv_i2l F.1 F.2.1 d rfl (k h H locs ls hP hD hS hl)
theorem y_l2i (F : zF l D tA own cc nL rm X) {x : Int64} (d : decode cc pc = .ok (.l2i, 1)) (k : zY X D out o ws (pc + 1) lv (.int (x.toInt32) :: st)) : zY X D out o ws pc lv (.long x :: st) :=
  fun h H locs ls hP hD hS hl => lv_l2i F.1 F.2.1 d rfl (k h H locs ls hP hD hS hl)
theorem y_i2b (F : zF l D tA own cc nL rm X) {x : Int32} (d : decode cc pc = .ok (.i2b, 1)) (k : zY X D out o ws (pc + 1) lv (.int (x.toInt8.toInt32) :: st)) : zY X D out o ws pc lv (.int x :: st) :=
  fun h H locs ls hP hD hS hl => lv_i2b F.1 F.2.1 d rfl (k h H locs ls hP hD hS hl)
theorem y_iushr (F : zF l D tA own cc nL rm X) {x y : Int32} (d : decode cc pc = .ok (.iushr, 1)) (k : zY X D out o ws (pc + 1) lv (.int ((x.toUInt32 >>> (y.toUInt32 &&& Int32.toUInt32 31)).toInt32) :: st)) : zY X D out o ws pc lv (.int y :: .int x :: st) :=
  fun h H locs ls hP hD hS hl => lv_iushr F.1 F.2.1 d rfl (k h H locs ls hP hD hS hl)
theorem y_idiv (F : zF l D tA own cc nL rm X) {x y : Int32} (d : decode cc pc = .ok (.idiv, 1)) (k : zY X D out o ws (pc + 1) lv (.int (x / y) :: st)) : zY X D out (znz y o) ws pc lv (.int y :: .int x :: st) := by
  intro h H locs ls hP hD hS hl
  unfold znz at h
  by_cases e : y = 0
  · rw [if_pos e] at h
    cases h
  · rw [if_neg e] at h
    exact lv_idiv F.1 F.2.1 d e (k h H locs ls hP hD hS hl)
theorem y_irem (F : zF l D tA own cc nL rm X) {x y : Int32} (d : decode cc pc = .ok (.irem, 1)) (k : zY X D out o ws (pc + 1) lv (.int (x - x / y * y) :: st)) : zY X D out (znz y o) ws pc lv (.int y :: .int x :: st) := by
  intro h H locs ls hP hD hS hl
  unfold znz at h
  by_cases e : y = 0
  · rw [if_pos e] at h
    cases h
  · rw [if_neg e] at h
    exact lv_irem F.1 F.2.1 d e (k h H locs ls hP hD hS hl)
theorem y_ldiv (F : zF l D tA own cc nL rm X) {x y : Int64} (d : decode cc pc = .ok (.ldiv, 1)) (k : zY X D out o ws (pc + 1) lv (.long (x / y) :: st)) : zY X D out (znl y o) ws pc lv (.long y :: .long x :: st) := by
  intro h H locs ls hP hD hS hl
  unfold znl at h
  by_cases e : y = 0
  · rw [if_pos e] at h
    cases h
  · rw [if_neg e] at h
    exact lv_ldiv F.1 F.2.1 d e (k h H locs ls hP hD hS hl)
theorem y_lrem (F : zF l D tA own cc nL rm X) {x y : Int64} (d : decode cc pc = .ok (.lrem, 1)) (k : zY X D out o ws (pc + 1) lv (.long (x - x / y * y) :: st)) : zY X D out (znl y o) ws pc lv (.long y :: .long x :: st) := by
  intro h H locs ls hP hD hS hl
  unfold znl at h
  by_cases e : y = 0
  · rw [if_pos e] at h
    cases h
  · rw [if_neg e] at h
    exact lv_lrem F.1 F.2.1 d e (k h H locs ls hP hD hS hl)
theorem y_dup (F : zF l D tA own cc nL rm X) {v : Value} (d : decode cc pc = .ok (.dup, 1)) (hv : v.category = 1) (k : zY X D out o ws (pc + 1) lv (v :: v :: st)) : zY X D out o ws pc lv (v :: st) :=
  fun h H locs ls hP hD hS hl => lv_dup F.1 F.2.1 d hv (k h H locs ls hP hD hS hl)
theorem y_dup2 (F : zF l D tA own cc nL rm X) {v w : Value} (d : decode cc pc = .ok (.dup2, 1)) (hv : v.category = 1) (hw : w.category = 1) (k : zY X D out o ws (pc + 1) lv (v :: w :: v :: w :: st)) : zY X D out o ws pc lv (v :: w :: st) :=
  fun h H locs ls hP hD hS hl => lv_dup2_11 F.1 F.2.1 d hv hw (k h H locs ls hP hD hS hl)
theorem y_pop (F : zF l D tA own cc nL rm X) {v : Value} (d : decode cc pc = .ok (.pop, 1)) (hv : v.category = 1) (k : zY X D out o ws (pc + 1) lv st) : zY X D out o ws pc lv (v :: st) :=
  fun h H locs ls hP hD hS hl => lv_pop F.1 F.2.1 d hv (k h H locs ls hP hD hS hl)
theorem y_goto (F : zF l D tA own cc nL rm X) {off : Int} {tgt : Nat} (d : decode cc pc = .ok (.goto off, 3)) (ht : (pc : Int) + off = (tgt : Int)) (k : zY X D out o ws tgt lv st) : zY X D out o ws pc lv st :=
  fun h H locs ls hP hD hS hl => lv_goto F.1 F.2.1 d ht (k h H locs ls hP hD hS hl)
theorem y_if_eq (F : zF l D tA own cc nL rm X) {x : Int32} {off : Int} {tgt : Nat} (d : decode cc pc = .ok (.ifCond .eq off, 3)) (ht : (pc : Int) + off = (tgt : Int)) (kt : zY X D out o1 ws tgt lv st) (kf : zY X D out o2 ws (pc + 3) lv st) : zY X D out (if x = 0 then o1 else o2) ws pc lv (.int x :: st) := by
  intro h H locs ls hP hD hS hl
  exact lv_if_eq F.1 F.2.1 d ht (fun e => kt (by rw [if_pos e] at h; exact h) H locs ls hP hD hS hl) (fun e => kf (by rw [if_neg e] at h; exact h) H locs ls hP hD hS hl)
theorem y_icmp_eq (F : zF l D tA own cc nL rm X) {x y : Int32} {off : Int} {tgt : Nat} (d : decode cc pc = .ok (.if_icmp .eq off, 3)) (ht : (pc : Int) + off = (tgt : Int)) (kt : zY X D out o1 ws tgt lv st) (kf : zY X D out o2 ws (pc + 3) lv st) : zY X D out (if x = y then o1 else o2) ws pc lv (.int y :: .int x :: st) := by
  intro h H locs ls hP hD hS hl
  exact lv_icmp_eq F.1 F.2.1 d ht (fun e => kt (by rw [if_pos e] at h; exact h) H locs ls hP hD hS hl) (fun e => kf (by rw [if_neg e] at h; exact h) H locs ls hP hD hS hl)
theorem y_if_lt (F : zF l D tA own cc nL rm X) {x : Int32} {off : Int} {tgt : Nat} (d : decode cc pc = .ok (.ifCond .lt off, 3)) (ht : (pc : Int) + off = (tgt : Int)) (kt : zY X D out o1 ws tgt lv st) (kf : zY X D out o2 ws (pc + 3) lv st) : zY X D out (if x < 0 then o1 else o2) ws pc lv (.int x :: st) := by
  intro h H locs ls hP hD hS hl
  exact lv_if_lt F.1 F.2.1 d ht (fun e => kt (by rw [if_pos e] at h; exact h) H locs ls hP hD hS hl) (fun e => kf (by rw [if_neg e] at h; exact h) H locs ls hP hD hS hl)
theorem y_icmp_lt (F : zF l D tA own cc nL rm X) {x y : Int32} {off : Int} {tgt : Nat} (d : decode cc pc = .ok (.if_icmp .lt off, 3)) (ht : (pc : Int) + off = (tgt : Int)) (kt : zY X D out o1 ws tgt lv st) (kf : zY X D out o2 ws (pc + 3) lv st) : zY X D out (if x < y then o1 else o2) ws pc lv (.int y :: .int x :: st) := by
  intro h H locs ls hP hD hS hl
  exact lv_icmp_lt F.1 F.2.1 d ht (fun e => kt (by rw [if_pos e] at h; exact h) H locs ls hP hD hS hl) (fun e => kf (by rw [if_neg e] at h; exact h) H locs ls hP hD hS hl)
theorem y_if_ge (F : zF l D tA own cc nL rm X) {x : Int32} {off : Int} {tgt : Nat} (d : decode cc pc = .ok (.ifCond .ge off, 3)) (ht : (pc : Int) + off = (tgt : Int)) (kt : zY X D out o1 ws tgt lv st) (kf : zY X D out o2 ws (pc + 3) lv st) : zY X D out (if 0 ≤ x then o1 else o2) ws pc lv (.int x :: st) := by
  intro h H locs ls hP hD hS hl
  exact lv_if_ge F.1 F.2.1 d ht (fun e => kt (by rw [if_pos e] at h; exact h) H locs ls hP hD hS hl) (fun e => kf (by rw [if_neg e] at h; exact h) H locs ls hP hD hS hl)
theorem y_icmp_ge (F : zF l D tA own cc nL rm X) {x y : Int32} {off : Int} {tgt : Nat} (d : decode cc pc = .ok (.if_icmp .ge off, 3)) (ht : (pc : Int) + off = (tgt : Int)) (kt : zY X D out o1 ws tgt lv st) (kf : zY X D out o2 ws (pc + 3) lv st) : zY X D out (if y ≤ x then o1 else o2) ws pc lv (.int y :: .int x :: st) := by
  intro h H locs ls hP hD hS hl
  exact lv_icmp_ge F.1 F.2.1 d ht (fun e => kt (by rw [if_pos e] at h; exact h) H locs ls hP hD hS hl) (fun e => kf (by rw [if_neg e] at h; exact h) H locs ls hP hD hS hl)
theorem y_if_gt (F : zF l D tA own cc nL rm X) {x : Int32} {off : Int} {tgt : Nat} (d : decode cc pc = .ok (.ifCond .gt off, 3)) (ht : (pc : Int) + off = (tgt : Int)) (kt : zY X D out o1 ws tgt lv st) (kf : zY X D out o2 ws (pc + 3) lv st) : zY X D out (if 0 < x then o1 else o2) ws pc lv (.int x :: st) := by
  intro h H locs ls hP hD hS hl
  exact lv_if_gt F.1 F.2.1 d ht (fun e => kt (by rw [if_pos e] at h; exact h) H locs ls hP hD hS hl) (fun e => kf (by rw [if_neg e] at h; exact h) H locs ls hP hD hS hl)
theorem y_icmp_gt (F : zF l D tA own cc nL rm X) {x y : Int32} {off : Int} {tgt : Nat} (d : decode cc pc = .ok (.if_icmp .gt off, 3)) (ht : (pc : Int) + off = (tgt : Int)) (kt : zY X D out o1 ws tgt lv st) (kf : zY X D out o2 ws (pc + 3) lv st) : zY X D out (if y < x then o1 else o2) ws pc lv (.int y :: .int x :: st) := by
  intro h H locs ls hP hD hS hl
  exact lv_icmp_gt F.1 F.2.1 d ht (fun e => kt (by rw [if_pos e] at h; exact h) H locs ls hP hD hS hl) (fun e => kf (by rw [if_neg e] at h; exact h) H locs ls hP hD hS hl)
theorem y_if_le (F : zF l D tA own cc nL rm X) {x : Int32} {off : Int} {tgt : Nat} (d : decode cc pc = .ok (.ifCond .le off, 3)) (ht : (pc : Int) + off = (tgt : Int)) (kt : zY X D out o1 ws tgt lv st) (kf : zY X D out o2 ws (pc + 3) lv st) : zY X D out (if x ≤ 0 then o1 else o2) ws pc lv (.int x :: st) := by
  intro h H locs ls hP hD hS hl
  exact lv_if_le F.1 F.2.1 d ht (fun e => kt (by rw [if_pos e] at h; exact h) H locs ls hP hD hS hl) (fun e => kf (by rw [if_neg e] at h; exact h) H locs ls hP hD hS hl)
theorem y_icmp_le (F : zF l D tA own cc nL rm X) {x y : Int32} {off : Int} {tgt : Nat} (d : decode cc pc = .ok (.if_icmp .le off, 3)) (ht : (pc : Int) + off = (tgt : Int)) (kt : zY X D out o1 ws tgt lv st) (kf : zY X D out o2 ws (pc + 3) lv st) : zY X D out (if x ≤ y then o1 else o2) ws pc lv (.int y :: .int x :: st) := by
  intro h H locs ls hP hD hS hl
  exact lv_icmp_le F.1 F.2.1 d ht (fun e => kt (by rw [if_pos e] at h; exact h) H locs ls hP hD hS hl) (fun e => kf (by rw [if_neg e] at h; exact h) H locs ls hP hD hS hl)
theorem y_if_ne (F : zF l D tA own cc nL rm X) {x : Int32} {off : Int} {tgt : Nat} (d : decode cc pc = .ok (.ifCond .ne off, 3)) (ht : (pc : Int) + off = (tgt : Int)) (kf : zY X D out o1 ws (pc + 3) lv st) (kt : zY X D out o2 ws tgt lv st) : zY X D out (if x = 0 then o1 else o2) ws pc lv (.int x :: st) := by
  intro h H locs ls hP hD hS hl
  exact lv_if_ne F.1 F.2.1 d ht (fun e => kt (by rw [if_neg e] at h; exact h) H locs ls hP hD hS hl) (fun e => kf (by rw [if_pos e] at h; exact h) H locs ls hP hD hS hl)
theorem y_icmp_ne (F : zF l D tA own cc nL rm X) {x y : Int32} {off : Int} {tgt : Nat} (d : decode cc pc = .ok (.if_icmp .ne off, 3)) (ht : (pc : Int) + off = (tgt : Int)) (kf : zY X D out o1 ws (pc + 3) lv st) (kt : zY X D out o2 ws tgt lv st) : zY X D out (if x = y then o1 else o2) ws pc lv (.int y :: .int x :: st) := by
  intro h H locs ls hP hD hS hl
  exact lv_icmp_ne F.1 F.2.1 d ht (fun e => kt (by rw [if_neg e] at h; exact h) H locs ls hP hD hS hl) (fun e => kf (by rw [if_pos e] at h; exact h) H locs ls hP hD hS hl)
theorem zl_eq (x y : Int64) : lg_cmp x y = 0 ↔ x = y := by
  unfold lg_cmp
  by_cases h1 : y < x
  · have h2 : ¬ x = y := fun e => by rw [e] at h1; exact Int64.lt_irrefl h1
    simp [h1, h2]
  · by_cases h2 : x = y
    · simp [h2]
    · simp [h1, h2]
theorem zl_ge (x y : Int64) : 0 ≤ lg_cmp x y ↔ y ≤ x := lg_cmp_ge x y
theorem zl_lt (x y : Int64) : lg_cmp x y < 0 ↔ x < y := by
  rw [← Int32.not_le, zl_ge, Int64.not_le]
theorem zl_gt (x y : Int64) : 0 < lg_cmp x y ↔ y < x := by
  unfold lg_cmp
  by_cases h1 : y < x
  · simp [h1]
  · by_cases h2 : x = y
    · simp [h2]
    · simp [h1, h2]
theorem zl_le (x y : Int64) : lg_cmp x y ≤ 0 ↔ x ≤ y := by
  rw [← Int32.not_lt, zl_gt, Int64.not_lt]
theorem y_lcmp_eq (F : zF l D tA own cc nL rm X) {x y : Int64} {off : Int} {tgt : Nat} (d0 : decode cc pc = .ok (.lcmp, 1)) (d : decode cc (pc + 1) = .ok (.ifCond .eq off, 3)) (ht : ((pc + 1 : Nat) : Int) + off = (tgt : Int)) (kt : zY X D out o1 ws tgt lv st) (kf : zY X D out o2 ws (pc + 4) lv st) : zY X D out (if x = y then o1 else o2) ws pc lv (.long y :: .long x :: st) := by
  intro h H locs ls hP hD hS hl
  exact W.lcmp F.1 F.2.1 d0 (lv_if_eq F.1 F.2.1 d ht (fun e => kt (by rw [if_pos ((zl_eq x y).mp e)] at h; exact h) H locs ls hP hD hS hl) (fun e => kf (by rw [if_neg (fun z => e ((zl_eq x y).mpr z))] at h; exact h) H locs ls hP hD hS hl))
theorem y_lcmp_lt (F : zF l D tA own cc nL rm X) {x y : Int64} {off : Int} {tgt : Nat} (d0 : decode cc pc = .ok (.lcmp, 1)) (d : decode cc (pc + 1) = .ok (.ifCond .lt off, 3)) (ht : ((pc + 1 : Nat) : Int) + off = (tgt : Int)) (kt : zY X D out o1 ws tgt lv st) (kf : zY X D out o2 ws (pc + 4) lv st) : zY X D out (if x < y then o1 else o2) ws pc lv (.long y :: .long x :: st) := by
  intro h H locs ls hP hD hS hl
  exact W.lcmp F.1 F.2.1 d0 (lv_if_lt F.1 F.2.1 d ht (fun e => kt (by rw [if_pos ((zl_lt x y).mp e)] at h; exact h) H locs ls hP hD hS hl) (fun e => kf (by rw [if_neg (fun z => e ((zl_lt x y).mpr z))] at h; exact h) H locs ls hP hD hS hl))
theorem y_lcmp_ge (F : zF l D tA own cc nL rm X) {x y : Int64} {off : Int} {tgt : Nat} (d0 : decode cc pc = .ok (.lcmp, 1)) (d : decode cc (pc + 1) = .ok (.ifCond .ge off, 3)) (ht : ((pc + 1 : Nat) : Int) + off = (tgt : Int)) (kt : zY X D out o1 ws tgt lv st) (kf : zY X D out o2 ws (pc + 4) lv st) : zY X D out (if y ≤ x then o1 else o2) ws pc lv (.long y :: .long x :: st) := by
  intro h H locs ls hP hD hS hl
  exact W.lcmp F.1 F.2.1 d0 (lv_if_ge F.1 F.2.1 d ht (fun e => kt (by rw [if_pos ((zl_ge x y).mp e)] at h; exact h) H locs ls hP hD hS hl) (fun e => kf (by rw [if_neg (fun z => e ((zl_ge x y).mpr z))] at h; exact h) H locs ls hP hD hS hl))
theorem y_lcmp_gt (F : zF l D tA own cc nL rm X) {x y : Int64} {off : Int} {tgt : Nat} (d0 : decode cc pc = .ok (.lcmp, 1)) (d : decode cc (pc + 1) = .ok (.ifCond .gt off, 3)) (ht : ((pc + 1 : Nat) : Int) + off = (tgt : Int)) (kt : zY X D out o1 ws tgt lv st) (kf : zY X D out o2 ws (pc + 4) lv st) : zY X D out (if y < x then o1 else o2) ws pc lv (.long y :: .long x :: st) := by
  intro h H locs ls hP hD hS hl
  exact W.lcmp F.1 F.2.1 d0 (lv_if_gt F.1 F.2.1 d ht (fun e => kt (by rw [if_pos ((zl_gt x y).mp e)] at h; exact h) H locs ls hP hD hS hl) (fun e => kf (by rw [if_neg (fun z => e ((zl_gt x y).mpr z))] at h; exact h) H locs ls hP hD hS hl))
theorem y_lcmp_le (F : zF l D tA own cc nL rm X) {x y : Int64} {off : Int} {tgt : Nat} (d0 : decode cc pc = .ok (.lcmp, 1)) (d : decode cc (pc + 1) = .ok (.ifCond .le off, 3)) (ht : ((pc + 1 : Nat) : Int) + off = (tgt : Int)) (kt : zY X D out o1 ws tgt lv st) (kf : zY X D out o2 ws (pc + 4) lv st) : zY X D out (if x ≤ y then o1 else o2) ws pc lv (.long y :: .long x :: st) := by
  intro h H locs ls hP hD hS hl
  exact W.lcmp F.1 F.2.1 d0 (lv_if_le F.1 F.2.1 d ht (fun e => kt (by rw [if_pos ((zl_le x y).mp e)] at h; exact h) H locs ls hP hD hS hl) (fun e => kf (by rw [if_neg (fun z => e ((zl_le x y).mpr z))] at h; exact h) H locs ls hP hD hS hl))
theorem y_lcmp_ne (F : zF l D tA own cc nL rm X) {x y : Int64} {off : Int} {tgt : Nat} (d0 : decode cc pc = .ok (.lcmp, 1)) (d : decode cc (pc + 1) = .ok (.ifCond .ne off, 3)) (ht : ((pc + 1 : Nat) : Int) + off = (tgt : Int)) (kf : zY X D out o1 ws (pc + 4) lv st) (kt : zY X D out o2 ws tgt lv st) : zY X D out (if x = y then o1 else o2) ws pc lv (.long y :: .long x :: st) := by
  intro h H locs ls hP hD hS hl
  exact W.lcmp F.1 F.2.1 d0 (lv_if_ne F.1 F.2.1 d ht (fun e => kt (by rw [if_neg (fun z => e ((zl_eq x y).mpr z))] at h; exact h) H locs ls hP hD hS hl) (fun e => kf (by rw [if_pos ((zl_eq x y).mp e)] at h; exact h) H locs ls hP hD hS hl))
theorem zin_of {i : Int32} (h : 0 ≤ i.toInt ∧ i.toInt < (n : Int)) : vp_in i n := vp_in_iff.mpr h
theorem y_gd {i : Int32} (k : vp_in i n → zY X D out o ws pc lv st) : zY X D out (zgd i n o) ws pc lv st := by
  intro h
  unfold zgd at h
  by_cases e : 0 ≤ i.toInt ∧ i.toInt < (n : Int)
  · rw [if_pos e] at h
    exact k (zin_of e) h
  · rw [if_neg e] at h
    cases h
/-- a class's field by a word of the constant pool -/
def zFl (own : String) (ix ci k : Nat) (C : String) (T : u_T) (N : Nat) (ty : Nat → FieldType) : Prop :=
  classes[ci]? = some (C, T, N) ∧ (∀ w ∈ u_ws C T N, w ∈ zT) ∧ (∀ k, k < N → parseFieldDescriptor (T k).2.2.1 = some (ty k)) ∧ (∀ a, a < N → ∀ b, b < N → a ≠ b → (T a).2.1 ≠ (T b).2.1) ∧ k < N ∧ Cond.fieldLink own ix (T k).1 (T k).2.1 (T k).2.2.1 ∈ zT
theorem y_get (F : zF l D tA own cc nL rm X) {ix ci k N : Nat} {C : String} {T : u_T} {ty : Nat → FieldType} (d : decode cc pc = .ok (.getfield ix, 3)) (w : zFl own ix ci k C T N ty) (q0 : Nat) {fs : List Value} {v : Value} (he : ws[q0]? = some (a, .inr (ci, fs))) (hv : fs[k]? = some v) (kk : zY X D out o ws (pc + 3) lv (v :: st)) : zY X D out o ws pc lv (.ref a :: st) :=
  fun h H locs ls hP hD hS hl => va_get F.1 F.2.1 F.2.2.2.1 w.2.1 F.2.2.1 F.2.2.2.2.1 hP q0 he w.1 k w.2.2.2.2.1 (F.2.2.2.1 _ w.2.2.2.2.2) (fun _ h => h) hv d (kk h H locs ls hP hD hS hl)
theorem y_put (F : zF l D tA own cc nL rm X) {ix ci k N : Nat} {C : String} {T : u_T} {ty : Nat → FieldType} (d : decode cc pc = .ok (.putfield ix, 3)) (w : zFl own ix ci k C T N ty) (q0 : Nat) {fs : List Value} {v : Value} (he : ws[q0]? = some (a, .inr (ci, fs))) (hfin : (T k).2.2.2 = false) (hn : narrow (ty k) v = v) (hfit : fits (ty k) v = true) (hk : k < fs.length) {e : β} {kf : β → Option α} (wf : β → va_W) (hw : ws.set q0 (a, .inr (ci, fs.set k v)) = wf e) (kk : ∀ o' : β, zY X D out (kf o') (wf o') (pc + 3) lv st) : zY X D out (zlet e kf) ws pc lv (v :: .ref a :: st) :=
  fun h H locs ls hP hD hS hl => va_put F.1 F.2.1 F.2.2.2.1 w.2.1 ty w.2.2.1 w.2.2.2.1 F.2.2.1 F.2.2.2.2.1 hP hD hS q0 he w.1 k w.2.2.2.2.1 (F.2.2.2.1 _ w.2.2.2.2.2) (fun _ h => h) hfin (w.2.2.1 k w.2.2.2.2.1) hn hfit hk d (fun H1 locs1 hP1 hD1 hS1 => kk e h H1 locs1 ls (hw ▸ hP1) (hw ▸ hD1) hS1 hl)
theorem y_iald (F : zF l D tA own cc nL rm X) (d : decode cc pc = .ok (.iaload, 1)) (q0 : Nat) {f : Nat → Int32} {i : Int32} (ha : ws[q0]? = some (a, .inl (tA 0, n, .inl f))) (kk : zY X D out o ws (pc + 1) lv (.int (f i.toNatClampNeg) :: st)) : zY X D out (zgd i n o) ws pc lv (.int i :: .ref a :: st) :=
  y_gd fun hin h H locs ls hP hD hS hl => va_iald F.1 F.2.1 F.2.2.2.2.1 hP q0 0 ha rfl hin d (kk h H locs ls hP hD hS hl)
theorem y_lald (F : zF l D tA own cc nL rm X) (d : decode cc pc = .ok (.laload, 1)) (q0 : Nat) {f : Nat → Int64} {i : Int32} (ha : ws[q0]? = some (a, .inl (tA 1, n, .inr (.inl f)))) (kk : zY X D out o ws (pc + 1) lv (.long (f i.toNatClampNeg) :: st)) : zY X D out (zgd i n o) ws pc lv (.int i :: .ref a :: st) :=
  y_gd fun hin h H locs ls hP hD hS hl => va_lald F.1 F.2.1 F.2.2.2.2.1 hP q0 1 ha rfl hin d (kk h H locs ls hP hD hS hl)
theorem y_zald (F : zF l D tA own cc nL rm X) (d : decode cc pc = .ok (.baload, 1)) (q0 : Nat) {f : Nat → Int32} {i : Int32} (ha : ws[q0]? = some (a, .inl (tA 2, n, .inl f))) (kk : zY X D out o ws (pc + 1) lv (.int (f i.toNatClampNeg) :: st)) : zY X D out (zgd i n o) ws pc lv (.int i :: .ref a :: st) :=
  y_gd fun hin h H locs ls hP hD hS hl => va_zald F.1 F.2.1 F.2.2.2.2.1 hP q0 2 ha rfl hin d (kk h H locs ls hP hD hS hl)
theorem y_bald (F : zF l D tA own cc nL rm X) (d : decode cc pc = .ok (.baload, 1)) (q0 : Nat) {f : Nat → Int32} {i : Int32} (ha : ws[q0]? = some (a, .inl (tA 3, n, .inl f))) (kk : zY X D out o ws (pc + 1) lv (.int (f i.toNatClampNeg) :: st)) : zY X D out (zgd i n o) ws pc lv (.int i :: .ref a :: st) :=
  y_gd fun hin h H locs ls hP hD hS hl => va_bald F.1 F.2.1 F.2.2.2.2.1 hP q0 3 ha rfl hin d (kk h H locs ls hP hD hS hl)
theorem va_aldr {p : Program} {l : Launch} {e : Env} {R : Room} {s : State} {m : MethodId} {args : Array Value} {below : List Frame} {meth : Method} {c : Code} {H : Heap} {locs : List Loc} {cells slots : Nat} {Q : State → Prop} {cc : ByteArray} {pc : Nat} {ls : Array Slot} {rest : List Value} {D : va_G} {cl : List vw_C} {a : Nat} {tys : List (ClassId × FieldType)} {ws : va_W}
    (hexec : p.tables.exec = Jvm.exec) (hb : c.code = cc) (hK : va_K D cl tys s) (hP : va_P D cl ws H) (q0 t0 : Nat) {cA : ClassId} {ty : FieldType} {n : Nat} {f : Nat → Option Nat} (ha : ws[q0]? = some (a, .inl (cA, n, .inr (.inr (.inr (.inr f)))))) (ht : tys[t0]? = some (cA, ty)) (hty : ty.isReference = true) {i : Int32} (hin : vp_in i n) (hdg : decode cc pc = .ok (.aaload, 1))
    (kk : W p l e R s m args below meth c H locs cells slots Q (F0 m (pc + 1) ls (va_rf (f i.toNatClampNeg) :: rest))) : W p l e R s m args below meth c H locs cells slots Q (F0 m pc ls (.int i :: .ref a :: rest)) := by
  have hlt : i.toNatClampNeg < n := Nat.not_le.mp fun q => hin (Or.inr q)
  exact W.aald (v := va_rf (f i.toNatClampNeg)) (ty := ty) hexec hb (hP q0 _ ha) ((hK.2 t0 _ ht).1 n (fun j => va_rf (f j))) hty (fun q => by cases q) (by show ¬ (i < 0 ∨ (arrV _ _ _).slots.size ≤ _); rw [arrV_size]; exact hin) (by show (arrV _ _ _).slots[_]? = _; rw [arrV_read _ _ hlt]) rfl rfl hdg kk
/-- a row of an array of rows, or an object of an array of objects: its address by its place -/
theorem y_aald (F : zF l D tA own cc nL rm X) (d : decode cc pc = .ok (.aaload, 1)) (q0 t0 : Nat) {ty : FieldType} {g : Nat → Nat} {i : Int32} (ha : ws[q0]? = some (a, .inl (cA, n, .inr (.inr (.inr (.inr (fun j => some (g j)))))))) (ht : (zt tA)[t0]? = some (cA, ty)) (hty : ty.isReference = true) (kk : zY X D out o ws (pc + 1) lv (.ref (g i.toNatClampNeg) :: st)) : zY X D out (zgd i n o) ws pc lv (.int i :: .ref a :: st) :=
  y_gd fun hin h H locs ls hP hD hS hl => va_aldr F.1 F.2.1 F.2.2.2.2.1 hP q0 t0 ha ht hty hin d (kk h H locs ls hP hD hS hl)
theorem y_iast (F : zF l D tA own cc nL rm X) (d : decode cc pc = .ok (.iastore, 1)) (q0 : Nat) {f : Nat → Int32} {i x : Int32} (ha : ws[q0]? = some (a, .inl (tA 0, n, .inl f))) {e : β} {kf : β → Option α} (wf : β → va_W) (hw : ws.set q0 (a, .inl (tA 0, n, .inl (upd f i.toNatClampNeg x))) = wf e) (kk : ∀ o' : β, zY X D out (kf o') (wf o') (pc + 1) lv st) : zY X D out (zgd i n (zlet e kf)) ws pc lv (.int x :: .int i :: .ref a :: st) :=
  y_gd fun hin h H locs ls hP hD hS hl => va_iast F.1 F.2.1 F.2.2.2.2.1 hP hD hS q0 0 ha rfl hin d (fun H1 locs1 hP1 hD1 hS1 => kk e h H1 locs1 ls (hw ▸ hP1) (hw ▸ hD1) hS1 hl)
theorem y_last (F : zF l D tA own cc nL rm X) (d : decode cc pc = .ok (.lastore, 1)) (q0 : Nat) {f : Nat → Int64} {i : Int32} {x : Int64} (ha : ws[q0]? = some (a, .inl (tA 1, n, .inr (.inl f)))) {e : β} {kf : β → Option α} (wf : β → va_W) (hw : ws.set q0 (a, .inl (tA 1, n, .inr (.inl (vp_updL f i.toNatClampNeg x)))) = wf e) (kk : ∀ o' : β, zY X D out (kf o') (wf o') (pc + 1) lv st) : zY X D out (zgd i n (zlet e kf)) ws pc lv (.long x :: .int i :: .ref a :: st) :=
  y_gd fun hin h H locs ls hP hD hS hl => va_last F.1 F.2.1 F.2.2.2.2.1 hP hD hS q0 1 ha rfl hin d (fun H1 locs1 hP1 hD1 hS1 => kk e h H1 locs1 ls (hw ▸ hP1) (hw ▸ hD1) hS1 hl)
theorem y_zast (F : zF l D tA own cc nL rm X) (d : decode cc pc = .ok (.bastore, 1)) (q0 : Nat) {f : Nat → Int32} {i x : Int32} (ha : ws[q0]? = some (a, .inl (tA 2, n, .inl f))) {e : β} {kf : β → Option α} (wf : β → va_W) (hw : ws.set q0 (a, .inl (tA 2, n, .inl (upd f i.toNatClampNeg (vp_nar .boolean x)))) = wf e) (kk : ∀ o' : β, zY X D out (kf o') (wf o') (pc + 1) lv st) : zY X D out (zgd i n (zlet e kf)) ws pc lv (.int x :: .int i :: .ref a :: st) :=
  y_gd fun hin h H locs ls hP hD hS hl => va_zast F.1 F.2.1 F.2.2.2.2.1 hP hD hS q0 2 ha rfl hin d (fun H1 locs1 hP1 hD1 hS1 => kk e h H1 locs1 ls (hw ▸ hP1) (hw ▸ hD1) hS1 hl)
theorem y_bast (F : zF l D tA own cc nL rm X) (d : decode cc pc = .ok (.bastore, 1)) (q0 : Nat) {f : Nat → Int32} {i x : Int32} (ha : ws[q0]? = some (a, .inl (tA 3, n, .inl f))) {e : β} {kf : β → Option α} (wf : β → va_W) (hw : ws.set q0 (a, .inl (tA 3, n, .inl (upd f i.toNatClampNeg (vp_nar .byte x)))) = wf e) (kk : ∀ o' : β, zY X D out (kf o') (wf o') (pc + 1) lv st) : zY X D out (zgd i n (zlet e kf)) ws pc lv (.int x :: .int i :: .ref a :: st) :=
  y_gd fun hin h H locs ls hP hD hS hl => va_bast F.1 F.2.1 F.2.2.2.2.1 hP hD hS q0 3 ha rfl hin d (fun H1 locs1 hP1 hD1 hS1 => kk e h H1 locs1 ls (hw ▸ hP1) (hw ▸ hD1) hS1 hl)
theorem y_alen (F : zF l D tA own cc nL rm X) (d : decode cc pc = .ok (.arraylength, 1)) (q0 t0 : Nat) {x : vp_A} {ty : FieldType} {v : Int32} (ha : ws[q0]? = some (a, .inl (cA, x))) (ht : (zt tA)[t0]? = some (cA, ty)) (hv : Int32.ofNat x.1 = v) (kk : zY X D out o ws (pc + 1) lv (.int v :: st)) : zY X D out o ws pc lv (.ref a :: st) :=
  fun h H locs ls hP hD hS hl => va_alen F.1 F.2.1 F.2.2.2.2.1 hP q0 t0 ha ht hv d (kk h H locs ls hP hD hS hl)
/-- a method's end -/
def zRi (X : ZX) (D : va_G) (cc : ByteArray) (ty : FieldType) (rr : α → Int32) (w1 : α → va_W) (out : α) : Prop :=
  narrow ty (.int (rr out)) = .int (rr out) → ∀ (H : Heap) (locs : List Loc) (pc : Nat) (ls : Array Slot), decode cc pc = .ok (.ireturn, 1) → va_P D classes (w1 out) H → va_D (zA X) (w1 out) → va_S (zA X) (zH X) H locs →
    W (zp X) (zl X) (ze X) (zR X) (zs X) (zm X) (za X) (zb X) (zme X) (zc X) H locs 0 0 (zQ X) (F0 (zm X) pc ls [.int (rr out)])
def zRl (X : ZX) (D : va_G) (cc : ByteArray) (rr : α → Int64) (w1 : α → va_W) (out : α) : Prop :=
  ∀ (H : Heap) (locs : List Loc) (pc : Nat) (ls : Array Slot), decode cc pc = .ok (.lreturn, 1) → va_P D classes (w1 out) H → va_D (zA X) (w1 out) → va_S (zA X) (zH X) H locs →
    W (zp X) (zl X) (ze X) (zR X) (zs X) (zm X) (za X) (zb X) (zme X) (zc X) H locs 0 0 (zQ X) (F0 (zm X) pc ls [.long (rr out)])
def zRv (X : ZX) (D : va_G) (cc : ByteArray) (w1 : α → va_W) (out : α) : Prop :=
  ∀ (H : Heap) (locs : List Loc) (pc : Nat) (ls : Array Slot), decode cc pc = .ok (.return_, 1) → va_P D classes (w1 out) H → va_D (zA X) (w1 out) → va_S (zA X) (zH X) H locs →
    W (zp X) (zl X) (ze X) (zR X) (zs X) (zm X) (za X) (zb X) (zme X) (zc X) H locs 0 0 (zQ X) (F0 (zm X) pc ls [])
theorem y_iret {rr : α → Int32} {w1 : α → va_W} {out' : α} {v : Int32} (hr : zRi X D cc .int rr w1 out) (d : decode cc pc = .ok (.ireturn, 1)) (hv : v = rr out') (hw : ws = w1 out') : zY X D out (some out') ws pc lv [.int v] := by
  intro h H locs ls hP hD hS hl
  have h := Option.some.inj h
  rw [h] at hv hw
  rw [hw] at hP hD
  rw [hv]
  exact hr rfl H locs pc ls d hP hD hS
theorem y_zret {rr : α → Int32} {w1 : α → va_W} {out' : α} {v : Int32} (hr : zRi X D cc .boolean rr w1 out) (d : decode cc pc = .ok (.ireturn, 1)) (hv : v = rr out') (hw : ws = w1 out') : zY X D out (zgz v (some out')) ws pc lv [.int v] := by
  intro h H locs ls hP hD hS hl
  unfold zgz at h
  by_cases e : v = 0 ∨ v = 1
  · rw [if_pos e] at h
    have h := Option.some.inj h
    rw [h] at hv hw
    rw [hw] at hP hD
    have hn : narrow .boolean (.int v) = .int v := by
      rcases e with e | e <;> rw [e] <;> rfl
    rw [hv] at hn ⊢
    exact hr hn H locs pc ls d hP hD hS
  · rw [if_neg e] at h
    cases h
theorem y_lret {rr : α → Int64} {w1 : α → va_W} {out' : α} {v : Int64} (hr : zRl X D cc rr w1 out) (d : decode cc pc = .ok (.lreturn, 1)) (hv : v = rr out') (hw : ws = w1 out') : zY X D out (some out') ws pc lv [.long v] := by
  intro h H locs ls hP hD hS hl
  have h := Option.some.inj h
  rw [h] at hv hw
  rw [hw] at hP hD
  rw [hv]
  exact hr H locs pc ls d hP hD hS
theorem y_vret {w1 : α → va_W} {out' : α} (hr : zRv X D cc w1 out) (d : decode cc pc = .ok (.return_, 1)) (hw : ws = w1 out') : zY X D out (some out') ws pc lv [] := by
  intro h H locs ls hP hD hS hl
  have h := Option.some.inj h
  rw [h] at hw
  rw [hw] at hP hD
  exact hr H locs pc ls d hP hD hS
/-- contracts -/
def zPre (D : va_G) (tA : Nat → ClassId) (av : List Value) (w0 : va_W) (sz : Nat) : Array Value → State → Prop := va_Pc av (fun U => U.heap.size = sz ∧ va_P D classes w0 U.heap ∧ va_K D classes (zt tA) U ∧ va_D (fun _ => True) w0 ∧ zG tA (va_A w0 sz) U U.heap)
def zAt (D : va_G) (w0 w1 : va_W) (sz : Nat) : Unit → State → Prop := fun _ t => va_P D classes w1 t.heap ∧ va_D (va_A w0 sz) w1
def zCi (l : Launch) (D : va_G) (tA : Nat → ClassId) (y : MethodName) (b : ByteArray) (nL : Nat) (ty : FieldType) (rm : Room) (av : List Value) (w0 : va_W) (rr : α → Int32) (w1 : α → va_W) (o : Option α) : Prop :=
  ∀ out : α, o = some out → ∀ sz : Nat, Met l y (.code y b nL (some ty) :: zT) rm (zPre D tA av w0 sz) (va_Qi (fun (r : Int32) (_ : Unit) => r = rr out) (zAt D w0 (w1 out) sz) (va_A w0 sz)) 0 0 (va_A w0 sz)
def zCl (l : Launch) (D : va_G) (tA : Nat → ClassId) (y : MethodName) (b : ByteArray) (nL : Nat) (rm : Room) (av : List Value) (w0 : va_W) (rr : α → Int64) (w1 : α → va_W) (o : Option α) : Prop :=
  ∀ out : α, o = some out → ∀ sz : Nat, Met l y (.code y b nL (some .long) :: zT) rm (zPre D tA av w0 sz) (va_Ql (fun (r : Int64) (_ : Unit) => r = rr out) (zAt D w0 (w1 out) sz) (va_A w0 sz)) 0 0 (va_A w0 sz)
def zCv (l : Launch) (D : va_G) (tA : Nat → ClassId) (y : MethodName) (b : ByteArray) (nL : Nat) (rm : Room) (av : List Value) (w0 : va_W) (w1 : α → va_W) (o : Option α) : Prop :=
  ∀ out : α, o = some out → ∀ sz : Nat, Met l y (.code y b nL none :: zT) rm (zPre D tA av w0 sz) (va_Qv (fun (_ : Unit) => True) (zAt D w0 (w1 out) sz) (va_A w0 sz)) 0 0 (va_A w0 sz)
theorem zCi_of {y : MethodName} {b : ByteArray} {ty : FieldType} {av : List Value} {w0 : va_W} {rr : α → Int32} {w1 : α → va_W} (hy : plainName y.cls = true) (hlen : (lg_sl av).length ≤ nL) {lv0 : List (Option Value)} (hlv : zent av nL = lv0)
    (body : ∀ (X : ZX) (out : α), zF l D tA y.cls b nL rm X → zRi X D b ty rr w1 out → zY X D out o w0 0 lv0 []) : zCi l D tA y b nL ty rm av w0 rr w1 o := by
  intro out ho sz
  refine Met.ofW (cc := b) (maxL := nL) (ret := some ty) hy rfl ?_
  intro p e s m args below meth c s₁ B hml hv
  obtain ⟨rfl, hsz, hP, hK, hD0, hG⟩ := hv
  subst hsz
  have hts := atoms_spec (ws := .code y b nL (some ty) :: zT) B.pre
  have hlocks := B.notSynchronized
  rw [lg_entry_eq]
  refine body ((p, l, e, (headSpec (.code y b nL (some ty) :: zT) rm).room, s, m), (av.toArray, below, meth, c, _), va_A w0 s.heap.size, s.heap) out ⟨B.exec, B.bytes, findClass_of_methodNamed B.named, fun w hw => hts w (List.mem_cons_of_mem _ hw), hK, fun q h => Or.inr h, hml, rfl, rfl, rfl, hG, rfl⟩ ?_ ho s.heap [] _ hP hD0.self va_S.rf (hlv ▸ zh_ent hlen)
  intro hn H locs pc ls d hP hD hS
  exact W.zret B.exec B.bytes B.returns hn (fun t ht hW => ⟨⟨rr out, (), rfl, rfl, by rw [ht]; exact hP, hD⟩, hS.F ht⟩) hS.2.2 d hlocks
theorem zCl_of {y : MethodName} {b : ByteArray} {av : List Value} {w0 : va_W} {rr : α → Int64} {w1 : α → va_W} (hy : plainName y.cls = true) (hlen : (lg_sl av).length ≤ nL) {lv0 : List (Option Value)} (hlv : zent av nL = lv0)
    (body : ∀ (X : ZX) (out : α), zF l D tA y.cls b nL rm X → zRl X D b rr w1 out → zY X D out o w0 0 lv0 []) : zCl l D tA y b nL rm av w0 rr w1 o := by
  intro out ho sz
  refine Met.ofW (cc := b) (maxL := nL) (ret := some .long) hy rfl ?_
  intro p e s m args below meth c s₁ B hml hv
  obtain ⟨rfl, hsz, hP, hK, hD0, hG⟩ := hv
  subst hsz
  have hts := atoms_spec (ws := .code y b nL (some .long) :: zT) B.pre
  have hlocks := B.notSynchronized
  rw [lg_entry_eq]
  refine body ((p, l, e, (headSpec (.code y b nL (some .long) :: zT) rm).room, s, m), (av.toArray, below, meth, c, _), va_A w0 s.heap.size, s.heap) out ⟨B.exec, B.bytes, findClass_of_methodNamed B.named, fun w hw => hts w (List.mem_cons_of_mem _ hw), hK, fun q h => Or.inr h, hml, rfl, rfl, rfl, hG, rfl⟩ ?_ ho s.heap [] _ hP hD0.self va_S.rf (hlv ▸ zh_ent hlen)
  intro H locs pc ls d hP hD hS
  exact W.lret B.exec B.bytes B.returns (fun t ht hW => ⟨⟨rr out, (), rfl, rfl, by rw [ht]; exact hP, hD⟩, hS.F ht⟩) hS.2.2 d hlocks
theorem zCv_of {y : MethodName} {b : ByteArray} {av : List Value} {w0 : va_W} {w1 : α → va_W} (hy : plainName y.cls = true) (hlen : (lg_sl av).length ≤ nL) {lv0 : List (Option Value)} (hlv : zent av nL = lv0)
    (body : ∀ (X : ZX) (out : α), zF l D tA y.cls b nL rm X → zRv X D b w1 out → zY X D out o w0 0 lv0 []) : zCv l D tA y b nL rm av w0 w1 o := by
  intro out ho sz
  refine Met.ofW (cc := b) (maxL := nL) (ret := none) hy rfl ?_
  intro p e s m args below meth c s₁ B hml hv
  obtain ⟨rfl, hsz, hP, hK, hD0, hG⟩ := hv
  subst hsz
  have hts := atoms_spec (ws := .code y b nL none :: zT) B.pre
  have hlocks := B.notSynchronized
  rw [lg_entry_eq]
  refine body ((p, l, e, (headSpec (.code y b nL none :: zT) rm).room, s, m), (av.toArray, below, meth, c, _), va_A w0 s.heap.size, s.heap) out ⟨B.exec, B.bytes, findClass_of_methodNamed B.named, fun w hw => hts w (List.mem_cons_of_mem _ hw), hK, fun q h => Or.inr h, hml, rfl, rfl, rfl, hG, rfl⟩ ?_ ho s.heap [] _ hP hD0.self va_S.rf (hlv ▸ zh_ent hlen)
  intro H locs pc ls d hP hD hS
  exact W.vret B.exec B.bytes B.returns (fun t ht hW => ⟨⟨(), rfl, trivial, by rw [ht]; exact hP, hD⟩, hS.F ht⟩) hS.2.2 d hlocks
end ZB
end
section
section ZCALL
variable {l : Launch} {D : va_G} {tA : Nat → ClassId} {own : String} {cc : ByteArray} {nL : Nat} {rm : Room} {X : ZX} {α β : Type} {out : α} {o o1 o2 : Option α} {ws ws' : va_W} {pc : Nat} {lv lv' : List (Option Value)} {st : List Value} {cA : ClassId} {n : Nat} {a : Addr}
/-- cells at places, put anew -/
def zput : va_W → List Nat → va_W → va_W
  | ws, i :: is, c :: cs => zput (ws.set i c) is cs
  | ws, _, _ => ws
theorem zput_at : ∀ (is : List Nat) (ws w1 : va_W) (k : Nat) (q : Nat × va_E), (zput ws is w1)[k]? = some q → (∃ j : Nat, is[j]? = some k ∧ w1[j]? = some q) ∨ ((is.length = w1.length → k ∉ is) ∧ ws[k]? = some q) := by
  intro is
  induction is with
  | nil =>
    intro ws w1 k q h
    have h : ws[k]? = some q := by cases w1 <;> exact h
    exact Or.inr ⟨fun _ => by simp, h⟩
  | cons i is ih =>
    intro ws w1 k q h
    cases w1 with
    | nil => exact Or.inr ⟨fun z => by simp at z, h⟩
    | cons c cs =>
      have h : (zput (ws.set i c) is cs)[k]? = some q := h
      rcases ih _ _ _ _ h with ⟨j, h1, h2⟩ | ⟨h1, h2⟩
      · exact Or.inl ⟨j + 1, by simpa using h1, by simpa using h2⟩
      · by_cases e : k = i
        · subst e
          have hl : k < ws.length := by
            have := (List.getElem?_eq_some_iff.mp h2).1
            rwa [List.length_set] at this
          rw [List.getElem?_set_self hl] at h2
          exact Or.inl ⟨0, rfl, h2⟩
        · rw [List.getElem?_set_ne (Ne.symm e)] at h2
          refine Or.inr ⟨fun z => ?_, h2⟩
          have z2 : is.length = cs.length := by simpa using z
          intro hm
          rcases List.mem_cons.mp hm with hm | hm
          · exact e hm
          · exact h1 z2 hm
theorem zmap_at {is : List Nat} {ws w : va_W} (hs : is.map (fun i => ws[i]?) = w.map some) : ∀ (k : Nat) (q : Nat × va_E), w[k]? = some q → ∃ i, is[k]? = some i ∧ ws[i]? = some q := by
  intro k q hq
  have h1 : (is.map (fun i => ws[i]?))[k]? = some (some q) := by rw [hs, List.getElem?_map, hq]; rfl
  rw [List.getElem?_map] at h1
  cases hi : is[k]? with
  | none => rw [hi] at h1; cases h1
  | some i => rw [hi] at h1; exact ⟨i, rfl, Option.some.inj h1⟩
theorem zmap_fm {is : List Nat} {ws w : va_W} (hs : is.map (fun i => ws[i]?) = w.map some) : is.filterMap (fun i => ws[i]?) = w := by
  have h1 : is.filterMap (fun i => ws[i]?) = (is.map (fun i => ws[i]?)).filterMap id := by
    rw [List.filterMap_map]; rfl
  rw [h1, hs, List.filterMap_map]
  have : (id ∘ some : Nat × va_E → Option (Nat × va_E)) = some := rfl
  rw [this, List.filterMap_some]
theorem zmap_len {is : List Nat} {ws w : va_W} (hs : is.map (fun i => ws[i]?) = w.map some) : is.length = w.length := by
  have := congrArg List.length hs
  simpa using this
/-- the cells of ws', by their places: those of w1, or as before -/
def zCh (ws : va_W) (is : List Nat) (w1 ws' : va_W) : Prop := ∀ (k : Nat) (q : Nat × va_E), ws'[k]? = some q → (∃ j : Nat, is[j]? = some k ∧ w1[j]? = some q) ∨ ((is.length = w1.length → k ∉ is) ∧ ws[k]? = some q)
theorem zCh_put {ws w1 ws' : va_W} {is : List Nat} (h : zput ws is w1 = ws') : zCh ws is w1 ws' := by
  subst h
  exact fun k q hq => zput_at is ws w1 k q hq
theorem zCh_nil {ws : va_W} : zCh ws [] [] ws := fun k q hq => Or.inr ⟨fun _ => by simp, hq⟩
theorem zCh_of {ws w1 ws' : va_W} {is co : List Nat} {n : Nat} (hC : is.map (fun i => ws'[i]?) = w1.map some) (ho : co.map (fun i => ws[i]?) = co.map (fun i => ws'[i]?)) (hn : ws'.length = n) (hv : (List.range n).all (fun k => is.contains k || co.contains k) = true) : zCh ws is w1 ws' := by
  intro k q hq
  have hk : k < n := by rw [← hn]; exact (List.getElem?_eq_some_iff.mp hq).1
  by_cases hm : k ∈ is
  · left
    obtain ⟨j, hj⟩ := List.getElem?_of_mem hm
    refine ⟨j, hj, ?_⟩
    have h1 : (is.map (fun i => ws'[i]?))[j]? = some (ws'[k]?) := by rw [List.getElem?_map, hj]; rfl
    rw [hC, List.getElem?_map, hq] at h1
    cases hw : w1[j]? with
    | none => rw [hw] at h1; cases h1
    | some x => rw [hw] at h1; exact Option.some.inj h1
  · right
    refine ⟨fun _ => hm, ?_⟩
    have h2 := List.all_eq_true.mp hv k (List.mem_range.mpr hk)
    have h3 : k ∈ co := by
      simp only [Bool.or_eq_true, List.contains_iff_mem] at h2
      exact h2.resolve_left hm
    obtain ⟨j, hj⟩ := List.getElem?_of_mem h3
    have h4 : (co.map (fun i => ws[i]?))[j]? = some (ws[k]?) := by rw [List.getElem?_map, hj]; rfl
    have h5 : (co.map (fun i => ws'[i]?))[j]? = some (ws'[k]?) := by rw [List.getElem?_map, hj]; rfl
    rw [ho, h5] at h4
    rw [← Option.some.inj h4]
    exact hq
/-- behind a call: what came back lies at its places, all else as it was -/
theorem zjoin {D : va_G} {cl : List vw_C} {A0 : Nat → Prop} {ws wc w1 ws' : va_W} {H H1 : Heap} {is : List Nat} (hP : va_P D cl ws H) (hD : va_D A0 ws) (hC : is.map (fun i => ws[i]?) = wc.map some) (hk : ∀ q : Nat, q < H.size → ¬ va_A wc H.size q → H1[q]? = H[q]?) (hP1 : va_P D cl w1 H1) (hadr : w1.map Prod.fst = wc.map Prod.fst) (hput : zCh ws is w1 ws') : va_P D cl ws' H1 ∧ va_D A0 ws' := by
  have hlen : is.length = w1.length := by
    have := congrArg List.length hadr
    rw [List.length_map, List.length_map] at this
    rw [zmap_len hC, this]
  have adr : ∀ (j : Nat) (q : Nat × va_E), w1[j]? = some q → ∃ q0, wc[j]? = some q0 ∧ q0.1 = q.1 := by
    intro j q hq
    have h1 : (w1.map Prod.fst)[j]? = some q.1 := by rw [List.getElem?_map, hq]; rfl
    rw [hadr, List.getElem?_map] at h1
    cases hw : wc[j]? with
    | none => rw [hw] at h1; cases h1
    | some q0 => rw [hw] at h1; exact ⟨q0, rfl, Option.some.inj h1⟩
  have old : ∀ (k : Nat) (q : Nat × va_E), ws'[k]? = some q → ∃ q0, ws[k]? = some q0 ∧ q0.1 = q.1 := by
    intro k q hq
    rcases hput k q hq with ⟨j, h1, h2⟩ | ⟨-, h2⟩
    · obtain ⟨q0, h3, h4⟩ := adr j q h2
      obtain ⟨i, h5, h6⟩ := zmap_at hC j q0 h3
      have e : i = k := Option.some.inj (h5.symm.trans h1)
      subst e
      exact ⟨q0, h6, h4⟩
    · exact ⟨q, h2, rfl⟩
  refine ⟨fun k q hq => ?_, fun i j p q hi hj e => ?_, fun k q hq => ?_⟩
  · rcases hput k q hq with ⟨j, h1, h2⟩ | ⟨h1, h2⟩
    · exact hP1 j q h2
    · refine (hP k q h2).kept (hk q.1 (hP k q h2).lt ?_)
      rintro (⟨j, e, h3⟩ | h3)
      · obtain ⟨i, h5, h6⟩ := zmap_at hC j (q.1, e) h3
        have e2 : k = i := hD.1 k i q (q.1, e) h2 h6 rfl
        subst e2
        exact h1 hlen (List.mem_of_getElem? h5)
      · have := (hP k q h2).lt
        omega
  · obtain ⟨p0, h1, h2⟩ := old i p hi
    obtain ⟨q0, h3, h4⟩ := old j q hj
    exact hD.1 i j p0 q0 h1 h3 (h2.trans (e.trans h4.symm))
  · obtain ⟨q0, h1, h2⟩ := old k q hq
    rw [← h2]
    exact hD.2 k q0 h1
theorem zblind {D : va_G} {tA : Nat → ClassId} {av : List Value} {w0 : va_W} {sz : Nat} : FrameBlind (zPre D tA av w0 sz) := by
  intro a U g mk q
  obtain ⟨q0, q1, qP, qK, qD, qG⟩ := q
  exact ⟨q0, q1, qP, va_K.moved (u := U) (U := U.calling g mk a) (Vm.Alike.refl U.vm) qK, qD, qG.call⟩
/-- a method's words -/
def zMv (own : String) (ix : Nat) (y : MethodName) (b : ByteArray) (n : Nat) (ret : Option FieldType) (np : Nat) : Prop :=
  Cond.methodLink own ix y ∈ zT ∧ Cond.instanceMethod y ∈ zT ∧ Cond.selects y.cls y y ∈ zT ∧ Cond.initialized y.cls ∈ zT ∧ Cond.code y b n ret ∈ zT ∧ (y.cls ≠ "java/lang/invoke/MethodHandle" ∧ y.cls ≠ "java/lang/invoke/VarHandle") ∧ (parseMethodDescriptor y.desc).map (fun d => d.parameters.length) = some np
def zMs (own : String) (ix : Nat) (y : MethodName) (b : ByteArray) (n : Nat) (ret : Option FieldType) (np : Nat) : Prop :=
  Cond.methodLink own ix y ∈ zT ∧ Cond.static y ∈ zT ∧ Cond.initialized y.cls ∈ zT ∧ Cond.code y b n ret ∈ zT ∧ (y.cls ≠ "java/lang/invoke/MethodHandle" ∧ y.cls ≠ "java/lang/invoke/VarHandle") ∧ (parseMethodDescriptor y.desc).map (fun d => d.parameters.length) = some np
theorem zgood {ys : List Cond} (hy : ∀ w ∈ ys, w ∈ zT) : GoodIn zT ys := fun w hw => ⟨hy w hw, good_of_word (zT_of (hy w hw)).2⟩
theorem zwords {s U : State} {args a' : Array Value} (ht : ∀ w ∈ zT, w.before args s = true) (hW : s.WarmedH U.vm) {w : Cond} (hw : w ∈ zT) : w.before a' U = true := word_at hW (good_of_word (zT_of hw).2) (ht w hw)
theorem zcallB (F : zF l D tA own cc nL rm X) {ix : Nat} {y : MethodName} {b : ByteArray} {nY : Nat} {ret : Option FieldType} {np : Nat} {rmY : Room} (hl : Cond.methodLink own ix y ∈ zT) (hi : Cond.initialized y.cls ∈ zT) (hc : Cond.code y b nY ret ∈ zT) (hy : y.cls ≠ "java/lang/invoke/MethodHandle" ∧ y.cls ≠ "java/lang/invoke/VarHandle") (hnp : (parseMethodDescriptor y.desc).map (fun d => d.parameters.length) = some np) (h0 : rmY.cells = 0 ∧ rmY.slots = 0) (hR : rmY.frames + 1 ≤ rm.frames ∧ 8 + (nY + 11) + rmY.locals ≤ rm.locals) :
    CallB (zR X) (zs X) (za X) own ix y b nY ret (.code y b nY ret :: zT) rmY 0 0 np := by
  obtain ⟨-, -, -, hts, -, -, -, -, hf, hlo, -, -⟩ := F
  refine ⟨h0.1, h0.2, by rw [hf]; exact hR.1, by rw [hlo]; exact hR.2, fun w hw a' U hW => ?_, List.mem_cons_self, hts _ hc, hts _ hi, hy, fun sig h => ?_, hts _ hl⟩
  · rcases List.mem_cons.mp hw with h | h
    · rw [h]; exact zwords hts hW hc
    · exact zwords hts hW h
  · rw [h] at hnp
    exact (Option.some.inj hnp).symm
theorem zpreV (F : zF l D tA own cc nL rm X) {H : Heap} {locs : List Loc} {ws w0 : va_W} {A : Nat → Prop} {is : List Nat} {av : List Value} (hP : va_P D classes ws H) (hD : va_D A ws) (hC : is.map (fun i => ws[i]?) = w0.map some) (hn : va_nd is = true) (hS : va_S (zA X) (zH X) H locs) (hF : ∀ q : Nat, va_A w0 H.size q → zA X q) : ∀ U : State, U.heap = H → (zs X).WarmedH U.vm → zPre D tA av w0 H.size av.toArray U := by
  intro U hU hW
  exact ⟨rfl, by rw [hU], by rw [hU]; exact hP.sub is (zmap_fm hC), va_K.moved hW.alike F.2.2.2.2.1, (hD.sub is hn hC).weaken (fun _ _ _ _ => trivial), by rw [hU]; exact F.2.2.2.2.2.2.2.2.2.2.1.to hS hF hW⟩
theorem y_calli (F : zF l D tA own cc nL rm X) {ix nY np ci q0 : Nat} {y : MethodName} {bY : ByteArray} {ty : FieldType} {rmY : Room} {w0 : va_W} {rr : β → Int32} {w1 wf : β → va_W} {oc : Option β} {kf : β → Option α} {b : Addr} {As : List Value} {fs : List Value} {q : vw_C} (hcon : zCi l D tA y bY nY ty rmY (.ref b :: As) w0 rr w1 oc) (d : decode cc pc = .ok (.invokevirtual ix, 3)) (cw : zMv own ix y bY nY (some ty) np)
    (h0 : rmY.cells = 0 ∧ rmY.slots = 0) (hR : rmY.frames + 1 ≤ rm.frames ∧ 8 + (nY + 11) + rmY.locals ≤ rm.locals) (hlen : As.length = np) (hnL : lv.length = nL) {stk : List Value} (hst : stk = As.reverse ++ .ref b :: st) (hcat : (st.map fun v => v.category).sum ≤ 8)
    (hq : classes[ci]? = some q) (hqc : q.1 = y.cls) (he : ws[q0]? = some (b, .inr (ci, fs))) (is : List Nat) (hC : is.map (fun i => ws[i]?) = w0.map some) (hn : va_nd is = true) (hadr : ∀ r : β, (w1 r).map Prod.fst = w0.map Prod.fst) (hput : ∀ r : β, zCh ws is (w1 r) (wf r))
    (kk : ∀ r : β, zY X D out (kf r) (wf r) (pc + 3) lv (.int (rr r) :: st)) : zY X D out (oc.bind kf) ws pc lv stk := by
  intro h H locs ls hP hD hS hl
  subst hst
  have ez : zl X = l := F.2.2.2.2.2.2.2.1
  subst ez
  cases hoc : oc with
  | none => rw [hoc] at h; cases h
  | some r =>
    rw [hoc] at h
    have h : kf r = some out := h
    have hF := va_free (wc := w0) hD hS F.2.2.2.2.2.1 is hC
    refine va_calli (va_runV (As := As) (rest := st) (g := F0 (zm X) pc ls (As.reverse ++ .ref b :: st)) (Ts := zT) (C := y.cls) ⟨F.1, F.2.1, rfl, F.2.2.1, F.2.2.2.1⟩ (hcon r hoc H.size) ⟨zcallB F cw.1 cw.2.2.2.1 cw.2.2.2.2.1 cw.2.2.2.2.2.1 cw.2.2.2.2.2.2 h0 hR, F.2.2.2.1 _ cw.2.1, F.2.2.2.1 _ cw.2.2.1⟩ ⟨zblind, hqc ▸ va_recv F.2.2.2.2.1 hP hq he, zpreV F hP hD hC hn hS hF⟩ rfl hlen (hl.1.trans (hnL.trans F.2.2.2.2.2.2.1.symm)) rfl (lv_room hcat) d ⟨Nat.zero_le _, Nat.zero_le _⟩) hS (fun q _ h => hF q h) hF (fun r1 u t H1 locs1 ht hvm hw hB hz1 hk1 hS1 => ?_)
    obtain ⟨hP1, hD1⟩ := hB
    rw [ht] at hP1
    obtain ⟨hPj, hDj⟩ := zjoin hP hD hC hk1 hP1 (hadr r) (hput r)
    rw [hw]
    exact kk r h H1 locs1 ls hPj hDj hS1 hl
theorem y_calll (F : zF l D tA own cc nL rm X) {ix nY np ci q0 : Nat} {y : MethodName} {bY : ByteArray} {rmY : Room} {w0 : va_W} {rr : β → Int64} {w1 wf : β → va_W} {oc : Option β} {kf : β → Option α} {b : Addr} {As : List Value} {fs : List Value} {q : vw_C} (hcon : zCl l D tA y bY nY rmY (.ref b :: As) w0 rr w1 oc) (d : decode cc pc = .ok (.invokevirtual ix, 3)) (cw : zMv own ix y bY nY (some .long) np)
    (h0 : rmY.cells = 0 ∧ rmY.slots = 0) (hR : rmY.frames + 1 ≤ rm.frames ∧ 8 + (nY + 11) + rmY.locals ≤ rm.locals) (hlen : As.length = np) (hnL : lv.length = nL) {stk : List Value} (hst : stk = As.reverse ++ .ref b :: st) (hcat : (st.map fun v => v.category).sum ≤ 8)
    (hq : classes[ci]? = some q) (hqc : q.1 = y.cls) (he : ws[q0]? = some (b, .inr (ci, fs))) (is : List Nat) (hC : is.map (fun i => ws[i]?) = w0.map some) (hn : va_nd is = true) (hadr : ∀ r : β, (w1 r).map Prod.fst = w0.map Prod.fst) (hput : ∀ r : β, zCh ws is (w1 r) (wf r))
    (kk : ∀ r : β, zY X D out (kf r) (wf r) (pc + 3) lv (.long (rr r) :: st)) : zY X D out (oc.bind kf) ws pc lv stk := by
  intro h H locs ls hP hD hS hl
  subst hst
  have ez : zl X = l := F.2.2.2.2.2.2.2.1
  subst ez
  cases hoc : oc with
  | none => rw [hoc] at h; cases h
  | some r =>
    rw [hoc] at h
    have h : kf r = some out := h
    have hF := va_free (wc := w0) hD hS F.2.2.2.2.2.1 is hC
    refine va_calll (va_runV (As := As) (rest := st) (g := F0 (zm X) pc ls (As.reverse ++ .ref b :: st)) (Ts := zT) (C := y.cls) ⟨F.1, F.2.1, rfl, F.2.2.1, F.2.2.2.1⟩ (hcon r hoc H.size) ⟨zcallB F cw.1 cw.2.2.2.1 cw.2.2.2.2.1 cw.2.2.2.2.2.1 cw.2.2.2.2.2.2 h0 hR, F.2.2.2.1 _ cw.2.1, F.2.2.2.1 _ cw.2.2.1⟩ ⟨zblind, hqc ▸ va_recv F.2.2.2.2.1 hP hq he, zpreV F hP hD hC hn hS hF⟩ rfl hlen (hl.1.trans (hnL.trans F.2.2.2.2.2.2.1.symm)) rfl (lv_room hcat) d ⟨Nat.zero_le _, Nat.zero_le _⟩) hS (fun q _ h => hF q h) hF (fun r1 u t H1 locs1 ht hvm hw hB hz1 hk1 hS1 => ?_)
    obtain ⟨hP1, hD1⟩ := hB
    rw [ht] at hP1
    obtain ⟨hPj, hDj⟩ := zjoin hP hD hC hk1 hP1 (hadr r) (hput r)
    rw [hw]
    exact kk r h H1 locs1 ls hPj hDj hS1 hl
theorem y_callv (F : zF l D tA own cc nL rm X) {ix nY np ci q0 : Nat} {y : MethodName} {bY : ByteArray} {rmY : Room} {w0 : va_W} {w1 wf : β → va_W} {oc : Option β} {kf : β → Option α} {b : Addr} {As : List Value} {fs : List Value} {q : vw_C} (hcon : zCv l D tA y bY nY rmY (.ref b :: As) w0 w1 oc) (d : decode cc pc = .ok (.invokevirtual ix, 3)) (cw : zMv own ix y bY nY none np)
    (h0 : rmY.cells = 0 ∧ rmY.slots = 0) (hR : rmY.frames + 1 ≤ rm.frames ∧ 8 + (nY + 11) + rmY.locals ≤ rm.locals) (hlen : As.length = np) (hnL : lv.length = nL) {stk : List Value} (hst : stk = As.reverse ++ .ref b :: st) (hcat : (st.map fun v => v.category).sum ≤ 8)
    (hq : classes[ci]? = some q) (hqc : q.1 = y.cls) (he : ws[q0]? = some (b, .inr (ci, fs))) (is : List Nat) (hC : is.map (fun i => ws[i]?) = w0.map some) (hn : va_nd is = true) (hadr : ∀ r : β, (w1 r).map Prod.fst = w0.map Prod.fst) (hput : ∀ r : β, zCh ws is (w1 r) (wf r))
    (kk : ∀ r : β, zY X D out (kf r) (wf r) (pc + 3) lv st) : zY X D out (oc.bind kf) ws pc lv stk := by
  intro h H locs ls hP hD hS hl
  subst hst
  have ez : zl X = l := F.2.2.2.2.2.2.2.1
  subst ez
  cases hoc : oc with
  | none => rw [hoc] at h; cases h
  | some r =>
    rw [hoc] at h
    have h : kf r = some out := h
    have hF := va_free (wc := w0) hD hS F.2.2.2.2.2.1 is hC
    refine va_callv (va_runV (As := As) (rest := st) (g := F0 (zm X) pc ls (As.reverse ++ .ref b :: st)) (Ts := zT) (C := y.cls) ⟨F.1, F.2.1, rfl, F.2.2.1, F.2.2.2.1⟩ (hcon r hoc H.size) ⟨zcallB F cw.1 cw.2.2.2.1 cw.2.2.2.2.1 cw.2.2.2.2.2.1 cw.2.2.2.2.2.2 h0 hR, F.2.2.2.1 _ cw.2.1, F.2.2.2.1 _ cw.2.2.1⟩ ⟨zblind, hqc ▸ va_recv F.2.2.2.2.1 hP hq he, zpreV F hP hD hC hn hS hF⟩ rfl hlen (hl.1.trans (hnL.trans F.2.2.2.2.2.2.1.symm)) rfl (lv_room hcat) d ⟨Nat.zero_le _, Nat.zero_le _⟩) hS (fun q _ h => hF q h) hF (fun u t H1 locs1 ht hvm hw hB hz1 hk1 hS1 => ?_)
    obtain ⟨hP1, hD1⟩ := hB
    rw [ht] at hP1
    obtain ⟨hPj, hDj⟩ := zjoin hP hD hC hk1 hP1 (hadr r) (hput r)
    exact kk r h H1 locs1 ls hPj hDj hS1 hl
theorem y_scalli (F : zF l D tA own cc nL rm X) {ix nY np : Nat} {y : MethodName} {bY : ByteArray} {ty : FieldType} {rmY : Room} {w0 : va_W} {rr : β → Int32} {w1 wf : β → va_W} {oc : Option β} {kf : β → Option α} {As : List Value} (hcon : zCi l D tA y bY nY ty rmY As w0 rr w1 oc) (d : decode cc pc = .ok (.invokestatic ix, 3)) (cw : zMs own ix y bY nY (some ty) np)
    (h0 : rmY.cells = 0 ∧ rmY.slots = 0) (hR : rmY.frames + 1 ≤ rm.frames ∧ 8 + (nY + 11) + rmY.locals ≤ rm.locals) (hlen : As.length = np) (hnL : lv.length = nL) {stk : List Value} (hst : stk = As.reverse ++ st) (hcat : (st.map fun v => v.category).sum ≤ 8)
    (is : List Nat) (hC : is.map (fun i => ws[i]?) = w0.map some) (hn : va_nd is = true) (hadr : ∀ r : β, (w1 r).map Prod.fst = w0.map Prod.fst) (hput : ∀ r : β, zCh ws is (w1 r) (wf r))
    (kk : ∀ r : β, zY X D out (kf r) (wf r) (pc + 3) lv (.int (rr r) :: st)) : zY X D out (oc.bind kf) ws pc lv stk := by
  intro h H locs ls hP hD hS hl
  subst hst
  have ez : zl X = l := F.2.2.2.2.2.2.2.1
  subst ez
  cases hoc : oc with
  | none => rw [hoc] at h; cases h
  | some r =>
    rw [hoc] at h
    have h : kf r = some out := h
    have hF := va_free (wc := w0) hD hS F.2.2.2.2.2.1 is hC
    refine va_calli (va_runS (As := As) (rest := st) (g := F0 (zm X) pc ls (As.reverse ++ st)) (Ts := zT) ⟨F.1, F.2.1, rfl, F.2.2.1, F.2.2.2.1⟩ (hcon r hoc H.size) ⟨zcallB F cw.1 cw.2.2.1 cw.2.2.2.1 cw.2.2.2.2.1 cw.2.2.2.2.2 h0 hR, F.2.2.2.1 _ cw.2.1⟩ ⟨zblind, zpreV F hP hD hC hn hS hF⟩ rfl hlen (hl.1.trans (hnL.trans F.2.2.2.2.2.2.1.symm)) rfl (lv_room hcat) d ⟨Nat.zero_le _, Nat.zero_le _⟩) hS (fun q _ h => hF q h) hF (fun r1 u t H1 locs1 ht hvm hw hB hz1 hk1 hS1 => ?_)
    obtain ⟨hP1, hD1⟩ := hB
    rw [ht] at hP1
    obtain ⟨hPj, hDj⟩ := zjoin hP hD hC hk1 hP1 (hadr r) (hput r)
    rw [hw]
    exact kk r h H1 locs1 ls hPj hDj hS1 hl
theorem y_scalll (F : zF l D tA own cc nL rm X) {ix nY np : Nat} {y : MethodName} {bY : ByteArray} {rmY : Room} {w0 : va_W} {rr : β → Int64} {w1 wf : β → va_W} {oc : Option β} {kf : β → Option α} {As : List Value} (hcon : zCl l D tA y bY nY rmY As w0 rr w1 oc) (d : decode cc pc = .ok (.invokestatic ix, 3)) (cw : zMs own ix y bY nY (some .long) np)
    (h0 : rmY.cells = 0 ∧ rmY.slots = 0) (hR : rmY.frames + 1 ≤ rm.frames ∧ 8 + (nY + 11) + rmY.locals ≤ rm.locals) (hlen : As.length = np) (hnL : lv.length = nL) {stk : List Value} (hst : stk = As.reverse ++ st) (hcat : (st.map fun v => v.category).sum ≤ 8)
    (is : List Nat) (hC : is.map (fun i => ws[i]?) = w0.map some) (hn : va_nd is = true) (hadr : ∀ r : β, (w1 r).map Prod.fst = w0.map Prod.fst) (hput : ∀ r : β, zCh ws is (w1 r) (wf r))
    (kk : ∀ r : β, zY X D out (kf r) (wf r) (pc + 3) lv (.long (rr r) :: st)) : zY X D out (oc.bind kf) ws pc lv stk := by
  intro h H locs ls hP hD hS hl
  subst hst
  have ez : zl X = l := F.2.2.2.2.2.2.2.1
  subst ez
  cases hoc : oc with
  | none => rw [hoc] at h; cases h
  | some r =>
    rw [hoc] at h
    have h : kf r = some out := h
    have hF := va_free (wc := w0) hD hS F.2.2.2.2.2.1 is hC
    refine va_calll (va_runS (As := As) (rest := st) (g := F0 (zm X) pc ls (As.reverse ++ st)) (Ts := zT) ⟨F.1, F.2.1, rfl, F.2.2.1, F.2.2.2.1⟩ (hcon r hoc H.size) ⟨zcallB F cw.1 cw.2.2.1 cw.2.2.2.1 cw.2.2.2.2.1 cw.2.2.2.2.2 h0 hR, F.2.2.2.1 _ cw.2.1⟩ ⟨zblind, zpreV F hP hD hC hn hS hF⟩ rfl hlen (hl.1.trans (hnL.trans F.2.2.2.2.2.2.1.symm)) rfl (lv_room hcat) d ⟨Nat.zero_le _, Nat.zero_le _⟩) hS (fun q _ h => hF q h) hF (fun r1 u t H1 locs1 ht hvm hw hB hz1 hk1 hS1 => ?_)
    obtain ⟨hP1, hD1⟩ := hB
    rw [ht] at hP1
    obtain ⟨hPj, hDj⟩ := zjoin hP hD hC hk1 hP1 (hadr r) (hput r)
    rw [hw]
    exact kk r h H1 locs1 ls hPj hDj hS1 hl
theorem y_scallv (F : zF l D tA own cc nL rm X) {ix nY np : Nat} {y : MethodName} {bY : ByteArray} {rmY : Room} {w0 : va_W} {w1 wf : β → va_W} {oc : Option β} {kf : β → Option α} {As : List Value} (hcon : zCv l D tA y bY nY rmY As w0 w1 oc) (d : decode cc pc = .ok (.invokestatic ix, 3)) (cw : zMs own ix y bY nY none np)
    (h0 : rmY.cells = 0 ∧ rmY.slots = 0) (hR : rmY.frames + 1 ≤ rm.frames ∧ 8 + (nY + 11) + rmY.locals ≤ rm.locals) (hlen : As.length = np) (hnL : lv.length = nL) {stk : List Value} (hst : stk = As.reverse ++ st) (hcat : (st.map fun v => v.category).sum ≤ 8)
    (is : List Nat) (hC : is.map (fun i => ws[i]?) = w0.map some) (hn : va_nd is = true) (hadr : ∀ r : β, (w1 r).map Prod.fst = w0.map Prod.fst) (hput : ∀ r : β, zCh ws is (w1 r) (wf r))
    (kk : ∀ r : β, zY X D out (kf r) (wf r) (pc + 3) lv st) : zY X D out (oc.bind kf) ws pc lv stk := by
  intro h H locs ls hP hD hS hl
  subst hst
  have ez : zl X = l := F.2.2.2.2.2.2.2.1
  subst ez
  cases hoc : oc with
  | none => rw [hoc] at h; cases h
  | some r =>
    rw [hoc] at h
    have h : kf r = some out := h
    have hF := va_free (wc := w0) hD hS F.2.2.2.2.2.1 is hC
    refine va_callv (va_runS (As := As) (rest := st) (g := F0 (zm X) pc ls (As.reverse ++ st)) (Ts := zT) ⟨F.1, F.2.1, rfl, F.2.2.1, F.2.2.2.1⟩ (hcon r hoc H.size) ⟨zcallB F cw.1 cw.2.2.1 cw.2.2.2.1 cw.2.2.2.2.1 cw.2.2.2.2.2 h0 hR, F.2.2.2.1 _ cw.2.1⟩ ⟨zblind, zpreV F hP hD hC hn hS hF⟩ rfl hlen (hl.1.trans (hnL.trans F.2.2.2.2.2.2.1.symm)) rfl (lv_room hcat) d ⟨Nat.zero_le _, Nat.zero_le _⟩) hS (fun q _ h => hF q h) hF (fun u t H1 locs1 ht hvm hw hB hz1 hk1 hS1 => ?_)
    obtain ⟨hP1, hD1⟩ := hB
    rw [ht] at hP1
    obtain ⟨hPj, hDj⟩ := zjoin hP hD hC hk1 hP1 (hadr r) (hput r)
    exact kk r h H1 locs1 ls hPj hDj hS1 hl
theorem y_calliW (F : zF l D tA own cc nL rm X) {ix nY np ci q0 : Nat} {y : MethodName} {bY : ByteArray} {ty : FieldType} {rmY : Room} {rr : β → Int32} {w1 : β → va_W} {oc : Option β} {kf : β → Option α} {b : Addr} {As : List Value} {fs : List Value} {q : vw_C} (hcon : zCi l D tA y bY nY ty rmY (.ref b :: As) ws rr w1 oc) (d : decode cc pc = .ok (.invokevirtual ix, 3)) (cw : zMv own ix y bY nY (some ty) np)
    (h0 : rmY.cells = 0 ∧ rmY.slots = 0) (hR : rmY.frames + 1 ≤ rm.frames ∧ 8 + (nY + 11) + rmY.locals ≤ rm.locals) (hlen : As.length = np) (hnL : lv.length = nL) {stk : List Value} (hst : stk = As.reverse ++ .ref b :: st) (hcat : (st.map fun v => v.category).sum ≤ 8)
    (hq : classes[ci]? = some q) (hqc : q.1 = y.cls) (he : ws[q0]? = some (b, .inr (ci, fs)))
    (kk : ∀ r : β, zY X D out (kf r) (w1 r) (pc + 3) lv (.int (rr r) :: st)) : zY X D out (oc.bind kf) ws pc lv stk := by
  intro h H locs ls hP hD hS hl
  subst hst
  have ez : zl X = l := F.2.2.2.2.2.2.2.1
  subst ez
  cases hoc : oc with
  | none => rw [hoc] at h; cases h
  | some r =>
    rw [hoc] at h
    have h : kf r = some out := h
    have hF : ∀ q : Nat, va_A ws H.size q → zA X q := fun q h => by
      rcases h with ⟨k, e, h⟩ | h
      · exact hD.2 k _ h
      · exact F.2.2.2.2.2.1 q (Nat.le_trans hS.1 h)
    refine va_calli (va_runV (As := As) (rest := st) (g := F0 (zm X) pc ls (As.reverse ++ .ref b :: st)) (Ts := zT) (C := y.cls) ⟨F.1, F.2.1, rfl, F.2.2.1, F.2.2.2.1⟩ (hcon r hoc H.size) ⟨zcallB F cw.1 cw.2.2.2.1 cw.2.2.2.2.1 cw.2.2.2.2.2.1 cw.2.2.2.2.2.2 h0 hR, F.2.2.2.1 _ cw.2.1, F.2.2.2.1 _ cw.2.2.1⟩ ⟨zblind, hqc ▸ va_recv F.2.2.2.2.1 hP hq he, fun U hU hW => ⟨rfl, by rw [hU], by rw [hU]; exact hP, va_K.moved hW.alike F.2.2.2.2.1, hD.weaken (fun _ _ _ _ => trivial), by rw [hU]; exact F.2.2.2.2.2.2.2.2.2.2.1.to hS hF hW⟩⟩ rfl hlen (hl.1.trans (hnL.trans F.2.2.2.2.2.2.1.symm)) rfl (lv_room hcat) d ⟨Nat.zero_le _, Nat.zero_le _⟩) hS (fun q _ h => hF q h) hF (fun r1 u t H1 locs1 ht hvm hw hB hz1 hk1 hS1 => ?_)
    obtain ⟨hP1, hD1⟩ := hB
    rw [ht] at hP1
    rw [hw]
    exact kk r h H1 locs1 ls hP1 (hD1.weaken (fun k q _ h => hF q.1 h)) hS1 hl
theorem y_calllW (F : zF l D tA own cc nL rm X) {ix nY np ci q0 : Nat} {y : MethodName} {bY : ByteArray} {rmY : Room} {rr : β → Int64} {w1 : β → va_W} {oc : Option β} {kf : β → Option α} {b : Addr} {As : List Value} {fs : List Value} {q : vw_C} (hcon : zCl l D tA y bY nY rmY (.ref b :: As) ws rr w1 oc) (d : decode cc pc = .ok (.invokevirtual ix, 3)) (cw : zMv own ix y bY nY (some .long) np)
    (h0 : rmY.cells = 0 ∧ rmY.slots = 0) (hR : rmY.frames + 1 ≤ rm.frames ∧ 8 + (nY + 11) + rmY.locals ≤ rm.locals) (hlen : As.length = np) (hnL : lv.length = nL) {stk : List Value} (hst : stk = As.reverse ++ .ref b :: st) (hcat : (st.map fun v => v.category).sum ≤ 8)
    (hq : classes[ci]? = some q) (hqc : q.1 = y.cls) (he : ws[q0]? = some (b, .inr (ci, fs)))
    (kk : ∀ r : β, zY X D out (kf r) (w1 r) (pc + 3) lv (.long (rr r) :: st)) : zY X D out (oc.bind kf) ws pc lv stk := by
  intro h H locs ls hP hD hS hl
  subst hst
  have ez : zl X = l := F.2.2.2.2.2.2.2.1
  subst ez
  cases hoc : oc with
  | none => rw [hoc] at h; cases h
  | some r =>
    rw [hoc] at h
    have h : kf r = some out := h
    have hF : ∀ q : Nat, va_A ws H.size q → zA X q := fun q h => by
      rcases h with ⟨k, e, h⟩ | h
      · exact hD.2 k _ h
      · exact F.2.2.2.2.2.1 q (Nat.le_trans hS.1 h)
    refine va_calll (va_runV (As := As) (rest := st) (g := F0 (zm X) pc ls (As.reverse ++ .ref b :: st)) (Ts := zT) (C := y.cls) ⟨F.1, F.2.1, rfl, F.2.2.1, F.2.2.2.1⟩ (hcon r hoc H.size) ⟨zcallB F cw.1 cw.2.2.2.1 cw.2.2.2.2.1 cw.2.2.2.2.2.1 cw.2.2.2.2.2.2 h0 hR, F.2.2.2.1 _ cw.2.1, F.2.2.2.1 _ cw.2.2.1⟩ ⟨zblind, hqc ▸ va_recv F.2.2.2.2.1 hP hq he, fun U hU hW => ⟨rfl, by rw [hU], by rw [hU]; exact hP, va_K.moved hW.alike F.2.2.2.2.1, hD.weaken (fun _ _ _ _ => trivial), by rw [hU]; exact F.2.2.2.2.2.2.2.2.2.2.1.to hS hF hW⟩⟩ rfl hlen (hl.1.trans (hnL.trans F.2.2.2.2.2.2.1.symm)) rfl (lv_room hcat) d ⟨Nat.zero_le _, Nat.zero_le _⟩) hS (fun q _ h => hF q h) hF (fun r1 u t H1 locs1 ht hvm hw hB hz1 hk1 hS1 => ?_)
    obtain ⟨hP1, hD1⟩ := hB
    rw [ht] at hP1
    rw [hw]
    exact kk r h H1 locs1 ls hP1 (hD1.weaken (fun k q _ h => hF q.1 h)) hS1 hl
theorem y_callvW (F : zF l D tA own cc nL rm X) {ix nY np ci q0 : Nat} {y : MethodName} {bY : ByteArray} {rmY : Room} {w1 : β → va_W} {oc : Option β} {kf : β → Option α} {b : Addr} {As : List Value} {fs : List Value} {q : vw_C} (hcon : zCv l D tA y bY nY rmY (.ref b :: As) ws w1 oc) (d : decode cc pc = .ok (.invokevirtual ix, 3)) (cw : zMv own ix y bY nY none np)
    (h0 : rmY.cells = 0 ∧ rmY.slots = 0) (hR : rmY.frames + 1 ≤ rm.frames ∧ 8 + (nY + 11) + rmY.locals ≤ rm.locals) (hlen : As.length = np) (hnL : lv.length = nL) {stk : List Value} (hst : stk = As.reverse ++ .ref b :: st) (hcat : (st.map fun v => v.category).sum ≤ 8)
    (hq : classes[ci]? = some q) (hqc : q.1 = y.cls) (he : ws[q0]? = some (b, .inr (ci, fs)))
    (kk : ∀ r : β, zY X D out (kf r) (w1 r) (pc + 3) lv st) : zY X D out (oc.bind kf) ws pc lv stk := by
  intro h H locs ls hP hD hS hl
  subst hst
  have ez : zl X = l := F.2.2.2.2.2.2.2.1
  subst ez
  cases hoc : oc with
  | none => rw [hoc] at h; cases h
  | some r =>
    rw [hoc] at h
    have h : kf r = some out := h
    have hF : ∀ q : Nat, va_A ws H.size q → zA X q := fun q h => by
      rcases h with ⟨k, e, h⟩ | h
      · exact hD.2 k _ h
      · exact F.2.2.2.2.2.1 q (Nat.le_trans hS.1 h)
    refine va_callv (va_runV (As := As) (rest := st) (g := F0 (zm X) pc ls (As.reverse ++ .ref b :: st)) (Ts := zT) (C := y.cls) ⟨F.1, F.2.1, rfl, F.2.2.1, F.2.2.2.1⟩ (hcon r hoc H.size) ⟨zcallB F cw.1 cw.2.2.2.1 cw.2.2.2.2.1 cw.2.2.2.2.2.1 cw.2.2.2.2.2.2 h0 hR, F.2.2.2.1 _ cw.2.1, F.2.2.2.1 _ cw.2.2.1⟩ ⟨zblind, hqc ▸ va_recv F.2.2.2.2.1 hP hq he, fun U hU hW => ⟨rfl, by rw [hU], by rw [hU]; exact hP, va_K.moved hW.alike F.2.2.2.2.1, hD.weaken (fun _ _ _ _ => trivial), by rw [hU]; exact F.2.2.2.2.2.2.2.2.2.2.1.to hS hF hW⟩⟩ rfl hlen (hl.1.trans (hnL.trans F.2.2.2.2.2.2.1.symm)) rfl (lv_room hcat) d ⟨Nat.zero_le _, Nat.zero_le _⟩) hS (fun q _ h => hF q h) hF (fun u t H1 locs1 ht hvm hw hB hz1 hk1 hS1 => ?_)
    obtain ⟨hP1, hD1⟩ := hB
    rw [ht] at hP1
    skip
    exact kk r h H1 locs1 ls hP1 (hD1.weaken (fun k q _ h => hF q.1 h)) hS1 hl
theorem y_scalliP (F : zF l D tA own cc nL rm X) {ix nY np : Nat} {y : MethodName} {bY : ByteArray} {ty : FieldType} {rmY : Room} {rr : β → Int32} {oc : Option β} {kf : β → Option α} {As : List Value} (hcon : zCi l D tA y bY nY ty rmY As [] rr (fun _ => []) oc) (d : decode cc pc = .ok (.invokestatic ix, 3)) (cw : zMs own ix y bY nY (some ty) np)
    (h0 : rmY.cells = 0 ∧ rmY.slots = 0) (hR : rmY.frames + 1 ≤ rm.frames ∧ 8 + (nY + 11) + rmY.locals ≤ rm.locals) (hlen : As.length = np) (hnL : lv.length = nL) {stk : List Value} (hst : stk = As.reverse ++ st) (hcat : (st.map fun v => v.category).sum ≤ 8)
    (kk : ∀ r : β, zY X D out (kf r) ws (pc + 3) lv (.int (rr r) :: st)) : zY X D out (oc.bind kf) ws pc lv stk :=
  y_scalli F (wf := fun _ => ws) hcon d cw h0 hR hlen hnL hst hcat [] rfl rfl (fun _ => rfl) (fun _ => zCh_nil) kk
theorem y_scalllP (F : zF l D tA own cc nL rm X) {ix nY np : Nat} {y : MethodName} {bY : ByteArray} {rmY : Room} {rr : β → Int64} {oc : Option β} {kf : β → Option α} {As : List Value} (hcon : zCl l D tA y bY nY rmY As [] rr (fun _ => []) oc) (d : decode cc pc = .ok (.invokestatic ix, 3)) (cw : zMs own ix y bY nY (some .long) np)
    (h0 : rmY.cells = 0 ∧ rmY.slots = 0) (hR : rmY.frames + 1 ≤ rm.frames ∧ 8 + (nY + 11) + rmY.locals ≤ rm.locals) (hlen : As.length = np) (hnL : lv.length = nL) {stk : List Value} (hst : stk = As.reverse ++ st) (hcat : (st.map fun v => v.category).sum ≤ 8)
    (kk : ∀ r : β, zY X D out (kf r) ws (pc + 3) lv (.long (rr r) :: st)) : zY X D out (oc.bind kf) ws pc lv stk :=
  y_scalll F (wf := fun _ => ws) hcon d cw h0 hR hlen hnL hst hcat [] rfl rfl (fun _ => rfl) (fun _ => zCh_nil) kk
theorem y_mmax (F : zF l D tA own cc nL rm X) {ix : Nat} {x y : Int32} (d : decode cc pc = .ok (.invokestatic ix, 3)) (w : Cond.methodLink own ix Lib.Math.max.name ∈ zT ∧ Cond.static Lib.Math.max.name ∈ zT ∧ Cond.initialized "java/lang/Math" ∈ zT ∧ Cond.code Lib.Math.max.name Lib.Math.max.code 2 (some .int) ∈ zT) (hR : 1 ≤ rm.frames ∧ (st.map fun v => v.category).sum + 13 ≤ rm.locals) (hnL : lv.length = nL) (kk : zY X D out o ws (pc + 3) lv (.int (if x < y then y else x) :: st)) : zY X D out o ws pc lv (.int y :: .int x :: st) :=
  fun h H locs ls hP hD hS hl => va_mmax F.1 F.2.1 (F.2.2.2.2.2.2.1.trans (hnL.symm.trans hl.1.symm)) F.2.2.1 (F.2.2.2.1 _ w.1) (F.2.2.2.1 _ w.2.1) (F.2.2.2.1 _ w.2.2.1) (F.2.2.2.1 _ w.2.2.2) (by rw [F.2.2.2.2.2.2.2.2.1]; exact hR.1) (by rw [F.2.2.2.2.2.2.2.2.2.1]; exact hR.2) (Nat.zero_le _) (Nat.zero_le _) d (kk h H locs ls hP hD hS hl)
theorem y_mmin (F : zF l D tA own cc nL rm X) {ix : Nat} {x y : Int32} (d : decode cc pc = .ok (.invokestatic ix, 3)) (w : Cond.methodLink own ix Lib.Math.min.name ∈ zT ∧ Cond.static Lib.Math.min.name ∈ zT ∧ Cond.initialized "java/lang/Math" ∈ zT ∧ Cond.code Lib.Math.min.name Lib.Math.min.code 2 (some .int) ∈ zT) (hR : 1 ≤ rm.frames ∧ (st.map fun v => v.category).sum + 13 ≤ rm.locals) (hnL : lv.length = nL) (kk : zY X D out o ws (pc + 3) lv (.int (if y < x then y else x) :: st)) : zY X D out o ws pc lv (.int y :: .int x :: st) :=
  fun h H locs ls hP hD hS hl => va_mmin F.1 F.2.1 (F.2.2.2.2.2.2.1.trans (hnL.symm.trans hl.1.symm)) F.2.2.1 (F.2.2.2.1 _ w.1) (F.2.2.2.1 _ w.2.1) (F.2.2.2.1 _ w.2.2.1) (F.2.2.2.1 _ w.2.2.2) (by rw [F.2.2.2.2.2.2.2.2.1]; exact hR.1) (by rw [F.2.2.2.2.2.2.2.2.2.1]; exact hR.2) (Nat.zero_le _) (Nat.zero_le _) d (kk h H locs ls hP hD hS hl)
theorem y_mmaxl (F : zF l D tA own cc nL rm X) {ix : Nat} {x y : Int64} (d : decode cc pc = .ok (.invokestatic ix, 3)) (w : Cond.methodLink own ix Lib.MathLoose.max_long.x ∈ zT ∧ Cond.static Lib.MathLoose.max_long.x ∈ zT ∧ Cond.initialized "java/lang/Math" ∈ zT ∧ Cond.code Lib.MathLoose.max_long.x Lib.MathLoose.max_long.code 4 (some .long) ∈ zT) (hR : 1 ≤ rm.frames ∧ (st.map fun v => v.category).sum + 15 ≤ rm.locals) (hnL : lv.length = nL) (kk : zY X D out o ws (pc + 3) lv (.long (if y < x then x else y) :: st)) : zY X D out o ws pc lv (.long y :: .long x :: st) :=
  fun h H locs ls hP hD hS hl => va_mmax_long F.1 F.2.1 (F.2.2.2.2.2.2.1.trans (hnL.symm.trans hl.1.symm)) F.2.2.1 (F.2.2.2.1 _ w.1) (F.2.2.2.1 _ w.2.1) (F.2.2.2.1 _ w.2.2.1) (F.2.2.2.1 _ w.2.2.2) (by rw [F.2.2.2.2.2.2.2.2.1]; exact hR.1) (by rw [F.2.2.2.2.2.2.2.2.2.1]; exact hR.2) (Nat.zero_le _) (Nat.zero_le _) d (kk h H locs ls hP hD hS hl)
end ZCALL
end
section
section ZSW
variable {l : Launch} {D : va_G} {tA : Nat → ClassId} {own : String} {cc : ByteArray} {nL : Nat} {rm : Room} {X : ZX} {α β : Type} {out : α} {o o1 o2 : Option α} {ws ws' : va_W} {pc : Nat} {lv lv' : List (Option Value)} {st : List Value} {cA : ClassId} {n : Nat} {a : Addr}
theorem y_ifx {x c : Int32} (kt : x = c → zY X D out o1 ws pc lv st) (kf : ¬ x = c → zY X D out o2 ws pc lv st) : zY X D out (if x = c then o1 else o2) ws pc lv st := by
  intro h
  by_cases e : x = c
  · rw [if_pos e] at h
    exact kt e h
  · rw [if_neg e] at h
    exact kf e h
theorem y_tsI (F : zF l D tA own cc nL rm X) {x c : Int32} {dflt lo hi : Int} {offs : Array Int} {len : Nat} {tgt : Nat} (d : decode cc pc = .ok (.tableswitch dflt lo hi offs, len)) (hc : ¬ c.toInt < lo ∧ ¬ hi < c.toInt ∧ offs[(c.toInt - lo).toNat]? = some ((tgt : Int) - (pc : Int))) (ht : (pc : Int) + ((tgt : Int) - (pc : Int)) = (tgt : Int)) (kt : zY X D out o1 ws tgt lv st) (kf : ¬ x = c → zY X D out o2 ws pc lv (.int x :: st)) : zY X D out (if x = c then o1 else o2) ws pc lv (.int x :: st) :=
  y_ifx (fun e h H locs ls hP hD hS hl => lv_tableIn F.1 F.2.1 d (by rw [e]; exact hc.1) (by rw [e]; exact hc.2.1) (by rw [e]; exact hc.2.2) ht (kt h H locs ls hP hD hS hl)) kf
theorem y_tsD (F : zF l D tA own cc nL rm X) {x : Int32} {dflt lo hi : Int} {offs : Array Int} {len : Nat} {tgt : Nat} (d : decode cc pc = .ok (.tableswitch dflt lo hi offs, len)) (h0 : x.toInt < lo ∨ hi < x.toInt) (ht : (pc : Int) + dflt = (tgt : Int)) (k : zY X D out o ws tgt lv st) : zY X D out o ws pc lv (.int x :: st) :=
  fun h H locs ls hP hD hS hl => lv_tableOut F.1 F.2.1 d h0 ht (k h H locs ls hP hD hS hl)
theorem y_lsI (F : zF l D tA own cc nL rm X) {x c : Int32} {dflt : Int} {ps : Array (Int × Int)} {len : Nat} {tgt : Nat} (d : decode cc pc = .ok (.lookupswitch dflt ps, len)) (hp : (ps.toList.zip (ps.toList.drop 1)).all (fun (a, next) => a.1 < next.1) = true) (ho : x = c → Op.lookupswitch.offset ps.toList dflt x.toInt = (tgt : Int) - (pc : Int)) (ht : (pc : Int) + ((tgt : Int) - (pc : Int)) = (tgt : Int)) (kt : zY X D out o1 ws tgt lv st) (kf : ¬ x = c → zY X D out o2 ws pc lv (.int x :: st)) : zY X D out (if x = c then o1 else o2) ws pc lv (.int x :: st) :=
  y_ifx (fun e h H locs ls hP hD hS hl => lv_lookup F.1 F.2.1 d hp (ho e) ht (kt h H locs ls hP hD hS hl)) kf
theorem y_lsD (F : zF l D tA own cc nL rm X) {x : Int32} {dflt : Int} {ps : Array (Int × Int)} {len : Nat} {tgt : Nat} (d : decode cc pc = .ok (.lookupswitch dflt ps, len)) (hp : (ps.toList.zip (ps.toList.drop 1)).all (fun (a, next) => a.1 < next.1) = true) (ho : Op.lookupswitch.offset ps.toList dflt x.toInt = dflt) (ht : (pc : Int) + dflt = (tgt : Int)) (k : zY X D out o ws tgt lv st) : zY X D out o ws pc lv (.int x :: st) :=
  fun h H locs ls hP hD hS hl => lv_lookup F.1 F.2.1 d hp ho ht (k h H locs ls hP hD hS hl)
end ZSW
end
section
section ZMO
variable {l : Launch} {D : va_G} {tA : Nat → ClassId} {own : String} {cc : ByteArray} {nL : Nat} {rm : Room} {X : ZX} {α β : Type} {out : α} {o o1 o2 : Option α} {ws ws' : va_W} {pc : Nat} {lv lv' : List (Option Value)} {st : List Value} {cA : ClassId} {n : Nat} {a : Addr}
def zrow (l : List Nat) : Nat → Option Nat := fun j => some (l.getD j 0)
/-- cells by their places in another list -/
def zq (q : Nat → Nat) (L : List Nat) : Nat → Nat := fun k => q (L.getD k 0)
theorem y_mono {o' : Option α} (h : o = some out → o' = some out) (k : zY X D out o' ws pc lv st) : zY X D out o ws pc lv st := fun e => k (h e)
theorem y_aaldr (F : zF l D tA own cc nL rm X) (d : decode cc pc = .ok (.aaload, 1)) (q0 t0 : Nat) {ty : FieldType} {L : List Nat} {i : Int32} (ha : ws[q0]? = some (a, .inl (cA, n, .inr (.inr (.inr (.inr (zrow L))))))) (ht : (zt tA)[t0]? = some (cA, ty)) (hty : ty.isReference = true) (kk : vp_in i n → zY X D out o ws (pc + 1) lv (.ref (L.getD i.toNatClampNeg 0) :: st)) : zY X D out (zgd i n o) ws pc lv (.int i :: .ref a :: st) :=
  y_gd fun hin h H locs ls hP hD hS hl => va_aldr F.1 F.2.1 F.2.2.2.2.1 hP q0 t0 ha ht hty hin d (kk hin h H locs ls hP hD hS hl)
theorem y_aald2 (F : zF l D tA own cc nL rm X) (d : decode cc pc = .ok (.aaload, 1)) (q0 : Nat) {r0 r1 : Nat} {i : Int32} (ha : ws[q0]? = some (a, .inl (tA 4, 2, .inr (.inr (.inr (.inr (zrow [r0, r1]))))))) (k0 : zY X D out o1 ws (pc + 1) lv (.ref r0 :: st)) (k1 : zY X D out o2 ws (pc + 1) lv (.ref r1 :: st)) : zY X D out (if i = 0 then o1 else if i = 1 then o2 else none) ws pc lv (.int i :: .ref a :: st) := by
  by_cases e0 : i = 0
  · rw [if_pos e0]
    intro h H locs ls hP hD hS hl
    subst e0
    exact va_aldr F.1 F.2.1 F.2.2.2.2.1 hP q0 4 ha rfl rfl (by unfold vp_in; decide) d (k0 h H locs ls hP hD hS hl)
  · rw [if_neg e0]
    by_cases e1 : i = 1
    · rw [if_pos e1]
      intro h H locs ls hP hD hS hl
      subst e1
      exact va_aldr F.1 F.2.1 F.2.2.2.2.1 hP q0 4 ha rfl rfl (by unfold vp_in; decide) d (k1 h H locs ls hP hD hS hl)
    · rw [if_neg e1]
      exact y_none
theorem zset_same {ws : va_W} {i : Nat} {c : Nat × va_E} (h : ws[i]? = some c) : ws.set i c = ws := by
  apply List.ext_getElem?
  intro k
  by_cases e : k = i
  · subst e
    rw [List.getElem?_set_self (List.getElem?_eq_some_iff.mp h).1, h]
  · rw [List.getElem?_set_ne (Ne.symm e)]
theorem zput_same : ∀ (is : List Nat) (ws w0 : va_W), is.map (fun i => ws[i]?) = w0.map some → zput ws is w0 = ws := by
  intro is
  induction is with
  | nil => intro ws w0 h; cases w0 <;> rfl
  | cons i is ih =>
    intro ws w0 h
    cases w0 with
    | nil => rfl
    | cons c cs =>
      have h1 : ws[i]? = some c := by simpa using (List.cons.inj h).1
      have h2 : is.map (fun i => ws[i]?) = cs.map some := (List.cons.inj h).2
      show zput (ws.set i c) is cs = ws
      rw [zset_same h1]
      exact ih ws cs h2
theorem y_calliR (F : zF l D tA own cc nL rm X) {ix nY np ci q0 : Nat} {y : MethodName} {bY : ByteArray} {ty : FieldType} {rmY : Room} {w0 : va_W} {rr : β → Int32} {oc : Option β} {kf : β → Option α} {b : Addr} {As : List Value} {fs : List Value} {q : vw_C} (hcon : zCi l D tA y bY nY ty rmY (.ref b :: As) w0 rr (fun _ => w0) oc) (d : decode cc pc = .ok (.invokevirtual ix, 3)) (cw : zMv own ix y bY nY (some ty) np)
    (h0 : rmY.cells = 0 ∧ rmY.slots = 0) (hR : rmY.frames + 1 ≤ rm.frames ∧ 8 + (nY + 11) + rmY.locals ≤ rm.locals) (hlen : As.length = np) (hnL : lv.length = nL) {stk : List Value} (hst : stk = As.reverse ++ .ref b :: st) (hcat : (st.map fun v => v.category).sum ≤ 8)
    (hq : classes[ci]? = some q) (hqc : q.1 = y.cls) (he : ws[q0]? = some (b, .inr (ci, fs))) (is : List Nat) (hC : is.map (fun i => ws[i]?) = w0.map some) (hn : va_nd is = true)
    (kk : ∀ r : β, zY X D out (kf r) ws (pc + 3) lv (.int (rr r) :: st)) : zY X D out (oc.bind kf) ws pc lv stk :=
  y_calli F (wf := fun _ => ws) hcon d cw h0 hR hlen hnL hst hcat hq hqc he is hC hn (fun _ => rfl) (fun _ => zCh_put (zput_same is ws w0 hC)) kk
theorem y_calllR (F : zF l D tA own cc nL rm X) {ix nY np ci q0 : Nat} {y : MethodName} {bY : ByteArray} {rmY : Room} {w0 : va_W} {rr : β → Int64} {oc : Option β} {kf : β → Option α} {b : Addr} {As : List Value} {fs : List Value} {q : vw_C} (hcon : zCl l D tA y bY nY rmY (.ref b :: As) w0 rr (fun _ => w0) oc) (d : decode cc pc = .ok (.invokevirtual ix, 3)) (cw : zMv own ix y bY nY (some .long) np)
    (h0 : rmY.cells = 0 ∧ rmY.slots = 0) (hR : rmY.frames + 1 ≤ rm.frames ∧ 8 + (nY + 11) + rmY.locals ≤ rm.locals) (hlen : As.length = np) (hnL : lv.length = nL) {stk : List Value} (hst : stk = As.reverse ++ .ref b :: st) (hcat : (st.map fun v => v.category).sum ≤ 8)
    (hq : classes[ci]? = some q) (hqc : q.1 = y.cls) (he : ws[q0]? = some (b, .inr (ci, fs))) (is : List Nat) (hC : is.map (fun i => ws[i]?) = w0.map some) (hn : va_nd is = true)
    (kk : ∀ r : β, zY X D out (kf r) ws (pc + 3) lv (.long (rr r) :: st)) : zY X D out (oc.bind kf) ws pc lv stk :=
  y_calll F (wf := fun _ => ws) hcon d cw h0 hR hlen hnL hst hcat hq hqc he is hC hn (fun _ => rfl) (fun _ => zCh_put (zput_same is ws w0 hC)) kk
theorem y_copyi (F : zF l D tA own cc nL rm X) {ix N : Nat} (d : decode cc pc = .ok (.invokestatic ix, 3)) (w : Cond.methodLink own ix arraycopyName ∈ zT ∧ Cond.native arraycopyName ∈ zT ∧ Cond.static arraycopyName ∈ zT ∧ Cond.initialized "java/lang/System" ∈ zT) (hR : 1 ≤ rm.frames ∧ (st.map fun v => v.category).sum + (nativeFrameWords "java/lang/System" "arraycopy" 5 + 11) ≤ rm.locals) (hnL : lv.length = nL) (q0 q1 : Nat) {a0 : Nat} {f g : Nat → Int32} (ha0 : ws[q0]? = some (a0, .inl (tA 0, N, .inl f))) (ha1 : ws[q1]? = some (a, .inl (tA 0, N, .inl g)))
    {z : Int32} (hz : z.toNatClampNeg = N) (hz0 : ¬ z < 0) {e : β} {kf : β → Option α} (wf : β → va_W) (hw : ws.set q1 (a, .inl (tA 0, N, .inl (va_cpy f g 0 0 N))) = wf e) (kk : ∀ o' : β, zY X D out (kf o') (wf o') (pc + 3) lv st) : zY X D out (zlet e kf) ws pc lv (.int z :: .int 0 :: .ref a :: .int 0 :: .ref a0 :: st) := by
  intro h H locs ls hP hD hS hl
  have e0 : (0 : Int32).toNatClampNeg = 0 := by decide
  refine va_copyi F.1 F.2.1 (F.2.2.2.2.2.2.1.trans (hnL.symm.trans hl.1.symm)) F.2.2.1 (F.2.2.2.1 _ w.1) (F.2.2.2.1 _ w.2.1) (F.2.2.2.1 _ w.2.2.1) (F.2.2.2.1 _ w.2.2.2) F.2.2.2.2.1 hP hD hS q0 q1 0 0 ha0 ha1 rfl rfl rfl (by decide) (by decide) hz0 (by rw [e0, hz]; omega) (by rw [e0, hz]; omega) (fun _ _ => rfl) (by rw [F.2.2.2.2.2.2.2.2.1]; exact hR.1) (by rw [F.2.2.2.2.2.2.2.2.2.1]; exact hR.2) d (fun H1 locs1 hP1 hD1 hS1 => ?_)
  rw [e0, hz, hw] at hP1 hD1
  exact kk e h H1 locs1 ls hP1 hD1 hS1 hl
theorem zcell_i {cA : ClassId} {n : Nat} {f g : Nat → Int32} (h : ∀ j, j < n → f j = g j) : vp_cell cA (n, .inl f) = vp_cell cA (n, .inl g) := by
  rw [vp_cell_i, vp_cell_i]
  unfold arrV
  congr 1
  apply Array.ext
  · simp
  · intro i h1 h2
    simp at h1 h2 ⊢
    exact h i (by omega)
theorem zcell_l {cA : ClassId} {n : Nat} {f g : Nat → Int64} (h : ∀ j, j < n → f j = g j) : vp_cell cA (n, .inr (.inl f)) = vp_cell cA (n, .inr (.inl g)) := by
  rw [vp_cell_l, vp_cell_l]
  unfold arrV
  congr 1
  apply Array.ext
  · simp
  · intro i h1 h2
    simp at h1 h2 ⊢
    exact h i (by omega)
theorem y_one {c c' : Nat × va_E} (h1 : c.1 = c'.1) (h2 : ∀ H : Heap, va_at D classes c H → va_at D classes c' H) (k : zY X D out o [c'] pc lv st) : zY X D out o [c] pc lv st := by
  intro h H locs ls hP hD hS hl
  have hP' : va_P D classes [c'] H := fun i q hq => by
    have hi : i < 1 := (List.getElem?_eq_some_iff.mp hq).1
    have : i = 0 := by omega
    subst this
    cases hq
    exact h2 H (hP 0 c rfl)
  have hD' : va_D (zA X) [c'] := ⟨fun i j p q hi hj _ => by
    have h3 : i < 1 := (List.getElem?_eq_some_iff.mp hi).1
    have h4 : j < 1 := (List.getElem?_eq_some_iff.mp hj).1
    omega, fun i q hq => by
    have hi : i < 1 := (List.getElem?_eq_some_iff.mp hq).1
    have : i = 0 := by omega
    subst this
    cases hq
    rw [← h1]
    exact hD.2 0 c rfl⟩
  exact k h H locs ls hP' hD' hS hl
abbrev rmJ7_fill : Room := { frames := 0, cells := 0, slots := 0, locals := 0 }
theorem zfill_i_loop {a : Addr} {v : Int32} {n : Nat} (hn : n < 2 ^ 31) {X : ZX} {out : Unit} (F : zF l D tA RJ7 cJ7_fill_53178 4 rmJ7_fill X) (hr : zRv X D cJ7_fill_53178 (fun (_ : Unit) => [(a, .inl (tA 0, n, .inl (fun _ => v)))]) out) : ∀ (k i : Nat) (g : Nat → Int32), i + k = n → (∀ j, j < i → g j = v) → zY X D out (some ()) [(a, .inl (tA 0, n, .inl g))] 5 [some (.ref a), some (.int v), some (.int (nI i)), some (.int (nI n))] [] := by
  intro k
  induction k with
  | zero =>
    intro i g hi hg
    have e : i = n := by omega
    subst e
    refine y_iload_n (pc := 5) F dJ7_fill_53178_5 rfl ?_
    refine y_iload_n (pc := 6) F dJ7_fill_53178_6 rfl ?_
    refine y_mono (o' := if nI i ≤ nI i then some () else none) (fun h => by rw [if_pos (nI_le (Nat.le_refl i) hn)]) ?_
    refine y_icmp_ge (pc := 7) (tgt := 20) F dJ7_fill_53178_7 rfl ?_ y_none
    refine y_one (c' := (a, .inl (tA 0, i, .inl (fun _ => v)))) rfl (fun H h => ?_) ?_
    · show H[a]? = some (vp_cell _ _)
      rw [← zcell_i hg]
      exact h
    · exact y_vret hr dJ7_fill_53178_20 rfl
  | succ k ih =>
    intro i g hi hg
    refine y_iload_n (pc := 5) F dJ7_fill_53178_5 rfl ?_
    refine y_iload_n (pc := 6) F dJ7_fill_53178_6 rfl ?_
    refine y_mono (o' := if nI n ≤ nI i then none else some ()) (fun h => by rw [if_neg (nI_ge (by omega) hn)]) ?_
    refine y_icmp_ge (pc := 7) (tgt := 20) F dJ7_fill_53178_7 rfl y_none ?_
    refine y_aload_n (pc := 10) F dJ7_fill_53178_10 rfl ?_
    refine y_iload_n (pc := 11) F dJ7_fill_53178_11 rfl ?_
    refine y_iload_n (pc := 12) F dJ7_fill_53178_12 rfl ?_
    refine y_mono (o' := zgd (nI i) n (some ())) (fun h => by
      unfold zgd
      rw [if_pos (by rw [nI_toInt (by omega)]; omega)]) ?_
    refine y_gd fun hin h H locs ls hP hD hS hl => va_iast F.1 F.2.1 F.2.2.2.2.1 hP hD hS 0 0 rfl rfl hin dJ7_fill_53178_13 (fun H1 locs1 hP1 hD1 hS1 => ?_)
    have key : zY X D out (zlet (nI i + 1) fun (x : Int32) => if x = nI (i + 1) then some () else none) [(a, .inl (tA 0, n, .inl (upd g i v)))] 14 [some (.ref a), some (.int v), some (.int (nI i)), some (.int (nI n))] [] := by
      refine y_iinc (v := 1) (lf := fun (x : Int32) => [some (.ref a), some (.int v), some (.int x), some (.int (nI n))]) (pc := 14) F dJ7_fill_53178_14 rfl rfl rfl (fun _ => rfl) (fun x => ?_)
      refine y_ifx (fun e => ?_) (fun _ => y_none)
      subst e
      refine y_goto (tgt := 5) (pc := 17) F dJ7_fill_53178_17 rfl ?_
      refine ih (i + 1) (upd g i v) (by omega) (fun j hj => ?_)
      unfold upd
      by_cases e : j = i
      · rw [if_pos e]
      · rw [if_neg e]; exact hg j (by omega)
    rw [nI_clamp (by omega)] at hP1 hD1
    exact key (by show (if nI i + 1 = nI (i + 1) then some () else none) = some out; rw [if_pos (nI_1 i)]) H1 locs1 ls hP1 hD1 hS1 hl
theorem c_fill_i {a : Addr} {v : Int32} {n : Nat} (hn : n < 2 ^ 31) (f : Nat → Int32) : zCv l D tA yJ7_fill_53178 cJ7_fill_53178 4 rmJ7_fill [.ref a, .int v] [(a, .inl (tA 0, n, .inl f))] (fun (_ : Unit) => [(a, .inl (tA 0, n, .inl (fun _ => v)))]) (some ()) := by
  refine zCv_of (lv0 := [some (.ref a), some (.int v), none, none]) (by decide +kernel) (Nat.le_of_ble_eq_true rfl) rfl (fun X out F hr => ?_)
  refine y_iconst (v := 0) (pc := 0) F dJ7_fill_53178_0 rfl ?_
  refine y_istore_n (lv' := [some (.ref a), some (.int v), some (.int 0), none]) (pc := 1) F dJ7_fill_53178_1 (Nat.le_of_ble_eq_true rfl) rfl rfl ?_
  refine y_aload_n (pc := 2) F dJ7_fill_53178_2 rfl ?_
  refine y_alen (pc := 3) (v := nI n) F dJ7_fill_53178_3 0 0 rfl rfl rfl ?_
  refine y_istore_n (lv' := [some (.ref a), some (.int v), some (.int 0), some (.int (nI n))]) (pc := 4) F dJ7_fill_53178_4 (Nat.le_of_ble_eq_true rfl) rfl rfl ?_
  rw [← nI_0]
  exact zfill_i_loop hn F hr n 0 f (by omega) (fun j h => by omega)
theorem zfill_l_loop {a : Addr} {v : Int64} {n : Nat} (hn : n < 2 ^ 31) {X : ZX} {out : Unit} (F : zF l D tA RJ7 cJ7_fill_d0a16 5 rmJ7_fill X) (hr : zRv X D cJ7_fill_d0a16 (fun (_ : Unit) => [(a, .inl (tA 1, n, .inr (.inl (fun _ => v))))]) out) : ∀ (k i : Nat) (g : Nat → Int64), i + k = n → (∀ j, j < i → g j = v) → zY X D out (some ()) [(a, .inl (tA 1, n, .inr (.inl g)))] 6 [some (.ref a), some (.long v), none, some (.int (nI i)), some (.int (nI n))] [] := by
  intro k
  induction k with
  | zero =>
    intro i g hi hg
    have e : i = n := by omega
    subst e
    refine y_iload_n (pc := 6) F dJ7_fill_d0a16_6 rfl ?_
    refine y_iload (pc := 7) F dJ7_fill_d0a16_7 rfl ?_
    refine y_mono (o' := if nI i ≤ nI i then some () else none) (fun h => by rw [if_pos (nI_le (Nat.le_refl i) hn)]) ?_
    refine y_icmp_ge (pc := 9) (tgt := 22) F dJ7_fill_d0a16_9 rfl ?_ y_none
    refine y_one (c' := (a, .inl (tA 1, i, .inr (.inl (fun _ => v))))) rfl (fun H h => ?_) ?_
    · show H[a]? = some (vp_cell _ _)
      rw [← zcell_l hg]
      exact h
    · exact y_vret hr dJ7_fill_d0a16_22 rfl
  | succ k ih =>
    intro i g hi hg
    refine y_iload_n (pc := 6) F dJ7_fill_d0a16_6 rfl ?_
    refine y_iload (pc := 7) F dJ7_fill_d0a16_7 rfl ?_
    refine y_mono (o' := if nI n ≤ nI i then none else some ()) (fun h => by rw [if_neg (nI_ge (by omega) hn)]) ?_
    refine y_icmp_ge (pc := 9) (tgt := 22) F dJ7_fill_d0a16_9 rfl y_none ?_
    refine y_aload_n (pc := 12) F dJ7_fill_d0a16_12 rfl ?_
    refine y_iload_n (pc := 13) F dJ7_fill_d0a16_13 rfl ?_
    refine y_lload_n (pc := 14) F dJ7_fill_d0a16_14 rfl ?_
    refine y_mono (o' := zgd (nI i) n (some ())) (fun h => by
      unfold zgd
      rw [if_pos (by rw [nI_toInt (by omega)]; omega)]) ?_
    refine y_gd fun hin h H locs ls hP hD hS hl => va_last F.1 F.2.1 F.2.2.2.2.1 hP hD hS 0 1 rfl rfl hin dJ7_fill_d0a16_15 (fun H1 locs1 hP1 hD1 hS1 => ?_)
    have key : zY X D out (zlet (nI i + 1) fun (x : Int32) => if x = nI (i + 1) then some () else none) [(a, .inl (tA 1, n, .inr (.inl (vp_updL g i v))))] 16 [some (.ref a), some (.long v), none, some (.int (nI i)), some (.int (nI n))] [] := by
      refine y_iinc (v := 1) (lf := fun (x : Int32) => [some (.ref a), some (.long v), none, some (.int x), some (.int (nI n))]) (pc := 16) F dJ7_fill_d0a16_16 rfl rfl rfl (fun _ => rfl) (fun x => ?_)
      refine y_ifx (fun e => ?_) (fun _ => y_none)
      subst e
      refine y_goto (tgt := 6) (pc := 19) F dJ7_fill_d0a16_19 rfl ?_
      refine ih (i + 1) (vp_updL g i v) (by omega) (fun j hj => ?_)
      unfold vp_updL
      by_cases e : j = i
      · rw [if_pos e]
      · rw [if_neg e]; exact hg j (by omega)
    rw [nI_clamp (by omega)] at hP1 hD1
    exact key (by show (if nI i + 1 = nI (i + 1) then some () else none) = some out; rw [if_pos (nI_1 i)]) H1 locs1 ls hP1 hD1 hS1 hl
theorem c_fill_l {a : Addr} {v : Int64} {n : Nat} (hn : n < 2 ^ 31) (f : Nat → Int64) : zCv l D tA yJ7_fill_d0a16 cJ7_fill_d0a16 5 rmJ7_fill [.ref a, .long v] [(a, .inl (tA 1, n, .inr (.inl f)))] (fun (_ : Unit) => [(a, .inl (tA 1, n, .inr (.inl (fun _ => v))))]) (some ()) := by
  refine zCv_of (lv0 := [some (.ref a), some (.long v), none, none, none]) (by decide +kernel) (Nat.le_of_ble_eq_true rfl) rfl (fun X out F hr => ?_)
  refine y_iconst (v := 0) (pc := 0) F dJ7_fill_d0a16_0 rfl ?_
  refine y_istore_n (lv' := [some (.ref a), some (.long v), none, some (.int 0), none]) (pc := 1) F dJ7_fill_d0a16_1 (Nat.le_of_ble_eq_true rfl) rfl rfl ?_
  refine y_aload_n (pc := 2) F dJ7_fill_d0a16_2 rfl ?_
  refine y_alen (pc := 3) (v := nI n) F dJ7_fill_d0a16_3 0 1 rfl rfl rfl ?_
  refine y_istore (lv' := [some (.ref a), some (.long v), none, some (.int 0), some (.int (nI n))]) (pc := 4) F dJ7_fill_d0a16_4 (Nat.le_of_ble_eq_true rfl) rfl rfl ?_
  rw [← nI_0]
  exact zfill_l_loop hn F hr n 0 f (by omega) (fun j h => by omega)
theorem y_filli (F : zF l D tA own cc nL rm X) {ix : Nat} {v : Int32} {f : Nat → Int32} (d : decode cc pc = .ok (.invokestatic ix, 3)) (cw : zMs own ix yJ7_fill_53178 cJ7_fill_53178 4 none 2) (hR : 1 ≤ rm.frames ∧ 23 ≤ rm.locals) (hnL : lv.length = nL) (hcat : (st.map fun v => v.category).sum ≤ 8) (q0 : Nat) (he : ws[q0]? = some (a, .inl (tA 0, n, .inl f))) (hn : n + 1 ≤ 2147483648) {e : β} {kf : β → Option α} (wf : β → va_W) (hw : ws.set q0 (a, .inl (tA 0, n, .inl (fun _ => v))) = wf e) (kk : ∀ o' : β, zY X D out (kf o') (wf o') (pc + 3) lv st) : zY X D out (zlet e kf) ws pc lv (.int v :: .ref a :: st) :=
  y_scallv (β := Unit) F (As := [.ref a, .int v]) (st := st) (oc := some ()) (kf := fun _ => kf e) (wf := fun _ => wf e) (c_fill_i (by omega) f) d cw ⟨rfl, rfl⟩ ⟨hR.1, hR.2⟩ rfl hnL rfl hcat [q0] (by show [ws[q0]?] = _; rw [he]; rfl) rfl (fun _ => rfl) (fun _ => zCh_put hw) (fun _ => kk e)
theorem y_filll (F : zF l D tA own cc nL rm X) {ix : Nat} {v : Int64} {f : Nat → Int64} (d : decode cc pc = .ok (.invokestatic ix, 3)) (cw : zMs own ix yJ7_fill_d0a16 cJ7_fill_d0a16 5 none 2) (hR : 1 ≤ rm.frames ∧ 24 ≤ rm.locals) (hnL : lv.length = nL) (hcat : (st.map fun v => v.category).sum ≤ 8) (q0 : Nat) (he : ws[q0]? = some (a, .inl (tA 1, n, .inr (.inl f)))) (hn : n + 1 ≤ 2147483648) {e : β} {kf : β → Option α} (wf : β → va_W) (hw : ws.set q0 (a, .inl (tA 1, n, .inr (.inl (fun _ => v)))) = wf e) (kk : ∀ o' : β, zY X D out (kf o') (wf o') (pc + 3) lv st) : zY X D out (zlet e kf) ws pc lv (.long v :: .ref a :: st) :=
  y_scallv (β := Unit) F (As := [.ref a, .long v]) (st := st) (oc := some ()) (kf := fun _ => kf e) (wf := fun _ => wf e) (c_fill_l (by omega) f) d cw ⟨rfl, rfl⟩ ⟨hR.1, hR.2⟩ rfl hnL rfl hcat [q0] (by show [ws[q0]?] = _; rw [he]; rfl) rfl (fun _ => rfl) (fun _ => zCh_put hw) (fun _ => kk e)
end ZMO
end
section
theorem kF_J0_38 : Cond.fieldLink RJ0 38 "java/lang/String" "COMPACT_STRINGS" "Z" ∈ zT := zT_in (List.mem_of_getElem? (i := 508) (by decide +kernel)) rfl
theorem kF_J0_1053 : Cond.fieldLink RJ0 1053 "jdk/internal/util/Preconditions" "SIOOBE_FORMATTER" "Ljava/util/function/BiFunction;" ∈ zT := zT_in (List.mem_of_getElem? (i := 524) (by decide +kernel)) rfl
theorem kF_J0_9 : Cond.fieldLink RJ0 9 "java/lang/String" "value" "[B" ∈ zT := zT_in (List.mem_of_getElem? (i := 1464) (by decide +kernel)) rfl
theorem kF_J0_15 : Cond.fieldLink RJ0 15 "java/lang/String" "coder" "B" ∈ zT := zT_in (List.mem_of_getElem? (i := 1465) (by decide +kernel)) rfl
theorem kM_J0_335 : zMv RJ0 335 yJ0_coder_7d493 cJ0_coder_7d493 1 (some .byte) 0 := ⟨zT_in (List.mem_of_getElem? (i := 504) (by decide +kernel)) rfl, zT_in (List.mem_of_getElem? (i := 505) (by decide +kernel)) rfl, zT_in (List.mem_of_getElem? (i := 506) (by decide +kernel)) rfl, zT_in (List.mem_of_getElem? (i := 83) (by decide +kernel)) rfl, zT_in (List.mem_of_getElem? (i := 507) (by decide +kernel)) rfl, by decide +kernel, by decide +kernel⟩
theorem kM_J0_492 : zMv RJ0 492 yJ0_isLatin1_aae02 cJ0_isLatin1_aae02 1 (some .boolean) 0 := ⟨zT_in (List.mem_of_getElem? (i := 514) (by decide +kernel)) rfl, zT_in (List.mem_of_getElem? (i := 515) (by decide +kernel)) rfl, zT_in (List.mem_of_getElem? (i := 516) (by decide +kernel)) rfl, zT_in (List.mem_of_getElem? (i := 83) (by decide +kernel)) rfl, zT_in (List.mem_of_getElem? (i := 517) (by decide +kernel)) rfl, by decide +kernel, by decide +kernel⟩
theorem kM_J0_495 : zMs RJ0 495 yJ1_charAt_3b067 cJ1_charAt_3b067 2 (some .char) 2 := ⟨zT_in (List.mem_of_getElem? (i := 518) (by decide +kernel)) rfl, zT_in (List.mem_of_getElem? (i := 519) (by decide +kernel)) rfl, zT_in (List.mem_of_getElem? (i := 84) (by decide +kernel)) rfl, zT_in (List.mem_of_getElem? (i := 520) (by decide +kernel)) rfl, by decide +kernel, by decide +kernel⟩
theorem kM_J1_9 : zMs RJ1 9 yJ0_checkIndex_df160 cJ0_checkIndex_df160 2 none 2 := ⟨zT_in (List.mem_of_getElem? (i := 521) (by decide +kernel)) rfl, zT_in (List.mem_of_getElem? (i := 522) (by decide +kernel)) rfl, zT_in (List.mem_of_getElem? (i := 83) (by decide +kernel)) rfl, zT_in (List.mem_of_getElem? (i := 523) (by decide +kernel)) rfl, by decide +kernel, by decide +kernel⟩
theorem kM_J0_1059 : zMs RJ0 1059 yJ3_checkIndex_8e157 cJ3_checkIndex_8e157 3 (some .int) 3 := ⟨zT_in (List.mem_of_getElem? (i := 526) (by decide +kernel)) rfl, zT_in (List.mem_of_getElem? (i := 527) (by decide +kernel)) rfl, zT_in (List.mem_of_getElem? (i := 85) (by decide +kernel)) rfl, zT_in (List.mem_of_getElem? (i := 528) (by decide +kernel)) rfl, by decide +kernel, by decide +kernel⟩
section ZTX
variable {l : Launch} {D : va_G} {tA : Nat → ClassId} {own : String} {cc : ByteArray} {nL : Nat} {rm : Room} {X : ZX} {α β : Type} {out : α} {o o1 o2 : Option α} {ws ws' : va_W} {pc : Nat} {lv lv' : List (Option Value)} {st : List Value} {cA : ClassId} {n : Nat} {a : Addr}
theorem zF.g (F : zF l D tA own cc nL rm X) {H : Heap} {locs : List Loc} (hS : va_S (zA X) (zH X) H locs) : zG tA (zA X) (zs X) (zs X).heap ∧ va_S (zA X) (zs X).heap H locs := by
  have e := F.2.2.2.2.2.2.2.2.2.2.2
  have g := F.2.2.2.2.2.2.2.2.2.2.1
  rw [e] at g hS
  exact ⟨g, hS⟩
theorem y_sval (F : zF l D tA own cc nL rm X) {i ix : Nat} (hi : i < 8) (d : decode cc pc = .ok (.getfield ix, 3)) (w : Cond.fieldLink own ix "java/lang/String" "value" "[B" ∈ zT) (k : zY X D out o ws (pc + 3) lv (.ref (tA (200 + i)) :: st)) : zY X D out o ws pc lv (.ref (tA (100 + i)) :: st) :=
  fun h H locs ls hP hD hS hl => vk_getf F.1 F.2.1 ((F.g hS).1.1.1 i hi).2.2.1 (F.g hS).2 F.2.2.1 (F.2.2.2.1 _ w) (fun _ h => h) d (k h H locs ls hP hD hS hl)
theorem y_scod (F : zF l D tA own cc nL rm X) {i ix : Nat} (hi : i < 8) (d : decode cc pc = .ok (.getfield ix, 3)) (w : Cond.fieldLink own ix "java/lang/String" "coder" "B" ∈ zT) (k : zY X D out o ws (pc + 3) lv (.int 0 :: st)) : zY X D out o ws pc lv (.ref (tA (100 + i)) :: st) :=
  fun h H locs ls hP hD hS hl => vk_getf F.1 F.2.1 ((F.g hS).1.1.1 i hi).2.1 (F.g hS).2 F.2.2.1 (F.2.2.2.1 _ w) (fun _ h => h) d (k h H locs ls hP hD hS hl)
theorem y_svlen (F : zF l D tA own cc nL rm X) {i : Nat} (hi : i < 8) (d : decode cc pc = .ok (.arraylength, 1)) (k : zY X D out o ws (pc + 1) lv (.int (nI (zlen.getD i 0)) :: st)) : zY X D out o ws pc lv (.ref (tA (200 + i)) :: st) :=
  fun h H locs ls hP hD hS hl => va_tlen F.1 F.2.1 ((F.g hS).1.1.1 i hi).2.2.2 (F.g hS).2 rfl d (k h H locs ls hP hD hS hl)
theorem y_svld (F : zF l D tA own cc nL rm X) {i : Nat} {j : Int32} (hi : i < 8) (hj : vp_in j (zlen.getD i 0)) (d : decode cc pc = .ok (.baload, 1)) (k : zY X D out o ws (pc + 1) lv (.int ((zbyt.getD i []).getD j.toNatClampNeg 0) :: st)) : zY X D out o ws pc lv (.int j :: .ref (tA (200 + i)) :: st) :=
  fun h H locs ls hP hD hS hl => va_tb F.1 F.2.1 ((F.g hS).1.1.1 i hi).2.2.2 (F.g hS).2 hj rfl d (k h H locs ls hP hD hS hl)
theorem y_scomp (F : zF l D tA own cc nL rm X) {ix : Nat} (d : decode cc pc = .ok (.getstatic ix, 3)) (w : Cond.fieldLink own ix "java/lang/String" "COMPACT_STRINGS" "Z" ∈ zT) (k : zY X D out o ws (pc + 3) lv (.int 1 :: st)) : zY X D out o ws pc lv st :=
  fun h H locs ls hP hD hS hl => va_gets F.1 F.2.1 (F.g hS).1.2.1 (F.g hS).2 F.2.2.1 (F.2.2.2.1 _ w) (fun _ h => h) d (k h H locs ls hP hD hS hl)
theorem y_sfmt (F : zF l D tA own cc nL rm X) {ix : Nat} (d : decode cc pc = .ok (.getstatic ix, 3)) (w : Cond.fieldLink own ix "jdk/internal/util/Preconditions" "SIOOBE_FORMATTER" "Ljava/util/function/BiFunction;" ∈ zT) (k : ∀ r : Option Nat, zY X D out o ws (pc + 3) lv (va_rf r :: st)) : zY X D out o ws pc lv st := by
  intro h H locs ls hP hD hS hl
  rcases (F.g hS).1.2.2.1 with hz | ⟨t, hz⟩
  · exact va_gets F.1 F.2.1 hz (F.g hS).2 F.2.2.1 (F.2.2.2.1 _ w) (fun _ h => h) d (k none h H locs ls hP hD hS hl)
  · exact va_gets F.1 F.2.1 hz (F.g hS).2 F.2.2.1 (F.2.2.2.1 _ w) (fun _ h => h) d (k (some t) h H locs ls hP hD hS hl)
theorem y_ldcS (F : zF l D tA own cc nL rm X) {i ix : Nat} {c : String × Nat × String × List Int32} (hc : zcon[i]? = some c) (ho : own = c.1 ∧ ix = c.2.1) (d : decode cc pc = .ok (.ldc ix, 2)) (k : zY X D out o ws (pc + 2) lv (.ref (tA (100 + i)) :: st)) : zY X D out o ws pc lv st := by
  intro h H locs ls hP hD hS hl
  have hR := (F.g hS).1.2.2.2 i c hc
  rw [← ho.1, ← ho.2] at hR
  exact va_ldcS F.1 F.2.1 F.2.2.1 hR d (k h H locs ls hP hD hS hl)
theorem y_i2c (F : zF l D tA own cc nL rm X) {x : Int32} (d : decode cc pc = .ok (.i2c, 1)) (k : zY X D out o ws (pc + 1) lv (.int ((x.toUInt32 % 65536).toInt32) :: st)) : zY X D out o ws pc lv (.int x :: st) :=
  fun h H locs ls hP hD hS hl => lv_i2c F.1 F.2.1 d rfl (k h H locs ls hP hD hS hl)
theorem y_tret {ty : FieldType} {rr : α → Int32} {w1 : α → va_W} {out' : α} {v : Int32} (hr : zRi X D cc ty rr w1 out) (d : decode cc pc = .ok (.ireturn, 1)) (hn : narrow ty (.int v) = .int v) (hv : v = rr out') (hw : ws = w1 out') : zY X D out (some out') ws pc lv [.int v] := by
  intro h H locs ls hP hD hS hl
  have h := Option.some.inj h
  rw [h] at hv hw
  rw [hw] at hP hD
  rw [hv] at hn ⊢
  exact hr hn H locs pc ls d hP hD hS
theorem y_callS (F : zF l D tA own cc nL rm X) {i ix nY np : Nat} {y : MethodName} {bY : ByteArray} {ty : FieldType} {rmY : Room} {rr : β → Int32} {oc : Option β} {kf : β → Option α} {As : List Value} (hi : i < 8) (hcon : zCi l D tA y bY nY ty rmY (.ref (tA (100 + i)) :: As) [] rr (fun _ => []) oc) (d : decode cc pc = .ok (.invokevirtual ix, 3)) (cw : zMv own ix y bY nY (some ty) np)
    (h0 : rmY.cells = 0 ∧ rmY.slots = 0) (hR : rmY.frames + 1 ≤ rm.frames ∧ 8 + (nY + 11) + rmY.locals ≤ rm.locals) (hlen : As.length = np) (hnL : lv.length = nL) {stk : List Value} (hst : stk = As.reverse ++ .ref (tA (100 + i)) :: st) (hcat : (st.map fun v => v.category).sum ≤ 8) (hy : y.cls = "java/lang/String")
    (kk : ∀ r : β, zY X D out (kf r) ws (pc + 3) lv (.int (rr r) :: st)) : zY X D out (oc.bind kf) ws pc lv stk := by
  intro h H locs ls hP hD hS hl
  subst hst
  have ez : zl X = l := F.2.2.2.2.2.2.2.1
  subst ez
  cases hoc : oc with
  | none => rw [hoc] at h; cases h
  | some r =>
    rw [hoc] at h
    have h : kf r = some out := h
    have hF : ∀ q : Nat, va_A [] H.size q → zA X q := fun q h => by
      rcases h with ⟨k, e, h⟩ | h
      · simp at h
      · exact F.2.2.2.2.2.1 q (Nat.le_trans hS.1 h)
    refine va_calli (va_runV (As := As) (rest := st) (g := F0 (zm X) pc ls (As.reverse ++ .ref (tA (100 + i)) :: st)) (Ts := zT) (C := y.cls) ⟨F.1, F.2.1, rfl, F.2.2.1, F.2.2.2.1⟩ (hcon r hoc H.size) ⟨zcallB F cw.1 cw.2.2.2.1 cw.2.2.2.2.1 cw.2.2.2.2.2.1 cw.2.2.2.2.2.2 h0 hR, F.2.2.2.1 _ cw.2.1, F.2.2.2.1 _ cw.2.2.1⟩ ⟨zblind, by rw [hy]; exact vk_recv (adK := fun i => tA (100 + i)) (F.g hS).1.1 hi (F.g hS).2, zpreV (is := []) F hP hD rfl rfl hS hF⟩ rfl hlen (hl.1.trans (hnL.trans F.2.2.2.2.2.2.1.symm)) rfl (lv_room hcat) d ⟨Nat.zero_le _, Nat.zero_le _⟩) hS (fun q _ h => hF q h) hF (fun r1 u t H1 locs1 ht hvm hw hB hz1 hk1 hS1 => ?_)
    obtain ⟨hP1, hD1⟩ := hB
    rw [ht] at hP1
    obtain ⟨hPj, hDj⟩ := zjoin (is := []) hP hD rfl hk1 hP1 rfl zCh_nil
    rw [hw]
    exact kk r h H1 locs1 ls hPj hDj hS1 hl
abbrev rmJ_0 : Room := { frames := 0, cells := 0, slots := 0, locals := 0 }
abbrev rmJ_1 : Room := { frames := 1, cells := 0, slots := 0, locals := 30 }
abbrev rmJ_2 : Room := { frames := 2, cells := 0, slots := 0, locals := 60 }
abbrev rmJ_3 : Room := { frames := 3, cells := 0, slots := 0, locals := 90 }
theorem c_coder (i : Nat) (hi : i < 8) : zCi l D tA yJ0_coder_7d493 cJ0_coder_7d493 1 .byte rmJ_0 [.ref (tA (100 + i))] [] (fun (r : Int32) => r) (fun _ => []) (some 0) := by
  refine zCi_of (lv0 := [some (.ref (tA (100 + i)))]) (by decide +kernel) (Nat.le_of_ble_eq_true rfl) rfl (fun X out F hr => ?_)
  refine y_scomp (pc := 0) F dJ0_coder_7d493_0 kF_J0_38 ?_
  refine y_mono (o' := if (1 : Int32) = 0 then none else some 0) (fun h => h) ?_
  refine y_if_eq (pc := 3) (tgt := 13) F dJ0_coder_7d493_3 rfl y_none ?_
  refine y_aload_n (pc := 6) F dJ0_coder_7d493_6 rfl ?_
  refine y_scod (pc := 7) F hi dJ0_coder_7d493_7 kF_J0_15 ?_
  refine y_goto (pc := 10) (tgt := 14) F dJ0_coder_7d493_10 rfl ?_
  exact y_tret hr dJ0_coder_7d493_14 rfl rfl rfl
theorem c_isLatin1 (i : Nat) (hi : i < 8) : zCi l D tA yJ0_isLatin1_aae02 cJ0_isLatin1_aae02 1 .boolean rmJ_0 [.ref (tA (100 + i))] [] (fun (r : Int32) => r) (fun _ => []) (some 1) := by
  refine zCi_of (lv0 := [some (.ref (tA (100 + i)))]) (by decide +kernel) (Nat.le_of_ble_eq_true rfl) rfl (fun X out F hr => ?_)
  refine y_scomp (pc := 0) F dJ0_isLatin1_aae02_0 kF_J0_38 ?_
  refine y_mono (o' := if (1 : Int32) = 0 then none else some 1) (fun h => h) ?_
  refine y_if_eq (pc := 3) (tgt := 17) F dJ0_isLatin1_aae02_3 rfl y_none ?_
  refine y_aload_n (pc := 6) F dJ0_isLatin1_aae02_6 rfl ?_
  refine y_scod (pc := 7) F hi dJ0_isLatin1_aae02_7 kF_J0_15 ?_
  refine y_mono (o' := if (0 : Int32) = 0 then some 1 else none) (fun h => h) ?_
  refine y_if_ne (pc := 10) (tgt := 17) F dJ0_isLatin1_aae02_10 rfl ?_ y_none
  refine y_iconst (v := 1) (pc := 13) F dJ0_isLatin1_aae02_13 rfl ?_
  refine y_goto (pc := 14) (tgt := 18) F dJ0_isLatin1_aae02_14 rfl ?_
  exact y_tret hr dJ0_isLatin1_aae02_18 rfl rfl rfl
theorem c_length (i : Nat) (hi : i < 8) : zCi l D tA yJ0_length_8abf5 cJ0_length_8abf5 1 .int rmJ_1 [.ref (tA (100 + i))] [] (fun (r : Int32) => r) (fun _ => []) (some (nI (zlen.getD i 0))) := by
  refine zCi_of (lv0 := [some (.ref (tA (100 + i)))]) (by decide +kernel) (Nat.le_of_ble_eq_true rfl) rfl (fun X out F hr => ?_)
  refine y_aload_n (pc := 0) F dJ0_length_8abf5_0 rfl ?_
  refine y_sval (pc := 1) F hi dJ0_length_8abf5_1 kF_J0_9 ?_
  refine y_svlen (pc := 4) F hi dJ0_length_8abf5_4 ?_
  refine y_aload_n (pc := 5) F dJ0_length_8abf5_5 rfl ?_
  refine y_mono (o' := Option.bind (some (0 : Int32)) fun (r : Int32) => if r = 0 then some (nI (zlen.getD i 0)) else none) (fun h => h) ?_
  refine y_callS (As := []) (st := [.int (nI (zlen.getD i 0))]) (pc := 6) F hi (c_coder i hi) dJ0_length_8abf5_6 kM_J0_335 ⟨rfl, rfl⟩ ⟨Nat.le_of_ble_eq_true rfl, Nat.le_of_ble_eq_true rfl⟩ rfl rfl rfl (Nat.le_of_ble_eq_true rfl) rfl (fun r => ?_)
  refine y_ifx (fun e => ?_) (fun _ => y_none)
  subst e
  refine y_ishr (pc := 9) F dJ0_length_8abf5_9 ?_
  exact y_tret hr dJ0_length_8abf5_10 rfl (sb_shr0 _) rfl
theorem c_pre (k : Int32) (m : Int32) (r : Option Nat) : zCi l D tA yJ3_checkIndex_8e157 cJ3_checkIndex_8e157 3 .int rmJ_0 [.int k, .int m, va_rf r] [] (fun (r : Int32) => r) (fun _ => []) (if k < 0 then none else if k < m then some k else none) := by
  cases r with
  | none =>
    refine zCi_of (lv0 := [some (.int k), some (.int m), some .null]) (by decide +kernel) (Nat.le_of_ble_eq_true rfl) rfl (fun X out F hr => ?_)
    refine y_iload_n (pc := 0) F dJ3_checkIndex_8e157_0 rfl ?_
    refine y_if_lt (pc := 1) (tgt := 9) F dJ3_checkIndex_8e157_1 rfl y_none ?_
    refine y_iload_n (pc := 4) F dJ3_checkIndex_8e157_4 rfl ?_
    refine y_iload_n (pc := 5) F dJ3_checkIndex_8e157_5 rfl ?_
    refine y_icmp_lt (pc := 6) (tgt := 16) F dJ3_checkIndex_8e157_6 rfl ?_ y_none
    refine y_iload_n (pc := 16) F dJ3_checkIndex_8e157_16 rfl ?_
    exact y_tret hr dJ3_checkIndex_8e157_17 rfl rfl rfl
  | some a =>
    refine zCi_of (lv0 := [some (.int k), some (.int m), some (.ref a)]) (by decide +kernel) (Nat.le_of_ble_eq_true rfl) rfl (fun X out F hr => ?_)
    refine y_iload_n (pc := 0) F dJ3_checkIndex_8e157_0 rfl ?_
    refine y_if_lt (pc := 1) (tgt := 9) F dJ3_checkIndex_8e157_1 rfl y_none ?_
    refine y_iload_n (pc := 4) F dJ3_checkIndex_8e157_4 rfl ?_
    refine y_iload_n (pc := 5) F dJ3_checkIndex_8e157_5 rfl ?_
    refine y_icmp_lt (pc := 6) (tgt := 16) F dJ3_checkIndex_8e157_6 rfl ?_ y_none
    refine y_iload_n (pc := 16) F dJ3_checkIndex_8e157_16 rfl ?_
    exact y_tret hr dJ3_checkIndex_8e157_17 rfl rfl rfl
theorem zvc_rf (r : Option Nat) : (va_rf r).category = 1 := by cases r <;> rfl
theorem c_check (k : Int32) (m : Int32) : zCv l D tA yJ0_checkIndex_df160 cJ0_checkIndex_df160 2 rmJ_1 [.int k, .int m] [] (fun (_ : Unit) => []) (if k < 0 then none else if k < m then some () else none) := by
  refine zCv_of (lv0 := [some (.int k), some (.int m)]) (by decide +kernel) (Nat.le_of_ble_eq_true rfl) rfl (fun X out F hr => ?_)
  refine y_iload_n (pc := 0) F dJ0_checkIndex_df160_0 rfl ?_
  refine y_iload_n (pc := 1) F dJ0_checkIndex_df160_1 rfl ?_
  refine y_sfmt (pc := 2) F dJ0_checkIndex_df160_2 kF_J0_1053 (fun r => ?_)
  refine y_mono (o' := Option.bind (if k < 0 then none else if k < m then some k else none) fun (_ : Int32) => some ()) (fun h => by
    by_cases h1 : k < 0
    · rw [if_pos h1] at h; cases h
    · by_cases h2 : k < m
      · rw [if_neg h1, if_pos h2]
        rfl
      · rw [if_neg h1, if_neg h2] at h; cases h) ?_
  refine y_scalliP (As := [.int k, .int m, va_rf r]) (st := []) (pc := 5) F (c_pre k m r) dJ0_checkIndex_df160_5 kM_J0_1059 ⟨rfl, rfl⟩ ⟨Nat.le_of_ble_eq_true rfl, Nat.le_of_ble_eq_true rfl⟩ rfl rfl rfl (Nat.le_of_ble_eq_true rfl) (fun r2 => ?_)
  refine y_pop (pc := 8) F dJ0_checkIndex_df160_8 rfl ?_
  exact y_vret hr dJ0_checkIndex_df160_9 rfl
/-- the char at a place of a constant -/
def zchr (i : Nat) (k : Int32) : Int32 := (zbyt.getD i []).getD k.toNatClampNeg 0 &&& 255
theorem zchr_c (i : Nat) (k : Int32) : ((zchr i k).toUInt32 % 65536).toInt32 = zchr i k := sc_c2 _
theorem zgd_if {i : Int32} {n : Nat} (hn : n < 2 ^ 31) {o : Option α} {x : α} (h : zgd i n o = some x) : (if i < 0 then none else if i < nI n then some () else none) = some () ∧ vp_in i n ∧ o = some x := by
  unfold zgd at h
  by_cases e : 0 ≤ i.toInt ∧ i.toInt < (n : Int)
  · rw [if_pos e] at h
    refine ⟨?_, zin_of e, h⟩
    rw [if_neg (by rw [Int32.lt_iff_toInt_lt, Int32.toInt_zero]; omega), if_pos (by rw [Int32.lt_iff_toInt_lt, nI_toInt hn]; omega)]
  · rw [if_neg e] at h
    cases h
theorem c_latCharAt (i : Nat) (hi : i < 8) (hn : zlen.getD i 0 < 2 ^ 31) (k : Int32) : zCi l D tA yJ1_charAt_3b067 cJ1_charAt_3b067 2 .char rmJ_2 [.ref (tA (200 + i)), .int k] [] (fun (r : Int32) => r) (fun _ => []) (zgd k (zlen.getD i 0) (some (zchr i k))) := by
  refine zCi_of (lv0 := [some (.ref (tA (200 + i))), some (.int k)]) (by decide +kernel) (Nat.le_of_ble_eq_true rfl) rfl (fun X out F hr => ?_)
  refine y_iload_n (pc := 0) F dJ1_charAt_3b067_0 rfl ?_
  refine y_aload_n (pc := 1) F dJ1_charAt_3b067_1 rfl ?_
  refine y_svlen (pc := 2) F hi dJ1_charAt_3b067_2 ?_
  refine y_mono (o' := Option.bind (if k < 0 then none else if k < nI (zlen.getD i 0) then some () else none) fun (_ : Unit) => zgd k (zlen.getD i 0) (some (zchr i k))) (fun h => by
    rw [(zgd_if hn h).1]
    exact h) ?_
  refine y_scallv (wf := fun _ => []) (As := [.int k, .int (nI (zlen.getD i 0))]) (st := []) (pc := 3) F (c_check k (nI (zlen.getD i 0))) dJ1_charAt_3b067_3 kM_J1_9 ⟨rfl, rfl⟩ ⟨Nat.le_of_ble_eq_true rfl, Nat.le_of_ble_eq_true rfl⟩ rfl rfl rfl (Nat.le_of_ble_eq_true rfl) [] rfl rfl (fun _ => rfl) (fun _ => zCh_nil) (fun _ => ?_)
  refine y_aload_n (pc := 6) F dJ1_charAt_3b067_6 rfl ?_
  refine y_iload_n (pc := 7) F dJ1_charAt_3b067_7 rfl ?_
  refine y_gd (fun hin => ?_)
  refine y_svld (pc := 8) F hi hin dJ1_charAt_3b067_8 ?_
  refine y_sipush (v := 255) (pc := 9) F dJ1_charAt_3b067_9 rfl ?_
  refine y_iand (pc := 12) F dJ1_charAt_3b067_12 ?_
  refine y_i2c (pc := 13) F dJ1_charAt_3b067_13 ?_
  exact y_tret hr dJ1_charAt_3b067_14 (by show narrow .char (.int ((zchr i k).toUInt32 % 65536).toInt32) = .int ((zchr i k).toUInt32 % 65536).toInt32; rw [zchr_c]; exact sc_nar _) (zchr_c i k) rfl
theorem c_charAt (i : Nat) (hi : i < 8) (hn : zlen.getD i 0 < 2 ^ 31) (k : Int32) : zCi l D tA yJ0_charAt_5068e cJ0_charAt_5068e 2 .char rmJ_3 [.ref (tA (100 + i)), .int k] [] (fun (r : Int32) => r) (fun _ => []) (zgd k (zlen.getD i 0) (some (zchr i k))) := by
  refine zCi_of (lv0 := [some (.ref (tA (100 + i))), some (.int k)]) (by decide +kernel) (Nat.le_of_ble_eq_true rfl) rfl (fun X out F hr => ?_)
  refine y_aload_n (pc := 0) F dJ0_charAt_5068e_0 rfl ?_
  refine y_mono (o' := Option.bind (some (1 : Int32)) fun (r : Int32) => if r = 0 then none else Option.bind (zgd k (zlen.getD i 0) (some (zchr i k))) fun (x : Int32) => if x = zchr i k then some x else none) (fun h => by
    show (if (1 : Int32) = 0 then none else _) = _
    rw [if_neg (by decide), h]
    have h2 : zchr i k = out := by
      unfold zgd at h
      by_cases e : 0 ≤ k.toInt ∧ k.toInt < (zlen.getD i 0 : Int)
      · rw [if_pos e] at h; exact Option.some.inj h
      · rw [if_neg e] at h; cases h
    show (if out = zchr i k then some out else none) = some out
    rw [if_pos h2.symm]) ?_
  refine y_callS (As := []) (st := []) (pc := 1) F hi (c_isLatin1 i hi) dJ0_charAt_5068e_1 kM_J0_492 ⟨rfl, rfl⟩ ⟨Nat.le_of_ble_eq_true rfl, Nat.le_of_ble_eq_true rfl⟩ rfl rfl rfl (Nat.le_of_ble_eq_true rfl) rfl (fun r => ?_)
  refine y_if_eq (pc := 4) (tgt := 16) F dJ0_charAt_5068e_4 rfl y_none ?_
  refine y_aload_n (pc := 7) F dJ0_charAt_5068e_7 rfl ?_
  refine y_sval (pc := 8) F hi dJ0_charAt_5068e_8 kF_J0_9 ?_
  refine y_iload_n (pc := 11) F dJ0_charAt_5068e_11 rfl ?_
  refine y_scalliP (As := [.ref (tA (200 + i)), .int k]) (st := []) (pc := 12) F (c_latCharAt i hi hn k) dJ0_charAt_5068e_12 kM_J0_495 ⟨rfl, rfl⟩ ⟨Nat.le_of_ble_eq_true rfl, Nat.le_of_ble_eq_true rfl⟩ rfl rfl rfl (Nat.le_of_ble_eq_true rfl) (fun x => ?_)
  refine y_ifx (fun e => ?_) (fun _ => y_none)
  exact y_tret hr dJ0_charAt_5068e_15 (by rw [e]; exact sc_nar _) rfl rfl
end ZTX
end
