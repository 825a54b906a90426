-- ===== PART A: goes FIRST, ahead of the names: the tables' words, and 'selects' of the private methods out of them =====
/-- a private method of a class that the tables say can be made, by its rows of tables_1 -/
def lw_okq (q : MethodName × Nat) : Prop := (q.1.cls ≠ "java/lang/invoke/MethodHandle" ∧ q.1.cls ≠ "java/lang/invoke/VarHandle") ∧ Cond.instantiable q.1.cls q.2 ∈ tables_1 ∧ Cond.privateMethod q.1 ∈ tables_1 ∧ Cond.instanceMethod q.1 ∈ tables_1
theorem lw_p0 : lw_okq (⟨"BarPilot$BarReader", "readClause", "(I)Z"⟩, 2) := ⟨⟨by decide +kernel, by decide +kernel⟩, List.mem_of_getElem? (i := 74) (by decide +kernel), List.mem_of_getElem? (i := 417) (by decide +kernel), List.mem_of_getElem? (i := 418) (by decide +kernel)⟩
theorem lw_p1 : lw_okq (⟨"BarPilot$BarReader", "isTooMuch", "(JI)Z"⟩, 2) := ⟨⟨by decide +kernel, by decide +kernel⟩, List.mem_of_getElem? (i := 74) (by decide +kernel), List.mem_of_getElem? (i := 429) (by decide +kernel), List.mem_of_getElem? (i := 430) (by decide +kernel)⟩
theorem lw_p2 : lw_okq (⟨"BarPilot$BarReader", "readBar", "()Z"⟩, 2) := ⟨⟨by decide +kernel, by decide +kernel⟩, List.mem_of_getElem? (i := 74) (by decide +kernel), List.mem_of_getElem? (i := 434) (by decide +kernel), List.mem_of_getElem? (i := 435) (by decide +kernel)⟩
theorem lw_p3 : lw_okq (⟨"BarPilot$BarReader", "readJoke", "()Z"⟩, 2) := ⟨⟨by decide +kernel, by decide +kernel⟩, List.mem_of_getElem? (i := 74) (by decide +kernel), List.mem_of_getElem? (i := 443) (by decide +kernel), List.mem_of_getElem? (i := 444) (by decide +kernel)⟩
theorem lw_p4 : lw_okq (⟨"BarPilot$Told", "countAlike", "(IIII)I"⟩, 10) := ⟨⟨by decide +kernel, by decide +kernel⟩, List.mem_of_getElem? (i := 80) (by decide +kernel), List.mem_of_getElem? (i := 455) (by decide +kernel), List.mem_of_getElem? (i := 456) (by decide +kernel)⟩
theorem lw_p5 : lw_okq (⟨"BarPilot$BarReader", "readShip", "()Z"⟩, 2) := ⟨⟨by decide +kernel, by decide +kernel⟩, List.mem_of_getElem? (i := 74) (by decide +kernel), List.mem_of_getElem? (i := 459) (by decide +kernel), List.mem_of_getElem? (i := 460) (by decide +kernel)⟩
theorem lw_p6 : lw_okq (⟨"BarPilot$BarReader", "readKnows", "()Z"⟩, 2) := ⟨⟨by decide +kernel, by decide +kernel⟩, List.mem_of_getElem? (i := 74) (by decide +kernel), List.mem_of_getElem? (i := 467) (by decide +kernel), List.mem_of_getElem? (i := 468) (by decide +kernel)⟩
theorem lw_p7 : lw_okq (⟨"BarPilot$RuleReader", "readClause", "(I)Z"⟩, 6) := ⟨⟨by decide +kernel, by decide +kernel⟩, List.mem_of_getElem? (i := 147) (by decide +kernel), List.mem_of_getElem? (i := 500) (by decide +kernel), List.mem_of_getElem? (i := 501) (by decide +kernel)⟩
theorem lw_p8 : lw_okq (⟨"BarPilot$RuleReader", "readSum", "()Z"⟩, 6) := ⟨⟨by decide +kernel, by decide +kernel⟩, List.mem_of_getElem? (i := 147) (by decide +kernel), List.mem_of_getElem? (i := 507) (by decide +kernel), List.mem_of_getElem? (i := 508) (by decide +kernel)⟩
theorem lw_p9 : lw_okq (⟨"BarPilot$RuleReader", "readValue", "()Z"⟩, 6) := ⟨⟨by decide +kernel, by decide +kernel⟩, List.mem_of_getElem? (i := 147) (by decide +kernel), List.mem_of_getElem? (i := 511) (by decide +kernel), List.mem_of_getElem? (i := 512) (by decide +kernel)⟩
theorem lw_p10 : lw_okq (⟨"BarPilot$RuleReader", "wordFound", "()I"⟩, 6) := ⟨⟨by decide +kernel, by decide +kernel⟩, List.mem_of_getElem? (i := 147) (by decide +kernel), List.mem_of_getElem? (i := 516) (by decide +kernel), List.mem_of_getElem? (i := 517) (by decide +kernel)⟩
theorem lw_p11 : lw_okq (⟨"BarPilot$RuleReader", "counts", "()Z"⟩, 6) := ⟨⟨by decide +kernel, by decide +kernel⟩, List.mem_of_getElem? (i := 147) (by decide +kernel), List.mem_of_getElem? (i := 522) (by decide +kernel), List.mem_of_getElem? (i := 523) (by decide +kernel)⟩
theorem lw_p12 : lw_okq (⟨"BarPilot$RuleReader", "put", "(II)Z"⟩, 6) := ⟨⟨by decide +kernel, by decide +kernel⟩, List.mem_of_getElem? (i := 147) (by decide +kernel), List.mem_of_getElem? (i := 526) (by decide +kernel), List.mem_of_getElem? (i := 527) (by decide +kernel)⟩
theorem lw_p13 : lw_okq (⟨"BarPilot$RuleReader", "readTest", "(I)Z"⟩, 6) := ⟨⟨by decide +kernel, by decide +kernel⟩, List.mem_of_getElem? (i := 147) (by decide +kernel), List.mem_of_getElem? (i := 534) (by decide +kernel), List.mem_of_getElem? (i := 535) (by decide +kernel)⟩
theorem lw_p14 : lw_okq (⟨"BarPilot$RuleReader", "readFact", "(I)Z"⟩, 6) := ⟨⟨by decide +kernel, by decide +kernel⟩, List.mem_of_getElem? (i := 147) (by decide +kernel), List.mem_of_getElem? (i := 538) (by decide +kernel), List.mem_of_getElem? (i := 539) (by decide +kernel)⟩
theorem lw_p15 : lw_okq (⟨"BarPilot$RuleReader", "land", "(I)V"⟩, 6) := ⟨⟨by decide +kernel, by decide +kernel⟩, List.mem_of_getElem? (i := 147) (by decide +kernel), List.mem_of_getElem? (i := 548) (by decide +kernel), List.mem_of_getElem? (i := 549) (by decide +kernel)⟩
def lw_privs_1 : List (MethodName × Nat) := [(⟨"BarPilot$BarReader", "readClause", "(I)Z"⟩, 2), (⟨"BarPilot$BarReader", "isTooMuch", "(JI)Z"⟩, 2), (⟨"BarPilot$BarReader", "readBar", "()Z"⟩, 2), (⟨"BarPilot$BarReader", "readJoke", "()Z"⟩, 2), (⟨"BarPilot$Told", "countAlike", "(IIII)I"⟩, 10), (⟨"BarPilot$BarReader", "readShip", "()Z"⟩, 2), (⟨"BarPilot$BarReader", "readKnows", "()Z"⟩, 2), (⟨"BarPilot$RuleReader", "readClause", "(I)Z"⟩, 6), (⟨"BarPilot$RuleReader", "readSum", "()Z"⟩, 6), (⟨"BarPilot$RuleReader", "readValue", "()Z"⟩, 6), (⟨"BarPilot$RuleReader", "wordFound", "()I"⟩, 6), (⟨"BarPilot$RuleReader", "counts", "()Z"⟩, 6), (⟨"BarPilot$RuleReader", "put", "(II)Z"⟩, 6), (⟨"BarPilot$RuleReader", "readTest", "(I)Z"⟩, 6), (⟨"BarPilot$RuleReader", "readFact", "(I)Z"⟩, 6), (⟨"BarPilot$RuleReader", "land", "(I)V"⟩, 6)]
theorem lw_r1 : ∀ q ∈ lw_privs_1, lw_okq q := List.forall_mem_cons.mpr ⟨lw_p0, List.forall_mem_cons.mpr ⟨lw_p1, List.forall_mem_cons.mpr ⟨lw_p2, List.forall_mem_cons.mpr ⟨lw_p3, List.forall_mem_cons.mpr ⟨lw_p4, List.forall_mem_cons.mpr ⟨lw_p5, List.forall_mem_cons.mpr ⟨lw_p6, List.forall_mem_cons.mpr ⟨lw_p7, List.forall_mem_cons.mpr ⟨lw_p8, List.forall_mem_cons.mpr ⟨lw_p9, List.forall_mem_cons.mpr ⟨lw_p10, List.forall_mem_cons.mpr ⟨lw_p11, List.forall_mem_cons.mpr ⟨lw_p12, List.forall_mem_cons.mpr ⟨lw_p13, List.forall_mem_cons.mpr ⟨lw_p14, List.forall_mem_cons.mpr ⟨lw_p15, fun _ h => absurd h List.not_mem_nil⟩⟩⟩⟩⟩⟩⟩⟩⟩⟩⟩⟩⟩⟩⟩⟩
theorem lw_p16 : lw_okq (⟨"BarPilot$RuleReader", "moveTestAhead", "(II)V"⟩, 6) := ⟨⟨by decide +kernel, by decide +kernel⟩, List.mem_of_getElem? (i := 147) (by decide +kernel), List.mem_of_getElem? (i := 552) (by decide +kernel), List.mem_of_getElem? (i := 553) (by decide +kernel)⟩
theorem lw_p17 : lw_okq (⟨"BarPilot", "isRuleOrNone", "(I)Z"⟩, 9) := ⟨⟨by decide +kernel, by decide +kernel⟩, List.mem_of_getElem? (i := 21) (by decide +kernel), List.mem_of_getElem? (i := 606) (by decide +kernel), List.mem_of_getElem? (i := 607) (by decide +kernel)⟩
theorem lw_p18 : lw_okq (⟨"BarPilot", "isJoke", "(I)Z"⟩, 9) := ⟨⟨by decide +kernel, by decide +kernel⟩, List.mem_of_getElem? (i := 21) (by decide +kernel), List.mem_of_getElem? (i := 614) (by decide +kernel), List.mem_of_getElem? (i := 615) (by decide +kernel)⟩
theorem lw_p19 : lw_okq (⟨"BarPilot", "isShip", "(I)Z"⟩, 9) := ⟨⟨by decide +kernel, by decide +kernel⟩, List.mem_of_getElem? (i := 21) (by decide +kernel), List.mem_of_getElem? (i := 634) (by decide +kernel), List.mem_of_getElem? (i := 635) (by decide +kernel)⟩
theorem lw_p20 : lw_okq (⟨"BarPilot", "ruleAt", "(I)LBarPilot$Rule;"⟩, 9) := ⟨⟨by decide +kernel, by decide +kernel⟩, List.mem_of_getElem? (i := 21) (by decide +kernel), List.mem_of_getElem? (i := 667) (by decide +kernel), List.mem_of_getElem? (i := 668) (by decide +kernel)⟩
theorem lw_p21 : lw_okq (⟨"BarPilot$Pilot", "pick", "(I)I"⟩, 8) := ⟨⟨by decide +kernel, by decide +kernel⟩, List.mem_of_getElem? (i := 268) (by decide +kernel), List.mem_of_getElem? (i := 685) (by decide +kernel), List.mem_of_getElem? (i := 686) (by decide +kernel)⟩
theorem lw_p22 : lw_okq (⟨"BarPilot$Pilot", "lookAtShip", "(I)V"⟩, 8) := ⟨⟨by decide +kernel, by decide +kernel⟩, List.mem_of_getElem? (i := 268) (by decide +kernel), List.mem_of_getElem? (i := 694) (by decide +kernel), List.mem_of_getElem? (i := 695) (by decide +kernel)⟩
theorem lw_p23 : lw_okq (⟨"BarPilot$Pilot", "lookAtJoke", "(I)V"⟩, 8) := ⟨⟨by decide +kernel, by decide +kernel⟩, List.mem_of_getElem? (i := 268) (by decide +kernel), List.mem_of_getElem? (i := 704) (by decide +kernel), List.mem_of_getElem? (i := 705) (by decide +kernel)⟩
theorem lw_p24 : lw_okq (⟨"BarPilot$Pilot", "howManyKnow", "(I)I"⟩, 8) := ⟨⟨by decide +kernel, by decide +kernel⟩, List.mem_of_getElem? (i := 268) (by decide +kernel), List.mem_of_getElem? (i := 713) (by decide +kernel), List.mem_of_getElem? (i := 714) (by decide +kernel)⟩
theorem lw_p25 : lw_okq (⟨"BarPilot$Rule", "fits", "(III)Z"⟩, 5) := ⟨⟨by decide +kernel, by decide +kernel⟩, List.mem_of_getElem? (i := 562) (by decide +kernel), List.mem_of_getElem? (i := 722) (by decide +kernel), List.mem_of_getElem? (i := 723) (by decide +kernel)⟩
theorem lw_p26 : lw_okq (⟨"BarPilot", "isWaiting", "(I)Z"⟩, 9) := ⟨⟨by decide +kernel, by decide +kernel⟩, List.mem_of_getElem? (i := 21) (by decide +kernel), List.mem_of_getElem? (i := 737) (by decide +kernel), List.mem_of_getElem? (i := 738) (by decide +kernel)⟩
theorem lw_p27 : lw_okq (⟨"BarPilot", "asking", "()LBarPilot$Asker;"⟩, 9) := ⟨⟨by decide +kernel, by decide +kernel⟩, List.mem_of_getElem? (i := 21) (by decide +kernel), List.mem_of_getElem? (i := 783) (by decide +kernel), List.mem_of_getElem? (i := 784) (by decide +kernel)⟩
theorem lw_p28 : lw_okq (⟨"BarPilot$Pilot", "nextFading", "()I"⟩, 8) := ⟨⟨by decide +kernel, by decide +kernel⟩, List.mem_of_getElem? (i := 268) (by decide +kernel), List.mem_of_getElem? (i := 799) (by decide +kernel), List.mem_of_getElem? (i := 800) (by decide +kernel)⟩
theorem lw_p29 : lw_okq (⟨"BarPilot$Told", "isUnlikeAll", "(III)Z"⟩, 10) := ⟨⟨by decide +kernel, by decide +kernel⟩, List.mem_of_getElem? (i := 80) (by decide +kernel), List.mem_of_getElem? (i := 842) (by decide +kernel), List.mem_of_getElem? (i := 843) (by decide +kernel)⟩
theorem lw_p30 : lw_okq (⟨"BarPilot$Asker", "rowFound", "(III)Z"⟩, 12) := ⟨⟨by decide +kernel, by decide +kernel⟩, List.mem_of_getElem? (i := 304) (by decide +kernel), List.mem_of_getElem? (i := 854) (by decide +kernel), List.mem_of_getElem? (i := 855) (by decide +kernel)⟩
theorem lw_p31 : lw_okq (⟨"BarPilot$Asker", "commonJokes", "()I"⟩, 12) := ⟨⟨by decide +kernel, by decide +kernel⟩, List.mem_of_getElem? (i := 304) (by decide +kernel), List.mem_of_getElem? (i := 893) (by decide +kernel), List.mem_of_getElem? (i := 894) (by decide +kernel)⟩
def lw_privs_2 : List (MethodName × Nat) := [(⟨"BarPilot$RuleReader", "moveTestAhead", "(II)V"⟩, 6), (⟨"BarPilot", "isRuleOrNone", "(I)Z"⟩, 9), (⟨"BarPilot", "isJoke", "(I)Z"⟩, 9), (⟨"BarPilot", "isShip", "(I)Z"⟩, 9), (⟨"BarPilot", "ruleAt", "(I)LBarPilot$Rule;"⟩, 9), (⟨"BarPilot$Pilot", "pick", "(I)I"⟩, 8), (⟨"BarPilot$Pilot", "lookAtShip", "(I)V"⟩, 8), (⟨"BarPilot$Pilot", "lookAtJoke", "(I)V"⟩, 8), (⟨"BarPilot$Pilot", "howManyKnow", "(I)I"⟩, 8), (⟨"BarPilot$Rule", "fits", "(III)Z"⟩, 5), (⟨"BarPilot", "isWaiting", "(I)Z"⟩, 9), (⟨"BarPilot", "asking", "()LBarPilot$Asker;"⟩, 9), (⟨"BarPilot$Pilot", "nextFading", "()I"⟩, 8), (⟨"BarPilot$Told", "isUnlikeAll", "(III)Z"⟩, 10), (⟨"BarPilot$Asker", "rowFound", "(III)Z"⟩, 12), (⟨"BarPilot$Asker", "commonJokes", "()I"⟩, 12)]
theorem lw_r2 : ∀ q ∈ lw_privs_2, lw_okq q := List.forall_mem_cons.mpr ⟨lw_p16, List.forall_mem_cons.mpr ⟨lw_p17, List.forall_mem_cons.mpr ⟨lw_p18, List.forall_mem_cons.mpr ⟨lw_p19, List.forall_mem_cons.mpr ⟨lw_p20, List.forall_mem_cons.mpr ⟨lw_p21, List.forall_mem_cons.mpr ⟨lw_p22, List.forall_mem_cons.mpr ⟨lw_p23, List.forall_mem_cons.mpr ⟨lw_p24, List.forall_mem_cons.mpr ⟨lw_p25, List.forall_mem_cons.mpr ⟨lw_p26, List.forall_mem_cons.mpr ⟨lw_p27, List.forall_mem_cons.mpr ⟨lw_p28, List.forall_mem_cons.mpr ⟨lw_p29, List.forall_mem_cons.mpr ⟨lw_p30, List.forall_mem_cons.mpr ⟨lw_p31, fun _ h => absurd h List.not_mem_nil⟩⟩⟩⟩⟩⟩⟩⟩⟩⟩⟩⟩⟩⟩⟩⟩
theorem lw_p32 : lw_okq (⟨"BarPilot$Asker", "gameWorth", "(IIII)I"⟩, 12) := ⟨⟨by decide +kernel, by decide +kernel⟩, List.mem_of_getElem? (i := 304) (by decide +kernel), List.mem_of_getElem? (i := 924) (by decide +kernel), List.mem_of_getElem? (i := 925) (by decide +kernel)⟩
theorem lw_p33 : lw_okq (⟨"BarPilot$Told", "weight", "(ILBarPilot$Scene;)I"⟩, 10) := ⟨⟨by decide +kernel, by decide +kernel⟩, List.mem_of_getElem? (i := 80) (by decide +kernel), List.mem_of_getElem? (i := 938) (by decide +kernel), List.mem_of_getElem? (i := 939) (by decide +kernel)⟩
theorem lw_p34 : lw_okq (⟨"BarPilot$Asker", "allNotesHold", "(II)Z"⟩, 12) := ⟨⟨by decide +kernel, by decide +kernel⟩, List.mem_of_getElem? (i := 304) (by decide +kernel), List.mem_of_getElem? (i := 970) (by decide +kernel), List.mem_of_getElem? (i := 971) (by decide +kernel)⟩
theorem lw_p35 : lw_okq (⟨"BarPilot$Asker", "notesHold", "(I)Z"⟩, 12) := ⟨⟨by decide +kernel, by decide +kernel⟩, List.mem_of_getElem? (i := 304) (by decide +kernel), List.mem_of_getElem? (i := 974) (by decide +kernel), List.mem_of_getElem? (i := 975) (by decide +kernel)⟩
theorem lw_p36 : lw_okq (⟨"BarPilot$Asker", "howManyTellAs", "(III)I"⟩, 12) := ⟨⟨by decide +kernel, by decide +kernel⟩, List.mem_of_getElem? (i := 304) (by decide +kernel), List.mem_of_getElem? (i := 987) (by decide +kernel), List.mem_of_getElem? (i := 988) (by decide +kernel)⟩
theorem lw_p37 : lw_okq (⟨"BarPilot$Asker", "hearParrot", "(I)V"⟩, 12) := ⟨⟨by decide +kernel, by decide +kernel⟩, List.mem_of_getElem? (i := 304) (by decide +kernel), List.mem_of_getElem? (i := 1003) (by decide +kernel), List.mem_of_getElem? (i := 1004) (by decide +kernel)⟩
theorem lw_p38 : lw_okq (⟨"BarPilot$Asker", "draw", "()I"⟩, 12) := ⟨⟨by decide +kernel, by decide +kernel⟩, List.mem_of_getElem? (i := 304) (by decide +kernel), List.mem_of_getElem? (i := 1007) (by decide +kernel), List.mem_of_getElem? (i := 1008) (by decide +kernel)⟩
theorem lw_p39 : lw_okq (⟨"BarPilotModel", "put", "(I)V"⟩, 54) := ⟨⟨by decide +kernel, by decide +kernel⟩, List.mem_of_getElem? (i := 1027) (by decide +kernel), List.mem_of_getElem? (i := 1200) (by decide +kernel), List.mem_of_getElem? (i := 1201) (by decide +kernel)⟩
theorem lw_p40 : lw_okq (⟨"BarPilotModel", "readsAll", "()V"⟩, 54) := ⟨⟨by decide +kernel, by decide +kernel⟩, List.mem_of_getElem? (i := 1027) (by decide +kernel), List.mem_of_getElem? (i := 1212) (by decide +kernel), List.mem_of_getElem? (i := 1213) (by decide +kernel)⟩
theorem lw_p41 : lw_okq (⟨"BarPilotModel", "starts", "()V"⟩, 54) := ⟨⟨by decide +kernel, by decide +kernel⟩, List.mem_of_getElem? (i := 1027) (by decide +kernel), List.mem_of_getElem? (i := 1216) (by decide +kernel), List.mem_of_getElem? (i := 1217) (by decide +kernel)⟩
theorem lw_p42 : lw_okq (⟨"BarPilotModel", "barClause", "(I)V"⟩, 54) := ⟨⟨by decide +kernel, by decide +kernel⟩, List.mem_of_getElem? (i := 1027) (by decide +kernel), List.mem_of_getElem? (i := 1220) (by decide +kernel), List.mem_of_getElem? (i := 1221) (by decide +kernel)⟩
theorem lw_p43 : lw_okq (⟨"BarPilotModel", "blanks", "()V"⟩, 54) := ⟨⟨by decide +kernel, by decide +kernel⟩, List.mem_of_getElem? (i := 1027) (by decide +kernel), List.mem_of_getElem? (i := 1224) (by decide +kernel), List.mem_of_getElem? (i := 1225) (by decide +kernel)⟩
theorem lw_p44 : lw_okq (⟨"BarPilotModel", "sign", "()I"⟩, 54) := ⟨⟨by decide +kernel, by decide +kernel⟩, List.mem_of_getElem? (i := 1027) (by decide +kernel), List.mem_of_getElem? (i := 1228) (by decide +kernel), List.mem_of_getElem? (i := 1229) (by decide +kernel)⟩
theorem lw_p45 : lw_okq (⟨"BarPilotModel", "stood", "(Ljava/lang/String;)Z"⟩, 54) := ⟨⟨by decide +kernel, by decide +kernel⟩, List.mem_of_getElem? (i := 1027) (by decide +kernel), List.mem_of_getElem? (i := 1239) (by decide +kernel), List.mem_of_getElem? (i := 1240) (by decide +kernel)⟩
theorem lw_p46 : lw_okq (⟨"BarPilotModel", "fails", "(II)V"⟩, 54) := ⟨⟨by decide +kernel, by decide +kernel⟩, List.mem_of_getElem? (i := 1027) (by decide +kernel), List.mem_of_getElem? (i := 1291) (by decide +kernel), List.mem_of_getElem? (i := 1292) (by decide +kernel)⟩
theorem lw_p47 : lw_okq (⟨"BarPilotModel", "isFull", "(II)Z"⟩, 54) := ⟨⟨by decide +kernel, by decide +kernel⟩, List.mem_of_getElem? (i := 1027) (by decide +kernel), List.mem_of_getElem? (i := 1295) (by decide +kernel), List.mem_of_getElem? (i := 1296) (by decide +kernel)⟩
def lw_privs_3 : List (MethodName × Nat) := [(⟨"BarPilot$Asker", "gameWorth", "(IIII)I"⟩, 12), (⟨"BarPilot$Told", "weight", "(ILBarPilot$Scene;)I"⟩, 10), (⟨"BarPilot$Asker", "allNotesHold", "(II)Z"⟩, 12), (⟨"BarPilot$Asker", "notesHold", "(I)Z"⟩, 12), (⟨"BarPilot$Asker", "howManyTellAs", "(III)I"⟩, 12), (⟨"BarPilot$Asker", "hearParrot", "(I)V"⟩, 12), (⟨"BarPilot$Asker", "draw", "()I"⟩, 12), (⟨"BarPilotModel", "put", "(I)V"⟩, 54), (⟨"BarPilotModel", "readsAll", "()V"⟩, 54), (⟨"BarPilotModel", "starts", "()V"⟩, 54), (⟨"BarPilotModel", "barClause", "(I)V"⟩, 54), (⟨"BarPilotModel", "blanks", "()V"⟩, 54), (⟨"BarPilotModel", "sign", "()I"⟩, 54), (⟨"BarPilotModel", "stood", "(Ljava/lang/String;)Z"⟩, 54), (⟨"BarPilotModel", "fails", "(II)V"⟩, 54), (⟨"BarPilotModel", "isFull", "(II)Z"⟩, 54)]
theorem lw_r3 : ∀ q ∈ lw_privs_3, lw_okq q := List.forall_mem_cons.mpr ⟨lw_p32, List.forall_mem_cons.mpr ⟨lw_p33, List.forall_mem_cons.mpr ⟨lw_p34, List.forall_mem_cons.mpr ⟨lw_p35, List.forall_mem_cons.mpr ⟨lw_p36, List.forall_mem_cons.mpr ⟨lw_p37, List.forall_mem_cons.mpr ⟨lw_p38, List.forall_mem_cons.mpr ⟨lw_p39, List.forall_mem_cons.mpr ⟨lw_p40, List.forall_mem_cons.mpr ⟨lw_p41, List.forall_mem_cons.mpr ⟨lw_p42, List.forall_mem_cons.mpr ⟨lw_p43, List.forall_mem_cons.mpr ⟨lw_p44, List.forall_mem_cons.mpr ⟨lw_p45, List.forall_mem_cons.mpr ⟨lw_p46, List.forall_mem_cons.mpr ⟨lw_p47, fun _ h => absurd h List.not_mem_nil⟩⟩⟩⟩⟩⟩⟩⟩⟩⟩⟩⟩⟩⟩⟩⟩
theorem lw_p48 : lw_okq (⟨"BarPilotModel", "barPart", "(I)V"⟩, 54) := ⟨⟨by decide +kernel, by decide +kernel⟩, List.mem_of_getElem? (i := 1027) (by decide +kernel), List.mem_of_getElem? (i := 1299) (by decide +kernel), List.mem_of_getElem? (i := 1300) (by decide +kernel)⟩
theorem lw_p49 : lw_okq (⟨"BarPilotModel", "amount", "(II)I"⟩, 54) := ⟨⟨by decide +kernel, by decide +kernel⟩, List.mem_of_getElem? (i := 1027) (by decide +kernel), List.mem_of_getElem? (i := 1303) (by decide +kernel), List.mem_of_getElem? (i := 1304) (by decide +kernel)⟩
theorem lw_p50 : lw_okq (⟨"BarPilotModel", "digits", "(I)I"⟩, 54) := ⟨⟨by decide +kernel, by decide +kernel⟩, List.mem_of_getElem? (i := 1027) (by decide +kernel), List.mem_of_getElem? (i := 1308) (by decide +kernel), List.mem_of_getElem? (i := 1309) (by decide +kernel)⟩
theorem lw_p51 : lw_okq (⟨"BarPilotModel", "isDigit", "()Z"⟩, 54) := ⟨⟨by decide +kernel, by decide +kernel⟩, List.mem_of_getElem? (i := 1027) (by decide +kernel), List.mem_of_getElem? (i := 1312) (by decide +kernel), List.mem_of_getElem? (i := 1313) (by decide +kernel)⟩
theorem lw_p52 : lw_okq (⟨"BarPilotModel", "goesOn", "()Z"⟩, 54) := ⟨⟨by decide +kernel, by decide +kernel⟩, List.mem_of_getElem? (i := 1027) (by decide +kernel), List.mem_of_getElem? (i := 1321) (by decide +kernel), List.mem_of_getElem? (i := 1322) (by decide +kernel)⟩
theorem lw_p53 : lw_okq (⟨"BarPilotModel", "begins", "()V"⟩, 54) := ⟨⟨by decide +kernel, by decide +kernel⟩, List.mem_of_getElem? (i := 1027) (by decide +kernel), List.mem_of_getElem? (i := 1328) (by decide +kernel), List.mem_of_getElem? (i := 1329) (by decide +kernel)⟩
theorem lw_p54 : lw_okq (⟨"BarPilotModel", "ruleClause", "(I)V"⟩, 54) := ⟨⟨by decide +kernel, by decide +kernel⟩, List.mem_of_getElem? (i := 1027) (by decide +kernel), List.mem_of_getElem? (i := 1336) (by decide +kernel), List.mem_of_getElem? (i := 1337) (by decide +kernel)⟩
theorem lw_p55 : lw_okq (⟨"BarPilotModel", "sum", "()V"⟩, 54) := ⟨⟨by decide +kernel, by decide +kernel⟩, List.mem_of_getElem? (i := 1027) (by decide +kernel), List.mem_of_getElem? (i := 1341) (by decide +kernel), List.mem_of_getElem? (i := 1342) (by decide +kernel)⟩
theorem lw_p56 : lw_okq (⟨"BarPilotModel", "term", "()V"⟩, 54) := ⟨⟨by decide +kernel, by decide +kernel⟩, List.mem_of_getElem? (i := 1027) (by decide +kernel), List.mem_of_getElem? (i := 1345) (by decide +kernel), List.mem_of_getElem? (i := 1346) (by decide +kernel)⟩
theorem lw_p57 : lw_okq (⟨"BarPilotModel", "value", "()V"⟩, 54) := ⟨⟨by decide +kernel, by decide +kernel⟩, List.mem_of_getElem? (i := 1027) (by decide +kernel), List.mem_of_getElem? (i := 1349) (by decide +kernel), List.mem_of_getElem? (i := 1350) (by decide +kernel)⟩
theorem lw_p58 : lw_okq (⟨"BarPilotModel", "isCounted", "(I)V"⟩, 54) := ⟨⟨by decide +kernel, by decide +kernel⟩, List.mem_of_getElem? (i := 1027) (by decide +kernel), List.mem_of_getElem? (i := 1353) (by decide +kernel), List.mem_of_getElem? (i := 1354) (by decide +kernel)⟩
theorem lw_p59 : lw_okq (⟨"BarPilotModel", "entry", "(II)V"⟩, 54) := ⟨⟨by decide +kernel, by decide +kernel⟩, List.mem_of_getElem? (i := 1027) (by decide +kernel), List.mem_of_getElem? (i := 1357) (by decide +kernel), List.mem_of_getElem? (i := 1358) (by decide +kernel)⟩
theorem lw_p60 : lw_okq (⟨"BarPilotModel", "takes", "(Ljava/lang/String;)Z"⟩, 54) := ⟨⟨by decide +kernel, by decide +kernel⟩, List.mem_of_getElem? (i := 1027) (by decide +kernel), List.mem_of_getElem? (i := 1374) (by decide +kernel), List.mem_of_getElem? (i := 1375) (by decide +kernel)⟩
theorem lw_p61 : lw_okq (⟨"BarPilotModel", "test", "()V"⟩, 54) := ⟨⟨by decide +kernel, by decide +kernel⟩, List.mem_of_getElem? (i := 1027) (by decide +kernel), List.mem_of_getElem? (i := 1378) (by decide +kernel), List.mem_of_getElem? (i := 1379) (by decide +kernel)⟩
theorem lw_p62 : lw_okq (⟨"BarPilotModel", "fact", "()Z"⟩, 54) := ⟨⟨by decide +kernel, by decide +kernel⟩, List.mem_of_getElem? (i := 1027) (by decide +kernel), List.mem_of_getElem? (i := 1382) (by decide +kernel), List.mem_of_getElem? (i := 1383) (by decide +kernel)⟩
theorem lw_p63 : lw_okq (⟨"BarPilotModel", "opens", "(I)V"⟩, 54) := ⟨⟨by decide +kernel, by decide +kernel⟩, List.mem_of_getElem? (i := 1027) (by decide +kernel), List.mem_of_getElem? (i := 1387) (by decide +kernel), List.mem_of_getElem? (i := 1388) (by decide +kernel)⟩
def lw_privs_4 : List (MethodName × Nat) := [(⟨"BarPilotModel", "barPart", "(I)V"⟩, 54), (⟨"BarPilotModel", "amount", "(II)I"⟩, 54), (⟨"BarPilotModel", "digits", "(I)I"⟩, 54), (⟨"BarPilotModel", "isDigit", "()Z"⟩, 54), (⟨"BarPilotModel", "goesOn", "()Z"⟩, 54), (⟨"BarPilotModel", "begins", "()V"⟩, 54), (⟨"BarPilotModel", "ruleClause", "(I)V"⟩, 54), (⟨"BarPilotModel", "sum", "()V"⟩, 54), (⟨"BarPilotModel", "term", "()V"⟩, 54), (⟨"BarPilotModel", "value", "()V"⟩, 54), (⟨"BarPilotModel", "isCounted", "(I)V"⟩, 54), (⟨"BarPilotModel", "entry", "(II)V"⟩, 54), (⟨"BarPilotModel", "takes", "(Ljava/lang/String;)Z"⟩, 54), (⟨"BarPilotModel", "test", "()V"⟩, 54), (⟨"BarPilotModel", "fact", "()Z"⟩, 54), (⟨"BarPilotModel", "opens", "(I)V"⟩, 54)]
theorem lw_r4 : ∀ q ∈ lw_privs_4, lw_okq q := List.forall_mem_cons.mpr ⟨lw_p48, List.forall_mem_cons.mpr ⟨lw_p49, List.forall_mem_cons.mpr ⟨lw_p50, List.forall_mem_cons.mpr ⟨lw_p51, List.forall_mem_cons.mpr ⟨lw_p52, List.forall_mem_cons.mpr ⟨lw_p53, List.forall_mem_cons.mpr ⟨lw_p54, List.forall_mem_cons.mpr ⟨lw_p55, List.forall_mem_cons.mpr ⟨lw_p56, List.forall_mem_cons.mpr ⟨lw_p57, List.forall_mem_cons.mpr ⟨lw_p58, List.forall_mem_cons.mpr ⟨lw_p59, List.forall_mem_cons.mpr ⟨lw_p60, List.forall_mem_cons.mpr ⟨lw_p61, List.forall_mem_cons.mpr ⟨lw_p62, List.forall_mem_cons.mpr ⟨lw_p63, fun _ h => absurd h List.not_mem_nil⟩⟩⟩⟩⟩⟩⟩⟩⟩⟩⟩⟩⟩⟩⟩⟩
theorem lw_p64 : lw_okq (⟨"BarPilotModel", "compared", "()V"⟩, 54) := ⟨⟨by decide +kernel, by decide +kernel⟩, List.mem_of_getElem? (i := 1027) (by decide +kernel), List.mem_of_getElem? (i := 1391) (by decide +kernel), List.mem_of_getElem? (i := 1392) (by decide +kernel)⟩
theorem lw_p65 : lw_okq (⟨"BarPilotModel", "answers", "(I)V"⟩, 54) := ⟨⟨by decide +kernel, by decide +kernel⟩, List.mem_of_getElem? (i := 1027) (by decide +kernel), List.mem_of_getElem? (i := 1395) (by decide +kernel), List.mem_of_getElem? (i := 1396) (by decide +kernel)⟩
theorem lw_p66 : lw_okq (⟨"BarPilotModel", "top", "()I"⟩, 54) := ⟨⟨by decide +kernel, by decide +kernel⟩, List.mem_of_getElem? (i := 1027) (by decide +kernel), List.mem_of_getElem? (i := 1399) (by decide +kernel), List.mem_of_getElem? (i := 1400) (by decide +kernel)⟩
theorem lw_p67 : lw_okq (⟨"BarPilotModel", "isJoke", "(I)Z"⟩, 54) := ⟨⟨by decide +kernel, by decide +kernel⟩, List.mem_of_getElem? (i := 1027) (by decide +kernel), List.mem_of_getElem? (i := 1414) (by decide +kernel), List.mem_of_getElem? (i := 1415) (by decide +kernel)⟩
theorem lw_p68 : lw_okq (⟨"BarPilotModel", "remembers", "(I)Z"⟩, 54) := ⟨⟨by decide +kernel, by decide +kernel⟩, List.mem_of_getElem? (i := 1027) (by decide +kernel), List.mem_of_getElem? (i := 1418) (by decide +kernel), List.mem_of_getElem? (i := 1419) (by decide +kernel)⟩
theorem lw_p69 : lw_okq (⟨"BarPilotModel", "isNew", "(I)Z"⟩, 54) := ⟨⟨by decide +kernel, by decide +kernel⟩, List.mem_of_getElem? (i := 1027) (by decide +kernel), List.mem_of_getElem? (i := 1422) (by decide +kernel), List.mem_of_getElem? (i := 1423) (by decide +kernel)⟩
theorem lw_p70 : lw_okq (⟨"BarPilotModel", "likeOf", "(I)I"⟩, 54) := ⟨⟨by decide +kernel, by decide +kernel⟩, List.mem_of_getElem? (i := 1027) (by decide +kernel), List.mem_of_getElem? (i := 1426) (by decide +kernel), List.mem_of_getElem? (i := 1427) (by decide +kernel)⟩
theorem lw_p71 : lw_okq (⟨"BarPilotModel", "alikeOf", "(II)I"⟩, 54) := ⟨⟨by decide +kernel, by decide +kernel⟩, List.mem_of_getElem? (i := 1027) (by decide +kernel), List.mem_of_getElem? (i := 1430) (by decide +kernel), List.mem_of_getElem? (i := 1431) (by decide +kernel)⟩
theorem lw_p72 : lw_okq (⟨"BarPilotModel", "sinceOf", "(I)I"⟩, 54) := ⟨⟨by decide +kernel, by decide +kernel⟩, List.mem_of_getElem? (i := 1027) (by decide +kernel), List.mem_of_getElem? (i := 1434) (by decide +kernel), List.mem_of_getElem? (i := 1435) (by decide +kernel)⟩
theorem lw_p73 : lw_okq (⟨"BarPilotModel", "isShip", "(I)Z"⟩, 54) := ⟨⟨by decide +kernel, by decide +kernel⟩, List.mem_of_getElem? (i := 1027) (by decide +kernel), List.mem_of_getElem? (i := 1442) (by decide +kernel), List.mem_of_getElem? (i := 1443) (by decide +kernel)⟩
theorem lw_p74 : lw_okq (⟨"BarPilotModel", "movesAll", "(IZ)V"⟩, 54) := ⟨⟨by decide +kernel, by decide +kernel⟩, List.mem_of_getElem? (i := 1027) (by decide +kernel), List.mem_of_getElem? (i := 1450) (by decide +kernel), List.mem_of_getElem? (i := 1451) (by decide +kernel)⟩
theorem lw_p75 : lw_okq (⟨"BarPilotModel", "moves", "(I)I"⟩, 54) := ⟨⟨by decide +kernel, by decide +kernel⟩, List.mem_of_getElem? (i := 1027) (by decide +kernel), List.mem_of_getElem? (i := 1454) (by decide +kernel), List.mem_of_getElem? (i := 1455) (by decide +kernel)⟩
theorem lw_p76 : lw_okq (⟨"BarPilotModel", "movesRow", "([I)V"⟩, 54) := ⟨⟨by decide +kernel, by decide +kernel⟩, List.mem_of_getElem? (i := 1027) (by decide +kernel), List.mem_of_getElem? (i := 1458) (by decide +kernel), List.mem_of_getElem? (i := 1459) (by decide +kernel)⟩
theorem lw_p77 : lw_okq (⟨"BarPilotModel", "isBar", "()Z"⟩, 54) := ⟨⟨by decide +kernel, by decide +kernel⟩, List.mem_of_getElem? (i := 1027) (by decide +kernel), List.mem_of_getElem? (i := 1466) (by decide +kernel), List.mem_of_getElem? (i := 1467) (by decide +kernel)⟩
theorem lw_p78 : lw_okq (⟨"BarPilotModel", "keepsAct", "()V"⟩, 54) := ⟨⟨by decide +kernel, by decide +kernel⟩, List.mem_of_getElem? (i := 1027) (by decide +kernel), List.mem_of_getElem? (i := 1470) (by decide +kernel), List.mem_of_getElem? (i := 1471) (by decide +kernel)⟩
theorem lw_p79 : lw_okq (⟨"BarPilotModel", "goes", "()I"⟩, 54) := ⟨⟨by decide +kernel, by decide +kernel⟩, List.mem_of_getElem? (i := 1027) (by decide +kernel), List.mem_of_getElem? (i := 1474) (by decide +kernel), List.mem_of_getElem? (i := 1475) (by decide +kernel)⟩
def lw_privs_5 : List (MethodName × Nat) := [(⟨"BarPilotModel", "compared", "()V"⟩, 54), (⟨"BarPilotModel", "answers", "(I)V"⟩, 54), (⟨"BarPilotModel", "top", "()I"⟩, 54), (⟨"BarPilotModel", "isJoke", "(I)Z"⟩, 54), (⟨"BarPilotModel", "remembers", "(I)Z"⟩, 54), (⟨"BarPilotModel", "isNew", "(I)Z"⟩, 54), (⟨"BarPilotModel", "likeOf", "(I)I"⟩, 54), (⟨"BarPilotModel", "alikeOf", "(II)I"⟩, 54), (⟨"BarPilotModel", "sinceOf", "(I)I"⟩, 54), (⟨"BarPilotModel", "isShip", "(I)Z"⟩, 54), (⟨"BarPilotModel", "movesAll", "(IZ)V"⟩, 54), (⟨"BarPilotModel", "moves", "(I)I"⟩, 54), (⟨"BarPilotModel", "movesRow", "([I)V"⟩, 54), (⟨"BarPilotModel", "isBar", "()Z"⟩, 54), (⟨"BarPilotModel", "keepsAct", "()V"⟩, 54), (⟨"BarPilotModel", "goes", "()I"⟩, 54)]
theorem lw_r5 : ∀ q ∈ lw_privs_5, lw_okq q := List.forall_mem_cons.mpr ⟨lw_p64, List.forall_mem_cons.mpr ⟨lw_p65, List.forall_mem_cons.mpr ⟨lw_p66, List.forall_mem_cons.mpr ⟨lw_p67, List.forall_mem_cons.mpr ⟨lw_p68, List.forall_mem_cons.mpr ⟨lw_p69, List.forall_mem_cons.mpr ⟨lw_p70, List.forall_mem_cons.mpr ⟨lw_p71, List.forall_mem_cons.mpr ⟨lw_p72, List.forall_mem_cons.mpr ⟨lw_p73, List.forall_mem_cons.mpr ⟨lw_p74, List.forall_mem_cons.mpr ⟨lw_p75, List.forall_mem_cons.mpr ⟨lw_p76, List.forall_mem_cons.mpr ⟨lw_p77, List.forall_mem_cons.mpr ⟨lw_p78, List.forall_mem_cons.mpr ⟨lw_p79, fun _ h => absurd h List.not_mem_nil⟩⟩⟩⟩⟩⟩⟩⟩⟩⟩⟩⟩⟩⟩⟩⟩
theorem lw_p80 : lw_okq (⟨"BarPilotModel", "waits", "(I)Z"⟩, 54) := ⟨⟨by decide +kernel, by decide +kernel⟩, List.mem_of_getElem? (i := 1027) (by decide +kernel), List.mem_of_getElem? (i := 1478) (by decide +kernel), List.mem_of_getElem? (i := 1479) (by decide +kernel)⟩
theorem lw_p81 : lw_okq (⟨"BarPilotModel", "choice", "(I)I"⟩, 54) := ⟨⟨by decide +kernel, by decide +kernel⟩, List.mem_of_getElem? (i := 1027) (by decide +kernel), List.mem_of_getElem? (i := 1482) (by decide +kernel), List.mem_of_getElem? (i := 1483) (by decide +kernel)⟩
theorem lw_p82 : lw_okq (⟨"BarPilotModel", "likes", "(II)J"⟩, 54) := ⟨⟨by decide +kernel, by decide +kernel⟩, List.mem_of_getElem? (i := 1027) (by decide +kernel), List.mem_of_getElem? (i := 1489) (by decide +kernel), List.mem_of_getElem? (i := 1490) (by decide +kernel)⟩
theorem lw_p83 : lw_okq (⟨"BarPilotModel", "sumOf", "(II)J"⟩, 54) := ⟨⟨by decide +kernel, by decide +kernel⟩, List.mem_of_getElem? (i := 1027) (by decide +kernel), List.mem_of_getElem? (i := 1493) (by decide +kernel), List.mem_of_getElem? (i := 1494) (by decide +kernel)⟩
theorem lw_p84 : lw_okq (⟨"BarPilotModel", "knownBy", "(I)I"⟩, 54) := ⟨⟨by decide +kernel, by decide +kernel⟩, List.mem_of_getElem? (i := 1027) (by decide +kernel), List.mem_of_getElem? (i := 1497) (by decide +kernel), List.mem_of_getElem? (i := 1498) (by decide +kernel)⟩
theorem lw_p85 : lw_okq (⟨"BarPilotModel", "waiting", "()I"⟩, 54) := ⟨⟨by decide +kernel, by decide +kernel⟩, List.mem_of_getElem? (i := 1027) (by decide +kernel), List.mem_of_getElem? (i := 1501) (by decide +kernel), List.mem_of_getElem? (i := 1502) (by decide +kernel)⟩
theorem lw_p86 : lw_okq (⟨"BarPilotModel", "howManyPassed", "()I"⟩, 54) := ⟨⟨by decide +kernel, by decide +kernel⟩, List.mem_of_getElem? (i := 1027) (by decide +kernel), List.mem_of_getElem? (i := 1508) (by decide +kernel), List.mem_of_getElem? (i := 1509) (by decide +kernel)⟩
theorem lw_p87 : lw_okq (⟨"BarPilotModel", "wanted", "()J"⟩, 54) := ⟨⟨by decide +kernel, by decide +kernel⟩, List.mem_of_getElem? (i := 1027) (by decide +kernel), List.mem_of_getElem? (i := 1512) (by decide +kernel), List.mem_of_getElem? (i := 1513) (by decide +kernel)⟩
theorem lw_p88 : lw_okq (⟨"BarPilotModel", "answer", "(III)J"⟩, 54) := ⟨⟨by decide +kernel, by decide +kernel⟩, List.mem_of_getElem? (i := 1027) (by decide +kernel), List.mem_of_getElem? (i := 1516) (by decide +kernel), List.mem_of_getElem? (i := 1517) (by decide +kernel)⟩
theorem lw_p89 : lw_okq (⟨"BarPilotModel", "tells", "(II)Z"⟩, 54) := ⟨⟨by decide +kernel, by decide +kernel⟩, List.mem_of_getElem? (i := 1027) (by decide +kernel), List.mem_of_getElem? (i := 1526) (by decide +kernel), List.mem_of_getElem? (i := 1527) (by decide +kernel)⟩
theorem lw_p90 : lw_okq (⟨"BarPilotModel", "earns", "(I)I"⟩, 54) := ⟨⟨by decide +kernel, by decide +kernel⟩, List.mem_of_getElem? (i := 1027) (by decide +kernel), List.mem_of_getElem? (i := 1530) (by decide +kernel), List.mem_of_getElem? (i := 1531) (by decide +kernel)⟩
theorem lw_p91 : lw_okq (⟨"BarPilotModel", "keepsAll", "()V"⟩, 54) := ⟨⟨by decide +kernel, by decide +kernel⟩, List.mem_of_getElem? (i := 1027) (by decide +kernel), List.mem_of_getElem? (i := 1556) (by decide +kernel), List.mem_of_getElem? (i := 1557) (by decide +kernel)⟩
theorem lw_p92 : lw_okq (⟨"BarPilotModel", "carriesAll", "(IZ)V"⟩, 54) := ⟨⟨by decide +kernel, by decide +kernel⟩, List.mem_of_getElem? (i := 1027) (by decide +kernel), List.mem_of_getElem? (i := 1560) (by decide +kernel), List.mem_of_getElem? (i := 1561) (by decide +kernel)⟩
theorem lw_p93 : lw_okq (⟨"BarPilotModel", "carryRow", "([I)V"⟩, 54) := ⟨⟨by decide +kernel, by decide +kernel⟩, List.mem_of_getElem? (i := 1027) (by decide +kernel), List.mem_of_getElem? (i := 1564) (by decide +kernel), List.mem_of_getElem? (i := 1565) (by decide +kernel)⟩
theorem lw_p94 : lw_okq (⟨"BarPilotModel", "goFor", "(I)V"⟩, 54) := ⟨⟨by decide +kernel, by decide +kernel⟩, List.mem_of_getElem? (i := 1027) (by decide +kernel), List.mem_of_getElem? (i := 1568) (by decide +kernel), List.mem_of_getElem? (i := 1569) (by decide +kernel)⟩
theorem lw_p95 : lw_okq (⟨"BarPilotModel", "laysBack", "()V"⟩, 54) := ⟨⟨by decide +kernel, by decide +kernel⟩, List.mem_of_getElem? (i := 1027) (by decide +kernel), List.mem_of_getElem? (i := 1572) (by decide +kernel), List.mem_of_getElem? (i := 1573) (by decide +kernel)⟩
def lw_privs_6 : List (MethodName × Nat) := [(⟨"BarPilotModel", "waits", "(I)Z"⟩, 54), (⟨"BarPilotModel", "choice", "(I)I"⟩, 54), (⟨"BarPilotModel", "likes", "(II)J"⟩, 54), (⟨"BarPilotModel", "sumOf", "(II)J"⟩, 54), (⟨"BarPilotModel", "knownBy", "(I)I"⟩, 54), (⟨"BarPilotModel", "waiting", "()I"⟩, 54), (⟨"BarPilotModel", "howManyPassed", "()I"⟩, 54), (⟨"BarPilotModel", "wanted", "()J"⟩, 54), (⟨"BarPilotModel", "answer", "(III)J"⟩, 54), (⟨"BarPilotModel", "tells", "(II)Z"⟩, 54), (⟨"BarPilotModel", "earns", "(I)I"⟩, 54), (⟨"BarPilotModel", "keepsAll", "()V"⟩, 54), (⟨"BarPilotModel", "carriesAll", "(IZ)V"⟩, 54), (⟨"BarPilotModel", "carryRow", "([I)V"⟩, 54), (⟨"BarPilotModel", "goFor", "(I)V"⟩, 54), (⟨"BarPilotModel", "laysBack", "()V"⟩, 54)]
theorem lw_r6 : ∀ q ∈ lw_privs_6, lw_okq q := List.forall_mem_cons.mpr ⟨lw_p80, List.forall_mem_cons.mpr ⟨lw_p81, List.forall_mem_cons.mpr ⟨lw_p82, List.forall_mem_cons.mpr ⟨lw_p83, List.forall_mem_cons.mpr ⟨lw_p84, List.forall_mem_cons.mpr ⟨lw_p85, List.forall_mem_cons.mpr ⟨lw_p86, List.forall_mem_cons.mpr ⟨lw_p87, List.forall_mem_cons.mpr ⟨lw_p88, List.forall_mem_cons.mpr ⟨lw_p89, List.forall_mem_cons.mpr ⟨lw_p90, List.forall_mem_cons.mpr ⟨lw_p91, List.forall_mem_cons.mpr ⟨lw_p92, List.forall_mem_cons.mpr ⟨lw_p93, List.forall_mem_cons.mpr ⟨lw_p94, List.forall_mem_cons.mpr ⟨lw_p95, fun _ h => absurd h List.not_mem_nil⟩⟩⟩⟩⟩⟩⟩⟩⟩⟩⟩⟩⟩⟩⟩⟩
theorem lw_p96 : lw_okq (⟨"BarPilotModel", "isLikeNone", "(III)Z"⟩, 54) := ⟨⟨by decide +kernel, by decide +kernel⟩, List.mem_of_getElem? (i := 1027) (by decide +kernel), List.mem_of_getElem? (i := 1592) (by decide +kernel), List.mem_of_getElem? (i := 1593) (by decide +kernel)⟩
theorem lw_p97 : lw_okq (⟨"BarPilotModel", "passesByRow", "(IIII)I"⟩, 54) := ⟨⟨by decide +kernel, by decide +kernel⟩, List.mem_of_getElem? (i := 1027) (by decide +kernel), List.mem_of_getElem? (i := 1602) (by decide +kernel), List.mem_of_getElem? (i := 1603) (by decide +kernel)⟩
theorem lw_p98 : lw_okq (⟨"BarPilotModel", "earnedIn", "(I)I"⟩, 54) := ⟨⟨by decide +kernel, by decide +kernel⟩, List.mem_of_getElem? (i := 1027) (by decide +kernel), List.mem_of_getElem? (i := 1611) (by decide +kernel), List.mem_of_getElem? (i := 1612) (by decide +kernel)⟩
theorem lw_p99 : lw_okq (⟨"BarPilotModel", "howManyBy", "(III)I"⟩, 54) := ⟨⟨by decide +kernel, by decide +kernel⟩, List.mem_of_getElem? (i := 1027) (by decide +kernel), List.mem_of_getElem? (i := 1628) (by decide +kernel), List.mem_of_getElem? (i := 1629) (by decide +kernel)⟩
theorem lw_p100 : lw_okq (⟨"BarPilotModel", "playOf", "(IIIII)I"⟩, 54) := ⟨⟨by decide +kernel, by decide +kernel⟩, List.mem_of_getElem? (i := 1027) (by decide +kernel), List.mem_of_getElem? (i := 1637) (by decide +kernel), List.mem_of_getElem? (i := 1638) (by decide +kernel)⟩
theorem lw_p101 : lw_okq (⟨"BarPilotModel", "bestAt", "(IIZ)I"⟩, 54) := ⟨⟨by decide +kernel, by decide +kernel⟩, List.mem_of_getElem? (i := 1027) (by decide +kernel), List.mem_of_getElem? (i := 1642) (by decide +kernel), List.mem_of_getElem? (i := 1643) (by decide +kernel)⟩
theorem lw_p102 : lw_okq (⟨"BarPilotModel", "shareOf", "(I)I"⟩, 54) := ⟨⟨by decide +kernel, by decide +kernel⟩, List.mem_of_getElem? (i := 1027) (by decide +kernel), List.mem_of_getElem? (i := 1651) (by decide +kernel), List.mem_of_getElem? (i := 1652) (by decide +kernel)⟩
theorem lw_p103 : lw_okq (⟨"BarPilotModel", "couldRule", "(I)Z"⟩, 54) := ⟨⟨by decide +kernel, by decide +kernel⟩, List.mem_of_getElem? (i := 1027) (by decide +kernel), List.mem_of_getElem? (i := 1667) (by decide +kernel), List.mem_of_getElem? (i := 1668) (by decide +kernel)⟩
theorem lw_p104 : lw_okq (⟨"BarPilotModel", "mostAlike", "(II)I"⟩, 54) := ⟨⟨by decide +kernel, by decide +kernel⟩, List.mem_of_getElem? (i := 1027) (by decide +kernel), List.mem_of_getElem? (i := 1675) (by decide +kernel), List.mem_of_getElem? (i := 1676) (by decide +kernel)⟩
theorem lw_p105 : lw_okq (⟨"BarPilotModel", "draws", "(I)I"⟩, 54) := ⟨⟨by decide +kernel, by decide +kernel⟩, List.mem_of_getElem? (i := 1027) (by decide +kernel), List.mem_of_getElem? (i := 1688) (by decide +kernel), List.mem_of_getElem? (i := 1689) (by decide +kernel)⟩
theorem lw_p106 : lw_okq (⟨"BarPilotModel", "rememberedOnes", "()I"⟩, 54) := ⟨⟨by decide +kernel, by decide +kernel⟩, List.mem_of_getElem? (i := 1027) (by decide +kernel), List.mem_of_getElem? (i := 1700) (by decide +kernel), List.mem_of_getElem? (i := 1701) (by decide +kernel)⟩
def lw_privs_7 : List (MethodName × Nat) := [(⟨"BarPilotModel", "isLikeNone", "(III)Z"⟩, 54), (⟨"BarPilotModel", "passesByRow", "(IIII)I"⟩, 54), (⟨"BarPilotModel", "earnedIn", "(I)I"⟩, 54), (⟨"BarPilotModel", "howManyBy", "(III)I"⟩, 54), (⟨"BarPilotModel", "playOf", "(IIIII)I"⟩, 54), (⟨"BarPilotModel", "bestAt", "(IIZ)I"⟩, 54), (⟨"BarPilotModel", "shareOf", "(I)I"⟩, 54), (⟨"BarPilotModel", "couldRule", "(I)Z"⟩, 54), (⟨"BarPilotModel", "mostAlike", "(II)I"⟩, 54), (⟨"BarPilotModel", "draws", "(I)I"⟩, 54), (⟨"BarPilotModel", "rememberedOnes", "()I"⟩, 54)]
theorem lw_r7 : ∀ q ∈ lw_privs_7, lw_okq q := List.forall_mem_cons.mpr ⟨lw_p96, List.forall_mem_cons.mpr ⟨lw_p97, List.forall_mem_cons.mpr ⟨lw_p98, List.forall_mem_cons.mpr ⟨lw_p99, List.forall_mem_cons.mpr ⟨lw_p100, List.forall_mem_cons.mpr ⟨lw_p101, List.forall_mem_cons.mpr ⟨lw_p102, List.forall_mem_cons.mpr ⟨lw_p103, List.forall_mem_cons.mpr ⟨lw_p104, List.forall_mem_cons.mpr ⟨lw_p105, List.forall_mem_cons.mpr ⟨lw_p106, fun _ h => absurd h List.not_mem_nil⟩⟩⟩⟩⟩⟩⟩⟩⟩⟩⟩
def lw_privs : List (MethodName × Nat) := lw_privs_1 ++ (lw_privs_2 ++ (lw_privs_3 ++ (lw_privs_4 ++ (lw_privs_5 ++ (lw_privs_6 ++ (lw_privs_7))))))
def lw_tbl : List Cond := k2_sels lw_privs ++ tables_1
theorem lw_privs_ok : ∀ q ∈ lw_privs, lw_okq q := by
  show ∀ q ∈ lw_privs_1 ++ (lw_privs_2 ++ (lw_privs_3 ++ (lw_privs_4 ++ (lw_privs_5 ++ (lw_privs_6 ++ (lw_privs_7)))))), lw_okq q
  exact List.forall_mem_append.mpr ⟨lw_r1, List.forall_mem_append.mpr ⟨lw_r2, List.forall_mem_append.mpr ⟨lw_r3, List.forall_mem_append.mpr ⟨lw_r4, List.forall_mem_append.mpr ⟨lw_r5, List.forall_mem_append.mpr ⟨lw_r6, lw_r7⟩⟩⟩⟩⟩⟩
def RX0 : String := "BarPilot$Asker"
def TX0 : u_T := fun k => match k with
  | 0 => ("BarPilot$Asker", "amount", "I", false)
  | 1 => ("BarPilot$Asker", "first", "I", false)
  | 2 => ("BarPilot$Asker", "second", "I", false)
  | 3 => ("BarPilot$Asker", "choice", "[I", true)
  | 4 => ("BarPilot$Asker", "book", "LBarPilot$Book;", true)
  | 5 => ("BarPilot$Asker", "told", "LBarPilot$Told;", true)
  | 6 => ("BarPilot$Asker", "pilot", "LBarPilot$Pilot;", true)
  | 7 => ("BarPilot$Asker", "work", "LBarPilot$Scene;", true)
  | 8 => ("BarPilot$Asker", "levels", "[LBarPilot$Scene;", true)
  | 9 => ("BarPilot$Asker", "isSo", "[Z", true)
  | 10 => ("BarPilot$Asker", "tells", "[I", true)
  | _ => ("BarPilot$Asker", "x", "I", false)
def tyX0 : Nat → FieldType := fun k => match k with
  | 0 => .int
  | 1 => .int
  | 2 => .int
  | 3 => .array .int
  | 4 => .object "BarPilot$Book"
  | 5 => .object "BarPilot$Told"
  | 6 => .object "BarPilot$Pilot"
  | 7 => .object "BarPilot$Scene"
  | 8 => .array (.object "BarPilot$Scene")
  | 9 => .array .boolean
  | 10 => .array .int
  | _ => .int
abbrev wsX00 : List Cond := u_ws RX0 TX0 12
theorem nmX0 : ∀ a, a < 12 → ∀ b, b < 12 → a ≠ b → (TX0 a).2.1 ≠ (TX0 b).2.1 := by decide +kernel
theorem tyX0_ok : ∀ k, k < 12 → parseFieldDescriptor (TX0 k).2.2.1 = some (tyX0 k) := by decide +kernel
abbrev cX0_init : ByteArray := prog_2_method_1_code
def yX0_init : MethodName := ⟨RX0, "<init>", "(LBarPilot$Book;LBarPilot$Pilot;)V"⟩
abbrev cX0_later : ByteArray := prog_2_method_2_code
def yX0_later : MethodName := ⟨RX0, "later", "(I)LBarPilot$Scene;"⟩
abbrev cX0_findPassing : ByteArray := prog_2_method_3_code
def yX0_findPassing : MethodName := ⟨RX0, "findPassing", "(I)Z"⟩
abbrev cX0_placeOf : ByteArray := prog_2_method_4_code
def yX0_placeOf : MethodName := ⟨RX0, "placeOf", "(I)I"⟩
abbrev cX0_passingOf : ByteArray := prog_2_method_5_code
def yX0_passingOf : MethodName := ⟨RX0, "passingOf", "(LBarPilot$Scene;I)I"⟩
abbrev cX0_findRow : ByteArray := prog_2_method_6_code
def yX0_findRow : MethodName := ⟨RX0, "findRow", "(II)I"⟩
abbrev cX0_rowFound : ByteArray := prog_2_method_7_code
def yX0_rowFound : MethodName := ⟨RX0, "rowFound", "(III)Z"⟩
abbrev cX0_findForgotten : ByteArray := prog_2_method_8_code
def yX0_findForgotten : MethodName := ⟨RX0, "findForgotten", "(I)V"⟩
abbrev cX0_findTraders : ByteArray := prog_2_method_9_code
def yX0_findTraders : MethodName := ⟨RX0, "findTraders", "(I)V"⟩
abbrev cX0_findLessons : ByteArray := prog_2_method_10_code
def yX0_findLessons : MethodName := ⟨RX0, "findLessons", "(I)I"⟩
abbrev cX0_commonJokes : ByteArray := prog_2_method_11_code
def yX0_commonJokes : MethodName := ⟨RX0, "commonJokes", "()I"⟩
abbrev cX0_findOldSets : ByteArray := prog_2_method_12_code
def yX0_findOldSets : MethodName := ⟨RX0, "findOldSets", "(LBarPilot$Rule;II)V"⟩
abbrev cX0_playGame : ByteArray := prog_2_method_13_code
def yX0_playGame : MethodName := ⟨RX0, "playGame", "(III)V"⟩
abbrev cX0_gameWorth : ByteArray := prog_2_method_14_code
def yX0_gameWorth : MethodName := ⟨RX0, "gameWorth", "(IIII)I"⟩
abbrev cX0_tryRules : ByteArray := prog_2_method_15_code
def yX0_tryRules : MethodName := ⟨RX0, "tryRules", "([LBarPilot$Rule;II)V"⟩
abbrev cX0_allNotesHold : ByteArray := prog_2_method_16_code
def yX0_allNotesHold : MethodName := ⟨RX0, "allNotesHold", "(II)Z"⟩
abbrev cX0_notesHold : ByteArray := prog_2_method_17_code
def yX0_notesHold : MethodName := ⟨RX0, "notesHold", "(I)Z"⟩
abbrev cX0_findParting : ByteArray := prog_2_method_18_code
def yX0_findParting : MethodName := ⟨RX0, "findParting", "(I)V"⟩
abbrev cX0_howManyTellAs : ByteArray := prog_2_method_19_code
def yX0_howManyTellAs : MethodName := ⟨RX0, "howManyTellAs", "(III)I"⟩
abbrev cX0_drawYears : ByteArray := prog_2_method_20_code
def yX0_drawYears : MethodName := ⟨RX0, "drawYears", "(III)V"⟩
abbrev cX0_hearParrot : ByteArray := prog_2_method_21_code
def yX0_hearParrot : MethodName := ⟨RX0, "hearParrot", "(I)V"⟩
abbrev cX0_draw : ByteArray := prog_2_method_22_code
def yX0_draw : MethodName := ⟨RX0, "draw", "()I"⟩
def RX1 : String := "BarPilot$BarReader"
def TX1 : u_T := fun k => match k with
  | 0 => ("BarPilot$BarReader", "told", "LBarPilot$Told;", true)
  | _ => ("BarPilot$BarReader", "tape", "LBarPilot$Tape;", true)
def tyX1 : Nat → FieldType := fun k => match k with
  | 0 => .object "BarPilot$Told"
  | _ => .object "BarPilot$Tape"
abbrev wsX10 : List Cond := u_ws RX1 TX1 2
theorem nmX1 : ∀ a, a < 2 → ∀ b, b < 2 → a ≠ b → (TX1 a).2.1 ≠ (TX1 b).2.1 := by decide +kernel
theorem tyX1_ok : ∀ k, k < 2 → parseFieldDescriptor (TX1 k).2.2.1 = some (tyX1 k) := by decide +kernel
abbrev cX1_init : ByteArray := prog_3_method_1_code
def yX1_init : MethodName := ⟨RX1, "<init>", "(LBarPilot$Tape;)V"⟩
abbrev cX1_read : ByteArray := prog_3_method_2_code
def yX1_read : MethodName := ⟨RX1, "read", "()I"⟩
abbrev cX1_readClause : ByteArray := prog_3_method_3_code
def yX1_readClause : MethodName := ⟨RX1, "readClause", "(I)Z"⟩
abbrev cX1_isTooMuch : ByteArray := prog_3_method_4_code
def yX1_isTooMuch : MethodName := ⟨RX1, "isTooMuch", "(JI)Z"⟩
abbrev cX1_readBar : ByteArray := prog_3_method_5_code
def yX1_readBar : MethodName := ⟨RX1, "readBar", "()Z"⟩
abbrev cX1_readJoke : ByteArray := prog_3_method_6_code
def yX1_readJoke : MethodName := ⟨RX1, "readJoke", "()Z"⟩
abbrev cX1_readShip : ByteArray := prog_3_method_7_code
def yX1_readShip : MethodName := ⟨RX1, "readShip", "()Z"⟩
abbrev cX1_readKnows : ByteArray := prog_3_method_8_code
def yX1_readKnows : MethodName := ⟨RX1, "readKnows", "()Z"⟩
def RX2 : String := "BarPilot$Book"
def TX2 : u_T := fun k => match k with
  | 0 => ("BarPilot$Book", "told", "LBarPilot$Told;", true)
  | 1 => ("BarPilot$Book", "scene", "LBarPilot$Scene;", true)
  | 2 => ("BarPilot$Book", "noteTide", "[I", true)
  | 3 => ("BarPilot$Book", "noteShip", "[I", true)
  | 4 => ("BarPilot$Book", "noteJoke", "[I", true)
  | 5 => ("BarPilot$Book", "notes", "I", false)
  | 6 => ("BarPilot$Book", "acts", "I", false)
  | 7 => ("BarPilot$Book", "x", "I", false)
  | 8 => ("BarPilot$Book", "force", "I", false)
  | 9 => ("BarPilot$Book", "past", "[I", true)
  | _ => ("BarPilot$Book", "head", "I", false)
def tyX2 : Nat → FieldType := fun k => match k with
  | 0 => .object "BarPilot$Told"
  | 1 => .object "BarPilot$Scene"
  | 2 => .array .int
  | 3 => .array .int
  | 4 => .array .int
  | 5 => .int
  | 6 => .int
  | 7 => .int
  | 8 => .int
  | 9 => .array .int
  | _ => .int
abbrev wsX20 : List Cond := u_ws RX2 TX2 11
theorem nmX2 : ∀ a, a < 11 → ∀ b, b < 11 → a ≠ b → (TX2 a).2.1 ≠ (TX2 b).2.1 := by decide +kernel
theorem tyX2_ok : ∀ k, k < 11 → parseFieldDescriptor (TX2 k).2.2.1 = some (tyX2 k) := by decide +kernel
abbrev cX2_init : ByteArray := prog_4_method_1_code
def yX2_init : MethodName := ⟨RX2, "<init>", "()V"⟩
abbrev cX2_open : ByteArray := prog_4_method_2_code
def yX2_open : MethodName := ⟨RX2, "open", "(LBarPilot$Told;)V"⟩
abbrev cX2_keepAct : ByteArray := prog_4_method_3_code
def yX2_keepAct : MethodName := ⟨RX2, "keepAct", "()V"⟩
abbrev cX2_undoAct : ByteArray := prog_4_method_4_code
def yX2_undoAct : MethodName := ⟨RX2, "undoAct", "()Z"⟩
abbrev cX2_addNote : ByteArray := prog_4_method_5_code
def yX2_addNote : MethodName := ⟨RX2, "addNote", "(III)V"⟩
abbrev cX2_copyFrom : ByteArray := prog_4_method_6_code
def yX2_copyFrom : MethodName := ⟨RX2, "copyFrom", "(LBarPilot$Book;)V"⟩
def RX3 : String := "BarPilot$Pilot"
def TX3 : u_T := fun k => match k with
  | 0 => ("BarPilot$Pilot", "rule", "LBarPilot$Rule;", false)
  | 1 => ("BarPilot$Pilot", "said", "[I", true)
  | 2 => ("BarPilot$Pilot", "told", "LBarPilot$Told;", true)
  | 3 => ("BarPilot$Pilot", "values", "[I", true)
  | 4 => ("BarPilot$Pilot", "scene", "LBarPilot$Scene;", false)
  | 5 => ("BarPilot$Pilot", "memory", "I", false)
  | 6 => ("BarPilot$Pilot", "waiting", "I", false)
  | _ => ("BarPilot$Pilot", "quiet", "Z", false)
def tyX3 : Nat → FieldType := fun k => match k with
  | 0 => .object "BarPilot$Rule"
  | 1 => .array .int
  | 2 => .object "BarPilot$Told"
  | 3 => .array .int
  | 4 => .object "BarPilot$Scene"
  | 5 => .int
  | 6 => .int
  | _ => .boolean
abbrev wsX30 : List Cond := u_ws RX3 TX3 8
theorem nmX3 : ∀ a, a < 8 → ∀ b, b < 8 → a ≠ b → (TX3 a).2.1 ≠ (TX3 b).2.1 := by decide +kernel
theorem tyX3_ok : ∀ k, k < 8 → parseFieldDescriptor (TX3 k).2.2.1 = some (tyX3 k) := by decide +kernel
abbrev cX3_init : ByteArray := prog_5_method_1_code
def yX3_init : MethodName := ⟨RX3, "<init>", "(LBarPilot$Told;)V"⟩
abbrev cX3_meet : ByteArray := prog_5_method_2_code
def yX3_meet : MethodName := ⟨RX3, "meet", "(LBarPilot$Scene;)V"⟩
abbrev cX3_oneTide : ByteArray := prog_5_method_3_code
def yX3_oneTide : MethodName := ⟨RX3, "oneTide", "(LBarPilot$Scene;)I"⟩
abbrev cX3_turns : ByteArray := prog_5_method_4_code
def yX3_turns : MethodName := ⟨RX3, "turns", "(II)I"⟩
abbrev cX3_hears : ByteArray := prog_5_method_5_code
def yX3_hears : MethodName := ⟨RX3, "hears", "(II)Z"⟩
abbrev cX3_leastNew : ByteArray := prog_5_method_6_code
def yX3_leastNew : MethodName := ⟨RX3, "leastNew", "(I)I"⟩
abbrev cX3_pick : ByteArray := prog_5_method_7_code
def yX3_pick : MethodName := ⟨RX3, "pick", "(I)I"⟩
abbrev cX3_lookAtShip : ByteArray := prog_5_method_8_code
def yX3_lookAtShip : MethodName := ⟨RX3, "lookAtShip", "(I)V"⟩
abbrev cX3_lookAtJoke : ByteArray := prog_5_method_9_code
def yX3_lookAtJoke : MethodName := ⟨RX3, "lookAtJoke", "(I)V"⟩
abbrev cX3_howManyKnow : ByteArray := prog_5_method_10_code
def yX3_howManyKnow : MethodName := ⟨RX3, "howManyKnow", "(I)I"⟩
abbrev cX3_goOn : ByteArray := prog_5_method_11_code
def yX3_goOn : MethodName := ⟨RX3, "goOn", "(LBarPilot$Scene;II)V"⟩
abbrev cX3_nextFading : ByteArray := prog_5_method_12_code
def yX3_nextFading : MethodName := ⟨RX3, "nextFading", "()I"⟩
def RX4 : String := "BarPilot$Rule"
def TX4 : u_T := fun k => match k with
  | 0 => ("BarPilot$Rule", "timed", "Z", true)
  | 1 => ("BarPilot$Rule", "asksLike", "Z", true)
  | 2 => ("BarPilot$Rule", "asksKnown", "Z", true)
  | 3 => ("BarPilot$Rule", "code", "[I", true)
  | _ => ("BarPilot$Rule", "stack", "[J", true)
def tyX4 : Nat → FieldType := fun k => match k with
  | 0 => .boolean
  | 1 => .boolean
  | 2 => .boolean
  | 3 => .array .int
  | _ => .array .long
abbrev wsX40 : List Cond := u_ws RX4 TX4 5
theorem nmX4 : ∀ a, a < 5 → ∀ b, b < 5 → a ≠ b → (TX4 a).2.1 ≠ (TX4 b).2.1 := by decide +kernel
theorem tyX4_ok : ∀ k, k < 5 → parseFieldDescriptor (TX4 k).2.2.1 = some (tyX4 k) := by decide +kernel
abbrev cX4_init : ByteArray := prog_6_method_1_code
def yX4_init : MethodName := ⟨RX4, "<init>", "([II)V"⟩
abbrev cX4_worth : ByteArray := prog_6_method_2_code
def yX4_worth : MethodName := ⟨RX4, "worth", "([I)J"⟩
abbrev cX4_fits : ByteArray := prog_6_method_3_code
def yX4_fits : MethodName := ⟨RX4, "fits", "(III)Z"⟩
abbrev cX4_joined : ByteArray := prog_6_method_4_code
def yX4_joined : MethodName := ⟨RX4, "joined", "(IJJ)J"⟩
def RX5 : String := "BarPilot$RuleReader"
def TX5 : u_T := fun k => match k with
  | 0 => ("BarPilot$RuleReader", "tape", "LBarPilot$Tape;", true)
  | 1 => ("BarPilot$RuleReader", "code", "[I", true)
  | 2 => ("BarPilot$RuleReader", "spare", "[I", true)
  | 3 => ("BarPilot$RuleReader", "length", "I", false)
  | 4 => ("BarPilot$RuleReader", "counted", "I", false)
  | _ => ("BarPilot$RuleReader", "words", "I", false)
def tyX5 : Nat → FieldType := fun k => match k with
  | 0 => .object "BarPilot$Tape"
  | 1 => .array .int
  | 2 => .array .int
  | 3 => .int
  | 4 => .int
  | _ => .int
abbrev wsX50 : List Cond := u_ws RX5 TX5 6
theorem nmX5 : ∀ a, a < 6 → ∀ b, b < 6 → a ≠ b → (TX5 a).2.1 ≠ (TX5 b).2.1 := by decide +kernel
theorem tyX5_ok : ∀ k, k < 6 → parseFieldDescriptor (TX5 k).2.2.1 = some (tyX5 k) := by decide +kernel
abbrev cX5_init : ByteArray := prog_7_method_1_code
def yX5_init : MethodName := ⟨RX5, "<init>", "(LBarPilot$Tape;)V"⟩
abbrev cX5_read : ByteArray := prog_7_method_2_code
def yX5_read : MethodName := ⟨RX5, "read", "()I"⟩
abbrev cX5_made : ByteArray := prog_7_method_3_code
def yX5_made : MethodName := ⟨RX5, "made", "()LBarPilot$Rule;"⟩
abbrev cX5_readClause : ByteArray := prog_7_method_4_code
def yX5_readClause : MethodName := ⟨RX5, "readClause", "(I)Z"⟩
abbrev cX5_moveTestAhead : ByteArray := prog_7_method_5_code
def yX5_moveTestAhead : MethodName := ⟨RX5, "moveTestAhead", "(II)V"⟩
abbrev cX5_readTest : ByteArray := prog_7_method_6_code
def yX5_readTest : MethodName := ⟨RX5, "readTest", "(I)Z"⟩
abbrev cX5_readFact : ByteArray := prog_7_method_7_code
def yX5_readFact : MethodName := ⟨RX5, "readFact", "(I)Z"⟩
abbrev cX5_compareStep : ByteArray := prog_7_method_8_code
def yX5_compareStep : MethodName := ⟨RX5, "compareStep", "(I)I"⟩
abbrev cX5_readSum : ByteArray := prog_7_method_9_code
def yX5_readSum : MethodName := ⟨RX5, "readSum", "()Z"⟩
abbrev cX5_joinStep : ByteArray := prog_7_method_10_code
def yX5_joinStep : MethodName := ⟨RX5, "joinStep", "(I)I"⟩
abbrev cX5_readValue : ByteArray := prog_7_method_11_code
def yX5_readValue : MethodName := ⟨RX5, "readValue", "()Z"⟩
abbrev cX5_wordFound : ByteArray := prog_7_method_12_code
def yX5_wordFound : MethodName := ⟨RX5, "wordFound", "()I"⟩
abbrev cX5_counts : ByteArray := prog_7_method_13_code
def yX5_counts : MethodName := ⟨RX5, "counts", "()Z"⟩
abbrev cX5_put : ByteArray := prog_7_method_14_code
def yX5_put : MethodName := ⟨RX5, "put", "(II)Z"⟩
abbrev cX5_land : ByteArray := prog_7_method_15_code
def yX5_land : MethodName := ⟨RX5, "land", "(I)V"⟩
def RX6 : String := "BarPilot$Scene"
def TX6 : u_T := fun k => match k with
  | 0 => ("BarPilot$Scene", "tide", "I", false)
  | 1 => ("BarPilot$Scene", "heard", "[I", true)
  | 2 => ("BarPilot$Scene", "knows", "[I", true)
  | _ => ("BarPilot$Scene", "passed", "[I", true)
def tyX6 : Nat → FieldType := fun k => match k with
  | 0 => .int
  | 1 => .array .int
  | 2 => .array .int
  | _ => .array .int
abbrev wsX60 : List Cond := u_ws RX6 TX6 4
theorem nmX6 : ∀ a, a < 4 → ∀ b, b < 4 → a ≠ b → (TX6 a).2.1 ≠ (TX6 b).2.1 := by decide +kernel
theorem tyX6_ok : ∀ k, k < 4 → parseFieldDescriptor (TX6 k).2.2.1 = some (tyX6 k) := by decide +kernel
abbrev cX6_init : ByteArray := prog_8_method_1_code
def yX6_init : MethodName := ⟨RX6, "<init>", "()V"⟩
abbrev cX6_begin : ByteArray := prog_8_method_2_code
def yX6_begin : MethodName := ⟨RX6, "begin", "(LBarPilot$Told;)V"⟩
abbrev cX6_copyFrom : ByteArray := prog_8_method_3_code
def yX6_copyFrom : MethodName := ⟨RX6, "copyFrom", "(LBarPilot$Scene;)V"⟩
abbrev cX6_store : ByteArray := prog_8_method_4_code
def yX6_store : MethodName := ⟨RX6, "store", "([II)V"⟩
abbrev cX6_restore : ByteArray := prog_8_method_5_code
def yX6_restore : MethodName := ⟨RX6, "restore", "([II)V"⟩
abbrev cX6_since : ByteArray := prog_8_method_6_code
def yX6_since : MethodName := ⟨RX6, "since", "(I)I"⟩
abbrev cX6_isKnown : ByteArray := prog_8_method_7_code
def yX6_isKnown : MethodName := ⟨RX6, "isKnown", "(II)Z"⟩
abbrev cX6_teach : ByteArray := prog_8_method_8_code
def yX6_teach : MethodName := ⟨RX6, "teach", "(I)V"⟩
abbrev cX6_share : ByteArray := prog_8_method_9_code
def yX6_share : MethodName := ⟨RX6, "share", "(II)I"⟩
def RX7 : String := "BarPilot$Tape"
def TX7 : u_T := fun k => match k with
  | 0 => ("BarPilot$Tape", "bytes", "[I", true)
  | 1 => ("BarPilot$Tape", "length", "I", false)
  | 2 => ("BarPilot$Tape", "fault", "I", false)
  | 3 => ("BarPilot$Tape", "kind", "I", false)
  | 4 => ("BarPilot$Tape", "start", "I", false)
  | 5 => ("BarPilot$Tape", "value", "I", false)
  | 6 => ("BarPilot$Tape", "word", "J", false)
  | 7 => ("BarPilot$Tape", "sign", "I", false)
  | _ => ("BarPilot$Tape", "stop", "I", false)
def tyX7 : Nat → FieldType := fun k => match k with
  | 0 => .array .int
  | 1 => .int
  | 2 => .int
  | 3 => .int
  | 4 => .int
  | 5 => .int
  | 6 => .long
  | 7 => .int
  | _ => .int
abbrev wsX70 : List Cond := u_ws RX7 TX7 9
theorem nmX7 : ∀ a, a < 9 → ∀ b, b < 9 → a ≠ b → (TX7 a).2.1 ≠ (TX7 b).2.1 := by decide +kernel
theorem tyX7_ok : ∀ k, k < 9 → parseFieldDescriptor (TX7 k).2.2.1 = some (tyX7 k) := by decide +kernel
abbrev cX7_init : ByteArray := prog_9_method_1_code
def yX7_init : MethodName := ⟨RX7, "<init>", "()V"⟩
abbrev cX7_put : ByteArray := prog_9_method_2_code
def yX7_put : MethodName := ⟨RX7, "put", "(I)V"⟩
abbrev cX7_rewind : ByteArray := prog_9_method_3_code
def yX7_rewind : MethodName := ⟨RX7, "rewind", "()V"⟩
abbrev cX7_failAt : ByteArray := prog_9_method_4_code
def yX7_failAt : MethodName := ⟨RX7, "failAt", "(II)Z"⟩
abbrev cX7_next : ByteArray := prog_9_method_5_code
def yX7_next : MethodName := ⟨RX7, "next", "()V"⟩
abbrev cX7_takeNumber : ByteArray := prog_9_method_6_code
def yX7_takeNumber : MethodName := ⟨RX7, "takeNumber", "(II)I"⟩
abbrev cX7_takesSeparator : ByteArray := prog_9_method_7_code
def yX7_takesSeparator : MethodName := ⟨RX7, "takesSeparator", "()Z"⟩
def RX8 : String := "BarPilot$Told"
def TX8 : u_T := fun k => match k with
  | 0 => ("BarPilot$Told", "there", "Z", false)
  | 1 => ("BarPilot$Told", "fades", "I", false)
  | 2 => ("BarPilot$Told", "like", "I", false)
  | 3 => ("BarPilot$Told", "jokes", "I", false)
  | 4 => ("BarPilot$Told", "ships", "I", false)
  | 5 => ("BarPilot$Told", "part", "[I", true)
  | 6 => ("BarPilot$Told", "cargo", "[I", true)
  | 7 => ("BarPilot$Told", "keeps", "[I", true)
  | 8 => ("BarPilot$Told", "knows", "[I", true)
  | _ => ("BarPilot$Told", "near", "[I", true)
def tyX8 : Nat → FieldType := fun k => match k with
  | 0 => .boolean
  | 1 => .int
  | 2 => .int
  | 3 => .int
  | 4 => .int
  | 5 => .array .int
  | 6 => .array .int
  | 7 => .array .int
  | 8 => .array .int
  | _ => .array .int
abbrev wsX80 : List Cond := u_ws RX8 TX8 10
theorem nmX8 : ∀ a, a < 10 → ∀ b, b < 10 → a ≠ b → (TX8 a).2.1 ≠ (TX8 b).2.1 := by decide +kernel
theorem tyX8_ok : ∀ k, k < 10 → parseFieldDescriptor (TX8 k).2.2.1 = some (tyX8 k) := by decide +kernel
abbrev cX8_init : ByteArray := prog_10_method_1_code
def yX8_init : MethodName := ⟨RX8, "<init>", "()V"⟩
abbrev cX8_clear : ByteArray := prog_10_method_2_code
def yX8_clear : MethodName := ⟨RX8, "clear", "()V"⟩
abbrev cX8_copyFrom : ByteArray := prog_10_method_3_code
def yX8_copyFrom : MethodName := ⟨RX8, "copyFrom", "(LBarPilot$Told;)V"⟩
abbrev cX8_addJoke : ByteArray := prog_10_method_4_code
def yX8_addJoke : MethodName := ⟨RX8, "addJoke", "(III)V"⟩
abbrev cX8_addShip : ByteArray := prog_10_method_5_code
def yX8_addShip : MethodName := ⟨RX8, "addShip", "(II)V"⟩
abbrev cX8_partsAlike : ByteArray := prog_10_method_6_code
def yX8_partsAlike : MethodName := ⟨RX8, "partsAlike", "(II)I"⟩
abbrev cX8_countAlike : ByteArray := prog_10_method_7_code
def yX8_countAlike : MethodName := ⟨RX8, "countAlike", "(IIII)I"⟩
abbrev cX8_isNew : ByteArray := prog_10_method_8_code
def yX8_isNew : MethodName := ⟨RX8, "isNew", "(II)Z"⟩
abbrev cX8_newOnes : ByteArray := prog_10_method_9_code
def yX8_newOnes : MethodName := ⟨RX8, "newOnes", "(I)I"⟩
abbrev cX8_mostAlike : ByteArray := prog_10_method_10_code
def yX8_mostAlike : MethodName := ⟨RX8, "mostAlike", "(II)I"⟩
abbrev cX8_leastUnlike : ByteArray := prog_10_method_11_code
def yX8_leastUnlike : MethodName := ⟨RX8, "leastUnlike", "()I"⟩
abbrev cX8_isUnlikeAll : ByteArray := prog_10_method_12_code
def yX8_isUnlikeAll : MethodName := ⟨RX8, "isUnlikeAll", "(III)Z"⟩
abbrev cX8_remembered : ByteArray := prog_10_method_13_code
def yX8_remembered : MethodName := ⟨RX8, "remembered", "(LBarPilot$Scene;)I"⟩
abbrev cX8_waiting : ByteArray := prog_10_method_14_code
def yX8_waiting : MethodName := ⟨RX8, "waiting", "(LBarPilot$Scene;)I"⟩
abbrev cX8_passed : ByteArray := prog_10_method_15_code
def yX8_passed : MethodName := ⟨RX8, "passed", "(LBarPilot$Scene;)I"⟩
abbrev cX8_earned : ByteArray := prog_10_method_16_code
def yX8_earned : MethodName := ⟨RX8, "earned", "(LBarPilot$Scene;)I"⟩
abbrev cX8_earnedBy : ByteArray := prog_10_method_17_code
def yX8_earnedBy : MethodName := ⟨RX8, "earnedBy", "(ILBarPilot$Scene;)I"⟩
abbrev cX8_partOf : ByteArray := prog_10_method_18_code
def yX8_partOf : MethodName := ⟨RX8, "partOf", "(IILBarPilot$Scene;)I"⟩
abbrev cX8_weight : ByteArray := prog_10_method_19_code
def yX8_weight : MethodName := ⟨RX8, "weight", "(ILBarPilot$Scene;)I"⟩
def RX9 : String := "BarPilot"
def TX9 : u_T := fun k => match k with
  | 0 => ("BarPilot", "tape", "LBarPilot$Tape;", true)
  | 1 => ("BarPilot", "barReader", "LBarPilot$BarReader;", true)
  | 2 => ("BarPilot", "ruleReader", "LBarPilot$RuleReader;", true)
  | 3 => ("BarPilot", "rules", "[LBarPilot$Rule;", true)
  | 4 => ("BarPilot", "book", "LBarPilot$Book;", true)
  | 5 => ("BarPilot", "images", "[LBarPilot$Book;", true)
  | 6 => ("BarPilot", "pilot", "LBarPilot$Pilot;", true)
  | 7 => ("BarPilot", "asker", "LBarPilot$Asker;", true)
  | _ => ("BarPilot", "ruleCount", "I", false)
def tyX9 : Nat → FieldType := fun k => match k with
  | 0 => .object "BarPilot$Tape"
  | 1 => .object "BarPilot$BarReader"
  | 2 => .object "BarPilot$RuleReader"
  | 3 => .array (.object "BarPilot$Rule")
  | 4 => .object "BarPilot$Book"
  | 5 => .array (.object "BarPilot$Book")
  | 6 => .object "BarPilot$Pilot"
  | 7 => .object "BarPilot$Asker"
  | _ => .int
abbrev wsX90 : List Cond := u_ws RX9 TX9 9
theorem nmX9 : ∀ a, a < 9 → ∀ b, b < 9 → a ≠ b → (TX9 a).2.1 ≠ (TX9 b).2.1 := by decide +kernel
theorem tyX9_ok : ∀ k, k < 9 → parseFieldDescriptor (TX9 k).2.2.1 = some (tyX9 k) := by decide +kernel
abbrev cX9_init : ByteArray := prog_1_method_1_code
def yX9_init : MethodName := ⟨RX9, "<init>", "()V"⟩
abbrev cX9_feed : ByteArray := prog_1_method_2_code
def yX9_feed : MethodName := ⟨RX9, "feed", "(IIIII)I"⟩
abbrev cX9_end : ByteArray := prog_1_method_3_code
def yX9_end : MethodName := ⟨RX9, "end", "(I)I"⟩
abbrev cX9_bar : ByteArray := prog_1_method_4_code
def yX9_bar : MethodName := ⟨RX9, "bar", "()I"⟩
abbrev cX9_rule : ByteArray := prog_1_method_5_code
def yX9_rule : MethodName := ⟨RX9, "rule", "()I"⟩
abbrev cX9_force : ByteArray := prog_1_method_6_code
def yX9_force : MethodName := ⟨RX9, "force", "(I)I"⟩
abbrev cX9_joke : ByteArray := prog_1_method_7_code
def yX9_joke : MethodName := ⟨RX9, "joke", "(II)I"⟩
abbrev cX9_ship : ByteArray := prog_1_method_8_code
def yX9_ship : MethodName := ⟨RX9, "ship", "(II)I"⟩
abbrev cX9_count : ByteArray := prog_1_method_9_code
def yX9_count : MethodName := ⟨RX9, "count", "(I)I"⟩
abbrev cX9_tide : ByteArray := prog_1_method_10_code
def yX9_tide : MethodName := ⟨RX9, "tide", "()I"⟩
abbrev cX9_say : ByteArray := prog_1_method_11_code
def yX9_say : MethodName := ⟨RX9, "say", "(II)I"⟩
abbrev cX9_trade : ByteArray := prog_1_method_12_code
def yX9_trade : MethodName := ⟨RX9, "trade", "(II)I"⟩
abbrev cX9_coin : ByteArray := prog_1_method_13_code
def yX9_coin : MethodName := ⟨RX9, "coin", "(II)I"⟩
abbrev cX9_dull : ByteArray := prog_1_method_14_code
def yX9_dull : MethodName := ⟨RX9, "dull", "(I)I"⟩
abbrev cX9_undo : ByteArray := prog_1_method_15_code
def yX9_undo : MethodName := ⟨RX9, "undo", "()I"⟩
abbrev cX9_ahead : ByteArray := prog_1_method_16_code
def yX9_ahead : MethodName := ⟨RX9, "ahead", "(III)I"⟩
abbrev cX9_over : ByteArray := prog_1_method_17_code
def yX9_over : MethodName := ⟨RX9, "over", "(II)I"⟩
abbrev cX9_alike : ByteArray := prog_1_method_18_code
def yX9_alike : MethodName := ⟨RX9, "alike", "(II)I"⟩
abbrev cX9_fresh : ByteArray := prog_1_method_19_code
def yX9_fresh : MethodName := ⟨RX9, "fresh", "()I"⟩
abbrev cX9_least : ByteArray := prog_1_method_20_code
def yX9_least : MethodName := ⟨RX9, "least", "()I"⟩
abbrev cX9_row : ByteArray := prog_1_method_21_code
def yX9_row : MethodName := ⟨RX9, "row", "(III)I"⟩
abbrev cX9_forget : ByteArray := prog_1_method_22_code
def yX9_forget : MethodName := ⟨RX9, "forget", "(II)I"⟩
abbrev cX9_barter : ByteArray := prog_1_method_23_code
def yX9_barter : MethodName := ⟨RX9, "barter", "(II)I"⟩
abbrev cX9_school : ByteArray := prog_1_method_24_code
def yX9_school : MethodName := ⟨RX9, "school", "(II)I"⟩
abbrev cX9_old : ByteArray := prog_1_method_25_code
def yX9_old : MethodName := ⟨RX9, "old", "(IIII)I"⟩
abbrev cX9_game : ByteArray := prog_1_method_26_code
def yX9_game : MethodName := ⟨RX9, "game", "(IIII)I"⟩
abbrev cX9_parts : ByteArray := prog_1_method_27_code
def yX9_parts : MethodName := ⟨RX9, "parts", "(II)I"⟩
abbrev cX9_order : ByteArray := prog_1_method_28_code
def yX9_order : MethodName := ⟨RX9, "order", "(I)I"⟩
abbrev cX9_note : ByteArray := prog_1_method_29_code
def yX9_note : MethodName := ⟨RX9, "note", "(III)I"⟩
abbrev cX9_ruled : ByteArray := prog_1_method_30_code
def yX9_ruled : MethodName := ⟨RX9, "ruled", "(I)I"⟩
abbrev cX9_look : ByteArray := prog_1_method_31_code
def yX9_look : MethodName := ⟨RX9, "look", "(II)I"⟩
abbrev cX9_seed : ByteArray := prog_1_method_32_code
def yX9_seed : MethodName := ⟨RX9, "seed", "(I)I"⟩
abbrev cX9_parrots : ByteArray := prog_1_method_33_code
def yX9_parrots : MethodName := ⟨RX9, "parrots", "(IIII)I"⟩
abbrev cX9_image : ByteArray := prog_1_method_34_code
def yX9_image : MethodName := ⟨RX9, "image", "(I)I"⟩
abbrev cX9_back : ByteArray := prog_1_method_35_code
def yX9_back : MethodName := ⟨RX9, "back", "(I)I"⟩
abbrev cX9_isWithin : ByteArray := prog_1_method_36_code
def yX9_isWithin : MethodName := ⟨RX9, "isWithin", "(III)Z"⟩
abbrev cX9_isJoke : ByteArray := prog_1_method_37_code
def yX9_isJoke : MethodName := ⟨RX9, "isJoke", "(I)Z"⟩
abbrev cX9_isShip : ByteArray := prog_1_method_38_code
def yX9_isShip : MethodName := ⟨RX9, "isShip", "(I)Z"⟩
abbrev cX9_isWaiting : ByteArray := prog_1_method_39_code
def yX9_isWaiting : MethodName := ⟨RX9, "isWaiting", "(I)Z"⟩
abbrev cX9_isRuleOrNone : ByteArray := prog_1_method_40_code
def yX9_isRuleOrNone : MethodName := ⟨RX9, "isRuleOrNone", "(I)Z"⟩
abbrev cX9_ruleAt : ByteArray := prog_1_method_41_code
def yX9_ruleAt : MethodName := ⟨RX9, "ruleAt", "(I)LBarPilot$Rule;"⟩
abbrev cX9_asking : ByteArray := prog_1_method_42_code
def yX9_asking : MethodName := ⟨RX9, "asking", "()LBarPilot$Asker;"⟩
def RX10 : String := "BarPilotModel"
def TX10 : u_T := fun k => match k with
  | 0 => ("BarPilotModel", "thrown", "I", false)
  | 1 => ("BarPilotModel", "scalar", "[I", true)
  | 2 => ("BarPilotModel", "parts", "[I", true)
  | 3 => ("BarPilotModel", "cargo", "[I", true)
  | 4 => ("BarPilotModel", "keeps", "[I", true)
  | 5 => ("BarPilotModel", "heard", "[I", true)
  | 6 => ("BarPilotModel", "knows", "[I", true)
  | 7 => ("BarPilotModel", "passed", "[I", true)
  | 8 => ("BarPilotModel", "noteTide", "[I", true)
  | 9 => ("BarPilotModel", "noteShip", "[I", true)
  | 10 => ("BarPilotModel", "noteJoke", "[I", true)
  | 11 => ("BarPilotModel", "toldKnows", "[I", true)
  | 12 => ("BarPilotModel", "newScalar", "[I", true)
  | 13 => ("BarPilotModel", "newParts", "[I", true)
  | 14 => ("BarPilotModel", "newCargo", "[I", true)
  | 15 => ("BarPilotModel", "newKeeps", "[I", true)
  | 16 => ("BarPilotModel", "newKnows", "[I", true)
  | 17 => ("BarPilotModel", "taped", "I", false)
  | 18 => ("BarPilotModel", "p", "I", false)
  | 19 => ("BarPilotModel", "fault", "I", false)
  | 20 => ("BarPilotModel", "slot", "I", false)
  | 21 => ("BarPilotModel", "rules", "I", false)
  | 22 => ("BarPilotModel", "entries", "I", false)
  | 23 => ("BarPilotModel", "deep", "I", false)
  | 24 => ("BarPilotModel", "counted", "I", false)
  | 25 => ("BarPilotModel", "opened", "I", false)
  | 26 => ("BarPilotModel", "words", "I", false)
  | 27 => ("BarPilotModel", "tape", "[B", true)
  | 28 => ("BarPilotModel", "sort", "[I", true)
  | 29 => ("BarPilotModel", "number", "[I", true)
  | 30 => ("BarPilotModel", "clauses", "[I", true)
  | 31 => ("BarPilotModel", "sumAt", "[I", true)
  | 32 => ("BarPilotModel", "testAt", "[I", true)
  | 33 => ("BarPilotModel", "endAt", "[I", true)
  | 34 => ("BarPilotModel", "open", "[I", true)
  | 35 => ("BarPilotModel", "asked", "[J", true)
  | 36 => ("BarPilotModel", "stack", "[J", true)
  | 37 => ("BarPilotModel", "told", "[I", true)
  | 38 => ("BarPilotModel", "rowShip", "I", false)
  | 39 => ("BarPilotModel", "rowJoke", "I", false)
  | 40 => ("BarPilotModel", "past", "[I", true)
  | 41 => ("BarPilotModel", "pastOf", "[I", true)
  | 42 => ("BarPilotModel", "pastMany", "I", false)
  | 43 => ("BarPilotModel", "pastAt", "I", false)
  | 44 => ("BarPilotModel", "takesBack", "Z", false)
  | 45 => ("BarPilotModel", "tried", "[I", true)
  | 46 => ("BarPilotModel", "bestRow", "[I", true)
  | 47 => ("BarPilotModel", "plays", "[I", true)
  | 48 => ("BarPilotModel", "lay", "[I", true)
  | 49 => ("BarPilotModel", "shows", "[I", true)
  | 50 => ("BarPilotModel", "images", "[I", true)
  | 51 => ("BarPilotModel", "isMade", "[Z", true)
  | 52 => ("BarPilotModel", "imageAt", "I", false)
  | _ => ("BarPilotModel", "goesBack", "Z", false)
def tyX10 : Nat → FieldType := fun k => match k with
  | 0 => .int
  | 1 => .array .int
  | 2 => .array .int
  | 3 => .array .int
  | 4 => .array .int
  | 5 => .array .int
  | 6 => .array .int
  | 7 => .array .int
  | 8 => .array .int
  | 9 => .array .int
  | 10 => .array .int
  | 11 => .array .int
  | 12 => .array .int
  | 13 => .array .int
  | 14 => .array .int
  | 15 => .array .int
  | 16 => .array .int
  | 17 => .int
  | 18 => .int
  | 19 => .int
  | 20 => .int
  | 21 => .int
  | 22 => .int
  | 23 => .int
  | 24 => .int
  | 25 => .int
  | 26 => .int
  | 27 => .array .byte
  | 28 => .array .int
  | 29 => .array .int
  | 30 => .array .int
  | 31 => .array .int
  | 32 => .array .int
  | 33 => .array .int
  | 34 => .array .int
  | 35 => .array .long
  | 36 => .array .long
  | 37 => .array .int
  | 38 => .int
  | 39 => .int
  | 40 => .array .int
  | 41 => .array .int
  | 42 => .int
  | 43 => .int
  | 44 => .boolean
  | 45 => .array .int
  | 46 => .array .int
  | 47 => .array .int
  | 48 => .array .int
  | 49 => .array .int
  | 50 => .array .int
  | 51 => .array .boolean
  | 52 => .int
  | _ => .boolean
abbrev wsX100 : List Cond := u_ws RX10 TX10 54
theorem nmX10 : ∀ a, a < 54 → ∀ b, b < 54 → a ≠ b → (TX10 a).2.1 ≠ (TX10 b).2.1 := by decide +kernel
theorem tyX10_ok : ∀ k, k < 54 → parseFieldDescriptor (TX10 k).2.2.1 = some (tyX10 k) := by decide +kernel
abbrev cX10_init : ByteArray := prog_12_method_1_code
def yX10_init : MethodName := ⟨RX10, "<init>", "()V"⟩
abbrev cX10_in : ByteArray := prog_12_method_3_code
def yX10_in : MethodName := ⟨RX10, "in", "(JJJ)Z"⟩
abbrev cX10_bits : ByteArray := prog_12_method_4_code
def yX10_bits : MethodName := ⟨RX10, "bits", "(I)I"⟩
abbrev cX10_has : ByteArray := prog_12_method_5_code
def yX10_has : MethodName := ⟨RX10, "has", "(II)Z"⟩
abbrev cX10_isBar : ByteArray := prog_12_method_6_code
def yX10_isBar : MethodName := ⟨RX10, "isBar", "()Z"⟩
abbrev cX10_isJoke : ByteArray := prog_12_method_7_code
def yX10_isJoke : MethodName := ⟨RX10, "isJoke", "(I)Z"⟩
abbrev cX10_isShip : ByteArray := prog_12_method_8_code
def yX10_isShip : MethodName := ⟨RX10, "isShip", "(I)Z"⟩
abbrev cX10_waits : ByteArray := prog_12_method_9_code
def yX10_waits : MethodName := ⟨RX10, "waits", "(I)Z"⟩
abbrev cX10_feed : ByteArray := prog_12_method_10_code
def yX10_feed : MethodName := ⟨RX10, "feed", "(IIIII)I"⟩
abbrev cX10_put : ByteArray := prog_12_method_11_code
def yX10_put : MethodName := ⟨RX10, "put", "(I)V"⟩
abbrev cX10_end : ByteArray := prog_12_method_12_code
def yX10_end : MethodName := ⟨RX10, "end", "(I)I"⟩
abbrev cX10_wordOf : ByteArray := prog_12_method_13_code
def yX10_wordOf : MethodName := ⟨RX10, "wordOf", "(I)Ljava/lang/String;"⟩
abbrev cX10_fails : ByteArray := prog_12_method_14_code
def yX10_fails : MethodName := ⟨RX10, "fails", "(II)V"⟩
abbrev cX10_sign : ByteArray := prog_12_method_15_code
def yX10_sign : MethodName := ⟨RX10, "sign", "()I"⟩
abbrev cX10_blanks : ByteArray := prog_12_method_16_code
def yX10_blanks : MethodName := ⟨RX10, "blanks", "()V"⟩
abbrev cX10_isDigit : ByteArray := prog_12_method_17_code
def yX10_isDigit : MethodName := ⟨RX10, "isDigit", "()Z"⟩
abbrev cX10_stood : ByteArray := prog_12_method_18_code
def yX10_stood : MethodName := ⟨RX10, "stood", "(Ljava/lang/String;)Z"⟩
abbrev cX10_takes : ByteArray := prog_12_method_19_code
def yX10_takes : MethodName := ⟨RX10, "takes", "(Ljava/lang/String;)Z"⟩
abbrev cX10_entry : ByteArray := prog_12_method_20_code
def yX10_entry : MethodName := ⟨RX10, "entry", "(II)V"⟩
abbrev cX10_isCounted : ByteArray := prog_12_method_21_code
def yX10_isCounted : MethodName := ⟨RX10, "isCounted", "(I)V"⟩
abbrev cX10_digits : ByteArray := prog_12_method_22_code
def yX10_digits : MethodName := ⟨RX10, "digits", "(I)I"⟩
abbrev cX10_value : ByteArray := prog_12_method_23_code
def yX10_value : MethodName := ⟨RX10, "value", "()V"⟩
abbrev cX10_term : ByteArray := prog_12_method_24_code
def yX10_term : MethodName := ⟨RX10, "term", "()V"⟩
abbrev cX10_sum : ByteArray := prog_12_method_25_code
def yX10_sum : MethodName := ⟨RX10, "sum", "()V"⟩
abbrev cX10_compared : ByteArray := prog_12_method_26_code
def yX10_compared : MethodName := ⟨RX10, "compared", "()V"⟩
abbrev cX10_top : ByteArray := prog_12_method_27_code
def yX10_top : MethodName := ⟨RX10, "top", "()I"⟩
abbrev cX10_opens : ByteArray := prog_12_method_28_code
def yX10_opens : MethodName := ⟨RX10, "opens", "(I)V"⟩
abbrev cX10_answers : ByteArray := prog_12_method_29_code
def yX10_answers : MethodName := ⟨RX10, "answers", "(I)V"⟩
abbrev cX10_fact : ByteArray := prog_12_method_30_code
def yX10_fact : MethodName := ⟨RX10, "fact", "()Z"⟩
abbrev cX10_test : ByteArray := prog_12_method_31_code
def yX10_test : MethodName := ⟨RX10, "test", "()V"⟩
abbrev cX10_amount : ByteArray := prog_12_method_32_code
def yX10_amount : MethodName := ⟨RX10, "amount", "(II)I"⟩
abbrev cX10_barWord : ByteArray := prog_12_method_33_code
def yX10_barWord : MethodName := ⟨RX10, "barWord", "(I)Ljava/lang/String;"⟩
abbrev cX10_barPart : ByteArray := prog_12_method_34_code
def yX10_barPart : MethodName := ⟨RX10, "barPart", "(I)V"⟩
abbrev cX10_isFull : ByteArray := prog_12_method_35_code
def yX10_isFull : MethodName := ⟨RX10, "isFull", "(II)Z"⟩
abbrev cX10_barClause : ByteArray := prog_12_method_36_code
def yX10_barClause : MethodName := ⟨RX10, "barClause", "(I)V"⟩
abbrev cX10_copies : ByteArray := prog_12_method_37_code
def yX10_copies : MethodName := ⟨RX10, "copies", "([I[I)V"⟩
abbrev cX10_goesOn : ByteArray := prog_12_method_38_code
def yX10_goesOn : MethodName := ⟨RX10, "goesOn", "()Z"⟩
abbrev cX10_starts : ByteArray := prog_12_method_39_code
def yX10_starts : MethodName := ⟨RX10, "starts", "()V"⟩
abbrev cX10_readsAll : ByteArray := prog_12_method_40_code
def yX10_readsAll : MethodName := ⟨RX10, "readsAll", "()V"⟩
abbrev cX10_begins : ByteArray := prog_12_method_41_code
def yX10_begins : MethodName := ⟨RX10, "begins", "()V"⟩
abbrev cX10_bar : ByteArray := prog_12_method_42_code
def yX10_bar : MethodName := ⟨RX10, "bar", "()I"⟩
abbrev cX10_ruleClause : ByteArray := prog_12_method_43_code
def yX10_ruleClause : MethodName := ⟨RX10, "ruleClause", "(I)V"⟩
abbrev cX10_rule : ByteArray := prog_12_method_44_code
def yX10_rule : MethodName := ⟨RX10, "rule", "()I"⟩
abbrev cX10_force : ByteArray := prog_12_method_45_code
def yX10_force : MethodName := ⟨RX10, "force", "(I)I"⟩
abbrev cX10_wanted : ByteArray := prog_12_method_46_code
def yX10_wanted : MethodName := ⟨RX10, "wanted", "()J"⟩
abbrev cX10_truth : ByteArray := prog_12_method_47_code
def yX10_truth : MethodName := ⟨RX10, "truth", "(Z)J"⟩
abbrev cX10_both : ByteArray := prog_12_method_48_code
def yX10_both : MethodName := ⟨RX10, "both", "(IJJ)J"⟩
abbrev cX10_answer : ByteArray := prog_12_method_49_code
def yX10_answer : MethodName := ⟨RX10, "answer", "(III)J"⟩
abbrev cX10_alikeOf : ByteArray := prog_12_method_50_code
def yX10_alikeOf : MethodName := ⟨RX10, "alikeOf", "(II)I"⟩
abbrev cX10_remembers : ByteArray := prog_12_method_51_code
def yX10_remembers : MethodName := ⟨RX10, "remembers", "(I)Z"⟩
abbrev cX10_likeOf : ByteArray := prog_12_method_52_code
def yX10_likeOf : MethodName := ⟨RX10, "likeOf", "(I)I"⟩
abbrev cX10_isNew : ByteArray := prog_12_method_53_code
def yX10_isNew : MethodName := ⟨RX10, "isNew", "(I)Z"⟩
abbrev cX10_sinceOf : ByteArray := prog_12_method_54_code
def yX10_sinceOf : MethodName := ⟨RX10, "sinceOf", "(I)I"⟩
abbrev cX10_joke : ByteArray := prog_12_method_55_code
def yX10_joke : MethodName := ⟨RX10, "joke", "(II)I"⟩
abbrev cX10_ship : ByteArray := prog_12_method_56_code
def yX10_ship : MethodName := ⟨RX10, "ship", "(II)I"⟩
abbrev cX10_waiting : ByteArray := prog_12_method_57_code
def yX10_waiting : MethodName := ⟨RX10, "waiting", "()I"⟩
abbrev cX10_knownBy : ByteArray := prog_12_method_58_code
def yX10_knownBy : MethodName := ⟨RX10, "knownBy", "(I)I"⟩
abbrev cX10_howManyPassed : ByteArray := prog_12_method_59_code
def yX10_howManyPassed : MethodName := ⟨RX10, "howManyPassed", "()I"⟩
abbrev cX10_tells : ByteArray := prog_12_method_60_code
def yX10_tells : MethodName := ⟨RX10, "tells", "(II)Z"⟩
abbrev cX10_earns : ByteArray := prog_12_method_61_code
def yX10_earns : MethodName := ⟨RX10, "earns", "(I)I"⟩
abbrev cX10_sumOf : ByteArray := prog_12_method_62_code
def yX10_sumOf : MethodName := ⟨RX10, "sumOf", "(II)J"⟩
abbrev cX10_likes : ByteArray := prog_12_method_63_code
def yX10_likes : MethodName := ⟨RX10, "likes", "(II)J"⟩
abbrev cX10_choice : ByteArray := prog_12_method_64_code
def yX10_choice : MethodName := ⟨RX10, "choice", "(I)I"⟩
abbrev cX10_goes : ByteArray := prog_12_method_65_code
def yX10_goes : MethodName := ⟨RX10, "goes", "()I"⟩
abbrev cX10_goFor : ByteArray := prog_12_method_66_code
def yX10_goFor : MethodName := ⟨RX10, "goFor", "(I)V"⟩
abbrev cX10_moves : ByteArray := prog_12_method_67_code
def yX10_moves : MethodName := ⟨RX10, "moves", "(I)I"⟩
abbrev cX10_movesRow : ByteArray := prog_12_method_68_code
def yX10_movesRow : MethodName := ⟨RX10, "movesRow", "([I)V"⟩
abbrev cX10_movesAll : ByteArray := prog_12_method_69_code
def yX10_movesAll : MethodName := ⟨RX10, "movesAll", "(IZ)V"⟩
abbrev cX10_keepsAct : ByteArray := prog_12_method_70_code
def yX10_keepsAct : MethodName := ⟨RX10, "keepsAct", "()V"⟩
abbrev cX10_undo : ByteArray := prog_12_method_71_code
def yX10_undo : MethodName := ⟨RX10, "undo", "()I"⟩
abbrev cX10_tide : ByteArray := prog_12_method_72_code
def yX10_tide : MethodName := ⟨RX10, "tide", "()I"⟩
abbrev cX10_say : ByteArray := prog_12_method_73_code
def yX10_say : MethodName := ⟨RX10, "say", "(II)I"⟩
abbrev cX10_trade : ByteArray := prog_12_method_74_code
def yX10_trade : MethodName := ⟨RX10, "trade", "(II)I"⟩
abbrev cX10_coin : ByteArray := prog_12_method_75_code
def yX10_coin : MethodName := ⟨RX10, "coin", "(II)I"⟩
abbrev cX10_dull : ByteArray := prog_12_method_76_code
def yX10_dull : MethodName := ⟨RX10, "dull", "(I)I"⟩
abbrev cX10_keepsAll : ByteArray := prog_12_method_77_code
def yX10_keepsAll : MethodName := ⟨RX10, "keepsAll", "()V"⟩
abbrev cX10_laysBack : ByteArray := prog_12_method_78_code
def yX10_laysBack : MethodName := ⟨RX10, "laysBack", "()V"⟩
abbrev cX10_earnedIn : ByteArray := prog_12_method_79_code
def yX10_earnedIn : MethodName := ⟨RX10, "earnedIn", "(I)I"⟩
abbrev cX10_ahead : ByteArray := prog_12_method_80_code
def yX10_ahead : MethodName := ⟨RX10, "ahead", "(III)I"⟩
abbrev cX10_over : ByteArray := prog_12_method_81_code
def yX10_over : MethodName := ⟨RX10, "over", "(II)I"⟩
abbrev cX10_alike : ByteArray := prog_12_method_82_code
def yX10_alike : MethodName := ⟨RX10, "alike", "(II)I"⟩
abbrev cX10_fresh : ByteArray := prog_12_method_83_code
def yX10_fresh : MethodName := ⟨RX10, "fresh", "()I"⟩
abbrev cX10_isLikeNone : ByteArray := prog_12_method_84_code
def yX10_isLikeNone : MethodName := ⟨RX10, "isLikeNone", "(III)Z"⟩
abbrev cX10_least : ByteArray := prog_12_method_85_code
def yX10_least : MethodName := ⟨RX10, "least", "()I"⟩
abbrev cX10_passesByRow : ByteArray := prog_12_method_86_code
def yX10_passesByRow : MethodName := ⟨RX10, "passesByRow", "(IIII)I"⟩
abbrev cX10_row : ByteArray := prog_12_method_87_code
def yX10_row : MethodName := ⟨RX10, "row", "(III)I"⟩
abbrev cX10_forget : ByteArray := prog_12_method_88_code
def yX10_forget : MethodName := ⟨RX10, "forget", "(II)I"⟩
abbrev cX10_barter : ByteArray := prog_12_method_89_code
def yX10_barter : MethodName := ⟨RX10, "barter", "(II)I"⟩
abbrev cX10_school : ByteArray := prog_12_method_90_code
def yX10_school : MethodName := ⟨RX10, "school", "(II)I"⟩
abbrev cX10_howManyBy : ByteArray := prog_12_method_91_code
def yX10_howManyBy : MethodName := ⟨RX10, "howManyBy", "(III)I"⟩
abbrev cX10_old : ByteArray := prog_12_method_92_code
def yX10_old : MethodName := ⟨RX10, "old", "(IIII)I"⟩
abbrev cX10_playOf : ByteArray := prog_12_method_93_code
def yX10_playOf : MethodName := ⟨RX10, "playOf", "(IIIII)I"⟩
abbrev cX10_bestAt : ByteArray := prog_12_method_94_code
def yX10_bestAt : MethodName := ⟨RX10, "bestAt", "(IIZ)I"⟩
abbrev cX10_game : ByteArray := prog_12_method_95_code
def yX10_game : MethodName := ⟨RX10, "game", "(IIII)I"⟩
abbrev cX10_shareOf : ByteArray := prog_12_method_96_code
def yX10_shareOf : MethodName := ⟨RX10, "shareOf", "(I)I"⟩
abbrev cX10_parts : ByteArray := prog_12_method_97_code
def yX10_parts : MethodName := ⟨RX10, "parts", "(II)I"⟩
abbrev cX10_order : ByteArray := prog_12_method_98_code
def yX10_order : MethodName := ⟨RX10, "order", "(I)I"⟩
abbrev cX10_note : ByteArray := prog_12_method_99_code
def yX10_note : MethodName := ⟨RX10, "note", "(III)I"⟩
abbrev cX10_couldRule : ByteArray := prog_12_method_100_code
def yX10_couldRule : MethodName := ⟨RX10, "couldRule", "(I)Z"⟩
abbrev cX10_ruled : ByteArray := prog_12_method_101_code
def yX10_ruled : MethodName := ⟨RX10, "ruled", "(I)I"⟩
abbrev cX10_mostAlike : ByteArray := prog_12_method_102_code
def yX10_mostAlike : MethodName := ⟨RX10, "mostAlike", "(II)I"⟩
abbrev cX10_look : ByteArray := prog_12_method_103_code
def yX10_look : MethodName := ⟨RX10, "look", "(II)I"⟩
abbrev cX10_seed : ByteArray := prog_12_method_104_code
def yX10_seed : MethodName := ⟨RX10, "seed", "(I)I"⟩
abbrev cX10_draws : ByteArray := prog_12_method_105_code
def yX10_draws : MethodName := ⟨RX10, "draws", "(I)I"⟩
abbrev cX10_parrots : ByteArray := prog_12_method_106_code
def yX10_parrots : MethodName := ⟨RX10, "parrots", "(IIII)I"⟩
abbrev cX10_rememberedOnes : ByteArray := prog_12_method_107_code
def yX10_rememberedOnes : MethodName := ⟨RX10, "rememberedOnes", "()I"⟩
abbrev cX10_count : ByteArray := prog_12_method_108_code
def yX10_count : MethodName := ⟨RX10, "count", "(I)I"⟩
abbrev cX10_carryRow : ByteArray := prog_12_method_109_code
def yX10_carryRow : MethodName := ⟨RX10, "carryRow", "([I)V"⟩
abbrev cX10_carriesAll : ByteArray := prog_12_method_110_code
def yX10_carriesAll : MethodName := ⟨RX10, "carriesAll", "(IZ)V"⟩
abbrev cX10_image : ByteArray := prog_12_method_111_code
def yX10_image : MethodName := ⟨RX10, "image", "(I)I"⟩
abbrev cX10_back : ByteArray := prog_12_method_112_code
def yX10_back : MethodName := ⟨RX10, "back", "(I)I"⟩
def RJx145de : String := "java/io/Serializable"
def TJx145de : u_T := fun k => match k with
  | _ => ("", "", "", false)
def tyJx145de : Nat → FieldType := fun k => match k with
  | _ => .int
abbrev wsJx145de0 : List Cond := u_ws RJx145de TJx145de 0
theorem nmJx145de : ∀ a, a < 0 → ∀ b, b < 0 → a ≠ b → (TJx145de a).2.1 ≠ (TJx145de b).2.1 := by decide +kernel
theorem tyJx145de_ok : ∀ k, k < 0 → parseFieldDescriptor (TJx145de k).2.2.1 = some (tyJx145de k) := by decide +kernel
def RJx9f9b0 : String := "java/lang/CharSequence"
def TJx9f9b0 : u_T := fun k => match k with
  | _ => ("", "", "", false)
def tyJx9f9b0 : Nat → FieldType := fun k => match k with
  | _ => .int
abbrev wsJx9f9b00 : List Cond := u_ws RJx9f9b0 TJx9f9b0 0
theorem nmJx9f9b0 : ∀ a, a < 0 → ∀ b, b < 0 → a ≠ b → (TJx9f9b0 a).2.1 ≠ (TJx9f9b0 b).2.1 := by decide +kernel
theorem tyJx9f9b0_ok : ∀ k, k < 0 → parseFieldDescriptor (TJx9f9b0 k).2.2.1 = some (tyJx9f9b0 k) := by decide +kernel
def RJx8e188 : String := "java/lang/Cloneable"
def TJx8e188 : u_T := fun k => match k with
  | _ => ("", "", "", false)
def tyJx8e188 : Nat → FieldType := fun k => match k with
  | _ => .int
abbrev wsJx8e1880 : List Cond := u_ws RJx8e188 TJx8e188 0
theorem nmJx8e188 : ∀ a, a < 0 → ∀ b, b < 0 → a ≠ b → (TJx8e188 a).2.1 ≠ (TJx8e188 b).2.1 := by decide +kernel
theorem tyJx8e188_ok : ∀ k, k < 0 → parseFieldDescriptor (TJx8e188 k).2.2.1 = some (tyJx8e188 k) := by decide +kernel
def RJxb160c : String := "java/lang/Comparable"
def TJxb160c : u_T := fun k => match k with
  | _ => ("", "", "", false)
def tyJxb160c : Nat → FieldType := fun k => match k with
  | _ => .int
abbrev wsJxb160c0 : List Cond := u_ws RJxb160c TJxb160c 0
theorem nmJxb160c : ∀ a, a < 0 → ∀ b, b < 0 → a ≠ b → (TJxb160c a).2.1 ≠ (TJxb160c b).2.1 := by decide +kernel
theorem tyJxb160c_ok : ∀ k, k < 0 → parseFieldDescriptor (TJxb160c k).2.2.1 = some (tyJxb160c k) := by decide +kernel
def RJ6 : String := "java/lang/Integer"
def TJ6 : u_T := fun k => match k with
  | _ => ("", "", "", false)
def tyJ6 : Nat → FieldType := fun k => match k with
  | _ => .int
abbrev wsJ60 : List Cond := u_ws RJ6 TJ6 0
theorem nmJ6 : ∀ a, a < 0 → ∀ b, b < 0 → a ≠ b → (TJ6 a).2.1 ≠ (TJ6 b).2.1 := by decide +kernel
theorem tyJ6_ok : ∀ k, k < 0 → parseFieldDescriptor (TJ6 k).2.2.1 = some (tyJ6 k) := by decide +kernel
abbrev cJ6_bitCount_0f7a4 : ByteArray := prog_14_method_49_code
def yJ6_bitCount_0f7a4 : MethodName := ⟨RJ6, "bitCount", "(I)I"⟩
def RJ9 : String := "java/lang/Math"
def TJ9 : u_T := fun k => match k with
  | _ => ("", "", "", false)
def tyJ9 : Nat → FieldType := fun k => match k with
  | _ => .int
abbrev wsJ90 : List Cond := u_ws RJ9 TJ9 0
theorem nmJ9 : ∀ a, a < 0 → ∀ b, b < 0 → a ≠ b → (TJ9 a).2.1 ≠ (TJ9 b).2.1 := by decide +kernel
theorem tyJ9_ok : ∀ k, k < 0 → parseFieldDescriptor (TJ9 k).2.2.1 = some (tyJ9 k) := by decide +kernel
abbrev cJ9_max_7cf53 : ByteArray := prog_15_method_65_code
def yJ9_max_7cf53 : MethodName := ⟨RJ9, "max", "(II)I"⟩
abbrev cJ9_min_7cf53 : ByteArray := prog_15_method_69_code
def yJ9_min_7cf53 : MethodName := ⟨RJ9, "min", "(II)I"⟩
def RJ0 : String := "java/lang/String"
def TJ0 : u_T := fun k => match k with
  | _ => ("", "", "", false)
def tyJ0 : Nat → FieldType := fun k => match k with
  | _ => .int
abbrev wsJ00 : List Cond := u_ws RJ0 TJ0 0
theorem nmJ0 : ∀ a, a < 0 → ∀ b, b < 0 → a ≠ b → (TJ0 a).2.1 ≠ (TJ0 b).2.1 := by decide +kernel
theorem tyJ0_ok : ∀ k, k < 0 → parseFieldDescriptor (TJ0 k).2.2.1 = some (tyJ0 k) := by decide +kernel
abbrev cJ0_length_8abf5 : ByteArray := prog_16_method_54_code
def yJ0_length_8abf5 : MethodName := ⟨RJ0, "length", "()I"⟩
abbrev cJ0_charAt_5068e : ByteArray := prog_16_method_56_code
def yJ0_charAt_5068e : MethodName := ⟨RJ0, "charAt", "(I)C"⟩
abbrev cJ0_coder_7d493 : ByteArray := prog_16_method_152_code
def yJ0_coder_7d493 : MethodName := ⟨RJ0, "coder", "()B"⟩
abbrev cJ0_isLatin1_aae02 : ByteArray := prog_16_method_154_code
def yJ0_isLatin1_aae02 : MethodName := ⟨RJ0, "isLatin1", "()Z"⟩
abbrev cJ0_checkIndex_df160 : ByteArray := prog_16_method_155_code
def yJ0_checkIndex_df160 : MethodName := ⟨RJ0, "checkIndex", "(II)V"⟩
def RJ1 : String := "java/lang/StringLatin1"
def TJ1 : u_T := fun k => match k with
  | _ => ("", "", "", false)
def tyJ1 : Nat → FieldType := fun k => match k with
  | _ => .int
abbrev wsJ10 : List Cond := u_ws RJ1 TJ1 0
theorem nmJ1 : ∀ a, a < 0 → ∀ b, b < 0 → a ≠ b → (TJ1 a).2.1 ≠ (TJ1 b).2.1 := by decide +kernel
theorem tyJ1_ok : ∀ k, k < 0 → parseFieldDescriptor (TJ1 k).2.2.1 = some (tyJ1 k) := by decide +kernel
abbrev cJ1_charAt_3b067 : ByteArray := prog_17_method_2_code
def yJ1_charAt_3b067 : MethodName := ⟨RJ1, "charAt", "([BI)C"⟩
def RJ2 : String := "java/lang/StringUTF16"
def TJ2 : u_T := fun k => match k with
  | _ => ("", "", "", false)
def tyJ2 : Nat → FieldType := fun k => match k with
  | _ => .int
abbrev wsJ20 : List Cond := u_ws RJ2 TJ2 0
theorem nmJ2 : ∀ a, a < 0 → ∀ b, b < 0 → a ≠ b → (TJ2 a).2.1 ≠ (TJ2 b).2.1 := by decide +kernel
theorem tyJ2_ok : ∀ k, k < 0 → parseFieldDescriptor (TJ2 k).2.2.1 = some (tyJ2 k) := by decide +kernel
abbrev cJ2_getChar_3b067 : ByteArray := prog_18_method_5_code
def yJ2_getChar_3b067 : MethodName := ⟨RJ2, "getChar", "([BI)C"⟩
abbrev cJ2_length_9d52b : ByteArray := prog_18_method_6_code
def yJ2_length_9d52b : MethodName := ⟨RJ2, "length", "([B)I"⟩
abbrev cJ2_charAt_3b067 : ByteArray := prog_18_method_83_code
def yJ2_charAt_3b067 : MethodName := ⟨RJ2, "charAt", "([BI)C"⟩
abbrev cJ2_checkIndex_2214a : ByteArray := prog_18_method_91_code
def yJ2_checkIndex_2214a : MethodName := ⟨RJ2, "checkIndex", "(I[B)V"⟩
def RJ10 : String := "java/lang/System"
def TJ10 : u_T := fun k => match k with
  | _ => ("", "", "", false)
def tyJ10 : Nat → FieldType := fun k => match k with
  | _ => .int
abbrev wsJ100 : List Cond := u_ws RJ10 TJ10 0
theorem nmJ10 : ∀ a, a < 0 → ∀ b, b < 0 → a ≠ b → (TJ10 a).2.1 ≠ (TJ10 b).2.1 := by decide +kernel
theorem tyJ10_ok : ∀ k, k < 0 → parseFieldDescriptor (TJ10 k).2.2.1 = some (tyJ10 k) := by decide +kernel
def RJxfd54e : String := "java/lang/constant/Constable"
def TJxfd54e : u_T := fun k => match k with
  | _ => ("", "", "", false)
def tyJxfd54e : Nat → FieldType := fun k => match k with
  | _ => .int
abbrev wsJxfd54e0 : List Cond := u_ws RJxfd54e TJxfd54e 0
theorem nmJxfd54e : ∀ a, a < 0 → ∀ b, b < 0 → a ≠ b → (TJxfd54e a).2.1 ≠ (TJxfd54e b).2.1 := by decide +kernel
theorem tyJxfd54e_ok : ∀ k, k < 0 → parseFieldDescriptor (TJxfd54e k).2.2.1 = some (tyJxfd54e k) := by decide +kernel
def RJx3cf43 : String := "java/lang/constant/ConstantDesc"
def TJx3cf43 : u_T := fun k => match k with
  | _ => ("", "", "", false)
def tyJx3cf43 : Nat → FieldType := fun k => match k with
  | _ => .int
abbrev wsJx3cf430 : List Cond := u_ws RJx3cf43 TJx3cf43 0
theorem nmJx3cf43 : ∀ a, a < 0 → ∀ b, b < 0 → a ≠ b → (TJx3cf43 a).2.1 ≠ (TJx3cf43 b).2.1 := by decide +kernel
theorem tyJx3cf43_ok : ∀ k, k < 0 → parseFieldDescriptor (TJx3cf43 k).2.2.1 = some (tyJx3cf43 k) := by decide +kernel
def RJ7 : String := "java/util/Arrays"
def TJ7 : u_T := fun k => match k with
  | _ => ("", "", "", false)
def tyJ7 : Nat → FieldType := fun k => match k with
  | _ => .int
abbrev wsJ70 : List Cond := u_ws RJ7 TJ7 0
theorem nmJ7 : ∀ a, a < 0 → ∀ b, b < 0 → a ≠ b → (TJ7 a).2.1 ≠ (TJ7 b).2.1 := by decide +kernel
theorem tyJ7_ok : ∀ k, k < 0 → parseFieldDescriptor (TJ7 k).2.2.1 = some (tyJ7 k) := by decide +kernel
abbrev cJ7_fill_53178 : ByteArray := prog_20_method_103_code
def yJ7_fill_53178 : MethodName := ⟨RJ7, "fill", "([II)V"⟩
abbrev cJ7_copyOf_59c91 : ByteArray := prog_20_method_123_code
def yJ7_copyOf_59c91 : MethodName := ⟨RJ7, "copyOf", "([II)[I"⟩
def RJ3 : String := "jdk/internal/util/Preconditions"
def TJ3 : u_T := fun k => match k with
  | _ => ("", "", "", false)
def tyJ3 : Nat → FieldType := fun k => match k with
  | _ => .int
abbrev wsJ30 : List Cond := u_ws RJ3 TJ3 0
theorem nmJ3 : ∀ a, a < 0 → ∀ b, b < 0 → a ≠ b → (TJ3 a).2.1 ≠ (TJ3 b).2.1 := by decide +kernel
theorem tyJ3_ok : ∀ k, k < 0 → parseFieldDescriptor (TJ3 k).2.2.1 = some (tyJ3 k) := by decide +kernel
abbrev cJ3_checkIndex_8e157 : ByteArray := prog_21_method_11_code
def yJ3_checkIndex_8e157 : MethodName := ⟨RJ3, "checkIndex", "(IILjava/util/function/BiFunction;)I"⟩
def RL : String := "BarPilotLaw"
abbrev cL_law : ByteArray := code
def yL_law : MethodName := ⟨RL, "law", "([I)Z"⟩
abbrev vwCl : List vw_C := [(RX0, TX0, 12), (RX1, TX1, 2), (RX2, TX2, 11), (RX3, TX3, 8), (RX4, TX4, 5), (RX5, TX5, 6), (RX6, TX6, 4), (RX7, TX7, 9), (RX8, TX8, 10), (RX9, TX9, 9), (RX10, TX10, 54)]
