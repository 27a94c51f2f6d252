section
-- ===== PART A: goes FIRST, ahead of the names: the tables' words, and 'selects' of the private methods out of them =====
/-- a private method of a class that the tables say can be made, by its rows of tables_1 -/
def lw_okq (q : MethodName × Nat) : Prop := (q.1.cls ≠ "java/lang/invoke/MethodHandle" ∧ q.1.cls ≠ "java/lang/invoke/VarHandle") ∧ Cond.instantiable q.1.cls q.2 ∈ tables_1 ∧ Cond.privateMethod q.1 ∈ tables_1 ∧ Cond.instanceMethod q.1 ∈ tables_1
theorem lw_p0 : lw_okq (⟨"FoxReply", "append", "(I)V"⟩, 18) := ⟨⟨by decide +kernel, by decide +kernel⟩, List.mem_of_getElem? (i := 23) (by decide +kernel), List.mem_of_getElem? (i := 400) (by decide +kernel), List.mem_of_getElem? (i := 401) (by decide +kernel)⟩
theorem lw_p1 : lw_okq (⟨"FoxReply$HuntReader", "readClause", "(I)V"⟩, 3) := ⟨⟨by decide +kernel, by decide +kernel⟩, List.mem_of_getElem? (i := 31) (by decide +kernel), List.mem_of_getElem? (i := 433) (by decide +kernel), List.mem_of_getElem? (i := 434) (by decide +kernel)⟩
theorem lw_p2 : lw_okq (⟨"FoxReply$Signs", "readNumber", "()V"⟩, 6) := ⟨⟨by decide +kernel, by decide +kernel⟩, List.mem_of_getElem? (i := 33) (by decide +kernel), List.mem_of_getElem? (i := 444) (by decide +kernel), List.mem_of_getElem? (i := 445) (by decide +kernel)⟩
theorem lw_p3 : lw_okq (⟨"FoxReply$Signs", "readWord", "()V"⟩, 6) := ⟨⟨by decide +kernel, by decide +kernel⟩, List.mem_of_getElem? (i := 33) (by decide +kernel), List.mem_of_getElem? (i := 451) (by decide +kernel), List.mem_of_getElem? (i := 452) (by decide +kernel)⟩
theorem lw_p4 : lw_okq (⟨"FoxReply$Signs", "readMark", "(I)V"⟩, 6) := ⟨⟨by decide +kernel, by decide +kernel⟩, List.mem_of_getElem? (i := 33) (by decide +kernel), List.mem_of_getElem? (i := 455) (by decide +kernel), List.mem_of_getElem? (i := 456) (by decide +kernel)⟩
theorem lw_p5 : lw_okq (⟨"FoxReply$Signs", "markOperator", "(I)V"⟩, 6) := ⟨⟨by decide +kernel, by decide +kernel⟩, List.mem_of_getElem? (i := 33) (by decide +kernel), List.mem_of_getElem? (i := 459) (by decide +kernel), List.mem_of_getElem? (i := 460) (by decide +kernel)⟩
theorem lw_p6 : lw_okq (⟨"FoxReply$Signs", "markCompare", "(I)V"⟩, 6) := ⟨⟨by decide +kernel, by decide +kernel⟩, List.mem_of_getElem? (i := 33) (by decide +kernel), List.mem_of_getElem? (i := 463) (by decide +kernel), List.mem_of_getElem? (i := 464) (by decide +kernel)⟩
theorem lw_p7 : lw_okq (⟨"FoxReply$Signs", "takesLike", "()Z"⟩, 6) := ⟨⟨by decide +kernel, by decide +kernel⟩, List.mem_of_getElem? (i := 33) (by decide +kernel), List.mem_of_getElem? (i := 467) (by decide +kernel), List.mem_of_getElem? (i := 468) (by decide +kernel)⟩
theorem lw_p8 : lw_okq (⟨"FoxReply$HuntReader", "readFox", "()V"⟩, 3) := ⟨⟨by decide +kernel, by decide +kernel⟩, List.mem_of_getElem? (i := 31) (by decide +kernel), List.mem_of_getElem? (i := 530) (by decide +kernel), List.mem_of_getElem? (i := 531) (by decide +kernel)⟩
theorem lw_p9 : lw_okq (⟨"FoxReply$HuntReader", "readNumber", "(II)I"⟩, 3) := ⟨⟨by decide +kernel, by decide +kernel⟩, List.mem_of_getElem? (i := 31) (by decide +kernel), List.mem_of_getElem? (i := 534) (by decide +kernel), List.mem_of_getElem? (i := 535) (by decide +kernel)⟩
theorem lw_p10 : lw_okq (⟨"FoxReply$HuntReader", "readRider", "()V"⟩, 3) := ⟨⟨by decide +kernel, by decide +kernel⟩, List.mem_of_getElem? (i := 31) (by decide +kernel), List.mem_of_getElem? (i := 542) (by decide +kernel), List.mem_of_getElem? (i := 543) (by decide +kernel)⟩
theorem lw_p11 : lw_okq (⟨"FoxReply$HuntReader", "readGate", "()V"⟩, 3) := ⟨⟨by decide +kernel, by decide +kernel⟩, List.mem_of_getElem? (i := 31) (by decide +kernel), List.mem_of_getElem? (i := 550) (by decide +kernel), List.mem_of_getElem? (i := 551) (by decide +kernel)⟩
theorem lw_p12 : lw_okq (⟨"FoxReply$RuleReader", "wordHere", "()I"⟩, 15) := ⟨⟨by decide +kernel, by decide +kernel⟩, List.mem_of_getElem? (i := 147) (by decide +kernel), List.mem_of_getElem? (i := 580) (by decide +kernel), List.mem_of_getElem? (i := 581) (by decide +kernel)⟩
theorem lw_p13 : lw_okq (⟨"FoxReply$RuleReader", "readSign", "()I"⟩, 15) := ⟨⟨by decide +kernel, by decide +kernel⟩, List.mem_of_getElem? (i := 147) (by decide +kernel), List.mem_of_getElem? (i := 605) (by decide +kernel), List.mem_of_getElem? (i := 606) (by decide +kernel)⟩
theorem lw_p14 : lw_okq (⟨"FoxReply$RuleReader", "join", "(I)V"⟩, 15) := ⟨⟨by decide +kernel, by decide +kernel⟩, List.mem_of_getElem? (i := 147) (by decide +kernel), List.mem_of_getElem? (i := 609) (by decide +kernel), List.mem_of_getElem? (i := 610) (by decide +kernel)⟩
theorem lw_p15 : lw_okq (⟨"FoxReply$RuleReader", "putTighter", "(I)V"⟩, 15) := ⟨⟨by decide +kernel, by decide +kernel⟩, List.mem_of_getElem? (i := 147) (by decide +kernel), List.mem_of_getElem? (i := 618) (by decide +kernel), List.mem_of_getElem? (i := 619) (by decide +kernel)⟩
def lw_privs_1 : List (MethodName × Nat) := [(⟨"FoxReply", "append", "(I)V"⟩, 18), (⟨"FoxReply$HuntReader", "readClause", "(I)V"⟩, 3), (⟨"FoxReply$Signs", "readNumber", "()V"⟩, 6), (⟨"FoxReply$Signs", "readWord", "()V"⟩, 6), (⟨"FoxReply$Signs", "readMark", "(I)V"⟩, 6), (⟨"FoxReply$Signs", "markOperator", "(I)V"⟩, 6), (⟨"FoxReply$Signs", "markCompare", "(I)V"⟩, 6), (⟨"FoxReply$Signs", "takesLike", "()Z"⟩, 6), (⟨"FoxReply$HuntReader", "readFox", "()V"⟩, 3), (⟨"FoxReply$HuntReader", "readNumber", "(II)I"⟩, 3), (⟨"FoxReply$HuntReader", "readRider", "()V"⟩, 3), (⟨"FoxReply$HuntReader", "readGate", "()V"⟩, 3), (⟨"FoxReply$RuleReader", "wordHere", "()I"⟩, 15), (⟨"FoxReply$RuleReader", "readSign", "()I"⟩, 15), (⟨"FoxReply$RuleReader", "join", "(I)V"⟩, 15), (⟨"FoxReply$RuleReader", "putTighter", "(I)V"⟩, 15)]
theorem lw_r1 : ∀ q ∈ lw_privs_1, lw_okq q := List.forall_mem_cons.mpr ⟨lw_p0, List.forall_mem_cons.mpr ⟨lw_p1, List.forall_mem_cons.mpr ⟨lw_p2, List.forall_mem_cons.mpr ⟨lw_p3, List.forall_mem_cons.mpr ⟨lw_p4, List.forall_mem_cons.mpr ⟨lw_p5, List.forall_mem_cons.mpr ⟨lw_p6, List.forall_mem_cons.mpr ⟨lw_p7, List.forall_mem_cons.mpr ⟨lw_p8, List.forall_mem_cons.mpr ⟨lw_p9, List.forall_mem_cons.mpr ⟨lw_p10, List.forall_mem_cons.mpr ⟨lw_p11, List.forall_mem_cons.mpr ⟨lw_p12, List.forall_mem_cons.mpr ⟨lw_p13, List.forall_mem_cons.mpr ⟨lw_p14, List.forall_mem_cons.mpr ⟨lw_p15, fun _ h => absurd h List.not_mem_nil⟩⟩⟩⟩⟩⟩⟩⟩⟩⟩⟩⟩⟩⟩⟩⟩
theorem lw_p16 : lw_okq (⟨"FoxReply$RuleReader", "put", "(I)V"⟩, 15) := ⟨⟨by decide +kernel, by decide +kernel⟩, List.mem_of_getElem? (i := 147) (by decide +kernel), List.mem_of_getElem? (i := 622) (by decide +kernel), List.mem_of_getElem? (i := 623) (by decide +kernel)⟩
theorem lw_p17 : lw_okq (⟨"FoxReply$RuleReader", "lay", "(I)V"⟩, 15) := ⟨⟨by decide +kernel, by decide +kernel⟩, List.mem_of_getElem? (i := 147) (by decide +kernel), List.mem_of_getElem? (i := 626) (by decide +kernel), List.mem_of_getElem? (i := 627) (by decide +kernel)⟩
theorem lw_p18 : lw_okq (⟨"FoxReply$RuleReader", "readClause", "()I"⟩, 15) := ⟨⟨by decide +kernel, by decide +kernel⟩, List.mem_of_getElem? (i := 147) (by decide +kernel), List.mem_of_getElem? (i := 630) (by decide +kernel), List.mem_of_getElem? (i := 631) (by decide +kernel)⟩
theorem lw_p19 : lw_okq (⟨"FoxReply$RuleReader", "readValue", "()I"⟩, 15) := ⟨⟨by decide +kernel, by decide +kernel⟩, List.mem_of_getElem? (i := 147) (by decide +kernel), List.mem_of_getElem? (i := 634) (by decide +kernel), List.mem_of_getElem? (i := 635) (by decide +kernel)⟩
theorem lw_p20 : lw_okq (⟨"FoxReply$RuleReader", "readFact", "()I"⟩, 15) := ⟨⟨by decide +kernel, by decide +kernel⟩, List.mem_of_getElem? (i := 147) (by decide +kernel), List.mem_of_getElem? (i := 639) (by decide +kernel), List.mem_of_getElem? (i := 640) (by decide +kernel)⟩
theorem lw_p21 : lw_okq (⟨"FoxReply$RuleReader", "readBehindRide", "()I"⟩, 15) := ⟨⟨by decide +kernel, by decide +kernel⟩, List.mem_of_getElem? (i := 147) (by decide +kernel), List.mem_of_getElem? (i := 643) (by decide +kernel), List.mem_of_getElem? (i := 644) (by decide +kernel)⟩
theorem lw_p22 : lw_okq (⟨"FoxReply$RuleReader", "endSum", "()V"⟩, 15) := ⟨⟨by decide +kernel, by decide +kernel⟩, List.mem_of_getElem? (i := 147) (by decide +kernel), List.mem_of_getElem? (i := 647) (by decide +kernel), List.mem_of_getElem? (i := 648) (by decide +kernel)⟩
theorem lw_p23 : lw_okq (⟨"FoxReply$RuleReader", "endClause", "()V"⟩, 15) := ⟨⟨by decide +kernel, by decide +kernel⟩, List.mem_of_getElem? (i := 147) (by decide +kernel), List.mem_of_getElem? (i := 651) (by decide +kernel), List.mem_of_getElem? (i := 652) (by decide +kernel)⟩
theorem lw_p24 : lw_okq (⟨"FoxReply$RuleReader", "readCompare", "()I"⟩, 15) := ⟨⟨by decide +kernel, by decide +kernel⟩, List.mem_of_getElem? (i := 147) (by decide +kernel), List.mem_of_getElem? (i := 655) (by decide +kernel), List.mem_of_getElem? (i := 656) (by decide +kernel)⟩
theorem lw_p25 : lw_okq (⟨"FoxReply$RuleReader", "readBehindFact", "()I"⟩, 15) := ⟨⟨by decide +kernel, by decide +kernel⟩, List.mem_of_getElem? (i := 147) (by decide +kernel), List.mem_of_getElem? (i := 659) (by decide +kernel), List.mem_of_getElem? (i := 660) (by decide +kernel)⟩
theorem lw_p26 : lw_okq (⟨"FoxReply$RuleReader", "takeBracket", "()V"⟩, 15) := ⟨⟨by decide +kernel, by decide +kernel⟩, List.mem_of_getElem? (i := 147) (by decide +kernel), List.mem_of_getElem? (i := 663) (by decide +kernel), List.mem_of_getElem? (i := 664) (by decide +kernel)⟩
theorem lw_p27 : lw_okq (⟨"FoxReply", "isHunted", "()Z"⟩, 18) := ⟨⟨by decide +kernel, by decide +kernel⟩, List.mem_of_getElem? (i := 23) (by decide +kernel), List.mem_of_getElem? (i := 754) (by decide +kernel), List.mem_of_getElem? (i := 755) (by decide +kernel)⟩
theorem lw_p28 : lw_okq (⟨"FoxReply", "ruleOf", "(I)LFoxReply$Rule;"⟩, 18) := ⟨⟨by decide +kernel, by decide +kernel⟩, List.mem_of_getElem? (i := 23) (by decide +kernel), List.mem_of_getElem? (i := 764) (by decide +kernel), List.mem_of_getElem? (i := 765) (by decide +kernel)⟩
theorem lw_p29 : lw_okq (⟨"FoxReply$Stepper", "tellWordsOfAll", "(LFoxReply$Chase;)V"⟩, 5) := ⟨⟨by decide +kernel, by decide +kernel⟩, List.mem_of_getElem? (i := 272) (by decide +kernel), List.mem_of_getElem? (i := 772) (by decide +kernel), List.mem_of_getElem? (i := 773) (by decide +kernel)⟩
theorem lw_p30 : lw_okq (⟨"FoxReply$Stepper", "fieldsOf", "(LFoxReply$Chase;LFoxReply$Rule;I)I"⟩, 5) := ⟨⟨by decide +kernel, by decide +kernel⟩, List.mem_of_getElem? (i := 272) (by decide +kernel), List.mem_of_getElem? (i := 791) (by decide +kernel), List.mem_of_getElem? (i := 792) (by decide +kernel)⟩
theorem lw_p31 : lw_okq (⟨"FoxReply$Stepper", "tellWordsOf", "(LFoxReply$Chase;I)V"⟩, 5) := ⟨⟨by decide +kernel, by decide +kernel⟩, List.mem_of_getElem? (i := 272) (by decide +kernel), List.mem_of_getElem? (i := 796) (by decide +kernel), List.mem_of_getElem? (i := 797) (by decide +kernel)⟩
def lw_privs_2 : List (MethodName × Nat) := [(⟨"FoxReply$RuleReader", "put", "(I)V"⟩, 15), (⟨"FoxReply$RuleReader", "lay", "(I)V"⟩, 15), (⟨"FoxReply$RuleReader", "readClause", "()I"⟩, 15), (⟨"FoxReply$RuleReader", "readValue", "()I"⟩, 15), (⟨"FoxReply$RuleReader", "readFact", "()I"⟩, 15), (⟨"FoxReply$RuleReader", "readBehindRide", "()I"⟩, 15), (⟨"FoxReply$RuleReader", "endSum", "()V"⟩, 15), (⟨"FoxReply$RuleReader", "endClause", "()V"⟩, 15), (⟨"FoxReply$RuleReader", "readCompare", "()I"⟩, 15), (⟨"FoxReply$RuleReader", "readBehindFact", "()I"⟩, 15), (⟨"FoxReply$RuleReader", "takeBracket", "()V"⟩, 15), (⟨"FoxReply", "isHunted", "()Z"⟩, 18), (⟨"FoxReply", "ruleOf", "(I)LFoxReply$Rule;"⟩, 18), (⟨"FoxReply$Stepper", "tellWordsOfAll", "(LFoxReply$Chase;)V"⟩, 5), (⟨"FoxReply$Stepper", "fieldsOf", "(LFoxReply$Chase;LFoxReply$Rule;I)I"⟩, 5), (⟨"FoxReply$Stepper", "tellWordsOf", "(LFoxReply$Chase;I)V"⟩, 5)]
theorem lw_r2 : ∀ q ∈ lw_privs_2, lw_okq q := List.forall_mem_cons.mpr ⟨lw_p16, List.forall_mem_cons.mpr ⟨lw_p17, List.forall_mem_cons.mpr ⟨lw_p18, List.forall_mem_cons.mpr ⟨lw_p19, List.forall_mem_cons.mpr ⟨lw_p20, List.forall_mem_cons.mpr ⟨lw_p21, List.forall_mem_cons.mpr ⟨lw_p22, List.forall_mem_cons.mpr ⟨lw_p23, List.forall_mem_cons.mpr ⟨lw_p24, List.forall_mem_cons.mpr ⟨lw_p25, List.forall_mem_cons.mpr ⟨lw_p26, List.forall_mem_cons.mpr ⟨lw_p27, List.forall_mem_cons.mpr ⟨lw_p28, List.forall_mem_cons.mpr ⟨lw_p29, List.forall_mem_cons.mpr ⟨lw_p30, List.forall_mem_cons.mpr ⟨lw_p31, fun _ h => absurd h List.not_mem_nil⟩⟩⟩⟩⟩⟩⟩⟩⟩⟩⟩⟩⟩⟩⟩⟩
theorem lw_p32 : lw_okq (⟨"FoxReply$Rule", "reckon", "(II[J[J)J"⟩, 4) := ⟨⟨by decide +kernel, by decide +kernel⟩, List.mem_of_getElem? (i := 672) (by decide +kernel), List.mem_of_getElem? (i := 804) (by decide +kernel), List.mem_of_getElem? (i := 805) (by decide +kernel)⟩
theorem lw_p33 : lw_okq (⟨"FoxReply", "tryFromNow", "()V"⟩, 18) := ⟨⟨by decide +kernel, by decide +kernel⟩, List.mem_of_getElem? (i := 23) (by decide +kernel), List.mem_of_getElem? (i := 859) (by decide +kernel), List.mem_of_getElem? (i := 860) (by decide +kernel)⟩
theorem lw_p34 : lw_okq (⟨"FoxReply", "tryStep", "()I"⟩, 18) := ⟨⟨by decide +kernel, by decide +kernel⟩, List.mem_of_getElem? (i := 23) (by decide +kernel), List.mem_of_getElem? (i := 863) (by decide +kernel), List.mem_of_getElem? (i := 864) (by decide +kernel)⟩
theorem lw_p35 : lw_okq (⟨"FoxReply", "timesItOf", "(III)I"⟩, 18) := ⟨⟨by decide +kernel, by decide +kernel⟩, List.mem_of_getElem? (i := 23) (by decide +kernel), List.mem_of_getElem? (i := 875) (by decide +kernel), List.mem_of_getElem? (i := 876) (by decide +kernel)⟩
theorem lw_p36 : lw_okq (⟨"FoxReply$RowSearch", "search", "(I)V"⟩, 10) := ⟨⟨by decide +kernel, by decide +kernel⟩, List.mem_of_getElem? (i := 299) (by decide +kernel), List.mem_of_getElem? (i := 891) (by decide +kernel), List.mem_of_getElem? (i := 892) (by decide +kernel)⟩
theorem lw_p37 : lw_okq (⟨"FoxReply$RowSearch", "isNoBetter", "(LFoxReply$Chase;)Z"⟩, 10) := ⟨⟨by decide +kernel, by decide +kernel⟩, List.mem_of_getElem? (i := 299) (by decide +kernel), List.mem_of_getElem? (i := 895) (by decide +kernel), List.mem_of_getElem? (i := 896) (by decide +kernel)⟩
theorem lw_p38 : lw_okq (⟨"FoxReply$RowSearch", "mostFields", "(LFoxReply$Chase;)I"⟩, 10) := ⟨⟨by decide +kernel, by decide +kernel⟩, List.mem_of_getElem? (i := 299) (by decide +kernel), List.mem_of_getElem? (i := 899) (by decide +kernel), List.mem_of_getElem? (i := 900) (by decide +kernel)⟩
theorem lw_p39 : lw_okq (⟨"FoxReply", "timesItOfAll", "(II)I"⟩, 18) := ⟨⟨by decide +kernel, by decide +kernel⟩, List.mem_of_getElem? (i := 23) (by decide +kernel), List.mem_of_getElem? (i := 913) (by decide +kernel), List.mem_of_getElem? (i := 914) (by decide +kernel)⟩
theorem lw_p40 : lw_okq (⟨"FoxReply", "helps", "(II)Z"⟩, 18) := ⟨⟨by decide +kernel, by decide +kernel⟩, List.mem_of_getElem? (i := 23) (by decide +kernel), List.mem_of_getElem? (i := 926) (by decide +kernel), List.mem_of_getElem? (i := 927) (by decide +kernel)⟩
theorem lw_p41 : lw_okq (⟨"FoxReply", "areTwo", "(II)Z"⟩, 18) := ⟨⟨by decide +kernel, by decide +kernel⟩, List.mem_of_getElem? (i := 23) (by decide +kernel), List.mem_of_getElem? (i := 942) (by decide +kernel), List.mem_of_getElem? (i := 943) (by decide +kernel)⟩
theorem lw_p42 : lw_okq (⟨"FoxReply", "playAll", "(III)V"⟩, 18) := ⟨⟨by decide +kernel, by decide +kernel⟩, List.mem_of_getElem? (i := 23) (by decide +kernel), List.mem_of_getElem? (i := 972) (by decide +kernel), List.mem_of_getElem? (i := 973) (by decide +kernel)⟩
theorem lw_p43 : lw_okq (⟨"FoxReply", "isRest", "(II)Z"⟩, 18) := ⟨⟨by decide +kernel, by decide +kernel⟩, List.mem_of_getElem? (i := 23) (by decide +kernel), List.mem_of_getElem? (i := 979) (by decide +kernel), List.mem_of_getElem? (i := 980) (by decide +kernel)⟩
theorem lw_p44 : lw_okq (⟨"FoxReply", "judgeRules", "(I)I"⟩, 18) := ⟨⟨by decide +kernel, by decide +kernel⟩, List.mem_of_getElem? (i := 23) (by decide +kernel), List.mem_of_getElem? (i := 995) (by decide +kernel), List.mem_of_getElem? (i := 996) (by decide +kernel)⟩
theorem lw_p45 : lw_okq (⟨"FoxReply", "isSoBy", "(II)Z"⟩, 18) := ⟨⟨by decide +kernel, by decide +kernel⟩, List.mem_of_getElem? (i := 23) (by decide +kernel), List.mem_of_getElem? (i := 999) (by decide +kernel), List.mem_of_getElem? (i := 1000) (by decide +kernel)⟩
theorem lw_p46 : lw_okq (⟨"FoxReply", "mostAlike", "(I)I"⟩, 18) := ⟨⟨by decide +kernel, by decide +kernel⟩, List.mem_of_getElem? (i := 23) (by decide +kernel), List.mem_of_getElem? (i := 1019) (by decide +kernel), List.mem_of_getElem? (i := 1020) (by decide +kernel)⟩
theorem lw_p47 : lw_okq (⟨"FoxReply", "stumble", "(II)I"⟩, 18) := ⟨⟨by decide +kernel, by decide +kernel⟩, List.mem_of_getElem? (i := 23) (by decide +kernel), List.mem_of_getElem? (i := 1031) (by decide +kernel), List.mem_of_getElem? (i := 1032) (by decide +kernel)⟩
def lw_privs_3 : List (MethodName × Nat) := [(⟨"FoxReply$Rule", "reckon", "(II[J[J)J"⟩, 4), (⟨"FoxReply", "tryFromNow", "()V"⟩, 18), (⟨"FoxReply", "tryStep", "()I"⟩, 18), (⟨"FoxReply", "timesItOf", "(III)I"⟩, 18), (⟨"FoxReply$RowSearch", "search", "(I)V"⟩, 10), (⟨"FoxReply$RowSearch", "isNoBetter", "(LFoxReply$Chase;)Z"⟩, 10), (⟨"FoxReply$RowSearch", "mostFields", "(LFoxReply$Chase;)I"⟩, 10), (⟨"FoxReply", "timesItOfAll", "(II)I"⟩, 18), (⟨"FoxReply", "helps", "(II)Z"⟩, 18), (⟨"FoxReply", "areTwo", "(II)Z"⟩, 18), (⟨"FoxReply", "playAll", "(III)V"⟩, 18), (⟨"FoxReply", "isRest", "(II)Z"⟩, 18), (⟨"FoxReply", "judgeRules", "(I)I"⟩, 18), (⟨"FoxReply", "isSoBy", "(II)Z"⟩, 18), (⟨"FoxReply", "mostAlike", "(I)I"⟩, 18), (⟨"FoxReply", "stumble", "(II)I"⟩, 18)]
theorem lw_r3 : ∀ q ∈ lw_privs_3, lw_okq q := List.forall_mem_cons.mpr ⟨lw_p32, List.forall_mem_cons.mpr ⟨lw_p33, List.forall_mem_cons.mpr ⟨lw_p34, List.forall_mem_cons.mpr ⟨lw_p35, List.forall_mem_cons.mpr ⟨lw_p36, List.forall_mem_cons.mpr ⟨lw_p37, List.forall_mem_cons.mpr ⟨lw_p38, List.forall_mem_cons.mpr ⟨lw_p39, List.forall_mem_cons.mpr ⟨lw_p40, List.forall_mem_cons.mpr ⟨lw_p41, List.forall_mem_cons.mpr ⟨lw_p42, List.forall_mem_cons.mpr ⟨lw_p43, List.forall_mem_cons.mpr ⟨lw_p44, List.forall_mem_cons.mpr ⟨lw_p45, List.forall_mem_cons.mpr ⟨lw_p46, List.forall_mem_cons.mpr ⟨lw_p47, fun _ h => absurd h List.not_mem_nil⟩⟩⟩⟩⟩⟩⟩⟩⟩⟩⟩⟩⟩⟩⟩⟩
theorem lw_p48 : lw_okq (⟨"FoxReplyModel", "four", "(I)V"⟩, 38) := ⟨⟨by decide +kernel, by decide +kernel⟩, List.mem_of_getElem? (i := 1062) (by decide +kernel), List.mem_of_getElem? (i := 1187) (by decide +kernel), List.mem_of_getElem? (i := 1188) (by decide +kernel)⟩
theorem lw_p49 : lw_okq (⟨"FoxReplyModel", "readsAll", "()Z"⟩, 38) := ⟨⟨by decide +kernel, by decide +kernel⟩, List.mem_of_getElem? (i := 1062) (by decide +kernel), List.mem_of_getElem? (i := 1199) (by decide +kernel), List.mem_of_getElem? (i := 1200) (by decide +kernel)⟩
theorem lw_p50 : lw_okq (⟨"FoxReplyModel", "clauseHere", "()Z"⟩, 38) := ⟨⟨by decide +kernel, by decide +kernel⟩, List.mem_of_getElem? (i := 1062) (by decide +kernel), List.mem_of_getElem? (i := 1203) (by decide +kernel), List.mem_of_getElem? (i := 1204) (by decide +kernel)⟩
theorem lw_p51 : lw_okq (⟨"FoxReplyModel", "see", "()I"⟩, 38) := ⟨⟨by decide +kernel, by decide +kernel⟩, List.mem_of_getElem? (i := 1062) (by decide +kernel), List.mem_of_getElem? (i := 1207) (by decide +kernel), List.mem_of_getElem? (i := 1208) (by decide +kernel)⟩
theorem lw_p52 : lw_okq (⟨"FoxReplyModel", "isFoxWord", "()Z"⟩, 38) := ⟨⟨by decide +kernel, by decide +kernel⟩, List.mem_of_getElem? (i := 1062) (by decide +kernel), List.mem_of_getElem? (i := 1211) (by decide +kernel), List.mem_of_getElem? (i := 1212) (by decide +kernel)⟩
theorem lw_p53 : lw_okq (⟨"FoxReplyModel", "isWord", "(J)Z"⟩, 38) := ⟨⟨by decide +kernel, by decide +kernel⟩, List.mem_of_getElem? (i := 1062) (by decide +kernel), List.mem_of_getElem? (i := 1216) (by decide +kernel), List.mem_of_getElem? (i := 1217) (by decide +kernel)⟩
theorem lw_p54 : lw_okq (⟨"FoxReplyModel", "isLetter", "(I)Z"⟩, 38) := ⟨⟨by decide +kernel, by decide +kernel⟩, List.mem_of_getElem? (i := 1062) (by decide +kernel), List.mem_of_getElem? (i := 1220) (by decide +kernel), List.mem_of_getElem? (i := 1221) (by decide +kernel)⟩
theorem lw_p55 : lw_okq (⟨"FoxReplyModel", "fails", "(II)Z"⟩, 38) := ⟨⟨by decide +kernel, by decide +kernel⟩, List.mem_of_getElem? (i := 1062) (by decide +kernel), List.mem_of_getElem? (i := 1227) (by decide +kernel), List.mem_of_getElem? (i := 1228) (by decide +kernel)⟩
theorem lw_p56 : lw_okq (⟨"FoxReplyModel", "foxLineHere", "(I)Z"⟩, 38) := ⟨⟨by decide +kernel, by decide +kernel⟩, List.mem_of_getElem? (i := 1062) (by decide +kernel), List.mem_of_getElem? (i := 1231) (by decide +kernel), List.mem_of_getElem? (i := 1232) (by decide +kernel)⟩
theorem lw_p57 : lw_okq (⟨"FoxReplyModel", "isFoxHere", "(I)Z"⟩, 38) := ⟨⟨by decide +kernel, by decide +kernel⟩, List.mem_of_getElem? (i := 1062) (by decide +kernel), List.mem_of_getElem? (i := 1235) (by decide +kernel), List.mem_of_getElem? (i := 1236) (by decide +kernel)⟩
theorem lw_p58 : lw_okq (⟨"FoxReplyModel", "passWord", "()V"⟩, 38) := ⟨⟨by decide +kernel, by decide +kernel⟩, List.mem_of_getElem? (i := 1062) (by decide +kernel), List.mem_of_getElem? (i := 1239) (by decide +kernel), List.mem_of_getElem? (i := 1240) (by decide +kernel)⟩
theorem lw_p59 : lw_okq (⟨"FoxReplyModel", "cellHere", "(III)Z"⟩, 38) := ⟨⟨by decide +kernel, by decide +kernel⟩, List.mem_of_getElem? (i := 1062) (by decide +kernel), List.mem_of_getElem? (i := 1243) (by decide +kernel), List.mem_of_getElem? (i := 1244) (by decide +kernel)⟩
theorem lw_p60 : lw_okq (⟨"FoxReplyModel", "numberHere", "(II)Z"⟩, 38) := ⟨⟨by decide +kernel, by decide +kernel⟩, List.mem_of_getElem? (i := 1062) (by decide +kernel), List.mem_of_getElem? (i := 1247) (by decide +kernel), List.mem_of_getElem? (i := 1248) (by decide +kernel)⟩
theorem lw_p61 : lw_okq (⟨"FoxReplyModel", "isDigit", "(I)Z"⟩, 38) := ⟨⟨by decide +kernel, by decide +kernel⟩, List.mem_of_getElem? (i := 1062) (by decide +kernel), List.mem_of_getElem? (i := 1251) (by decide +kernel), List.mem_of_getElem? (i := 1252) (by decide +kernel)⟩
theorem lw_p62 : lw_okq (⟨"FoxReplyModel", "isRiderHere", "(I)Z"⟩, 38) := ⟨⟨by decide +kernel, by decide +kernel⟩, List.mem_of_getElem? (i := 1062) (by decide +kernel), List.mem_of_getElem? (i := 1258) (by decide +kernel), List.mem_of_getElem? (i := 1259) (by decide +kernel)⟩
theorem lw_p63 : lw_okq (⟨"FoxReplyModel", "isGateHere", "()Z"⟩, 38) := ⟨⟨by decide +kernel, by decide +kernel⟩, List.mem_of_getElem? (i := 1062) (by decide +kernel), List.mem_of_getElem? (i := 1262) (by decide +kernel), List.mem_of_getElem? (i := 1263) (by decide +kernel)⟩
def lw_privs_4 : List (MethodName × Nat) := [(⟨"FoxReplyModel", "four", "(I)V"⟩, 38), (⟨"FoxReplyModel", "readsAll", "()Z"⟩, 38), (⟨"FoxReplyModel", "clauseHere", "()Z"⟩, 38), (⟨"FoxReplyModel", "see", "()I"⟩, 38), (⟨"FoxReplyModel", "isFoxWord", "()Z"⟩, 38), (⟨"FoxReplyModel", "isWord", "(J)Z"⟩, 38), (⟨"FoxReplyModel", "isLetter", "(I)Z"⟩, 38), (⟨"FoxReplyModel", "fails", "(II)Z"⟩, 38), (⟨"FoxReplyModel", "foxLineHere", "(I)Z"⟩, 38), (⟨"FoxReplyModel", "isFoxHere", "(I)Z"⟩, 38), (⟨"FoxReplyModel", "passWord", "()V"⟩, 38), (⟨"FoxReplyModel", "cellHere", "(III)Z"⟩, 38), (⟨"FoxReplyModel", "numberHere", "(II)Z"⟩, 38), (⟨"FoxReplyModel", "isDigit", "(I)Z"⟩, 38), (⟨"FoxReplyModel", "isRiderHere", "(I)Z"⟩, 38), (⟨"FoxReplyModel", "isGateHere", "()Z"⟩, 38)]
theorem lw_r4 : ∀ q ∈ lw_privs_4, lw_okq q := List.forall_mem_cons.mpr ⟨lw_p48, List.forall_mem_cons.mpr ⟨lw_p49, List.forall_mem_cons.mpr ⟨lw_p50, List.forall_mem_cons.mpr ⟨lw_p51, List.forall_mem_cons.mpr ⟨lw_p52, List.forall_mem_cons.mpr ⟨lw_p53, List.forall_mem_cons.mpr ⟨lw_p54, List.forall_mem_cons.mpr ⟨lw_p55, List.forall_mem_cons.mpr ⟨lw_p56, List.forall_mem_cons.mpr ⟨lw_p57, List.forall_mem_cons.mpr ⟨lw_p58, List.forall_mem_cons.mpr ⟨lw_p59, List.forall_mem_cons.mpr ⟨lw_p60, List.forall_mem_cons.mpr ⟨lw_p61, List.forall_mem_cons.mpr ⟨lw_p62, List.forall_mem_cons.mpr ⟨lw_p63, fun _ h => absurd h List.not_mem_nil⟩⟩⟩⟩⟩⟩⟩⟩⟩⟩⟩⟩⟩⟩⟩⟩
theorem lw_p64 : lw_okq (⟨"FoxReplyModel", "isRideHere", "()Z"⟩, 38) := ⟨⟨by decide +kernel, by decide +kernel⟩, List.mem_of_getElem? (i := 1062) (by decide +kernel), List.mem_of_getElem? (i := 1266) (by decide +kernel), List.mem_of_getElem? (i := 1267) (by decide +kernel)⟩
theorem lw_p65 : lw_okq (⟨"FoxReplyModel", "sum", "()Z"⟩, 38) := ⟨⟨by decide +kernel, by decide +kernel⟩, List.mem_of_getElem? (i := 1062) (by decide +kernel), List.mem_of_getElem? (i := 1270) (by decide +kernel), List.mem_of_getElem? (i := 1271) (by decide +kernel)⟩
theorem lw_p66 : lw_okq (⟨"FoxReplyModel", "term", "()Z"⟩, 38) := ⟨⟨by decide +kernel, by decide +kernel⟩, List.mem_of_getElem? (i := 1062) (by decide +kernel), List.mem_of_getElem? (i := 1274) (by decide +kernel), List.mem_of_getElem? (i := 1275) (by decide +kernel)⟩
theorem lw_p67 : lw_okq (⟨"FoxReplyModel", "value", "()Z"⟩, 38) := ⟨⟨by decide +kernel, by decide +kernel⟩, List.mem_of_getElem? (i := 1062) (by decide +kernel), List.mem_of_getElem? (i := 1278) (by decide +kernel), List.mem_of_getElem? (i := 1279) (by decide +kernel)⟩
theorem lw_p68 : lw_okq (⟨"FoxReplyModel", "makes", "(I)Z"⟩, 38) := ⟨⟨by decide +kernel, by decide +kernel⟩, List.mem_of_getElem? (i := 1062) (by decide +kernel), List.mem_of_getElem? (i := 1283) (by decide +kernel), List.mem_of_getElem? (i := 1284) (by decide +kernel)⟩
theorem lw_p69 : lw_okq (⟨"FoxReplyModel", "puts", "(II)V"⟩, 38) := ⟨⟨by decide +kernel, by decide +kernel⟩, List.mem_of_getElem? (i := 1062) (by decide +kernel), List.mem_of_getElem? (i := 1287) (by decide +kernel), List.mem_of_getElem? (i := 1288) (by decide +kernel)⟩
theorem lw_p70 : lw_okq (⟨"FoxReplyModel", "wordHere", "()I"⟩, 38) := ⟨⟨by decide +kernel, by decide +kernel⟩, List.mem_of_getElem? (i := 1062) (by decide +kernel), List.mem_of_getElem? (i := 1291) (by decide +kernel), List.mem_of_getElem? (i := 1292) (by decide +kernel)⟩
theorem lw_p71 : lw_okq (⟨"FoxReplyModel", "takesWord", "(J)Z"⟩, 38) := ⟨⟨by decide +kernel, by decide +kernel⟩, List.mem_of_getElem? (i := 1062) (by decide +kernel), List.mem_of_getElem? (i := 1305) (by decide +kernel), List.mem_of_getElem? (i := 1306) (by decide +kernel)⟩
theorem lw_p72 : lw_okq (⟨"FoxReplyModel", "tested", "()Z"⟩, 38) := ⟨⟨by decide +kernel, by decide +kernel⟩, List.mem_of_getElem? (i := 1062) (by decide +kernel), List.mem_of_getElem? (i := 1309) (by decide +kernel), List.mem_of_getElem? (i := 1310) (by decide +kernel)⟩
theorem lw_p73 : lw_okq (⟨"FoxReplyModel", "fact", "()Z"⟩, 38) := ⟨⟨by decide +kernel, by decide +kernel⟩, List.mem_of_getElem? (i := 1062) (by decide +kernel), List.mem_of_getElem? (i := 1313) (by decide +kernel), List.mem_of_getElem? (i := 1314) (by decide +kernel)⟩
theorem lw_p74 : lw_okq (⟨"FoxReplyModel", "opens", "(I)Z"⟩, 38) := ⟨⟨by decide +kernel, by decide +kernel⟩, List.mem_of_getElem? (i := 1062) (by decide +kernel), List.mem_of_getElem? (i := 1318) (by decide +kernel), List.mem_of_getElem? (i := 1319) (by decide +kernel)⟩
theorem lw_p75 : lw_okq (⟨"FoxReplyModel", "compare", "()Z"⟩, 38) := ⟨⟨by decide +kernel, by decide +kernel⟩, List.mem_of_getElem? (i := 1062) (by decide +kernel), List.mem_of_getElem? (i := 1322) (by decide +kernel), List.mem_of_getElem? (i := 1323) (by decide +kernel)⟩
theorem lw_p76 : lw_okq (⟨"FoxReplyModel", "closes", "()V"⟩, 38) := ⟨⟨by decide +kernel, by decide +kernel⟩, List.mem_of_getElem? (i := 1062) (by decide +kernel), List.mem_of_getElem? (i := 1326) (by decide +kernel), List.mem_of_getElem? (i := 1327) (by decide +kernel)⟩
theorem lw_p77 : lw_okq (⟨"FoxReplyModel", "settles", "(I)V"⟩, 38) := ⟨⟨by decide +kernel, by decide +kernel⟩, List.mem_of_getElem? (i := 1062) (by decide +kernel), List.mem_of_getElem? (i := 1330) (by decide +kernel), List.mem_of_getElem? (i := 1331) (by decide +kernel)⟩
theorem lw_p78 : lw_okq (⟨"FoxReplyModel", "isInside", "()Z"⟩, 38) := ⟨⟨by decide +kernel, by decide +kernel⟩, List.mem_of_getElem? (i := 1062) (by decide +kernel), List.mem_of_getElem? (i := 1337) (by decide +kernel), List.mem_of_getElem? (i := 1338) (by decide +kernel)⟩
theorem lw_p79 : lw_okq (⟨"FoxReplyModel", "begins", "()V"⟩, 38) := ⟨⟨by decide +kernel, by decide +kernel⟩, List.mem_of_getElem? (i := 1062) (by decide +kernel), List.mem_of_getElem? (i := 1347) (by decide +kernel), List.mem_of_getElem? (i := 1348) (by decide +kernel)⟩
def lw_privs_5 : List (MethodName × Nat) := [(⟨"FoxReplyModel", "isRideHere", "()Z"⟩, 38), (⟨"FoxReplyModel", "sum", "()Z"⟩, 38), (⟨"FoxReplyModel", "term", "()Z"⟩, 38), (⟨"FoxReplyModel", "value", "()Z"⟩, 38), (⟨"FoxReplyModel", "makes", "(I)Z"⟩, 38), (⟨"FoxReplyModel", "puts", "(II)V"⟩, 38), (⟨"FoxReplyModel", "wordHere", "()I"⟩, 38), (⟨"FoxReplyModel", "takesWord", "(J)Z"⟩, 38), (⟨"FoxReplyModel", "tested", "()Z"⟩, 38), (⟨"FoxReplyModel", "fact", "()Z"⟩, 38), (⟨"FoxReplyModel", "opens", "(I)Z"⟩, 38), (⟨"FoxReplyModel", "compare", "()Z"⟩, 38), (⟨"FoxReplyModel", "closes", "()V"⟩, 38), (⟨"FoxReplyModel", "settles", "(I)V"⟩, 38), (⟨"FoxReplyModel", "isInside", "()Z"⟩, 38), (⟨"FoxReplyModel", "begins", "()V"⟩, 38)]
theorem lw_r5 : ∀ q ∈ lw_privs_5, lw_okq q := List.forall_mem_cons.mpr ⟨lw_p64, List.forall_mem_cons.mpr ⟨lw_p65, List.forall_mem_cons.mpr ⟨lw_p66, List.forall_mem_cons.mpr ⟨lw_p67, List.forall_mem_cons.mpr ⟨lw_p68, List.forall_mem_cons.mpr ⟨lw_p69, List.forall_mem_cons.mpr ⟨lw_p70, List.forall_mem_cons.mpr ⟨lw_p71, List.forall_mem_cons.mpr ⟨lw_p72, List.forall_mem_cons.mpr ⟨lw_p73, List.forall_mem_cons.mpr ⟨lw_p74, List.forall_mem_cons.mpr ⟨lw_p75, List.forall_mem_cons.mpr ⟨lw_p76, List.forall_mem_cons.mpr ⟨lw_p77, List.forall_mem_cons.mpr ⟨lw_p78, List.forall_mem_cons.mpr ⟨lw_p79, fun _ h => absurd h List.not_mem_nil⟩⟩⟩⟩⟩⟩⟩⟩⟩⟩⟩⟩⟩⟩⟩⟩
theorem lw_p80 : lw_okq (⟨"FoxReplyModel", "isRule", "(I)Z"⟩, 38) := ⟨⟨by decide +kernel, by decide +kernel⟩, List.mem_of_getElem? (i := 1062) (by decide +kernel), List.mem_of_getElem? (i := 1355) (by decide +kernel), List.mem_of_getElem? (i := 1356) (by decide +kernel)⟩
theorem lw_p81 : lw_okq (⟨"FoxReplyModel", "isRider", "(I)Z"⟩, 38) := ⟨⟨by decide +kernel, by decide +kernel⟩, List.mem_of_getElem? (i := 1062) (by decide +kernel), List.mem_of_getElem? (i := 1363) (by decide +kernel), List.mem_of_getElem? (i := 1364) (by decide +kernel)⟩
theorem lw_p82 : lw_okq (⟨"FoxReplyModel", "isField", "(I)Z"⟩, 38) := ⟨⟨by decide +kernel, by decide +kernel⟩, List.mem_of_getElem? (i := 1062) (by decide +kernel), List.mem_of_getElem? (i := 1372) (by decide +kernel), List.mem_of_getElem? (i := 1373) (by decide +kernel)⟩
theorem lw_p83 : lw_okq (⟨"FoxReplyModel", "isHunt", "()Z"⟩, 38) := ⟨⟨by decide +kernel, by decide +kernel⟩, List.mem_of_getElem? (i := 1062) (by decide +kernel), List.mem_of_getElem? (i := 1376) (by decide +kernel), List.mem_of_getElem? (i := 1377) (by decide +kernel)⟩
theorem lw_p84 : lw_okq (⟨"FoxReplyModel", "isGate", "(I)Z"⟩, 38) := ⟨⟨by decide +kernel, by decide +kernel⟩, List.mem_of_getElem? (i := 1062) (by decide +kernel), List.mem_of_getElem? (i := 1380) (by decide +kernel), List.mem_of_getElem? (i := 1381) (by decide +kernel)⟩
theorem lw_p85 : lw_okq (⟨"FoxReplyModel", "keepsAct", "()V"⟩, 38) := ⟨⟨by decide +kernel, by decide +kernel⟩, List.mem_of_getElem? (i := 1062) (by decide +kernel), List.mem_of_getElem? (i := 1395) (by decide +kernel), List.mem_of_getElem? (i := 1396) (by decide +kernel)⟩
theorem lw_p86 : lw_okq (⟨"FoxReplyModel", "passes", "()I"⟩, 38) := ⟨⟨by decide +kernel, by decide +kernel⟩, List.mem_of_getElem? (i := 1062) (by decide +kernel), List.mem_of_getElem? (i := 1399) (by decide +kernel), List.mem_of_getElem? (i := 1400) (by decide +kernel)⟩
theorem lw_p87 : lw_okq (⟨"FoxReplyModel", "ridesOf", "(I)I"⟩, 38) := ⟨⟨by decide +kernel, by decide +kernel⟩, List.mem_of_getElem? (i := 1062) (by decide +kernel), List.mem_of_getElem? (i := 1403) (by decide +kernel), List.mem_of_getElem? (i := 1404) (by decide +kernel)⟩
theorem lw_p88 : lw_okq (⟨"FoxReplyModel", "isOut", "(I)Z"⟩, 38) := ⟨⟨by decide +kernel, by decide +kernel⟩, List.mem_of_getElem? (i := 1062) (by decide +kernel), List.mem_of_getElem? (i := 1407) (by decide +kernel), List.mem_of_getElem? (i := 1408) (by decide +kernel)⟩
theorem lw_p89 : lw_okq (⟨"FoxReplyModel", "paceOf", "(I)I"⟩, 38) := ⟨⟨by decide +kernel, by decide +kernel⟩, List.mem_of_getElem? (i := 1062) (by decide +kernel), List.mem_of_getElem? (i := 1411) (by decide +kernel), List.mem_of_getElem? (i := 1412) (by decide +kernel)⟩
theorem lw_p90 : lw_okq (⟨"FoxReplyModel", "sumOf", "(I)J"⟩, 38) := ⟨⟨by decide +kernel, by decide +kernel⟩, List.mem_of_getElem? (i := 1062) (by decide +kernel), List.mem_of_getElem? (i := 1415) (by decide +kernel), List.mem_of_getElem? (i := 1416) (by decide +kernel)⟩
theorem lw_p91 : lw_okq (⟨"FoxReplyModel", "runOf", "(I)I"⟩, 38) := ⟨⟨by decide +kernel, by decide +kernel⟩, List.mem_of_getElem? (i := 1062) (by decide +kernel), List.mem_of_getElem? (i := 1419) (by decide +kernel), List.mem_of_getElem? (i := 1420) (by decide +kernel)⟩
theorem lw_p92 : lw_okq (⟨"FoxReplyModel", "outs", "()I"⟩, 38) := ⟨⟨by decide +kernel, by decide +kernel⟩, List.mem_of_getElem? (i := 1062) (by decide +kernel), List.mem_of_getElem? (i := 1423) (by decide +kernel), List.mem_of_getElem? (i := 1424) (by decide +kernel)⟩
theorem lw_p93 : lw_okq (⟨"FoxReplyModel", "wasOf", "(I)I"⟩, 38) := ⟨⟨by decide +kernel, by decide +kernel⟩, List.mem_of_getElem? (i := 1062) (by decide +kernel), List.mem_of_getElem? (i := 1430) (by decide +kernel), List.mem_of_getElem? (i := 1431) (by decide +kernel)⟩
theorem lw_p94 : lw_okq (⟨"FoxReplyModel", "toGate", "()I"⟩, 38) := ⟨⟨by decide +kernel, by decide +kernel⟩, List.mem_of_getElem? (i := 1062) (by decide +kernel), List.mem_of_getElem? (i := 1434) (by decide +kernel), List.mem_of_getElem? (i := 1435) (by decide +kernel)⟩
theorem lw_p95 : lw_okq (⟨"FoxReplyModel", "summedBy", "(I)J"⟩, 38) := ⟨⟨by decide +kernel, by decide +kernel⟩, List.mem_of_getElem? (i := 1062) (by decide +kernel), List.mem_of_getElem? (i := 1438) (by decide +kernel), List.mem_of_getElem? (i := 1439) (by decide +kernel)⟩
def lw_privs_6 : List (MethodName × Nat) := [(⟨"FoxReplyModel", "isRule", "(I)Z"⟩, 38), (⟨"FoxReplyModel", "isRider", "(I)Z"⟩, 38), (⟨"FoxReplyModel", "isField", "(I)Z"⟩, 38), (⟨"FoxReplyModel", "isHunt", "()Z"⟩, 38), (⟨"FoxReplyModel", "isGate", "(I)Z"⟩, 38), (⟨"FoxReplyModel", "keepsAct", "()V"⟩, 38), (⟨"FoxReplyModel", "passes", "()I"⟩, 38), (⟨"FoxReplyModel", "ridesOf", "(I)I"⟩, 38), (⟨"FoxReplyModel", "isOut", "(I)Z"⟩, 38), (⟨"FoxReplyModel", "paceOf", "(I)I"⟩, 38), (⟨"FoxReplyModel", "sumOf", "(I)J"⟩, 38), (⟨"FoxReplyModel", "runOf", "(I)I"⟩, 38), (⟨"FoxReplyModel", "outs", "()I"⟩, 38), (⟨"FoxReplyModel", "wasOf", "(I)I"⟩, 38), (⟨"FoxReplyModel", "toGate", "()I"⟩, 38), (⟨"FoxReplyModel", "summedBy", "(I)J"⟩, 38)]
theorem lw_r6 : ∀ q ∈ lw_privs_6, lw_okq q := List.forall_mem_cons.mpr ⟨lw_p80, List.forall_mem_cons.mpr ⟨lw_p81, List.forall_mem_cons.mpr ⟨lw_p82, List.forall_mem_cons.mpr ⟨lw_p83, List.forall_mem_cons.mpr ⟨lw_p84, List.forall_mem_cons.mpr ⟨lw_p85, List.forall_mem_cons.mpr ⟨lw_p86, List.forall_mem_cons.mpr ⟨lw_p87, List.forall_mem_cons.mpr ⟨lw_p88, List.forall_mem_cons.mpr ⟨lw_p89, List.forall_mem_cons.mpr ⟨lw_p90, List.forall_mem_cons.mpr ⟨lw_p91, List.forall_mem_cons.mpr ⟨lw_p92, List.forall_mem_cons.mpr ⟨lw_p93, List.forall_mem_cons.mpr ⟨lw_p94, List.forall_mem_cons.mpr ⟨lw_p95, fun _ h => absurd h List.not_mem_nil⟩⟩⟩⟩⟩⟩⟩⟩⟩⟩⟩⟩⟩⟩⟩⟩
theorem lw_p96 : lw_okq (⟨"FoxReplyModel", "reckons", "(III)J"⟩, 38) := ⟨⟨by decide +kernel, by decide +kernel⟩, List.mem_of_getElem? (i := 1062) (by decide +kernel), List.mem_of_getElem? (i := 1442) (by decide +kernel), List.mem_of_getElem? (i := 1443) (by decide +kernel)⟩
theorem lw_p97 : lw_okq (⟨"FoxReplyModel", "push", "(J)V"⟩, 38) := ⟨⟨by decide +kernel, by decide +kernel⟩, List.mem_of_getElem? (i := 1062) (by decide +kernel), List.mem_of_getElem? (i := 1446) (by decide +kernel), List.mem_of_getElem? (i := 1447) (by decide +kernel)⟩
theorem lw_p98 : lw_okq (⟨"FoxReplyModel", "pop", "()J"⟩, 38) := ⟨⟨by decide +kernel, by decide +kernel⟩, List.mem_of_getElem? (i := 1062) (by decide +kernel), List.mem_of_getElem? (i := 1450) (by decide +kernel), List.mem_of_getElem? (i := 1451) (by decide +kernel)⟩
theorem lw_p99 : lw_okq (⟨"FoxReplyModel", "turns", "()I"⟩, 38) := ⟨⟨by decide +kernel, by decide +kernel⟩, List.mem_of_getElem? (i := 1062) (by decide +kernel), List.mem_of_getElem? (i := 1457) (by decide +kernel), List.mem_of_getElem? (i := 1458) (by decide +kernel)⟩
theorem lw_p100 : lw_okq (⟨"FoxReplyModel", "lastOne", "()I"⟩, 38) := ⟨⟨by decide +kernel, by decide +kernel⟩, List.mem_of_getElem? (i := 1062) (by decide +kernel), List.mem_of_getElem? (i := 1461) (by decide +kernel), List.mem_of_getElem? (i := 1462) (by decide +kernel)⟩
theorem lw_p101 : lw_okq (⟨"FoxReplyModel", "changesGate", "(I)V"⟩, 38) := ⟨⟨by decide +kernel, by decide +kernel⟩, List.mem_of_getElem? (i := 1062) (by decide +kernel), List.mem_of_getElem? (i := 1482) (by decide +kernel), List.mem_of_getElem? (i := 1483) (by decide +kernel)⟩
theorem lw_p102 : lw_okq (⟨"FoxReplyModel", "keeps", "()V"⟩, 38) := ⟨⟨by decide +kernel, by decide +kernel⟩, List.mem_of_getElem? (i := 1062) (by decide +kernel), List.mem_of_getElem? (i := 1496) (by decide +kernel), List.mem_of_getElem? (i := 1497) (by decide +kernel)⟩
theorem lw_p103 : lw_okq (⟨"FoxReplyModel", "passesAll", "(I)V"⟩, 38) := ⟨⟨by decide +kernel, by decide +kernel⟩, List.mem_of_getElem? (i := 1062) (by decide +kernel), List.mem_of_getElem? (i := 1500) (by decide +kernel), List.mem_of_getElem? (i := 1501) (by decide +kernel)⟩
theorem lw_p104 : lw_okq (⟨"FoxReplyModel", "laysBack", "()V"⟩, 38) := ⟨⟨by decide +kernel, by decide +kernel⟩, List.mem_of_getElem? (i := 1062) (by decide +kernel), List.mem_of_getElem? (i := 1504) (by decide +kernel), List.mem_of_getElem? (i := 1505) (by decide +kernel)⟩
theorem lw_p105 : lw_okq (⟨"FoxReplyModel", "itsIn", "(I)I"⟩, 38) := ⟨⟨by decide +kernel, by decide +kernel⟩, List.mem_of_getElem? (i := 1062) (by decide +kernel), List.mem_of_getElem? (i := 1529) (by decide +kernel), List.mem_of_getElem? (i := 1530) (by decide +kernel)⟩
theorem lw_p106 : lw_okq (⟨"FoxReplyModel", "wasAll", "()I"⟩, 38) := ⟨⟨by decide +kernel, by decide +kernel⟩, List.mem_of_getElem? (i := 1062) (by decide +kernel), List.mem_of_getElem? (i := 1533) (by decide +kernel), List.mem_of_getElem? (i := 1534) (by decide +kernel)⟩
theorem lw_p107 : lw_okq (⟨"FoxReplyModel", "isNobodyTwice", "(I)Z"⟩, 38) := ⟨⟨by decide +kernel, by decide +kernel⟩, List.mem_of_getElem? (i := 1062) (by decide +kernel), List.mem_of_getElem? (i := 1541) (by decide +kernel), List.mem_of_getElem? (i := 1542) (by decide +kernel)⟩
theorem lw_p108 : lw_okq (⟨"FoxReplyModel", "haveAllBeen", "()Z"⟩, 38) := ⟨⟨by decide +kernel, by decide +kernel⟩, List.mem_of_getElem? (i := 1062) (by decide +kernel), List.mem_of_getElem? (i := 1549) (by decide +kernel), List.mem_of_getElem? (i := 1550) (by decide +kernel)⟩
theorem lw_p109 : lw_okq (⟨"FoxReplyModel", "farthestOf", "(I)I"⟩, 38) := ⟨⟨by decide +kernel, by decide +kernel⟩, List.mem_of_getElem? (i := 1062) (by decide +kernel), List.mem_of_getElem? (i := 1561) (by decide +kernel), List.mem_of_getElem? (i := 1562) (by decide +kernel)⟩
theorem lw_p110 : lw_okq (⟨"FoxReplyModel", "isRest", "(II)Z"⟩, 38) := ⟨⟨by decide +kernel, by decide +kernel⟩, List.mem_of_getElem? (i := 1062) (by decide +kernel), List.mem_of_getElem? (i := 1575) (by decide +kernel), List.mem_of_getElem? (i := 1576) (by decide +kernel)⟩
theorem lw_p111 : lw_okq (⟨"FoxReplyModel", "fillsFits", "(I)V"⟩, 38) := ⟨⟨by decide +kernel, by decide +kernel⟩, List.mem_of_getElem? (i := 1062) (by decide +kernel), List.mem_of_getElem? (i := 1595) (by decide +kernel), List.mem_of_getElem? (i := 1596) (by decide +kernel)⟩
def lw_privs_7 : List (MethodName × Nat) := [(⟨"FoxReplyModel", "reckons", "(III)J"⟩, 38), (⟨"FoxReplyModel", "push", "(J)V"⟩, 38), (⟨"FoxReplyModel", "pop", "()J"⟩, 38), (⟨"FoxReplyModel", "turns", "()I"⟩, 38), (⟨"FoxReplyModel", "lastOne", "()I"⟩, 38), (⟨"FoxReplyModel", "changesGate", "(I)V"⟩, 38), (⟨"FoxReplyModel", "keeps", "()V"⟩, 38), (⟨"FoxReplyModel", "passesAll", "(I)V"⟩, 38), (⟨"FoxReplyModel", "laysBack", "()V"⟩, 38), (⟨"FoxReplyModel", "itsIn", "(I)I"⟩, 38), (⟨"FoxReplyModel", "wasAll", "()I"⟩, 38), (⟨"FoxReplyModel", "isNobodyTwice", "(I)Z"⟩, 38), (⟨"FoxReplyModel", "haveAllBeen", "()Z"⟩, 38), (⟨"FoxReplyModel", "farthestOf", "(I)I"⟩, 38), (⟨"FoxReplyModel", "isRest", "(II)Z"⟩, 38), (⟨"FoxReplyModel", "fillsFits", "(I)V"⟩, 38)]
theorem lw_r7 : ∀ q ∈ lw_privs_7, lw_okq q := List.forall_mem_cons.mpr ⟨lw_p96, List.forall_mem_cons.mpr ⟨lw_p97, List.forall_mem_cons.mpr ⟨lw_p98, List.forall_mem_cons.mpr ⟨lw_p99, List.forall_mem_cons.mpr ⟨lw_p100, List.forall_mem_cons.mpr ⟨lw_p101, List.forall_mem_cons.mpr ⟨lw_p102, List.forall_mem_cons.mpr ⟨lw_p103, List.forall_mem_cons.mpr ⟨lw_p104, List.forall_mem_cons.mpr ⟨lw_p105, List.forall_mem_cons.mpr ⟨lw_p106, List.forall_mem_cons.mpr ⟨lw_p107, List.forall_mem_cons.mpr ⟨lw_p108, List.forall_mem_cons.mpr ⟨lw_p109, List.forall_mem_cons.mpr ⟨lw_p110, List.forall_mem_cons.mpr ⟨lw_p111, fun _ h => absurd h List.not_mem_nil⟩⟩⟩⟩⟩⟩⟩⟩⟩⟩⟩⟩⟩⟩⟩⟩
theorem lw_p112 : lw_okq (⟨"FoxReplyModel", "areNotesSo", "(I)Z"⟩, 38) := ⟨⟨by decide +kernel, by decide +kernel⟩, List.mem_of_getElem? (i := 1062) (by decide +kernel), List.mem_of_getElem? (i := 1599) (by decide +kernel), List.mem_of_getElem? (i := 1600) (by decide +kernel)⟩
theorem lw_p113 : lw_okq (⟨"FoxReplyModel", "alikeAt", "(I)I"⟩, 38) := ⟨⟨by decide +kernel, by decide +kernel⟩, List.mem_of_getElem? (i := 1062) (by decide +kernel), List.mem_of_getElem? (i := 1607) (by decide +kernel), List.mem_of_getElem? (i := 1608) (by decide +kernel)⟩
theorem lw_p114 : lw_okq (⟨"FoxReplyModel", "draw", "(I)I"⟩, 38) := ⟨⟨by decide +kernel, by decide +kernel⟩, List.mem_of_getElem? (i := 1062) (by decide +kernel), List.mem_of_getElem? (i := 1620) (by decide +kernel), List.mem_of_getElem? (i := 1621) (by decide +kernel)⟩
theorem lw_p115 : lw_okq (⟨"FoxReplyModel", "stumbles", "(I)V"⟩, 38) := ⟨⟨by decide +kernel, by decide +kernel⟩, List.mem_of_getElem? (i := 1062) (by decide +kernel), List.mem_of_getElem? (i := 1628) (by decide +kernel), List.mem_of_getElem? (i := 1629) (by decide +kernel)⟩
def lw_privs_8 : List (MethodName × Nat) := [(⟨"FoxReplyModel", "areNotesSo", "(I)Z"⟩, 38), (⟨"FoxReplyModel", "alikeAt", "(I)I"⟩, 38), (⟨"FoxReplyModel", "draw", "(I)I"⟩, 38), (⟨"FoxReplyModel", "stumbles", "(I)V"⟩, 38)]
theorem lw_r8 : ∀ q ∈ lw_privs_8, lw_okq q := List.forall_mem_cons.mpr ⟨lw_p112, List.forall_mem_cons.mpr ⟨lw_p113, List.forall_mem_cons.mpr ⟨lw_p114, List.forall_mem_cons.mpr ⟨lw_p115, fun _ h => absurd h List.not_mem_nil⟩⟩⟩⟩
def lw_privs : List (MethodName × Nat) := lw_privs_1 ++ (lw_privs_2 ++ (lw_privs_3 ++ (lw_privs_4 ++ (lw_privs_5 ++ (lw_privs_6 ++ (lw_privs_7 ++ (lw_privs_8)))))))
def lw_tbl : List Cond := k2_sels lw_privs ++ tables_1
theorem lw_privs_ok : ∀ q ∈ lw_privs, lw_okq q := by
  show ∀ q ∈ lw_privs_1 ++ (lw_privs_2 ++ (lw_privs_3 ++ (lw_privs_4 ++ (lw_privs_5 ++ (lw_privs_6 ++ (lw_privs_7 ++ (lw_privs_8))))))), lw_okq q
  exact List.forall_mem_append.mpr ⟨lw_r1, List.forall_mem_append.mpr ⟨lw_r2, List.forall_mem_append.mpr ⟨lw_r3, List.forall_mem_append.mpr ⟨lw_r4, List.forall_mem_append.mpr ⟨lw_r5, List.forall_mem_append.mpr ⟨lw_r6, List.forall_mem_append.mpr ⟨lw_r7, lw_r8⟩⟩⟩⟩⟩⟩⟩
end
section
/-! names and field tables (by wip/whole/gen.py, out of the claim's own texts) -/
def fx_T0 : u_T := fun k => match k with
  | 0 => ("FoxReply$Acts", "kept", "[LFoxReply$Chase;", true)
  | 1 => ("FoxReply$Acts", "next", "I", false)
  | _ => ("FoxReply$Acts", "many", "I", false)
def fx_T1 : u_T := fun k => match k with
  | 0 => ("FoxReply$Chase", "round", "I", false)
  | 1 => ("FoxReply$Chase", "foxPace", "I", false)
  | 2 => ("FoxReply$Chase", "law", "I", false)
  | 3 => ("FoxReply$Chase", "riders", "I", false)
  | 4 => ("FoxReply$Chase", "fox", "I", false)
  | 5 => ("FoxReply$Chase", "step", "I", false)
  | 6 => ("FoxReply$Chase", "gates", "J", false)
  | 7 => ("FoxReply$Chase", "run", "[I", true)
  | 8 => ("FoxReply$Chase", "pace", "[I", true)
  | 9 => ("FoxReply$Chase", "ground", "[I", true)
  | _ => ("FoxReply$Chase", "was", "[I", true)
def fx_T2 : u_T := fun k => match k with
  | 0 => ("FoxReply$HuntReader", "signs", "LFoxReply$Signs;", true)
  | 1 => ("FoxReply$HuntReader", "fault", "I", false)
  | _ => ("FoxReply$HuntReader", "told", "LFoxReply$Chase;", true)
def fx_T3 : u_T := fun k => match k with
  | 0 => ("FoxReply$Notes", "many", "I", false)
  | 1 => ("FoxReply$Notes", "steps", "[I", true)
  | 2 => ("FoxReply$Notes", "riders", "[I", true)
  | _ => ("FoxReply$Notes", "fars", "[I", true)
def fx_T4 : u_T := fun k => match k with
  | 0 => ("FoxReply$RowSearch", "stepper", "LFoxReply$Stepper;", true)
  | 1 => ("FoxReply$RowSearch", "behind", "[LFoxReply$Chase;", true)
  | 2 => ("FoxReply$RowSearch", "rule", "LFoxReply$Rule;", false)
  | 3 => ("FoxReply$RowSearch", "rider", "I", false)
  | 4 => ("FoxReply$RowSearch", "steps", "I", false)
  | 5 => ("FoxReply$RowSearch", "timesBefore", "I", false)
  | 6 => ("FoxReply$RowSearch", "first", "I", false)
  | 7 => ("FoxReply$RowSearch", "bestTimes", "I", false)
  | 8 => ("FoxReply$RowSearch", "bestRun", "I", false)
  | _ => ("FoxReply$RowSearch", "bestFirst", "I", false)
def fx_T5 : u_T := fun k => match k with
  | 0 => ("FoxReply$Rule", "codes", "[I", true)
  | 1 => ("FoxReply$Rule", "clauses", "I", true)
  | 2 => ("FoxReply$Rule", "sums", "[I", true)
  | _ => ("FoxReply$Rule", "tests", "[I", true)
def fx_T6 : u_T := fun k => match k with
  | 0 => ("FoxReply$RuleReader", "signs", "LFoxReply$Signs;", true)
  | 1 => ("FoxReply$RuleReader", "codes", "[I", true)
  | 2 => ("FoxReply$RuleReader", "sums", "[I", true)
  | 3 => ("FoxReply$RuleReader", "tests", "[I", true)
  | 4 => ("FoxReply$RuleReader", "waiting", "[I", true)
  | 5 => ("FoxReply$RuleReader", "codeCount", "I", false)
  | 6 => ("FoxReply$RuleReader", "clauses", "I", false)
  | 7 => ("FoxReply$RuleReader", "waitingCount", "I", false)
  | 8 => ("FoxReply$RuleReader", "deep", "I", false)
  | 9 => ("FoxReply$RuleReader", "brackets", "I", false)
  | 10 => ("FoxReply$RuleReader", "parts", "I", false)
  | 11 => ("FoxReply$RuleReader", "word", "I", false)
  | 12 => ("FoxReply$RuleReader", "want", "I", false)
  | 13 => ("FoxReply$RuleReader", "wantBehindSum", "I", false)
  | _ => ("FoxReply$RuleReader", "isBehindValue", "Z", false)
def fx_T7 : u_T := fun k => match k with
  | 0 => ("FoxReply$Signs", "text", "[B", true)
  | 1 => ("FoxReply$Signs", "length", "I", false)
  | 2 => ("FoxReply$Signs", "next", "I", false)
  | 3 => ("FoxReply$Signs", "kind", "I", false)
  | 4 => ("FoxReply$Signs", "place", "I", false)
  | _ => ("FoxReply$Signs", "value", "I", false)
def fx_T8 : u_T := fun k => match k with
  | 0 => ("FoxReply$Stepper", "words", "[J", true)
  | 1 => ("FoxReply$Stepper", "stack", "[J", true)
  | 2 => ("FoxReply$Stepper", "moves", "[I", true)
  | 3 => ("FoxReply$Stepper", "rowRider", "I", false)
  | _ => ("FoxReply$Stepper", "rowFields", "I", false)
def fx_T9 : u_T := fun k => match k with
  | 0 => ("FoxReply$World", "begun", "LFoxReply$Chase;", true)
  | 1 => ("FoxReply$World", "now", "LFoxReply$Chase;", true)
  | 2 => ("FoxReply$World", "notes", "LFoxReply$Notes;", true)
  | 3 => ("FoxReply$World", "force", "I", false)
  | _ => ("FoxReply$World", "x", "I", false)
def fx_T10 : u_T := fun k => match k with
  | 0 => ("FoxReply", "tape", "[B", true)
  | 1 => ("FoxReply", "tapeLength", "I", false)
  | 2 => ("FoxReply", "huntReader", "LFoxReply$HuntReader;", true)
  | 3 => ("FoxReply", "ruleReader", "LFoxReply$RuleReader;", true)
  | 4 => ("FoxReply", "rules", "[LFoxReply$Rule;", true)
  | 5 => ("FoxReply", "ruleCount", "I", false)
  | 6 => ("FoxReply", "world", "LFoxReply$World;", true)
  | 7 => ("FoxReply", "images", "[LFoxReply$World;", true)
  | 8 => ("FoxReply", "imageMade", "[Z", true)
  | 9 => ("FoxReply", "acts", "LFoxReply$Acts;", true)
  | 10 => ("FoxReply", "stepper", "LFoxReply$Stepper;", true)
  | 11 => ("FoxReply", "trial", "LFoxReply$Chase;", true)
  | 12 => ("FoxReply", "rowSearch", "LFoxReply$RowSearch;", true)
  | 13 => ("FoxReply", "byRun", "[I", true)
  | 14 => ("FoxReply", "gainOfOne", "[I", true)
  | 15 => ("FoxReply", "gainOfOther", "[I", true)
  | 16 => ("FoxReply", "isSo", "[Z", true)
  | _ => ("FoxReply", "seenRuns", "[I", true)
def fx_T11 : u_T := fun k => match k with
  | 0 => ("FoxReplyModel", "tape", "[B", true)
  | 1 => ("FoxReplyModel", "taped", "I", false)
  | 2 => ("FoxReplyModel", "rules", "I", false)
  | 3 => ("FoxReplyModel", "sign", "[I", true)
  | 4 => ("FoxReplyModel", "length", "[I", true)
  | 5 => ("FoxReplyModel", "clause", "[I", true)
  | 6 => ("FoxReplyModel", "clauses", "[I", true)
  | 7 => ("FoxReplyModel", "read", "[I", true)
  | 8 => ("FoxReplyModel", "next", "I", false)
  | 9 => ("FoxReplyModel", "wrong", "I", false)
  | 10 => ("FoxReplyModel", "number", "I", false)
  | 11 => ("FoxReplyModel", "text", "I", false)
  | 12 => ("FoxReplyModel", "made", "I", false)
  | 13 => ("FoxReplyModel", "deep", "I", false)
  | 14 => ("FoxReplyModel", "lines", "I", false)
  | 15 => ("FoxReplyModel", "open", "[I", true)
  | 16 => ("FoxReplyModel", "opened", "I", false)
  | 17 => ("FoxReplyModel", "stack", "[J", true)
  | 18 => ("FoxReplyModel", "top", "I", false)
  | 19 => ("FoxReplyModel", "word", "[J", true)
  | 20 => ("FoxReplyModel", "said", "[I", true)
  | 21 => ("FoxReplyModel", "force", "I", false)
  | 22 => ("FoxReplyModel", "x", "I", false)
  | 23 => ("FoxReplyModel", "rowRider", "I", false)
  | 24 => ("FoxReplyModel", "fields", "[I", true)
  | 25 => ("FoxReplyModel", "rowAt", "I", false)
  | 26 => ("FoxReplyModel", "rides", "[I", true)
  | 27 => ("FoxReplyModel", "wasSaid", "[I", true)
  | 28 => ("FoxReplyModel", "undone", "I", false)
  | 29 => ("FoxReplyModel", "kept", "[I", true)
  | 30 => ("FoxReplyModel", "hasBy", "[I", true)
  | 31 => ("FoxReplyModel", "isFit", "[Z", true)
  | 32 => ("FoxReplyModel", "runThen", "[I", true)
  | 33 => ("FoxReplyModel", "drawX", "J", false)
  | 34 => ("FoxReplyModel", "images", "[I", true)
  | 35 => ("FoxReplyModel", "imageForce", "[I", true)
  | 36 => ("FoxReplyModel", "imageX", "[I", true)
  | _ => ("FoxReplyModel", "isMade", "[Z", true)
def fx_cl : List vw_C := [("FoxReply$Acts", fx_T0, 3), ("FoxReply$Chase", fx_T1, 11), ("FoxReply$HuntReader", fx_T2, 3), ("FoxReply$Notes", fx_T3, 4), ("FoxReply$RowSearch", fx_T4, 10), ("FoxReply$Rule", fx_T5, 4), ("FoxReply$RuleReader", fx_T6, 15), ("FoxReply$Signs", fx_T7, 6), ("FoxReply$Stepper", fx_T8, 5), ("FoxReply$World", fx_T9, 5), ("FoxReply", fx_T10, 18), ("FoxReplyModel", fx_T11, 38)]
def fx_ty0 : Nat → FieldType := fun k => match k with
  | 0 => .array (.object "FoxReply$Chase")
  | 1 => .int
  | _ => .int
def fx_ty1 : Nat → FieldType := fun k => match k with
  | 0 => .int
  | 1 => .int
  | 2 => .int
  | 3 => .int
  | 4 => .int
  | 5 => .int
  | 6 => .long
  | 7 => .array .int
  | 8 => .array .int
  | 9 => .array .int
  | _ => .array .int
def fx_ty2 : Nat → FieldType := fun k => match k with
  | 0 => .object "FoxReply$Signs"
  | 1 => .int
  | _ => .object "FoxReply$Chase"
def fx_ty3 : Nat → FieldType := fun k => match k with
  | 0 => .int
  | 1 => .array .int
  | 2 => .array .int
  | _ => .array .int
def fx_ty4 : Nat → FieldType := fun k => match k with
  | 0 => .object "FoxReply$Stepper"
  | 1 => .array (.object "FoxReply$Chase")
  | 2 => .object "FoxReply$Rule"
  | 3 => .int
  | 4 => .int
  | 5 => .int
  | 6 => .int
  | 7 => .int
  | 8 => .int
  | _ => .int
def fx_ty5 : Nat → FieldType := fun k => match k with
  | 0 => .array .int
  | 1 => .int
  | 2 => .array .int
  | _ => .array .int
def fx_ty6 : Nat → FieldType := fun k => match k with
  | 0 => .object "FoxReply$Signs"
  | 1 => .array .int
  | 2 => .array .int
  | 3 => .array .int
  | 4 => .array .int
  | 5 => .int
  | 6 => .int
  | 7 => .int
  | 8 => .int
  | 9 => .int
  | 10 => .int
  | 11 => .int
  | 12 => .int
  | 13 => .int
  | _ => .boolean
def fx_ty7 : Nat → FieldType := fun k => match k with
  | 0 => .array .byte
  | 1 => .int
  | 2 => .int
  | 3 => .int
  | 4 => .int
  | _ => .int
def fx_ty8 : Nat → FieldType := fun k => match k with
  | 0 => .array .long
  | 1 => .array .long
  | 2 => .array .int
  | 3 => .int
  | _ => .int
def fx_ty9 : Nat → FieldType := fun k => match k with
  | 0 => .object "FoxReply$Chase"
  | 1 => .object "FoxReply$Chase"
  | 2 => .object "FoxReply$Notes"
  | 3 => .int
  | _ => .int
def fx_ty10 : Nat → FieldType := fun k => match k with
  | 0 => .array .byte
  | 1 => .int
  | 2 => .object "FoxReply$HuntReader"
  | 3 => .object "FoxReply$RuleReader"
  | 4 => .array (.object "FoxReply$Rule")
  | 5 => .int
  | 6 => .object "FoxReply$World"
  | 7 => .array (.object "FoxReply$World")
  | 8 => .array .boolean
  | 9 => .object "FoxReply$Acts"
  | 10 => .object "FoxReply$Stepper"
  | 11 => .object "FoxReply$Chase"
  | 12 => .object "FoxReply$RowSearch"
  | 13 => .array .int
  | 14 => .array .int
  | 15 => .array .int
  | 16 => .array .boolean
  | _ => .array .int
def fx_ty11 : Nat → FieldType := fun k => match k with
  | 0 => .array .byte
  | 1 => .int
  | 2 => .int
  | 3 => .array .int
  | 4 => .array .int
  | 5 => .array .int
  | 6 => .array .int
  | 7 => .array .int
  | 8 => .int
  | 9 => .int
  | 10 => .int
  | 11 => .int
  | 12 => .int
  | 13 => .int
  | 14 => .int
  | 15 => .array .int
  | 16 => .int
  | 17 => .array .long
  | 18 => .int
  | 19 => .array .long
  | 20 => .array .int
  | 21 => .int
  | 22 => .int
  | 23 => .int
  | 24 => .array .int
  | 25 => .int
  | 26 => .array .int
  | 27 => .array .int
  | 28 => .int
  | 29 => .array .int
  | 30 => .array .int
  | 31 => .array .boolean
  | 32 => .array .int
  | 33 => .long
  | 34 => .array .int
  | 35 => .array .int
  | 36 => .array .int
  | _ => .array .boolean
def fx_ty (ci : Nat) : Nat → FieldType := match ci with
  | 0 => fx_ty0
  | 1 => fx_ty1
  | 2 => fx_ty2
  | 3 => fx_ty3
  | 4 => fx_ty4
  | 5 => fx_ty5
  | 6 => fx_ty6
  | 7 => fx_ty7
  | 8 => fx_ty8
  | 9 => fx_ty9
  | 10 => fx_ty10
  | _ => fx_ty11
theorem fx_pl {ws : List Cond} (ps : List Nat) (h : ws = ps.filterMap (fun i => lw_tbl[i]?)) : ∀ w ∈ ws, w ∈ lw_tbl := by
  intro w hw
  rw [h] at hw
  obtain ⟨i, -, hi⟩ := List.mem_filterMap.mp hw
  exact List.mem_of_getElem? hi
set_option maxRecDepth 100000 in
theorem fx_in0 : ∀ w ∈ u_ws "FoxReply$Acts" fx_T0 3, w ∈ lw_tbl := fx_pl [379, 381, 383] (by decide +kernel)
theorem fx_tyok0 : ∀ k, k < 3 → parseFieldDescriptor (fx_T0 k).2.2.1 = some (fx_ty0 k) := by decide +kernel
theorem fx_nm0 : ∀ a, a < 3 → ∀ b, b < 3 → a ≠ b → (fx_T0 a).2.1 ≠ (fx_T0 b).2.1 := by decide +kernel
theorem fx_ins0 : Cond.instantiable "FoxReply$Acts" 3 ∈ lw_tbl := List.mem_of_getElem? (i := 367) (by decide +kernel)
theorem fx_ini0 : Cond.initialized "FoxReply$Acts" ∈ lw_tbl := List.mem_of_getElem? (i := 124) (by decide +kernel)
set_option maxRecDepth 100000 in
theorem fx_in1 : ∀ w ∈ u_ws "FoxReply$Chase" fx_T1 11, w ∈ lw_tbl := fx_pl [227, 229, 231, 233, 235, 237, 239, 241, 243, 245, 247] (by decide +kernel)
theorem fx_tyok1 : ∀ k, k < 11 → parseFieldDescriptor (fx_T1 k).2.2.1 = some (fx_ty1 k) := by decide +kernel
theorem fx_nm1 : ∀ a, a < 11 → ∀ b, b < 11 → a ≠ b → (fx_T1 a).2.1 ≠ (fx_T1 b).2.1 := by decide +kernel
theorem fx_ins1 : Cond.instantiable "FoxReply$Chase" 11 ∈ lw_tbl := List.mem_of_getElem? (i := 183) (by decide +kernel)
theorem fx_ini1 : Cond.initialized "FoxReply$Chase" ∈ lw_tbl := List.mem_of_getElem? (i := 120) (by decide +kernel)
set_option maxRecDepth 100000 in
theorem fx_in2 : ∀ w ∈ u_ws "FoxReply$HuntReader" fx_T2 3, w ∈ lw_tbl := fx_pl [255, 257, 259] (by decide +kernel)
theorem fx_tyok2 : ∀ k, k < 3 → parseFieldDescriptor (fx_T2 k).2.2.1 = some (fx_ty2 k) := by decide +kernel
theorem fx_nm2 : ∀ a, a < 3 → ∀ b, b < 3 → a ≠ b → (fx_T2 a).2.1 ≠ (fx_T2 b).2.1 := by decide +kernel
theorem fx_ins2 : Cond.instantiable "FoxReply$HuntReader" 3 ∈ lw_tbl := List.mem_of_getElem? (i := 147) (by decide +kernel)
theorem fx_ini2 : Cond.initialized "FoxReply$HuntReader" ∈ lw_tbl := List.mem_of_getElem? (i := 118) (by decide +kernel)
set_option maxRecDepth 100000 in
theorem fx_in3 : ∀ w ∈ u_ws "FoxReply$Notes" fx_T3 4, w ∈ lw_tbl := fx_pl [335, 337, 339, 341] (by decide +kernel)
theorem fx_tyok3 : ∀ k, k < 4 → parseFieldDescriptor (fx_T3 k).2.2.1 = some (fx_ty3 k) := by decide +kernel
theorem fx_nm3 : ∀ a, a < 4 → ∀ b, b < 4 → a ≠ b → (fx_T3 a).2.1 ≠ (fx_T3 b).2.1 := by decide +kernel
theorem fx_ins3 : Cond.instantiable "FoxReply$Notes" 4 ∈ lw_tbl := List.mem_of_getElem? (i := 325) (by decide +kernel)
theorem fx_ini3 : Cond.initialized "FoxReply$Notes" ∈ lw_tbl := List.mem_of_getElem? (i := 123) (by decide +kernel)
set_option maxRecDepth 100000 in
theorem fx_in4 : ∀ w ∈ u_ws "FoxReply$RowSearch" fx_T4 10, w ∈ lw_tbl := fx_pl [435, 437, 439, 441, 443, 445, 447, 449, 451, 453] (by decide +kernel)
theorem fx_tyok4 : ∀ k, k < 10 → parseFieldDescriptor (fx_T4 k).2.2.1 = some (fx_ty4 k) := by decide +kernel
theorem fx_nm4 : ∀ a, a < 10 → ∀ b, b < 10 → a ≠ b → (fx_T4 a).2.1 ≠ (fx_T4 b).2.1 := by decide +kernel
theorem fx_ins4 : Cond.instantiable "FoxReply$RowSearch" 10 ∈ lw_tbl := List.mem_of_getElem? (i := 415) (by decide +kernel)
theorem fx_ini4 : Cond.initialized "FoxReply$RowSearch" ∈ lw_tbl := List.mem_of_getElem? (i := 126) (by decide +kernel)
set_option maxRecDepth 100000 in
theorem fx_in5 : ∀ w ∈ u_ws "FoxReply$Rule" fx_T5 4, w ∈ lw_tbl := fx_pl [811, 813, 815, 817] (by decide +kernel)
theorem fx_tyok5 : ∀ k, k < 4 → parseFieldDescriptor (fx_T5 k).2.2.1 = some (fx_ty5 k) := by decide +kernel
theorem fx_nm5 : ∀ a, a < 4 → ∀ b, b < 4 → a ≠ b → (fx_T5 a).2.1 ≠ (fx_T5 b).2.1 := by decide +kernel
theorem fx_ins5 : Cond.instantiable "FoxReply$Rule" 4 ∈ lw_tbl := List.mem_of_getElem? (i := 788) (by decide +kernel)
theorem fx_ini5 : Cond.initialized "FoxReply$Rule" ∈ lw_tbl := List.mem_of_getElem? (i := 134) (by decide +kernel)
set_option maxRecDepth 100000 in
theorem fx_in6 : ∀ w ∈ u_ws "FoxReply$RuleReader" fx_T6 15, w ∈ lw_tbl := fx_pl [283, 285, 287, 289, 291, 293, 295, 297, 299, 301, 303, 305, 307, 309, 311] (by decide +kernel)
theorem fx_tyok6 : ∀ k, k < 15 → parseFieldDescriptor (fx_T6 k).2.2.1 = some (fx_ty6 k) := by decide +kernel
theorem fx_nm6 : ∀ a, a < 15 → ∀ b, b < 15 → a ≠ b → (fx_T6 a).2.1 ≠ (fx_T6 b).2.1 := by decide +kernel
theorem fx_ins6 : Cond.instantiable "FoxReply$RuleReader" 15 ∈ lw_tbl := List.mem_of_getElem? (i := 263) (by decide +kernel)
theorem fx_ini6 : Cond.initialized "FoxReply$RuleReader" ∈ lw_tbl := List.mem_of_getElem? (i := 121) (by decide +kernel)
set_option maxRecDepth 100000 in
theorem fx_in7 : ∀ w ∈ u_ws "FoxReply$Signs" fx_T7 6, w ∈ lw_tbl := fx_pl [164, 166, 168, 170, 172, 174] (by decide +kernel)
theorem fx_tyok7 : ∀ k, k < 6 → parseFieldDescriptor (fx_T7 k).2.2.1 = some (fx_ty7 k) := by decide +kernel
theorem fx_nm7 : ∀ a, a < 6 → ∀ b, b < 6 → a ≠ b → (fx_T7 a).2.1 ≠ (fx_T7 b).2.1 := by decide +kernel
theorem fx_ins7 : Cond.instantiable "FoxReply$Signs" 6 ∈ lw_tbl := List.mem_of_getElem? (i := 149) (by decide +kernel)
theorem fx_ini7 : Cond.initialized "FoxReply$Signs" ∈ lw_tbl := List.mem_of_getElem? (i := 119) (by decide +kernel)
set_option maxRecDepth 100000 in
theorem fx_in8 : ∀ w ∈ u_ws "FoxReply$Stepper" fx_T8 5, w ∈ lw_tbl := fx_pl [400, 402, 404, 406, 408] (by decide +kernel)
theorem fx_tyok8 : ∀ k, k < 5 → parseFieldDescriptor (fx_T8 k).2.2.1 = some (fx_ty8 k) := by decide +kernel
theorem fx_nm8 : ∀ a, a < 5 → ∀ b, b < 5 → a ≠ b → (fx_T8 a).2.1 ≠ (fx_T8 b).2.1 := by decide +kernel
theorem fx_ins8 : Cond.instantiable "FoxReply$Stepper" 5 ∈ lw_tbl := List.mem_of_getElem? (i := 388) (by decide +kernel)
theorem fx_ini8 : Cond.initialized "FoxReply$Stepper" ∈ lw_tbl := List.mem_of_getElem? (i := 125) (by decide +kernel)
set_option maxRecDepth 100000 in
theorem fx_in9 : ∀ w ∈ u_ws "FoxReply$World" fx_T9 5, w ∈ lw_tbl := fx_pl [354, 356, 358, 360, 362] (by decide +kernel)
theorem fx_tyok9 : ∀ k, k < 5 → parseFieldDescriptor (fx_T9 k).2.2.1 = some (fx_ty9 k) := by decide +kernel
theorem fx_nm9 : ∀ a, a < 5 → ∀ b, b < 5 → a ≠ b → (fx_T9 a).2.1 ≠ (fx_T9 b).2.1 := by decide +kernel
theorem fx_ins9 : Cond.instantiable "FoxReply$World" 5 ∈ lw_tbl := List.mem_of_getElem? (i := 317) (by decide +kernel)
theorem fx_ini9 : Cond.initialized "FoxReply$World" ∈ lw_tbl := List.mem_of_getElem? (i := 122) (by decide +kernel)
set_option maxRecDepth 100000 in
theorem fx_in10 : ∀ w ∈ u_ws "FoxReply" fx_T10 18, w ∈ lw_tbl := fx_pl [474, 476, 478, 480, 482, 484, 486, 488, 490, 492, 494, 496, 498, 500, 502, 504, 506, 508] (by decide +kernel)
theorem fx_tyok10 : ∀ k, k < 18 → parseFieldDescriptor (fx_T10 k).2.2.1 = some (fx_ty10 k) := by decide +kernel
theorem fx_nm10 : ∀ a, a < 18 → ∀ b, b < 18 → a ≠ b → (fx_T10 a).2.1 ≠ (fx_T10 b).2.1 := by decide +kernel
theorem fx_ins10 : Cond.instantiable "FoxReply" 18 ∈ lw_tbl := List.mem_of_getElem? (i := 139) (by decide +kernel)
theorem fx_ini10 : Cond.initialized "FoxReply" ∈ lw_tbl := List.mem_of_getElem? (i := 117) (by decide +kernel)
set_option maxRecDepth 100000 in
theorem fx_in11 : ∀ w ∈ u_ws "FoxReplyModel" fx_T11 38, w ∈ lw_tbl := fx_pl [1221, 1223, 1225, 1227, 1229, 1231, 1233, 1235, 1237, 1239, 1241, 1243, 1245, 1247, 1249, 1251, 1253, 1255, 1257, 1259, 1261, 1263, 1265, 1267, 1269, 1271, 1273, 1275, 1277, 1279, 1281, 1283, 1285, 1287, 1289, 1291, 1293, 1295] (by decide +kernel)
theorem fx_tyok11 : ∀ k, k < 38 → parseFieldDescriptor (fx_T11 k).2.2.1 = some (fx_ty11 k) := by decide +kernel
theorem fx_nm11 : ∀ a, a < 38 → ∀ b, b < 38 → a ≠ b → (fx_T11 a).2.1 ≠ (fx_T11 b).2.1 := by decide +kernel
theorem fx_ins11 : Cond.instantiable "FoxReplyModel" 38 ∈ lw_tbl := List.mem_of_getElem? (i := 1178) (by decide +kernel)
theorem fx_ini11 : Cond.initialized "FoxReplyModel" ∈ lw_tbl := List.mem_of_getElem? (i := 127) (by decide +kernel)
/-- what holds of each class of the table -/
theorem fx_clok : ∀ (ci : Nat) (q : vw_C), fx_cl[ci]? = some q → (∀ w ∈ u_ws q.1 q.2.1 q.2.2, w ∈ lw_tbl) ∧ (∀ k, k < q.2.2 → parseFieldDescriptor (q.2.1 k).2.2.1 = some (fx_ty ci k)) ∧ (∀ a, a < q.2.2 → ∀ b, b < q.2.2 → a ≠ b → (q.2.1 a).2.1 ≠ (q.2.1 b).2.1) ∧ Cond.instantiable q.1 q.2.2 ∈ lw_tbl ∧ Cond.initialized q.1 ∈ lw_tbl := by
  intro ci q h
  match ci, h with
  | 0, h => cases h; exact ⟨fx_in0, fx_tyok0, fx_nm0, fx_ins0, fx_ini0⟩
  | 1, h => cases h; exact ⟨fx_in1, fx_tyok1, fx_nm1, fx_ins1, fx_ini1⟩
  | 2, h => cases h; exact ⟨fx_in2, fx_tyok2, fx_nm2, fx_ins2, fx_ini2⟩
  | 3, h => cases h; exact ⟨fx_in3, fx_tyok3, fx_nm3, fx_ins3, fx_ini3⟩
  | 4, h => cases h; exact ⟨fx_in4, fx_tyok4, fx_nm4, fx_ins4, fx_ini4⟩
  | 5, h => cases h; exact ⟨fx_in5, fx_tyok5, fx_nm5, fx_ins5, fx_ini5⟩
  | 6, h => cases h; exact ⟨fx_in6, fx_tyok6, fx_nm6, fx_ins6, fx_ini6⟩
  | 7, h => cases h; exact ⟨fx_in7, fx_tyok7, fx_nm7, fx_ins7, fx_ini7⟩
  | 8, h => cases h; exact ⟨fx_in8, fx_tyok8, fx_nm8, fx_ins8, fx_ini8⟩
  | 9, h => cases h; exact ⟨fx_in9, fx_tyok9, fx_nm9, fx_ins9, fx_ini9⟩
  | 10, h => cases h; exact ⟨fx_in10, fx_tyok10, fx_nm10, fx_ins10, fx_ini10⟩
  | 11, h => cases h; exact ⟨fx_in11, fx_tyok11, fx_nm11, fx_ins11, fx_ini11⟩
  | n + 12, h => simp [fx_cl] at h
/-- the words that a callee takes over as they stand -/
def fx_tbl : List Cond := lw_tbl.filter goodWord
theorem fx_tb {w : Cond} (h : w ∈ lw_tbl) (g : goodWord w = true) : w ∈ fx_tbl := List.mem_filter.mpr ⟨h, g⟩
theorem fx_gi (c : Cond) (hc : c ∈ fx_tbl) : GoodIn fx_tbl (c :: fx_tbl) := by
  intro w hw
  have h : w ∈ fx_tbl := by
    rcases List.mem_cons.mp hw with rfl | h
    · exact hc
    · exact h
  exact ⟨h, good_of_word (List.mem_filter.mp h).2⟩
theorem fx_gi2 (c0 c : Cond) (hc : c ∈ fx_tbl) : GoodIn (c0 :: fx_tbl) (c :: fx_tbl) := fun w hw => ⟨List.mem_cons_of_mem _ (fx_gi c hc w hw).1, (fx_gi c hc w hw).2⟩
end
section
/-! an abstract machine over pictures of cells: kinds and numbers in place of addresses -/
abbrev fxR : Type := Nat × Nat
abbrev fxV : Type := Int32 ⊕ (Int64 ⊕ Option fxR)
/-- how many of a kind, lengths, references, ints, longs -/
abbrev fxH : Type := (Nat → Nat) × (Nat → Nat → Nat) × (Nat → Nat → Nat → Option fxR) × (Nat → Nat → Nat → Int32) × (Nat → Nat → Nat → Int64)
abbrev fxLv : Type := List (Option fxV)
/-- pc, locals, stack, heap, cells and slots made -/
abbrev fxC : Type := Nat × fxLv × List fxV × fxH × Nat × Nat
abbrev fxPl : Type := List (Nat × Nat × Nat × Nat) × List (Nat × Nat) × List (Nat × Nat) × List (Nat × Nat) × List (Nat × Int32) × List (Nat × Int64) × List (Nat × Nat)
/-- own class, bytes, locals, answer; instructions; the pool: fields, methods, primitives, classes, ints, longs, texts; kinds of what is made; a constructor; cells, slots -/
abbrev fxM : Type := (String × ByteArray × Nat × Option FieldType) × (Nat → Option Instr) × fxPl × List (Nat × Nat) × Bool × Nat × Nat
def fx_lk {α : Type} : List (Nat × α) → Nat → Option α
  | [], _ => none
  | q :: r, i => bif Nat.beq q.1 i then some q.2 else fx_lk r i
theorem fx_lk_mem {α : Type} {L : List (Nat × α)} {i : Nat} {v : α} (h : fx_lk L i = some v) : (i, v) ∈ L := by
  induction L with
  | nil => cases h
  | cons q r ih =>
    unfold fx_lk at h
    cases e : Nat.beq q.1 i with
    | true =>
      rw [e] at h
      cases h
      have := Nat.eq_of_beq_eq_true e
      subst this
      exact List.mem_cons_self
    | false =>
      rw [e] at h
      exact List.mem_cons_of_mem _ (ih h)
def fx_up {α : Type} (f : Nat → Nat → Nat → α) (k j s : Nat) (v : α) : Nat → Nat → Nat → α := fun a => if a = k then fun b => if b = j then fun c => if c = s then v else f a b c else f a b else f a
def fx_all {α : Type} (f : Nat → Nat → Nat → α) (k j : Nat) (g : Nat → α) : Nat → Nat → Nat → α := fun a => if a = k then fun b => if b = j then g else f a b else f a
def fx_wi (h : fxH) (k j s : Nat) (v : Int32) : fxH := (h.1, h.2.1, h.2.2.1, fx_up h.2.2.2.1 k j s v, h.2.2.2.2)
def fx_wl (h : fxH) (k j s : Nat) (v : Int64) : fxH := (h.1, h.2.1, h.2.2.1, h.2.2.2.1, fx_up h.2.2.2.2 k j s v)
def fx_wr (h : fxH) (k j s : Nat) (v : Option fxR) : fxH := (h.1, h.2.1, fx_up h.2.2.1 k j s v, h.2.2.2.1, h.2.2.2.2)
def fx_mk (h : fxH) (k n : Nat) : fxH := (fun a => if a = k then h.1 k + 1 else h.1 a, fun a => if a = k then fun b => if b = h.1 k then n else h.2.1 a b else h.2.1 a, fx_all h.2.2.1 k (h.1 k) (fun _ => none), fx_all h.2.2.2.1 k (h.1 k) (fun _ => 0), fx_all h.2.2.2.2 k (h.1 k) (fun _ => 0))
/-- a whole row of ints -/
def fx_wa (h : fxH) (k j : Nat) (g : Nat → Int32) : fxH := (h.1, h.2.1, h.2.2.1, fx_all h.2.2.2.1 k j g, h.2.2.2.2)
def fx_get (lv : fxLv) (i : Nat) : Option fxV := (lv[i]?).getD none
def fx_clr (lv : fxLv) : Nat → fxLv
  | 0 => lv
  | j + 1 => match fx_get lv j with
    | some (.inr (.inl _)) => lv.set j none
    | _ => lv
def fx_st1 (lv : fxLv) (i : Nat) (v : fxV) : fxLv := (fx_clr lv i).set i (some v)
def fx_st2 (lv : fxLv) (i : Nat) (v : fxV) : fxLv := ((fx_clr lv i).set i (some v)).set (i + 1) none
/-- an array's element by its kind: 0 int, 1 byte, 2 boolean, 3 long, 4 Chase, 5 World, 6 Rule -/
def fx_ek (k : Nat) : Nat := match k with
  | 20 => 1 | 29 => 6 | 33 => 5 | 34 => 2 | 35 => 4 | 36 => 3 | 37 => 3 | 39 => 4 | 43 => 2
  | 50 => 1 | 57 => 3 | 58 => 3 | 65 => 2 | 70 => 2
  | _ => 0
def fx_cat (v : fxV) : Nat := match v with
  | .inr (.inl _) => 2
  | _ => 1
/-- arrays that can be read (90 the script, 91 BINDS) and written -/
def fx_ar (k e : Nat) : Bool := Nat.ble 20 k && Nat.ble k 91 && Nat.beq (fx_ek k) e
def fx_aw (k e : Nat) : Bool := Nat.ble 20 k && Nat.ble k 89 && Nat.beq (fx_ek k) e
def fx_tgt (pc : Nat) (off : Int) : Nat := ((pc : Int) + off).toNat
def fx_tg0 (pc : Nat) (off : Int) : Bool := decide (0 ≤ (pc : Int) + off)
def fx_jmp (pc : Nat) (off : Int) (lv : fxLv) (st : List fxV) (h : fxH) (c n : Nat) : Option fxC := bif fx_tg0 pc off then some (fx_tgt pc off, lv, st, h, c, n) else none
def fx_br (b : Prop) [Decidable b] (pc : Nat) (off : Int) (lv : fxLv) (st : List fxV) (h : fxH) (c n : Nat) : Option fxC := bif fx_tg0 pc off then (if b then some (fx_tgt pc off, lv, st, h, c, n) else some (pc + 3, lv, st, h, c, n)) else none
/-- a step that is neither a call nor an end -/
def fx_stp (M : fxM) (pc : Nat) (i : Instr) (lv : fxLv) (st : List fxV) (h : fxH) (c n : Nat) : Option fxC :=
  match i with
  | .iconst v => some (pc + 1, lv, .inl (Int32.ofInt v) :: st, h, c, n)
  | .bipush v => some (pc + 2, lv, .inl (Int8.ofInt v).toInt32 :: st, h, c, n)
  | .sipush v => some (pc + 3, lv, .inl (Int16.ofInt v).toInt32 :: st, h, c, n)
  | .lconst v => some (pc + 1, lv, .inr (.inl (Int64.ofNat (v : Nat))) :: st, h, c, n)
  | .aconst_null => some (pc + 1, lv, .inr (.inr none) :: st, h, c, n)
  | .ldc x => match fx_lk M.2.2.1.2.2.2.2.1 x with
    | some v => some (pc + 2, lv, .inl v :: st, h, c, n)
    | none => match fx_lk M.2.2.1.2.2.2.2.2.2 x with
      | some j => some (pc + 2, lv, .inr (.inr (some (92, j))) :: st, h, c, n)
      | none => none
  | .ldc_w x => match fx_lk M.2.2.1.2.2.2.2.1 x with
    | some v => some (pc + 3, lv, .inl v :: st, h, c, n)
    | none => none
  | .ldc2_w x => match fx_lk M.2.2.1.2.2.2.2.2.1 x with
    | some v => some (pc + 3, lv, .inr (.inl v) :: st, h, c, n)
    | none => none
  | .iload_n k => match fx_get lv k with
    | some (.inl v) => some (pc + 1, lv, .inl v :: st, h, c, n)
    | _ => none
  | .iload k => match fx_get lv k with
    | some (.inl v) => some (pc + 2, lv, .inl v :: st, h, c, n)
    | _ => none
  | .lload_n k => match fx_get lv k with
    | some (.inr (.inl v)) => some (pc + 1, lv, .inr (.inl v) :: st, h, c, n)
    | _ => none
  | .lload k => match fx_get lv k with
    | some (.inr (.inl v)) => some (pc + 2, lv, .inr (.inl v) :: st, h, c, n)
    | _ => none
  | .aload_n k => match fx_get lv k with
    | some (.inr (.inr v)) => some (pc + 1, lv, .inr (.inr v) :: st, h, c, n)
    | _ => none
  | .aload k => match fx_get lv k with
    | some (.inr (.inr v)) => some (pc + 2, lv, .inr (.inr v) :: st, h, c, n)
    | _ => none
  | .istore_n k => match st with
    | .inl v :: r => bif Nat.blt k M.1.2.2.1 then some (pc + 1, fx_st1 lv k (.inl v), r, h, c, n) else none
    | _ => none
  | .istore k => match st with
    | .inl v :: r => bif Nat.blt k M.1.2.2.1 then some (pc + 2, fx_st1 lv k (.inl v), r, h, c, n) else none
    | _ => none
  | .lstore_n k => match st with
    | .inr (.inl v) :: r => bif Nat.blt (k + 1) M.1.2.2.1 then some (pc + 1, fx_st2 lv k (.inr (.inl v)), r, h, c, n) else none
    | _ => none
  | .lstore k => match st with
    | .inr (.inl v) :: r => bif Nat.blt (k + 1) M.1.2.2.1 then some (pc + 2, fx_st2 lv k (.inr (.inl v)), r, h, c, n) else none
    | _ => none
  | .astore_n k => match st with
    | .inr (.inr v) :: r => bif Nat.blt k M.1.2.2.1 then some (pc + 1, fx_st1 lv k (.inr (.inr v)), r, h, c, n) else none
    | _ => none
  | .astore k => match st with
    | .inr (.inr v) :: r => bif Nat.blt k M.1.2.2.1 then some (pc + 2, fx_st1 lv k (.inr (.inr v)), r, h, c, n) else none
    | _ => none
  | .iinc k x => match fx_get lv k with
    | some (.inl v) => bif Nat.blt k M.1.2.2.1 then some (pc + 3, fx_st1 lv k (.inl (v + Int32.ofInt x)), st, h, c, n) else none
    | _ => none
  | .iadd => match st with
    | .inl y :: .inl x :: r => some (pc + 1, lv, .inl (x + y) :: r, h, c, n)
    | _ => none
  | .isub => match st with
    | .inl y :: .inl x :: r => some (pc + 1, lv, .inl (x - y) :: r, h, c, n)
    | _ => none
  | .imul => match st with
    | .inl y :: .inl x :: r => some (pc + 1, lv, .inl (x * y) :: r, h, c, n)
    | _ => none
  | .iand => match st with
    | .inl y :: .inl x :: r => some (pc + 1, lv, .inl (x &&& y) :: r, h, c, n)
    | _ => none
  | .ior => match st with
    | .inl y :: .inl x :: r => some (pc + 1, lv, .inl (x ||| y) :: r, h, c, n)
    | _ => none
  | .ixor => match st with
    | .inl y :: .inl x :: r => some (pc + 1, lv, .inl (x ^^^ y) :: r, h, c, n)
    | _ => none
  | .ishl => match st with
    | .inl y :: .inl x :: r => some (pc + 1, lv, .inl (x <<< (y &&& 31)) :: r, h, c, n)
    | _ => none
  | .ishr => match st with
    | .inl y :: .inl x :: r => some (pc + 1, lv, .inl (x >>> (y &&& 31)) :: r, h, c, n)
    | _ => none
  | .iushr => match st with
    | .inl y :: .inl x :: r => some (pc + 1, lv, .inl (x.toUInt32 >>> (y.toUInt32 &&& Int32.toUInt32 31)).toInt32 :: r, h, c, n)
    | _ => none
  | .idiv => match st with
    | .inl y :: .inl x :: r => if y = 0 then none else some (pc + 1, lv, .inl (x / y) :: r, h, c, n)
    | _ => none
  | .irem => match st with
    | .inl y :: .inl x :: r => if y = 0 then none else some (pc + 1, lv, .inl (x - x / y * y) :: r, h, c, n)
    | _ => none
  | .ineg => match st with
    | .inl x :: r => some (pc + 1, lv, .inl (-x) :: r, h, c, n)
    | _ => none
  | .ladd => match st with
    | .inr (.inl y) :: .inr (.inl x) :: r => some (pc + 1, lv, .inr (.inl (x + y)) :: r, h, c, n)
    | _ => none
  | .lsub => match st with
    | .inr (.inl y) :: .inr (.inl x) :: r => some (pc + 1, lv, .inr (.inl (x - y)) :: r, h, c, n)
    | _ => none
  | .lmul => match st with
    | .inr (.inl y) :: .inr (.inl x) :: r => some (pc + 1, lv, .inr (.inl (x * y)) :: r, h, c, n)
    | _ => none
  | .land => match st with
    | .inr (.inl y) :: .inr (.inl x) :: r => some (pc + 1, lv, .inr (.inl (x &&& y)) :: r, h, c, n)
    | _ => none
  | .lor => match st with
    | .inr (.inl y) :: .inr (.inl x) :: r => some (pc + 1, lv, .inr (.inl (x ||| y)) :: r, h, c, n)
    | _ => none
  | .lxor => match st with
    | .inr (.inl y) :: .inr (.inl x) :: r => some (pc + 1, lv, .inr (.inl (x ^^^ y)) :: r, h, c, n)
    | _ => none
  | .ldiv => match st with
    | .inr (.inl y) :: .inr (.inl x) :: r => if y = 0 then none else some (pc + 1, lv, .inr (.inl (x / y)) :: r, h, c, n)
    | _ => none
  | .lrem => match st with
    | .inr (.inl y) :: .inr (.inl x) :: r => if y = 0 then none else some (pc + 1, lv, .inr (.inl (x - x / y * y)) :: r, h, c, n)
    | _ => none
  | .lneg => match st with
    | .inr (.inl x) :: r => some (pc + 1, lv, .inr (.inl (-x)) :: r, h, c, n)
    | _ => none
  | .lshl => match st with
    | .inl y :: .inr (.inl x) :: r => some (pc + 1, lv, .inr (.inl (x <<< (y.toInt64 &&& 63))) :: r, h, c, n)
    | _ => none
  | .lushr => match st with
    | .inl y :: .inr (.inl x) :: r => some (pc + 1, lv, .inr (.inl (x.toUInt64 >>> (y.toInt64.toUInt64 &&& Int64.toUInt64 63)).toInt64) :: r, h, c, n)
    | _ => none
  | .lcmp => match st with
    | .inr (.inl y) :: .inr (.inl x) :: r => some (pc + 1, lv, .inl (lg_cmp x y) :: r, h, c, n)
    | _ => none
  | .i2l => match st with
    | .inl x :: r => some (pc + 1, lv, .inr (.inl x.toInt64) :: r, h, c, n)
    | _ => none
  | .l2i => match st with
    | .inr (.inl x) :: r => some (pc + 1, lv, .inl x.toInt32 :: r, h, c, n)
    | _ => none
  | .i2b => match st with
    | .inl x :: r => some (pc + 1, lv, .inl x.toInt8.toInt32 :: r, h, c, n)
    | _ => none
  | .dup => match st with
    | .inr (.inl _) :: _ => none
    | v :: r => some (pc + 1, lv, v :: v :: r, h, c, n)
    | _ => none
  | .pop => match st with
    | .inr (.inl _) :: _ => none
    | _ :: r => some (pc + 1, lv, r, h, c, n)
    | _ => none
  | .dup2 => match st with
    | .inl y :: .inr (.inr x) :: r => some (pc + 1, lv, .inl y :: .inr (.inr x) :: .inl y :: .inr (.inr x) :: r, h, c, n)
    | _ => none
  | .getfield x => match fx_lk M.2.2.1.1 x with
    | some (ci, s, t) => match st with
      | .inr (.inr (some (k, j))) :: r => bif Nat.beq k ci then (match t with
        | 0 => some (pc + 3, lv, .inl (h.2.2.2.1 k j s) :: r, h, c, n)
        | 1 => some (pc + 3, lv, .inr (.inl (h.2.2.2.2 k j s)) :: r, h, c, n)
        | 2 => some (pc + 3, lv, .inr (.inr (h.2.2.1 k j s)) :: r, h, c, n)
        | _ => some (pc + 3, lv, .inl (h.2.2.2.1 k j s) :: r, h, c, n)) else none
      | _ => none
    | none => none
  | .putfield x => match fx_lk M.2.2.1.1 x with
    | some (ci, s, t) => match t, st with
      | 0, .inl v :: .inr (.inr (some (k, j))) :: r => bif Nat.beq k ci then some (pc + 3, lv, r, fx_wi h k j s v, c, n) else none
      | 1, .inr (.inl v) :: .inr (.inr (some (k, j))) :: r => bif Nat.beq k ci then some (pc + 3, lv, r, fx_wl h k j s v, c, n) else none
      | 2, .inr (.inr v) :: .inr (.inr (some (k, j))) :: r => bif Nat.beq k ci then some (pc + 3, lv, r, fx_wr h k j s v, c, n) else none
      | 3, .inl v :: .inr (.inr (some (k, j))) :: r => bif Nat.beq k ci then (if v = 0 ∨ v = 1 then some (pc + 3, lv, r, fx_wi h k j s v, c, n) else none) else none
      | _, _ => none
    | none => none
  | .getstatic _ => some (pc + 3, lv, .inr (.inr (some (91, 0))) :: st, h, c, n)
  | .iaload => match st with
    | .inl i :: .inr (.inr (some (k, j))) :: r => bif fx_ar k 0 then (if 0 ≤ i.toInt ∧ i.toInt < (h.2.1 k j : Int) then some (pc + 1, lv, .inl (h.2.2.2.1 k j i.toNatClampNeg) :: r, h, c, n) else none) else none
    | _ => none
  | .baload => match st with
    | .inl i :: .inr (.inr (some (k, j))) :: r => bif fx_aw k 1 || fx_aw k 2 then (if 0 ≤ i.toInt ∧ i.toInt < (h.2.1 k j : Int) then some (pc + 1, lv, .inl (h.2.2.2.1 k j i.toNatClampNeg) :: r, h, c, n) else none) else none
    | _ => none
  | .laload => match st with
    | .inl i :: .inr (.inr (some (k, j))) :: r => bif fx_aw k 3 then (if 0 ≤ i.toInt ∧ i.toInt < (h.2.1 k j : Int) then some (pc + 1, lv, .inr (.inl (h.2.2.2.2 k j i.toNatClampNeg)) :: r, h, c, n) else none) else none
    | _ => none
  | .aaload => match st with
    | .inl i :: .inr (.inr (some (k, j))) :: r => bif fx_aw k 4 || fx_aw k 5 || fx_aw k 6 then (if 0 ≤ i.toInt ∧ i.toInt < (h.2.1 k j : Int) then some (pc + 1, lv, .inr (.inr (h.2.2.1 k j i.toNatClampNeg)) :: r, h, c, n) else none) else none
    | _ => none
  | .iastore => match st with
    | .inl v :: .inl i :: .inr (.inr (some (k, j))) :: r => bif fx_aw k 0 then (if 0 ≤ i.toInt ∧ i.toInt < (h.2.1 k j : Int) then some (pc + 1, lv, r, fx_wi h k j i.toNatClampNeg v, c, n) else none) else none
    | _ => none
  | .bastore => match st with
    | .inl v :: .inl i :: .inr (.inr (some (k, j))) :: r => bif fx_aw k 1 then (if 0 ≤ i.toInt ∧ i.toInt < (h.2.1 k j : Int) then some (pc + 1, lv, r, fx_wi h k j i.toNatClampNeg v.toInt8.toInt32, c, n) else none) else (bif fx_aw k 2 then (if 0 ≤ i.toInt ∧ i.toInt < (h.2.1 k j : Int) then some (pc + 1, lv, r, fx_wi h k j i.toNatClampNeg (vp_nar .boolean v), c, n) else none) else none)
    | _ => none
  | .lastore => match st with
    | .inr (.inl v) :: .inl i :: .inr (.inr (some (k, j))) :: r => bif fx_aw k 3 then (if 0 ≤ i.toInt ∧ i.toInt < (h.2.1 k j : Int) then some (pc + 1, lv, r, fx_wl h k j i.toNatClampNeg v, c, n) else none) else none
    | _ => none
  | .aastore => match st with
    | .inr (.inr (some (k2, j2))) :: .inl i :: .inr (.inr (some (k, j))) :: r => bif (fx_aw k 4 && Nat.beq k2 1) || (fx_aw k 5 && Nat.beq k2 9) || (fx_aw k 6 && Nat.beq k2 5) then (if 0 ≤ i.toInt ∧ i.toInt < (h.2.1 k j : Int) then some (pc + 1, lv, r, fx_wr h k j i.toNatClampNeg (some (k2, j2)), c, n) else none) else none
    | _ => none
  | .arraylength => match st with
    | .inr (.inr (some (k, j))) :: r => bif Nat.ble 20 k && Nat.ble k 91 then some (pc + 1, lv, .inl (Int32.ofNat (h.2.1 k j)) :: r, h, c, n) else none
    | _ => none
  | .newarray t => match st, fx_lk M.2.2.2.1 pc with
    | .inl x :: r, some k => bif fx_aw k (match t with | .int => 0 | .byte => 1 | .boolean => 2 | .long => 3 | _ => 9) then (if 0 ≤ x.toInt ∧ x.toInt ≤ 3000 ∧ c + 1 ≤ M.2.2.2.2.2.1 ∧ n + x.toNatClampNeg ≤ M.2.2.2.2.2.2 then some (pc + 2, lv, .inr (.inr (some (k, h.1 k))) :: r, fx_mk h k x.toNatClampNeg, c + 1, n + x.toNatClampNeg) else none) else none
    | _, _ => none
  | .anewarray x => match st, fx_lk M.2.2.2.1 pc, fx_lk M.2.2.1.2.2.2.1 x with
    | .inl x :: r, some k, some ci => bif (fx_aw k 4 && Nat.beq ci 1) || (fx_aw k 5 && Nat.beq ci 9) || (fx_aw k 6 && Nat.beq ci 5) then (if 0 ≤ x.toInt ∧ x.toInt ≤ 3000 ∧ c + 1 ≤ M.2.2.2.2.2.1 ∧ n + x.toNatClampNeg ≤ M.2.2.2.2.2.2 then some (pc + 3, lv, .inr (.inr (some (k, h.1 k))) :: r, fx_mk h k x.toNatClampNeg, c + 1, n + x.toNatClampNeg) else none) else none
    | _, _, _ => none
  | .new x => match fx_lk M.2.2.1.2.2.2.1 x with
    | some ci => match fx_cl[ci]? with
      | some q => if c + 1 ≤ M.2.2.2.2.2.1 ∧ n + q.2.2 ≤ M.2.2.2.2.2.2 then some (pc + 3, lv, .inr (.inr (some (ci, h.1 ci))) :: st, fx_mk h ci 0, c + 1, n + q.2.2) else none
      | none => none
    | none => none
  | .goto o => fx_jmp pc o lv st h c n
  | .ifCond .eq o => match st with
    | .inl x :: r => fx_br (x = 0) pc o lv r h c n
    | _ => none
  | .ifCond .ne o => match st with
    | .inl x :: r => fx_br (¬ x = 0) pc o lv r h c n
    | _ => none
  | .ifCond .lt o => match st with
    | .inl x :: r => fx_br (x < 0) pc o lv r h c n
    | _ => none
  | .ifCond .ge o => match st with
    | .inl x :: r => fx_br (0 ≤ x) pc o lv r h c n
    | _ => none
  | .ifCond .gt o => match st with
    | .inl x :: r => fx_br (0 < x) pc o lv r h c n
    | _ => none
  | .ifCond .le o => match st with
    | .inl x :: r => fx_br (x ≤ 0) pc o lv r h c n
    | _ => none
  | .if_icmp .eq o => match st with
    | .inl y :: .inl x :: r => fx_br (x = y) pc o lv r h c n
    | _ => none
  | .if_icmp .ne o => match st with
    | .inl y :: .inl x :: r => fx_br (¬ x = y) pc o lv r h c n
    | _ => none
  | .if_icmp .lt o => match st with
    | .inl y :: .inl x :: r => fx_br (x < y) pc o lv r h c n
    | _ => none
  | .if_icmp .ge o => match st with
    | .inl y :: .inl x :: r => fx_br (y ≤ x) pc o lv r h c n
    | _ => none
  | .if_icmp .gt o => match st with
    | .inl y :: .inl x :: r => fx_br (y < x) pc o lv r h c n
    | _ => none
  | .if_icmp .le o => match st with
    | .inl y :: .inl x :: r => fx_br (x ≤ y) pc o lv r h c n
    | _ => none
  | .ifnull o => match st with
    | .inr (.inr none) :: r => fx_jmp pc o lv r h c n
    | .inr (.inr (some _)) :: r => some (pc + 3, lv, r, h, c, n)
    | _ => none
  | .ifnonnull o => match st with
    | .inr (.inr none) :: r => some (pc + 3, lv, r, h, c, n)
    | .inr (.inr (some _)) :: r => fx_jmp pc o lv r h c n
    | _ => none
  | .tableswitch d lo hi os => match st with
    | .inl x :: r => if x.toInt < lo ∨ hi < x.toInt then fx_jmp pc d lv r h c n else (match os[(x.toInt - lo).toNat]? with
      | some o => fx_jmp pc o lv r h c n
      | none => none)
    | _ => none
  | .lookupswitch d ps => match st with
    | .inl x :: r => bif (ps.toList.zip (ps.toList.drop 1)).all (fun (a, next) => decide (a.1 < next.1)) then fx_jmp pc (Op.lookupswitch.offset ps.toList d x.toInt) lv r h c n else none
    | _ => none
  | .checkcast _ => match st with
    | .inr (.inr (some (k, j))) :: r => bif fx_aw k 0 then some (pc + 3, lv, .inr (.inr (some (k, j))) :: r, h, c, n) else none
    | _ => none
  | .invokestatic x => match fx_lk M.2.2.1.2.2.1 x with
    | some 0 => match st with
      | .inl y :: .inl x :: r => bif Nat.ble (r.map fx_cat).sum 8 && Nat.ble c M.2.2.2.2.2.1 && Nat.ble n M.2.2.2.2.2.2 then some (pc + 3, lv, .inl (if x < y then y else x) :: r, h, c, n) else none
      | _ => none
    | some 1 => match st with
      | .inl y :: .inl x :: r => bif Nat.ble (r.map fx_cat).sum 8 && Nat.ble c M.2.2.2.2.2.1 && Nat.ble n M.2.2.2.2.2.2 then some (pc + 3, lv, .inl (if y < x then y else x) :: r, h, c, n) else none
      | _ => none
    | some 2 => match st with
      | .inr (.inl y) :: .inr (.inl x) :: r => bif Nat.ble (r.map fx_cat).sum 8 && Nat.ble c M.2.2.2.2.2.1 && Nat.ble n M.2.2.2.2.2.2 then some (pc + 3, lv, .inr (.inl (if y < x then y else x)) :: r, h, c, n) else none
      | _ => none
    | some 3 => match st with
      | .inl z :: .inl dp :: .inr (.inr (some (k1, j1))) :: .inl sp :: .inr (.inr (some (k0, j0))) :: r =>
        bif fx_aw k1 0 && fx_aw k0 0 && Nat.ble (r.map fx_cat).sum 8 then (if 0 ≤ sp.toInt ∧ 0 ≤ dp.toInt ∧ 0 ≤ z.toInt ∧ sp.toInt + z.toInt ≤ (h.2.1 k0 j0 : Int) ∧ dp.toInt + z.toInt ≤ (h.2.1 k1 j1 : Int) then some (pc + 3, lv, r, fx_wa h k1 j1 (va_cpy (h.2.2.2.1 k0 j0) (h.2.2.2.1 k1 j1) sp.toNatClampNeg dp.toNatClampNeg z.toNatClampNeg), c, n) else none) else none
      | _ => none
    | _ => none
  | .invokespecial x => match fx_lk M.2.2.1.2.2.1 x with
    | some 4 => match st with
      | .inr (.inr (some _)) :: r => bif Nat.ble (r.map fx_cat).sum 8 then some (pc + 3, lv, r, h, c, n) else none
      | _ => none
    | _ => none
  | .invokevirtual x => match fx_lk M.2.2.1.2.2.1 x with
    | some 5 => match st, fx_lk M.2.2.2.1 pc with
      | .inr (.inr (some (k, j))) :: r, some k1 => bif fx_aw k 0 && fx_aw k1 0 && Nat.ble (r.map fx_cat).sum 8 then (if c + 1 ≤ M.2.2.2.2.2.1 ∧ n + h.2.1 k j ≤ M.2.2.2.2.2.2 then some (pc + 3, lv, .inr (.inr (some (k1, h.1 k1))) :: r, fx_wa (fx_mk h k1 (h.2.1 k j)) k1 (h.1 k1) (h.2.2.2.1 k j), c + 1, n + h.2.1 k j) else none) else none
      | _, _ => none
    | _ => none
  | _ => none
end
section
/-! what the abstract machine's state says of the machine's -/
def fx_cv (ad : fxR → Nat) (v : fxV) : Value := match v with
  | .inl x => .int x
  | .inr (.inl x) => .long x
  | .inr (.inr none) => .null
  | .inr (.inr (some r)) => .ref (ad r)
def fx_ok (h : fxH) (v : fxV) : Prop := match v with
  | .inr (.inr (some r)) => r.2 < h.1 r.1
  | _ => True
theorem fx_cat_cv (ad : fxR → Nat) (v : fxV) : (fx_cv ad v).category = fx_cat v := by
  rcases v with x | x | (_ | r) <;> rfl
theorem fx_cats (ad : fxR → Nat) (st : List fxV) : ((st.map (fx_cv ad)).map fun v => v.category).sum = (st.map fx_cat).sum := by
  rw [List.map_map]
  congr 1
  exact List.map_congr_left (fun v _ => fx_cat_cv ad v)
theorem fx_rf (ad : fxR → Nat) (o : Option fxR) : fx_cv ad (.inr (.inr o)) = va_rf (o.map ad) := by
  cases o <;> rfl
theorem fx_tl {P : fxV → Prop} {a : fxV} {r : List fxV} (h : ∀ v ∈ a :: r, P v) : ∀ v ∈ r, P v := fun v hv => h v (List.mem_cons_of_mem _ hv)
theorem fx_hd {P : fxV → Prop} {a : fxV} {r : List fxV} (h : ∀ v ∈ a :: r, P v) : P a := h a List.mem_cons_self
theorem fx_cn {P : fxV → Prop} {a : fxV} {r : List fxV} (ha : P a) (h : ∀ v ∈ r, P v) : ∀ v ∈ a :: r, P v := fun v hv => (List.mem_cons.mp hv).elim (fun e => e ▸ ha) (h v)
theorem fx_ci {h : fxH} {x : Int32} {r : List fxV} (g : ∀ v ∈ r, fx_ok h v) : ∀ v ∈ (.inl x : fxV) :: r, fx_ok h v := fx_cn (P := fx_ok h) trivial g
theorem fx_cL {h : fxH} {x : Int64} {r : List fxV} (g : ∀ v ∈ r, fx_ok h v) : ∀ v ∈ (.inr (.inl x) : fxV) :: r, fx_ok h v := fx_cn (P := fx_ok h) trivial g
-- locals
def fx_lvo (ad : fxR → Nat) (lv : fxLv) : List (Nat × Value) := (List.range lv.length).filterMap (fun i => (fx_get lv i).map (fun v => (i, fx_cv ad v)))
theorem fx_get_lt {lv : fxLv} {i : Nat} {v : fxV} (h : fx_get lv i = some v) : i < lv.length := by
  unfold fx_get at h
  rcases Nat.lt_or_ge i lv.length with q | q
  · exact q
  · rw [List.getElem?_eq_none q] at h
    cases h
theorem fx_lvo_mem {ad : fxR → Nat} {lv : fxLv} {q : Nat × Value} : q ∈ fx_lvo ad lv ↔ ∃ v, fx_get lv q.1 = some v ∧ q.2 = fx_cv ad v := by
  unfold fx_lvo
  rw [List.mem_filterMap]
  constructor
  · rintro ⟨i, -, hi⟩
    obtain ⟨v, hv, rfl⟩ := Option.map_eq_some_iff.mp hi
    exact ⟨v, hv, rfl⟩
  · rintro ⟨v, hv, e⟩
    exact ⟨q.1, List.mem_range.mpr (fx_get_lt hv), by rw [hv]; simp [← e]⟩
theorem fx_get_set {lv : fxLv} {i j : Nat} {o : Option fxV} (h : j ≠ i) : fx_get (lv.set i o) j = fx_get lv j := by
  unfold fx_get
  rw [List.getElem?_set_ne (Ne.symm h)]
theorem fx_get_set_self {lv : fxLv} {i : Nat} {o : Option fxV} {v : fxV} (h : fx_get (lv.set i o) i = some v) : o = some v := by
  have hl := fx_get_lt h
  rw [List.length_set] at hl
  unfold fx_get at h
  rw [List.getElem?_set_self hl] at h
  exact h
theorem fx_get_clr {lv : fxLv} {i j : Nat} {v : fxV} (h : fx_get (fx_clr lv i) j = some v) : fx_get lv j = some v ∧ ¬ (j + 1 = i ∧ fx_cat v = 2) := by
  cases i with
  | zero => exact ⟨h, fun q => by omega⟩
  | succ k =>
    simp only [fx_clr] at h
    split at h
    · rename_i w hw
      by_cases e : j = k
      · subst e
        have := fx_get_set_self h
        cases this
      · rw [fx_get_set e] at h
        exact ⟨h, fun q => e (by omega)⟩
    · rename_i hw
      refine ⟨h, fun q => ?_⟩
      have e : j = k := by omega
      subst e
      rcases v with x | x | x
      · exact absurd q.2 (by show ¬ (1 = 2); decide)
      · exact hw x h
      · exact absurd q.2 (by show ¬ (1 = 2); decide)
theorem fx_clr_len (lv : fxLv) (i : Nat) : (fx_clr lv i).length = lv.length := by
  cases i with
  | zero => rfl
  | succ k =>
    simp only [fx_clr]
    split
    · exact List.length_set
    · rfl
theorem fx_st1_get {lv : fxLv} {i j : Nat} {v w : fxV} (h : fx_get (fx_st1 lv i v) j = some w) : (j = i ∧ w = v) ∨ (j ≠ i ∧ fx_get lv j = some w ∧ ¬ (j + 1 = i ∧ fx_cat w = 2)) := by
  unfold fx_st1 at h
  by_cases e : j = i
  · subst e
    have := fx_get_set_self h
    cases this
    exact Or.inl ⟨rfl, rfl⟩
  · rw [fx_get_set e] at h
    exact Or.inr ⟨e, fx_get_clr h⟩
theorem fx_st2_get {lv : fxLv} {i j : Nat} {v w : fxV} (h : fx_get (fx_st2 lv i v) j = some w) : (j = i ∧ w = v) ∨ (j ≠ i ∧ j ≠ i + 1 ∧ fx_get lv j = some w ∧ ¬ (j + 1 = i ∧ fx_cat w = 2)) := by
  unfold fx_st2 at h
  by_cases e1 : j = i + 1
  · subst e1
    have := fx_get_set_self h
    cases this
  · rw [fx_get_set e1] at h
    by_cases e : j = i
    · subst e
      have := fx_get_set_self h
      cases this
      exact Or.inl ⟨rfl, rfl⟩
    · rw [fx_get_set e] at h
      exact Or.inr ⟨e, e1, fx_get_clr h⟩
theorem fx_lv1 {ad : fxR → Nat} {ls : Array Slot} {nL i : Nat} {lv : fxLv} {v : fxV} (h : lv_has ls nL ((i, fx_cv ad v) :: (fx_lvo ad lv).filter (fun q => !(q.1 == i) && !(q.1 + 1 == i && q.2.category == 2)))) : lv_has ls nL (fx_lvo ad (fx_st1 lv i v)) := by
  refine ⟨h.1, h.2.1, fun q hq => h.2.2 q ?_⟩
  obtain ⟨w, hw, e⟩ := fx_lvo_mem.mp hq
  rcases fx_st1_get hw with ⟨a, b⟩ | ⟨a, b, d⟩
  · subst b
    rw [List.mem_cons]
    exact Or.inl (Prod.ext a e)
  · refine List.mem_cons_of_mem _ (List.mem_filter.mpr ⟨fx_lvo_mem.mpr ⟨w, b, e⟩, ?_⟩)
    rw [e, fx_cat_cv]
    simp only [Bool.and_eq_true, Bool.not_eq_true', beq_eq_false_iff_ne, Bool.and_eq_false_iff, ne_eq]
    refine ⟨a, ?_⟩
    by_cases z : q.1 + 1 = i
    · exact Or.inr (fun t => d ⟨z, t⟩)
    · exact Or.inl z
theorem fx_lv2 {ad : fxR → Nat} {ls : Array Slot} {nL i : Nat} {lv : fxLv} {v : fxV} (h : lv_has ls nL ((i, fx_cv ad v) :: (fx_lvo ad lv).filter (fun q => !(q.1 == i) && (!(q.1 == i + 1) && !(q.1 + 1 == i && q.2.category == 2))))) : lv_has ls nL (fx_lvo ad (fx_st2 lv i v)) := by
  refine ⟨h.1, h.2.1, fun q hq => h.2.2 q ?_⟩
  obtain ⟨w, hw, e⟩ := fx_lvo_mem.mp hq
  rcases fx_st2_get hw with ⟨a, b⟩ | ⟨a, a1, b, d⟩
  · subst b
    rw [List.mem_cons]
    exact Or.inl (Prod.ext a e)
  · refine List.mem_cons_of_mem _ (List.mem_filter.mpr ⟨fx_lvo_mem.mpr ⟨w, b, e⟩, ?_⟩)
    rw [e, fx_cat_cv]
    simp only [Bool.and_eq_true, Bool.not_eq_true', beq_eq_false_iff_ne, Bool.and_eq_false_iff, ne_eq]
    refine ⟨a, a1, ?_⟩
    by_cases z : q.1 + 1 = i
    · exact Or.inr (fun t => d ⟨z, t⟩)
    · exact Or.inl z
theorem fx_st1_len (lv : fxLv) (i : Nat) (v : fxV) : (fx_st1 lv i v).length = lv.length := by
  unfold fx_st1
  rw [List.length_set, fx_clr_len]
theorem fx_st2_len (lv : fxLv) (i : Nat) (v : fxV) : (fx_st2 lv i v).length = lv.length := by
  unfold fx_st2
  rw [List.length_set, List.length_set, fx_clr_len]
theorem fx_lvat {ad : fxR → Nat} {ls : Array Slot} {nL i : Nat} {lv : fxLv} {v : fxV} (h : lv_has ls nL (fx_lvo ad lv)) (hv : fx_get lv i = some v) : ls[i]? = some (.val (fx_cv ad v)) := h.2.2 (i, fx_cv ad v) (fx_lvo_mem.mpr ⟨v, hv, rfl⟩)
-- cells
def fx_tc (t : FieldType) : Nat := match t with
  | .int => 0
  | .long => 1
  | .boolean => 3
  | _ => 2
def fx_fv (ad : fxR → Nat) (h : fxH) (k j s : Nat) : Value := match fx_tc (fx_ty k s) with
  | 1 => .long (h.2.2.2.2 k j s)
  | 2 => va_rf ((h.2.2.1 k j s).map ad)
  | _ => .int (h.2.2.2.1 k j s)
def fx_nf (k : Nat) : Nat := match fx_cl[k]? with
  | some q => q.2.2
  | none => 0
def fx_ad (e : Nat) (ad : fxR → Nat) (h : fxH) (k j : Nat) : (Nat → Int32) ⊕ (Nat → Int64) ⊕ (Nat → UInt32) ⊕ (Nat → UInt64) ⊕ (Nat → Option Nat) := match e with
  | 0 => .inl (h.2.2.2.1 k j)
  | 1 => .inl (h.2.2.2.1 k j)
  | 2 => .inl (h.2.2.2.1 k j)
  | 3 => .inr (.inl (h.2.2.2.2 k j))
  | _ => .inr (.inr (.inr (.inr (fun s => (h.2.2.1 k j s).map ad))))
def fx_cell (aC : Nat → ClassId) (ad : fxR → Nat) (h : fxH) (r : fxR) : va_E :=
  if r.1 < 20 then .inr (r.1, (List.range (fx_nf r.1)).map (fx_fv ad h r.1 r.2)) else .inl (aC (fx_ek r.1), h.2.1 r.1 r.2, fx_ad (fx_ek r.1) ad h r.1 r.2)
def fx_ws (aC : Nat → ClassId) (ad : fxR → Nat) (h : fxH) (L : List fxR) : va_W := L.map (fun r => (ad r, fx_cell aC ad h r))
def fx_et (e : Nat) : FieldType := match e with
  | 0 => .int
  | 1 => .byte
  | 2 => .boolean
  | 3 => .long
  | 4 => .object "FoxReply$Chase"
  | 5 => .object "FoxReply$World"
  | _ => .object "FoxReply$Rule"
def fx_tys (aC : Nat → ClassId) : List (ClassId × FieldType) := (List.range 7).map (fun e => (aC e, fx_et e))
theorem fx_tys_at (aC : Nat → ClassId) {e : Nat} (h : e < 7) : (fx_tys aC)[e]? = some (aC e, fx_et e) := by
  unfold fx_tys
  rw [List.getElem?_map, List.getElem?_range h]
  rfl
theorem fx_ws_at {aC : Nat → ClassId} {ad : fxR → Nat} {h : fxH} {L : List fxR} {q : Nat} {r : fxR} (hq : L[q]? = some r) : (fx_ws aC ad h L)[q]? = some (ad r, fx_cell aC ad h r) := by
  unfold fx_ws
  rw [List.getElem?_map, hq]
  rfl
theorem fx_ws_nd {aC : Nat → ClassId} {ad : fxR → Nat} {h : fxH} {L : List fxR} {A : Nat → Prop} (hD : va_D A (fx_ws aC ad h L)) {q q' : Nat} {r : fxR} (h1 : L[q]? = some r) (h2 : L[q']? = some r) : q = q' := hD.1 q q' _ _ (fx_ws_at h1) (fx_ws_at h2) rfl
/-- one cell is another, all else stays -/
theorem fx_ws_set {aC : Nat → ClassId} {ad : fxR → Nat} {h h' : fxH} {L : List fxR} {A : Nat → Prop} (hD : va_D A (fx_ws aC ad h L)) {q : Nat} {r : fxR} (hq : L[q]? = some r) {e : va_E} (he : fx_cell aC ad h' r = e) (ho : ∀ r', r' ≠ r → fx_cell aC ad h' r' = fx_cell aC ad h r') : (fx_ws aC ad h L).set q (ad r, e) = fx_ws aC ad h' L := by
  apply List.ext_getElem?
  intro i
  by_cases e1 : q = i
  · subst e1
    rw [List.getElem?_set_self (by unfold fx_ws; rw [List.length_map]; exact (List.getElem?_eq_some_iff.mp hq).1), fx_ws_at hq, he]
  · rw [List.getElem?_set_ne e1]
    unfold fx_ws
    rw [List.getElem?_map, List.getElem?_map]
    cases hi : L[i]? with
    | none => rfl
    | some r' =>
      have hne : r' ≠ r := fun z => e1 (fx_ws_nd hD hq (by rw [hi, z]))
      simp only [Option.map_some, ho r' hne]
end
section
/-! texts, BINDS, nest mates: what lies outside (by wip/whole/gen.py) -/
def fx_slen : List Nat := [3, 5, 4, 4, 3, 6, 5, 3, 3, 7, 3, 4, 3, 2, 3, 2, 4, 0]
def fx_sbyt : List (List Int32) := [[102, 111, 120], [114, 105, 100, 101, 114], [103, 97, 116, 101], [112, 97, 99, 101], [103, 97, 112], [98, 101, 104, 105, 110, 100], [108, 101, 118, 101, 108], [111, 117, 116], [119, 97, 115], [102, 111, 120, 112, 97, 99, 101], [108, 97, 119], [115, 116, 101, 112], [97, 110, 100], [111, 114], [110, 111, 116], [105, 102], [114, 105, 100, 101], []]
def fx_srefs : List (String × Nat × String × Nat) := [("FoxReply$HuntReader", 48, "fox", 0), ("FoxReply$HuntReader", 54, "rider", 1), ("FoxReply$HuntReader", 56, "gate", 2), ("FoxReply$RuleReader", 154, "rider", 1), ("FoxReply$RuleReader", 156, "pace", 3), ("FoxReply$RuleReader", 158, "gap", 4), ("FoxReply$RuleReader", 160, "behind", 5), ("FoxReply$RuleReader", 162, "level", 6), ("FoxReply$RuleReader", 164, "out", 7), ("FoxReply$RuleReader", 166, "was", 8), ("FoxReply$RuleReader", 168, "gate", 2), ("FoxReply$RuleReader", 170, "foxpace", 9), ("FoxReply$RuleReader", 172, "law", 10), ("FoxReply$RuleReader", 174, "step", 11), ("FoxReply$RuleReader", 176, "and", 12), ("FoxReply$RuleReader", 178, "or", 13), ("FoxReply$RuleReader", 180, "not", 14), ("FoxReply$RuleReader", 182, "if", 15), ("FoxReply$RuleReader", 184, "ride", 16), ("FoxReply$RuleReader", 186, "", 17)]
def fx_binds (j : Nat) : Int32 := ([5, 5, 6, 6, 6, 4, 4, 4, 4, 4, 2, 1, 3, 0] : List Int32).getD j 0
def fx_nests : List (String × Nat × MethodName × String) := [("FoxReply$HuntReader", 11, ⟨"FoxReply$Chase", "<init>", "()V"⟩, "FoxReply"), ("FoxReply", 42, ⟨"FoxReply$World", "<init>", "()V"⟩, "FoxReply"), ("FoxReply$World", 11, ⟨"FoxReply$Chase", "<init>", "()V"⟩, "FoxReply"), ("FoxReply$World", 23, ⟨"FoxReply$Notes", "<init>", "()V"⟩, "FoxReply"), ("FoxReply$Acts", 15, ⟨"FoxReply$Chase", "<init>", "()V"⟩, "FoxReply"), ("FoxReply", 64, ⟨"FoxReply$Stepper", "<init>", "()V"⟩, "FoxReply"), ("FoxReply", 71, ⟨"FoxReply$Chase", "<init>", "()V"⟩, "FoxReply"), ("FoxReply$RowSearch", 21, ⟨"FoxReply$Chase", "<init>", "()V"⟩, "FoxReply")]
/-- the script's cell, length and ints; BINDS' cell; the texts' cells -/
abbrev fxX : Type := Nat × Nat × (Nat → Int32) × Nat × (Nat → Nat) × (Nat → Nat)
def fx_Xs (X : fxX) (A : Nat → Prop) (s : State) : Prop :=
  (va_X X.1 X.2.1 X.2.2.1 s s.heap ∧ X.1 < s.heap.size ∧ ¬ A X.1) ∧ va_Z "FoxReply$RuleReader" "BINDS" "[I" (.ref X.2.2.2.1) A s s.heap ∧ va_T .int X.2.2.2.1 14 (fun j => .int (fx_binds j)) A s s.heap ∧
  vk_S 18 fx_slen fx_sbyt X.2.2.2.2.1 X.2.2.2.2.2 A s s.heap ∧ (∀ q ∈ fx_srefs, vk_R q.1 q.2.1 q.2.2.1 (X.2.2.2.2.1 q.2.2.2) s) ∧ va_Z "java/lang/String" "COMPACT_STRINGS" "Z" (.int 1) A s s.heap ∧ va_Zq "jdk/internal/util/Preconditions" "SIOOBE_FORMATTER" "Ljava/util/function/BiFunction;" A s s.heap ∧
  (∀ q ∈ fx_nests, va_Nw (.methodLinkNest q.1 q.2.1 q.2.2.1 q.2.2.2) s) ∧ (va_AO "FoxReply$Chase" s ∧ va_AO "FoxReply$World" s ∧ va_AO "FoxReply$Rule" s) ∧ va_Nw (.castable "[I" "java/lang/Cloneable") s
theorem fx_Xs_moved {X : fxX} {A : Nat → Prop} {s U : State} {H : Heap} {locs : List Loc} (h : fx_Xs X A s) (hS : va_S A s.heap H locs) (hH : U.heap = H) (hW : s.WarmedH U.vm) : fx_Xs X A U := by
  obtain ⟨⟨h1, h2, h3⟩, h4, h5, h6, h7, h8, h9, h10, ⟨h11, h12, h13⟩, h14⟩ := h
  subst hH
  have ha := hW.alike
  have kq : ∀ a : Nat, a < s.heap.size → ¬ A a → U.heap[a]? = s.heap[a]? := hS.2.1
  exact ⟨⟨(h1.moved ha).kept (kq _ h2 h3), Nat.lt_of_lt_of_le h2 hS.1, h3⟩, (h4.moved ha).kept kq, (h5.moved ha).kept kq, (h6.moved ha).kept kq, fun q hq => (h7 q hq).warm hW, (h8.moved ha).kept kq, (h9.moved ha).kept kq, fun q hq => (h10 q hq).warmM hW, ⟨h11.moved ha, h12.moved ha, h13.moved ha⟩, h14.warmC hW⟩
theorem fx_Xs_blind {X : fxX} {A : Nat → Prop} {U : State} (g : JFrame) (mk : MethodId) (a : Array Value) (h : fx_Xs X A U) : fx_Xs X A (U.calling g mk a) := by
  obtain ⟨⟨h1, h2, h3⟩, h4, h5, h6, h7, h8, h9, h10, ⟨h11, h12, h13⟩, h14⟩ := h
  have ha : U.vm.Alike (U.calling g mk a).vm := Vm.Alike.refl U.vm
  exact ⟨⟨h1.moved ha, h2, h3⟩, h4.moved ha, h5.moved ha, h6.moved ha, fun q hq => (h7 q hq).same rfl, h8.moved ha, h9.moved ha, fun q hq => (h10 q hq).same rfl rfl, ⟨h11.moved ha, h12.moved ha, h13.moved ha⟩, h14.same rfl rfl⟩
/-- the heap holds what the abstract one says -/
def fx_Xh (X : fxX) (ad : fxR → Nat) (h : fxH) : Prop := ad (90, 0) = X.1 ∧ h.2.1 90 0 = X.2.1 ∧ (∀ j, h.2.2.2.1 90 0 j = X.2.2.1 j) ∧ h.1 90 = 1 ∧ ad (91, 0) = X.2.2.2.1 ∧ h.2.1 91 0 = 14 ∧ (∀ j, h.2.2.2.1 91 0 j = fx_binds j) ∧ h.1 91 = 1 ∧ (∀ i, i < 18 → ad (92, i) = X.2.2.2.2.1 i) ∧ h.1 92 = 18
def fx_He (A : Nat → Prop) (D : va_G) (aC : Nat → ClassId) (X : fxX) (ad : fxR → Nat) (L : List fxR) (h : fxH) (H : Heap) : Prop :=
  va_P D fx_cl (fx_ws aC ad h L) H ∧ va_D A (fx_ws aC ad h L) ∧ (∀ r, r ∈ L ↔ (r.1 < 90 ∧ r.2 < h.1 r.1)) ∧ (∀ k j t r, j < h.1 k → h.2.2.1 k j t = some r → r.2 < h.1 r.1) ∧ fx_Xh X ad h
def fx_ext (h : fxH) (ad : fxR → Nat) (h' : fxH) (ad' : fxR → Nat) : Prop := (∀ k, h.1 k ≤ h'.1 k) ∧ ∀ r, r.2 < h.1 r.1 → ad' r = ad r
theorem fx_ext.rf (h : fxH) (ad : fxR → Nat) : fx_ext h ad h ad := ⟨fun _ => Nat.le_refl _, fun _ _ => rfl⟩
theorem fx_ext.tr {h h' h'' : fxH} {ad ad' ad'' : fxR → Nat} (a : fx_ext h ad h' ad') (b : fx_ext h' ad' h'' ad'') : fx_ext h ad h'' ad'' := ⟨fun k => Nat.le_trans (a.1 k) (b.1 k), fun r hr => (b.2 r (Nat.lt_of_lt_of_le hr (a.1 _))).trans (a.2 r hr)⟩
theorem fx_ext.cv {h h' : fxH} {ad ad' : fxR → Nat} (a : fx_ext h ad h' ad') {v : fxV} (hv : fx_ok h v) : fx_cv ad' v = fx_cv ad v := by
  rcases v with x | x | (_ | r)
  · rfl
  · rfl
  · rfl
  · show Value.ref _ = Value.ref _
    rw [a.2 r hv]
theorem fx_ext.ok {h h' : fxH} {ad ad' : fxR → Nat} (a : fx_ext h ad h' ad') {v : fxV} (hv : fx_ok h v) : fx_ok h' v := by
  rcases v with x | x | (_ | r)
  · trivial
  · trivial
  · trivial
  · exact Nat.lt_of_lt_of_le hv (a.1 _)
theorem fx_ext.st {h h' : fxH} {ad ad' : fxR → Nat} (a : fx_ext h ad h' ad') {st : List fxV} (hv : ∀ v ∈ st, fx_ok h v) : st.map (fx_cv ad') = st.map (fx_cv ad) := List.map_congr_left (fun v h => a.cv (hv v h))
theorem fx_ext.lv {h h' : fxH} {ad ad' : fxR → Nat} (a : fx_ext h ad h' ad') {lv : fxLv} (hv : ∀ i v, fx_get lv i = some v → fx_ok h v) : fx_lvo ad' lv = fx_lvo ad lv := by
  unfold fx_lvo
  congr 1
  funext i
  cases hi : fx_get lv i with
  | none => rfl
  | some v => simp only [Option.map_some, a.cv (hv i v hi)]
/-- the cells are the same where only the addresses of what wasn't there differ -/
theorem fx_cell_ext {aC : Nat → ClassId} {h h' : fxH} {ad ad' : fxR → Nat} (a : fx_ext h ad h' ad') (hr : ∀ k j t r, j < h.1 k → h.2.2.1 k j t = some r → r.2 < h.1 r.1) (r : fxR) (h1 : r.2 < h.1 r.1) : fx_cell aC ad' h r = fx_cell aC ad h r := by
  have e : ∀ t, (h.2.2.1 r.1 r.2 t).map ad' = (h.2.2.1 r.1 r.2 t).map ad := fun t => by
    cases hx : h.2.2.1 r.1 r.2 t with
    | none => rfl
    | some q => simp only [Option.map_some, a.2 q (hr r.1 r.2 t q h1 hx)]
  have e1 : fx_fv ad' h r.1 r.2 = fx_fv ad h r.1 r.2 := by
    funext s
    unfold fx_fv
    rw [e]
  have e2 : fx_ad (fx_ek r.1) ad' h r.1 r.2 = fx_ad (fx_ek r.1) ad h r.1 r.2 := by
    unfold fx_ad
    simp only [e]
  unfold fx_cell
  rw [e1, e2]
end
section
/-! stores and makings in the abstract heap, as they show in the cells -/
theorem fx_up_ne {α : Type} (f : Nat → Nat → Nat → α) {k j s : Nat} (v : α) {a b : Nat} (h : ¬ (a = k ∧ b = j)) : fx_up f k j s v a b = f a b := by
  unfold fx_up
  by_cases e : a = k
  · rw [if_pos e, if_neg (fun z => h ⟨e, z⟩)]
  · rw [if_neg e]
theorem fx_up_eq {α : Type} (f : Nat → Nat → Nat → α) (k j s : Nat) (v : α) : fx_up f k j s v k j = fun c => if c = s then v else f k j c := by
  unfold fx_up
  rw [if_pos rfl, if_pos rfl]
theorem fx_all_ne {α : Type} (f : Nat → Nat → Nat → α) {k j : Nat} (g : Nat → α) {a b : Nat} (h : ¬ (a = k ∧ b = j)) : fx_all f k j g a b = f a b := by
  unfold fx_all
  by_cases e : a = k
  · rw [if_pos e, if_neg (fun z => h ⟨e, z⟩)]
  · rw [if_neg e]
theorem fx_all_eq {α : Type} (f : Nat → Nat → Nat → α) (k j : Nat) (g : Nat → α) : fx_all f k j g k j = g := by
  unfold fx_all
  rw [if_pos rfl, if_pos rfl]
theorem fx_rne {r : fxR} {k j : Nat} (h : r ≠ (k, j)) : ¬ (r.1 = k ∧ r.2 = j) := fun z => h (Prod.ext z.1 z.2)
theorem fx_cell_congr {aC : Nat → ClassId} {ad : fxR → Nat} {h h' : fxH} {r : fxR} (h1 : h'.2.1 r.1 r.2 = h.2.1 r.1 r.2) (h2 : h'.2.2.1 r.1 r.2 = h.2.2.1 r.1 r.2) (h3 : h'.2.2.2.1 r.1 r.2 = h.2.2.2.1 r.1 r.2) (h4 : h'.2.2.2.2 r.1 r.2 = h.2.2.2.2 r.1 r.2) : fx_cell aC ad h' r = fx_cell aC ad h r := by
  have e1 : fx_fv ad h' r.1 r.2 = fx_fv ad h r.1 r.2 := by
    funext s
    unfold fx_fv
    rw [h2, h3, h4]
  unfold fx_cell fx_ad
  rw [e1, h1, h2, h3, h4]
theorem fx_map_set {α : Type} {N s : Nat} {f f' : Nat → α} {x : α} (h1 : f' s = x) (h2 : ∀ t, t ≠ s → f' t = f t) : (List.range N).map f' = ((List.range N).map f).set s x := by
  apply List.ext_getElem?
  intro i
  by_cases e : s = i
  · subst e
    by_cases hl : s < N
    · rw [List.getElem?_set_self (by simpa using hl), List.getElem?_map, List.getElem?_range hl, ← h1]
      rfl
    · rw [List.getElem?_eq_none (by simpa using hl), List.getElem?_eq_none (by simpa using hl)]
  · rw [List.getElem?_set_ne e, List.getElem?_map, List.getElem?_map]
    by_cases hl : i < N
    · rw [List.getElem?_range hl]
      simp only [Option.map_some, h2 i (Ne.symm e)]
    · rw [List.getElem?_eq_none (by simpa using hl)]
      rfl
theorem fx_cell_obj {aC : Nat → ClassId} {ad : fxR → Nat} {h h' : fxH} {k j s : Nat} {x : Value} (hk : k < 20) (h1 : fx_fv ad h' k j s = x) (h2 : ∀ t, t ≠ s → fx_fv ad h' k j t = fx_fv ad h k j t) : fx_cell aC ad h' (k, j) = .inr (k, ((List.range (fx_nf k)).map (fx_fv ad h k j)).set s x) := by
  unfold fx_cell
  rw [if_pos (show (k, j).1 < 20 from hk)]
  show Sum.inr (k, (List.range (fx_nf k)).map (fx_fv ad h' k j)) = _
  rw [fx_map_set h1 h2]
theorem fx_cell_o {aC : Nat → ClassId} {ad : fxR → Nat} {h : fxH} {k j : Nat} (hk : k < 20) : fx_cell aC ad h (k, j) = .inr (k, (List.range (fx_nf k)).map (fx_fv ad h k j)) := by
  unfold fx_cell
  rw [if_pos (show (k, j).1 < 20 from hk)]
theorem fx_cell_a {aC : Nat → ClassId} {ad : fxR → Nat} {h : fxH} {k j : Nat} (hk : 20 ≤ k) : fx_cell aC ad h (k, j) = .inl (aC (fx_ek k), h.2.1 k j, fx_ad (fx_ek k) ad h k j) := by
  unfold fx_cell
  rw [if_neg (show ¬ (k, j).1 < 20 from Nat.not_lt.mpr hk)]
/-- the fields' values where a class has them -/
theorem fx_fvs {ad : fxR → Nat} {h : fxH} {k j s N : Nat} (hs : s < N) : ((List.range N).map (fx_fv ad h k j))[s]? = some (fx_fv ad h k j s) := by
  rw [List.getElem?_map, List.getElem?_range hs]
  rfl
theorem fx_wi_o {aC : Nat → ClassId} {ad : fxR → Nat} {h : fxH} {k j s : Nat} {v : Int32} (hk : k < 20) (ht : fx_tc (fx_ty k s) = 0 ∨ fx_tc (fx_ty k s) = 3) : fx_cell aC ad (fx_wi h k j s v) (k, j) = .inr (k, ((List.range (fx_nf k)).map (fx_fv ad h k j)).set s (.int v)) := by
  refine fx_cell_obj hk ?_ (fun t hne => ?_)
  · unfold fx_fv fx_wi
    rcases ht with e | e <;> rw [e] <;> simp [fx_up]
  · unfold fx_fv fx_wi
    simp [fx_up, hne]
theorem fx_wl_o {aC : Nat → ClassId} {ad : fxR → Nat} {h : fxH} {k j s : Nat} {v : Int64} (hk : k < 20) (ht : fx_tc (fx_ty k s) = 1) : fx_cell aC ad (fx_wl h k j s v) (k, j) = .inr (k, ((List.range (fx_nf k)).map (fx_fv ad h k j)).set s (.long v)) := by
  refine fx_cell_obj hk ?_ (fun t hne => ?_)
  · unfold fx_fv fx_wl
    rw [ht]
    simp [fx_up]
  · unfold fx_fv fx_wl
    simp [fx_up, hne]
theorem fx_wr_o {aC : Nat → ClassId} {ad : fxR → Nat} {h : fxH} {k j s : Nat} {v : Option fxR} (hk : k < 20) (ht : fx_tc (fx_ty k s) = 2) : fx_cell aC ad (fx_wr h k j s v) (k, j) = .inr (k, ((List.range (fx_nf k)).map (fx_fv ad h k j)).set s (fx_cv ad (.inr (.inr v)))) := by
  refine fx_cell_obj hk ?_ (fun t hne => ?_)
  · unfold fx_fv fx_wr
    rw [ht, fx_rf]
    simp [fx_up]
  · unfold fx_fv fx_wr
    simp [fx_up, hne]
theorem fx_upd_eq (f : Nat → Int32) (i : Nat) (v : Int32) : (fun c => if c = i then v else f c) = upd f i v := rfl
theorem fx_wi_a {aC : Nat → ClassId} {ad : fxR → Nat} {h : fxH} {k j i : Nat} {v : Int32} (hk : 20 ≤ k) (he : fx_ek k = 0 ∨ fx_ek k = 1 ∨ fx_ek k = 2) : fx_cell aC ad (fx_wi h k j i v) (k, j) = .inl (aC (fx_ek k), h.2.1 k j, .inl (upd (h.2.2.2.1 k j) i v)) := by
  rw [fx_cell_a hk]
  unfold fx_ad
  rcases he with e | e | e <;> rw [e] <;> simp only [fx_wi, fx_up_eq] <;> rfl
theorem fx_wl_a {aC : Nat → ClassId} {ad : fxR → Nat} {h : fxH} {k j i : Nat} {v : Int64} (hk : 20 ≤ k) (he : fx_ek k = 3) : fx_cell aC ad (fx_wl h k j i v) (k, j) = .inl (aC (fx_ek k), h.2.1 k j, .inr (.inl (vp_updL (h.2.2.2.2 k j) i v))) := by
  rw [fx_cell_a hk]
  unfold fx_ad
  rw [he]
  simp only [fx_wl, fx_up_eq]
  rfl
theorem fx_wr_a {aC : Nat → ClassId} {ad : fxR → Nat} {h : fxH} {k j i : Nat} {v : fxR} (hk : 20 ≤ k) (he : fx_ek k = 4 ∨ fx_ek k = 5 ∨ fx_ek k = 6) : fx_cell aC ad (fx_wr h k j i (some v)) (k, j) = .inl (aC (fx_ek k), h.2.1 k j, .inr (.inr (.inr (.inr (va_up (fun s => (h.2.2.1 k j s).map ad) i (some (ad v))))))) := by
  rw [fx_cell_a hk]
  have e : (fun s => ((fx_wr h k j i (some v)).2.2.1 k j s).map ad) = va_up (fun s => (h.2.2.1 k j s).map ad) i (some (ad v)) := by
    funext s
    simp only [fx_wr, fx_up_eq, va_up]
    split <;> rfl
  unfold fx_ad
  rcases he with q | q | q <;> rw [q] <;> simp only [e] <;> rfl
theorem fx_wa_a {aC : Nat → ClassId} {ad : fxR → Nat} {h : fxH} {k j : Nat} {g : Nat → Int32} (hk : 20 ≤ k) (he : fx_ek k = 0) : fx_cell aC ad (fx_wa h k j g) (k, j) = .inl (aC (fx_ek k), h.2.1 k j, .inl g) := by
  rw [fx_cell_a hk]
  unfold fx_ad
  rw [he]
  simp only [fx_wa, fx_all_eq]
theorem fx_wi_ne {aC : Nat → ClassId} {ad : fxR → Nat} {h : fxH} {k j i : Nat} {v : Int32} {r : fxR} (hr : r ≠ (k, j)) : fx_cell aC ad (fx_wi h k j i v) r = fx_cell aC ad h r := fx_cell_congr rfl rfl (fx_up_ne _ _ (fx_rne hr)) rfl
theorem fx_wl_ne {aC : Nat → ClassId} {ad : fxR → Nat} {h : fxH} {k j i : Nat} {v : Int64} {r : fxR} (hr : r ≠ (k, j)) : fx_cell aC ad (fx_wl h k j i v) r = fx_cell aC ad h r := fx_cell_congr rfl rfl rfl (fx_up_ne _ _ (fx_rne hr))
theorem fx_wr_ne {aC : Nat → ClassId} {ad : fxR → Nat} {h : fxH} {k j i : Nat} {v : Option fxR} {r : fxR} (hr : r ≠ (k, j)) : fx_cell aC ad (fx_wr h k j i v) r = fx_cell aC ad h r := fx_cell_congr rfl (fx_up_ne _ _ (fx_rne hr)) rfl rfl
theorem fx_wa_ne {aC : Nat → ClassId} {ad : fxR → Nat} {h : fxH} {k j : Nat} {g : Nat → Int32} {r : fxR} (hr : r ≠ (k, j)) : fx_cell aC ad (fx_wa h k j g) r = fx_cell aC ad h r := fx_cell_congr rfl rfl (fx_all_ne _ _ (fx_rne hr)) rfl
theorem fx_Xh_i {X : fxX} {ad : fxR → Nat} {h : fxH} {k j i : Nat} {v : Int32} (hk : k < 90) (hX : fx_Xh X ad h) : fx_Xh X ad (fx_wi h k j i v) := by
  obtain ⟨a1, a2, a3, a4, a5, a6, a7, a8⟩ := hX
  refine ⟨a1, a2, fun t => ?_, a4, a5, a6, fun t => ?_, a8⟩
  · rw [← a3 t]
    exact congrFun (fx_up_ne _ _ (fun z => by omega)) t
  · rw [← a7 t]
    exact congrFun (fx_up_ne _ _ (fun z => by omega)) t
theorem fx_Xh_a {X : fxX} {ad : fxR → Nat} {h : fxH} {k j : Nat} {g : Nat → Int32} (hk : k < 90) (hX : fx_Xh X ad h) : fx_Xh X ad (fx_wa h k j g) := by
  obtain ⟨a1, a2, a3, a4, a5, a6, a7, a8⟩ := hX
  refine ⟨a1, a2, fun t => ?_, a4, a5, a6, fun t => ?_, a8⟩
  · rw [← a3 t]
    exact congrFun (fx_all_ne _ _ (fun z => by omega)) t
  · rw [← a7 t]
    exact congrFun (fx_all_ne _ _ (fun z => by omega)) t
theorem fx_refs_r {h : fxH} {k j i : Nat} {v : Option fxR} (hr : ∀ k j t r, j < h.1 k → h.2.2.1 k j t = some r → r.2 < h.1 r.1) (hv : fx_ok h (.inr (.inr v))) : ∀ a b t r, b < (fx_wr h k j i v).1 a → (fx_wr h k j i v).2.2.1 a b t = some r → r.2 < (fx_wr h k j i v).1 r.1 := by
  intro a b t r hb e
  by_cases z : a = k ∧ b = j
  · obtain ⟨rfl, rfl⟩ := z
    simp only [fx_wr, fx_up_eq] at e
    split at e
    · subst e
      exact hv
    · exact hr _ _ _ _ hb e
  · simp only [fx_wr] at e
    rw [fx_up_ne _ _ z] at e
    exact hr _ _ _ _ hb e
-- what is made
def fx_adn (ad : fxR → Nat) (h : fxH) (k q : Nat) : fxR → Nat := fun r => if r = (k, h.1 k) then q else ad r
theorem fx_mk_ext (ad : fxR → Nat) (h : fxH) (k n q : Nat) : fx_ext h ad (fx_mk h k n) (fx_adn ad h k q) := by
  refine ⟨fun a => ?_, fun r hr => ?_⟩
  · show h.1 a ≤ if a = k then h.1 k + 1 else h.1 a
    split
    · rename_i e
      subst e
      omega
    · exact Nat.le_refl _
  · unfold fx_adn
    rw [if_neg]
    intro e
    rw [e] at hr
    exact Nat.lt_irrefl _ hr
theorem fx_mk_cell {aC : Nat → ClassId} {ad : fxR → Nat} {h : fxH} {k n q : Nat} (hr : ∀ k j t r, j < h.1 k → h.2.2.1 k j t = some r → r.2 < h.1 r.1) {r : fxR} (h1 : r.2 < h.1 r.1) : fx_cell aC (fx_adn ad h k q) (fx_mk h k n) r = fx_cell aC ad h r := by
  have hne : ¬ (r.1 = k ∧ r.2 = h.1 k) := fun z => by rw [z.1] at h1; omega
  rw [← fx_cell_ext (fx_mk_ext ad h k n q) hr r h1]
  refine fx_cell_congr ?_ (fx_all_ne _ _ hne) (fx_all_ne _ _ hne) (fx_all_ne _ _ hne)
  show (if r.1 = k then fun b => if b = h.1 k then n else h.2.1 r.1 b else h.2.1 r.1) r.2 = h.2.1 r.1 r.2
  by_cases e : r.1 = k
  · rw [if_pos e, if_neg (fun z => hne ⟨e, z⟩)]
  · rw [if_neg e]
theorem fx_mk_len (h : fxH) (k n : Nat) : (fx_mk h k n).2.1 k (h.1 k) = n := by
  show (if k = k then fun b => if b = h.1 k then n else h.2.1 k b else h.2.1 k) (h.1 k) = n
  rw [if_pos rfl, if_pos rfl]
theorem fx_mk_cnt (h : fxH) (k n a : Nat) : (fx_mk h k n).1 a = if a = k then h.1 k + 1 else h.1 a := rfl
theorem fx_mk_He {A : Nat → Prop} {D : va_G} {aC : Nat → ClassId} {X : fxX} {ad : fxR → Nat} {L : List fxR} {h : fxH} {H H1 : Heap} {k n q : Nat} {e : va_E} (hk : k < 90) (hH : fx_He A D aC X ad L h H) (he : fx_cell aC (fx_adn ad h k q) (fx_mk h k n) (k, h.1 k) = e)
    (hP : va_P D fx_cl (fx_ws aC ad h L ++ [(q, e)]) H1) (hD : va_D A (fx_ws aC ad h L ++ [(q, e)])) : fx_He A D aC X (fx_adn ad h k q) (L ++ [(k, h.1 k)]) (fx_mk h k n) H1 := by
  obtain ⟨-, -, hL, hr, hX⟩ := hH
  have ew : fx_ws aC (fx_adn ad h k q) (fx_mk h k n) (L ++ [(k, h.1 k)]) = fx_ws aC ad h L ++ [(q, e)] := by
    unfold fx_ws
    rw [List.map_append]
    congr 1
    · refine List.map_congr_left (fun r hr1 => ?_)
      have h1 := ((hL r).mp hr1).2
      rw [fx_mk_cell hr h1, (fx_mk_ext ad h k n q).2 r h1]
    · rw [List.map_singleton, he]
      unfold fx_adn
      rw [if_pos rfl]
  refine ⟨by rw [ew]; exact hP, by rw [ew]; exact hD, fun r => ?_, fun a b t r hb e1 => ?_, ?_⟩
  · rw [List.mem_append, List.mem_singleton, hL r, fx_mk_cnt]
    constructor
    · rintro (⟨h1, h2⟩ | rfl)
      · refine ⟨h1, ?_⟩
        split
        · rename_i z
          rw [z] at h2
          omega
        · exact h2
      · exact ⟨hk, by rw [if_pos rfl]; exact Nat.lt_succ_self _⟩
    · rintro ⟨h1, h2⟩
      by_cases z : r.1 = k
      · rw [if_pos z] at h2
        by_cases z2 : r.2 = h.1 k
        · exact Or.inr (Prod.ext z z2)
        · exact Or.inl ⟨h1, by rw [z]; omega⟩
      · rw [if_neg z] at h2
        exact Or.inl ⟨h1, h2⟩
  · by_cases z : a = k ∧ b = h.1 k
    · obtain ⟨rfl, rfl⟩ := z
      have e2 : (fx_mk h a n).2.2.1 a (h.1 a) t = none := congrFun (fx_all_eq _ _ _ _) t
      rw [e2] at e1
      cases e1
    · have e2 : (fx_mk h k n).2.2.1 a b = h.2.2.1 a b := fx_all_ne _ _ z
      rw [e2] at e1
      refine Nat.lt_of_lt_of_le (hr _ _ _ _ ?_ e1) ((fx_mk_ext ad h k n q).1 _)
      rw [fx_mk_cnt] at hb
      split at hb
      · rename_i ek
        subst ek
        have : ¬ b = h.1 a := fun w => z ⟨rfl, w⟩
        omega
      · exact hb
  · obtain ⟨a1, a2, a3, a4, a5, a6, a7, a8, a9, a10⟩ := hX
    have n0 : ¬ (90 = k) := by omega
    have n1 : ¬ (91 = k) := by omega
    have n2 : ¬ (92 = k) := by omega
    refine ⟨?_, ?_, fun t => ?_, ?_, ?_, ?_, fun t => ?_, ?_, fun i hi => ?_, ?_⟩
    · rw [← a1]
      exact if_neg (fun z => n0 (congrArg Prod.fst z))
    · rw [← a2]
      show (if 90 = k then _ else h.2.1 90) 0 = _
      rw [if_neg n0]
    · rw [← a3 t]
      exact congrFun (fx_all_ne _ _ (fun z => n0 z.1)) t
    · rw [fx_mk_cnt, if_neg n0, a4]
    · rw [← a5]
      exact if_neg (fun z => n1 (congrArg Prod.fst z))
    · rw [← a6]
      show (if 91 = k then _ else h.2.1 91) 0 = _
      rw [if_neg n1]
    · rw [← a7 t]
      exact congrFun (fx_all_ne _ _ (fun z => n1 z.1)) t
    · rw [fx_mk_cnt, if_neg n1, a8]
    · rw [← a9 i hi]
      exact if_neg (fun z => n2 (congrArg Prod.fst z))
    · rw [fx_mk_cnt, if_neg n2, a10]
theorem fx_aw_spec {k e : Nat} (h : fx_aw k e = true) : 20 ≤ k ∧ k < 90 ∧ fx_ek k = e := by
  simp only [fx_aw, Bool.and_eq_true] at h
  exact ⟨Nat.le_of_ble_eq_true h.1.1, Nat.lt_succ_of_le (Nat.le_of_ble_eq_true h.1.2), Nat.eq_of_beq_eq_true h.2⟩
theorem fx_ar_spec {k e : Nat} (h : fx_ar k e = true) : 20 ≤ k ∧ k ≤ 91 ∧ fx_ek k = e := by
  simp only [fx_ar, Bool.and_eq_true] at h
  exact ⟨Nat.le_of_ble_eq_true h.1.1, Nat.le_of_ble_eq_true h.1.2, Nat.eq_of_beq_eq_true h.2⟩
theorem fx_tydef : ∀ ci, ci < 12 → ∀ s, s < fx_nf ci → defaultValue (fx_ty ci s) = (match fx_tc (fx_ty ci s) with | 1 => Value.long 0 | 2 => Value.null | _ => Value.int 0) := by decide +kernel
end
section
/-! words of the tables that the primitives need (by wip/whole/gen.py) -/
theorem fx_w_max_s : Cond.static Lib.Math.max.name ∈ fx_tbl := fx_tb (List.mem_of_getElem? (i := 539) (by decide +kernel)) (by decide +kernel)
theorem fx_w_max_c : Cond.code Lib.Math.max.name Lib.Math.max.code 2 (some .int) ∈ fx_tbl := fx_tb (List.mem_of_getElem? (i := 540) (by decide +kernel)) (by decide +kernel)
theorem fx_w_min_s : Cond.static Lib.Math.min.name ∈ fx_tbl := fx_tb (List.mem_of_getElem? (i := 536) (by decide +kernel)) (by decide +kernel)
theorem fx_w_min_c : Cond.code Lib.Math.min.name Lib.Math.min.code 2 (some .int) ∈ fx_tbl := fx_tb (List.mem_of_getElem? (i := 537) (by decide +kernel)) (by decide +kernel)
theorem fx_w_minl_s : Cond.static Lib.MathLoose.min_long.x ∈ fx_tbl := fx_tb (List.mem_of_getElem? (i := 927) (by decide +kernel)) (by decide +kernel)
theorem fx_w_minl_c : Cond.code Lib.MathLoose.min_long.x Lib.MathLoose.min_long.code 4 (some .long) ∈ fx_tbl := fx_tb (List.mem_of_getElem? (i := 928) (by decide +kernel)) (by decide +kernel)
theorem fx_w_math : Cond.initialized "java/lang/Math" ∈ fx_tbl := fx_tb (List.mem_of_getElem? (i := 128) (by decide +kernel)) (by decide +kernel)
theorem fx_w_sys : Cond.initialized "java/lang/System" ∈ fx_tbl := fx_tb (List.mem_of_getElem? (i := 135) (by decide +kernel)) (by decide +kernel)
theorem fx_w_cp_n : Cond.native arraycopyName ∈ fx_tbl := fx_tb (List.mem_of_getElem? (i := 802) (by decide +kernel)) (by decide +kernel)
theorem fx_w_cp_s : Cond.static arraycopyName ∈ fx_tbl := fx_tb (List.mem_of_getElem? (i := 801) (by decide +kernel)) (by decide +kernel)
theorem fx_w_oi_i : Cond.instanceMethod objectInit ∈ fx_tbl := fx_tb (List.mem_of_getElem? (i := 144) (by decide +kernel)) (by decide +kernel)
theorem fx_w_oi_c : Cond.code objectInit ⟨#[0xb1]⟩ 1 none ∈ fx_tbl := fx_tb (List.mem_of_getElem? (i := 145) (by decide +kernel)) (by decide +kernel)
theorem fx_w_cl_same : Cond.sameMethod "[I" "java/lang/Object" "clone" "()Ljava/lang/Object;" ∈ fx_tbl := fx_tb (List.mem_of_getElem? (i := 793) (by decide +kernel)) (by decide +kernel)
theorem fx_w_cl_n : Cond.native ⟨"java/lang/Object", "clone", "()Ljava/lang/Object;"⟩ ∈ fx_tbl := fx_tb (List.mem_of_getElem? (i := 794) (by decide +kernel)) (by decide +kernel)
theorem fx_w_cl_i : Cond.instanceMethod ⟨"java/lang/Object", "clone", "()Ljava/lang/Object;"⟩ ∈ fx_tbl := fx_tb (List.mem_of_getElem? (i := 795) (by decide +kernel)) (by decide +kernel)
theorem fx_w_cl_sel : Cond.selects "[I" ⟨"[I", "clone", "()Ljava/lang/Object;"⟩ ⟨"java/lang/Object", "clone", "()Ljava/lang/Object;"⟩ ∈ fx_tbl := fx_tb (List.mem_of_getElem? (i := 796) (by decide +kernel)) (by decide +kernel)
theorem fx_w_ac_int : Cond.arrayClass .int ∈ fx_tbl := fx_tb (List.mem_of_getElem? (i := 250) (by decide +kernel)) (by decide +kernel)
theorem fx_w_ac_byte : Cond.arrayClass .byte ∈ fx_tbl := fx_tb (List.mem_of_getElem? (i := 177) (by decide +kernel)) (by decide +kernel)
theorem fx_w_ac_boolean : Cond.arrayClass .boolean ∈ fx_tbl := fx_tb (List.mem_of_getElem? (i := 386) (by decide +kernel)) (by decide +kernel)
theorem fx_w_ac_long : Cond.arrayClass .long ∈ fx_tbl := fx_tb (List.mem_of_getElem? (i := 411) (by decide +kernel)) (by decide +kernel)
end
section
/-! a step of the abstract machine is one of the machine -/
def fx_len (i : Instr) : Option Nat := match i with
  | .bipush _ | .ldc _ | .iload _ | .lload _ | .aload _ | .istore _ | .lstore _ | .astore _ | .newarray _ => some 2
  | .sipush _ | .ldc_w _ | .ldc2_w _ | .iinc _ _ | .getfield _ | .putfield _ | .getstatic _ | .anewarray _ | .new _ | .goto _ | .ifCond _ _ | .if_icmp _ _ | .ifnull _ | .ifnonnull _ | .checkcast _ | .invokestatic _ | .invokespecial _ | .invokevirtual _ => some 3
  | .tableswitch _ _ _ _ | .lookupswitch _ _ => none
  | _ => some 1
def fx_prok (own : String) (x n : Nat) : Prop := match n with
  | 0 => Cond.methodLink own x Lib.Math.max.name ∈ fx_tbl
  | 1 => Cond.methodLink own x Lib.Math.min.name ∈ fx_tbl
  | 2 => Cond.methodLink own x Lib.MathLoose.min_long.x ∈ fx_tbl
  | 3 => Cond.methodLink own x arraycopyName ∈ fx_tbl
  | 4 => Cond.methodLink own x objectInit ∈ fx_tbl
  | 5 => Cond.methodLink own x ⟨"[I", "clone", "()Ljava/lang/Object;"⟩ ∈ fx_tbl
  | _ => True
/-- the tables of a method say what is so -/
def fx_Mok (M : fxM) : Prop :=
  (∀ pc i, M.2.1 pc = some i → ∃ n, decode M.1.2.1 pc = .ok (i, n) ∧ ∀ n0, fx_len i = some n0 → n = n0) ∧
  (∀ x ci sl t, (x, ci, sl, t) ∈ M.2.2.1.1 → ci < 12 ∧ ∃ q, fx_cl[ci]? = some q ∧ sl < q.2.2 ∧ Cond.fieldLink M.1.1 x (q.2.1 sl).1 (q.2.1 sl).2.1 (q.2.1 sl).2.2.1 ∈ fx_tbl ∧ fx_tc (fx_ty ci sl) = t) ∧
  (∀ pc x ci sl t, M.2.1 pc = some (.putfield x) → (x, ci, sl, t) ∈ M.2.2.1.1 → ∀ q, fx_cl[ci]? = some q → (q.2.1 sl).2.2.2 = true → M.2.2.2.2.1 = true ∧ (q.2.1 sl).1 = M.1.1) ∧
  (∀ x n, (x, n) ∈ M.2.2.1.2.2.1 → fx_prok M.1.1 x n) ∧
  (∀ x ci, (x, ci) ∈ M.2.2.1.2.2.2.1 → ci < 12 ∧ ∃ q, fx_cl[ci]? = some q ∧ Cond.classLink M.1.1 x q.1 ∈ fx_tbl) ∧
  (∀ x v, (x, v) ∈ M.2.2.1.2.2.2.2.1 → Cond.constant M.1.1 x v ∈ fx_tbl) ∧
  (∀ x v, (x, v) ∈ M.2.2.1.2.2.2.2.2.1 → Cond.constantLong M.1.1 x v ∈ fx_tbl) ∧
  (∀ x j, (x, j) ∈ M.2.2.1.2.2.2.2.2.2 → j < 18 ∧ ∃ tx, (M.1.1, x, tx, j) ∈ fx_srefs) ∧
  (∀ pc x, M.2.1 pc = some (.getstatic x) → Cond.fieldLink M.1.1 x "FoxReply$RuleReader" "BINDS" "[I" ∈ fx_tbl) ∧
  (∀ pc x, M.2.1 pc = some (.checkcast x) → Cond.classLink M.1.1 x "[I" ∈ fx_tbl)
section FXS
variable {p : Program} {l : Launch} {e : Env} {R : Room} {s : State} {m : MethodId} {args : Array Value} {below : List Frame} {meth : Method} {c0 : Code} {Q : State → Prop}
variable {A : Nat → Prop} {D : va_G} {aC : Nat → ClassId} {X : fxX}
/-- what stays through a method's body -/
def fx_Cx (p : Program) (R : Room) (s : State) (m : MethodId) (args : Array Value) (meth : Method) (c0 : Code) (A : Nat → Prop) (D : va_G) (aC : Nat → ClassId) (X : fxX) (M : fxM) : Prop :=
  p.tables.exec = Jvm.exec ∧ c0.code = M.1.2.1 ∧ c0.maxLocals = M.1.2.2.1 ∧ s.vm.findClass M.1.1 = some m.cls ∧ (∀ w ∈ fx_tbl, w.before args s = true) ∧ va_K D fx_cl (fx_tys aC) s ∧ meth.sig.returnType = M.1.2.2.2 ∧ meth.locks = false ∧ (M.2.2.2.2.1 = true → meth.name = "<init>") ∧ fx_Xs X A s ∧ (∀ q, s.heap.size ≤ q → A q) ∧ R.cells = M.2.2.2.2.2.1 ∧ R.slots = M.2.2.2.2.2.2 ∧ 1 ≤ R.frames ∧ 60 ≤ R.locals
def fx_Inv (s : State) (A : Nat → Prop) (D : va_G) (aC : Nat → ClassId) (X : fxX) (nL : Nat) (ad : fxR → Nat) (L : List fxR) (h : fxH) (lv : fxLv) (st : List fxV) (H : Heap) (locs : List Loc) (ls : Array Slot) : Prop :=
  fx_He A D aC X ad L h H ∧ va_S A s.heap H locs ∧ lv_has ls nL (fx_lvo ad lv) ∧ (∀ i v, fx_get lv i = some v → fx_ok h v) ∧ (∀ v ∈ st, fx_ok h v) ∧ lv.length = nL
theorem fx_He_set {ad : fxR → Nat} {L : List fxR} {h h' : fxH} {H H1 : Heap} {r : fxR} {q : Nat} {ce : va_E} (hH : fx_He A D aC X ad L h H) (hq : L[q]? = some r) (he : fx_cell aC ad h' r = ce) (ho : ∀ r', r' ≠ r → fx_cell aC ad h' r' = fx_cell aC ad h r') (hc : h'.1 = h.1) (hr : ∀ k j t r, j < h'.1 k → h'.2.2.1 k j t = some r → r.2 < h'.1 r.1) (hX : fx_Xh X ad h') (hP : va_P D fx_cl ((fx_ws aC ad h L).set q (ad r, ce)) H1) (hD : va_D A ((fx_ws aC ad h L).set q (ad r, ce))) : fx_He A D aC X ad L h' H1 := by
  have e := fx_ws_set hH.2.1 hq he ho
  rw [e] at hP hD
  exact ⟨hP, hD, by rw [hc]; exact hH.2.2.1, hr, hX⟩
theorem fx_inL {ad : fxR → Nat} {L : List fxR} {h : fxH} {H : Heap} (hH : fx_He A D aC X ad L h H) {k j : Nat} (hk : k < 90) (ho : fx_ok h (.inr (.inr (some (k, j))))) : ∃ q : Nat, L[q]? = some (k, j) := List.getElem?_of_mem ((hH.2.2.1 (k, j)).mpr ⟨hk, ho⟩)
theorem fx_vin {i : Int32} {n : Nat} (h : 0 ≤ i.toInt ∧ i.toInt < (n : Int)) : vp_in i n := vp_in_iff.mpr h
theorem fx_nf_of {ci : Nat} {q : vw_C} (h : fx_cl[ci]? = some q) : fx_nf ci = q.2.2 := by
  unfold fx_nf
  rw [h]
theorem fx_tint {t : FieldType} (h : fx_tc t = 0) : t = .int := by
  cases t <;> first | rfl | cases h
theorem fx_tlong {t : FieldType} (h : fx_tc t = 1) : t = .long := by
  cases t <;> first | rfl | cases h
theorem fx_tbool {t : FieldType} (h : fx_tc t = 3) : t = .boolean := by
  cases t <;> first | rfl | cases h
theorem fx_tref {t : FieldType} (h : defaultValue t = .null) : ∀ v : Value, (v = .null ∨ ∃ a, v = .ref a) → narrow t v = v ∧ fits t v = true := by
  intro v hv
  cases t <;> first | (rcases hv with rfl | ⟨a, rfl⟩ <;> exact ⟨rfl, rfl⟩) | (exfalso; cases h)
theorem fx_cvn (ad : fxR → Nat) (v : Option fxR) : fx_cv ad (.inr (.inr v)) = .null ∨ ∃ a, fx_cv ad (.inr (.inr v)) = .ref a := by
  cases v with
  | none => exact Or.inl rfl
  | some r => exact Or.inr ⟨_, rfl⟩
theorem fx_jmp_spec {pc : Nat} {off : Int} {lv : fxLv} {st : List fxV} {h : fxH} {c n : Nat} {x : fxC} (e : fx_jmp pc off lv st h c n = some x) : x = (fx_tgt pc off, lv, st, h, c, n) ∧ (pc : Int) + off = (fx_tgt pc off : Int) := by
  unfold fx_jmp at e
  cases g : fx_tg0 pc off with
  | false => rw [g] at e; cases e
  | true =>
    rw [g] at e
    cases e
    unfold fx_tg0 at g
    have := of_decide_eq_true g
    exact ⟨rfl, by unfold fx_tgt; omega⟩
theorem fx_br_spec {b : Prop} [Decidable b] {pc : Nat} {off : Int} {lv : fxLv} {st : List fxV} {h : fxH} {c n : Nat} {x : fxC} (e : fx_br b pc off lv st h c n = some x) : (b ∧ x = (fx_tgt pc off, lv, st, h, c, n) ∧ (pc : Int) + off = (fx_tgt pc off : Int)) ∨ (¬ b ∧ x = (pc + 3, lv, st, h, c, n) ∧ (pc : Int) + off = (fx_tgt pc off : Int)) := by
  unfold fx_br at e
  cases g : fx_tg0 pc off with
  | false => rw [g] at e; cases e
  | true =>
    rw [g] at e
    have ht : (pc : Int) + off = (fx_tgt pc off : Int) := by
      unfold fx_tg0 at g
      have := of_decide_eq_true g
      unfold fx_tgt
      omega
    by_cases hb : b
    · simp only [cond_true, if_pos hb] at e
      cases e
      exact Or.inl ⟨hb, rfl, ht⟩
    · simp only [cond_true, if_neg hb] at e
      cases e
      exact Or.inr ⟨hb, rfl, ht⟩
/-- the goal behind a step -/
abbrev fx_K (p : Program) (l : Launch) (e : Env) (R : Room) (s : State) (m : MethodId) (args : Array Value) (below : List Frame) (meth : Method) (c0 : Code) (Q : State → Prop) (A : Nat → Prop) (D : va_G) (aC : Nat → ClassId) (X : fxX) (nL : Nat) (ad : fxR → Nat) (h : fxH) (x : fxC) : Prop :=
  ∀ (ad' : fxR → Nat) (L' : List fxR) (H' : Heap) (locs' : List Loc) (ls' : Array Slot), fx_Inv s A D aC X nL ad' L' x.2.2.2.1 x.2.1 x.2.2.1 H' locs' ls' → fx_ext h ad x.2.2.2.1 ad' → W p l e R s m args below meth c0 H' locs' x.2.2.2.2.1 x.2.2.2.2.2 Q (F0 m x.1 ls' (x.2.2.1.map (fx_cv ad')))
abbrev fx_G (p : Program) (l : Launch) (e : Env) (R : Room) (s : State) (m : MethodId) (args : Array Value) (below : List Frame) (meth : Method) (c0 : Code) (Q : State → Prop) (A : Nat → Prop) (D : va_G) (aC : Nat → ClassId) (X : fxX) (M : fxM) (i : Instr) : Prop :=
  ∀ (pc : Nat) (lv : fxLv) (st : List fxV) (h : fxH) (c n : Nat) (x : fxC) (ad : fxR → Nat) (L : List fxR) (H : Heap) (locs : List Loc) (ls : Array Slot), M.2.1 pc = some i → fx_stp M pc i lv st h c n = some x → fx_Inv s A D aC X M.1.2.2.1 ad L h lv st H locs ls → fx_K p l e R s m args below meth c0 Q A D aC X M.1.2.2.1 ad h x → W p l e R s m args below meth c0 H locs c n Q (F0 m pc ls (st.map (fx_cv ad)))
variable {M : fxM}
theorem fx_dec (K : fx_Mok M) {pc : Nat} {i : Instr} (hF : M.2.1 pc = some i) {n : Nat} (hn : fx_len i = some n) : decode M.1.2.1 pc = .ok (i, n) := by
  obtain ⟨n1, h1, h2⟩ := K.1 pc i hF
  rw [h1, h2 n hn]
end FXS
end
section
/-! instructions, family by family (by wip/whole/gen_steps.py) -/
section FXI
variable {p : Program} {l : Launch} {e : Env} {R : Room} {s : State} {m : MethodId} {args : Array Value} {below : List Frame} {meth : Method} {c0 : Code} {Q : State → Prop}
variable {A : Nat → Prop} {D : va_G} {aC : Nat → ClassId} {X : fxX} {M : fxM}
theorem fx_s_iadd (C : fx_Cx p R s m args meth c0 A D aC X M) (K : fx_Mok M) : fx_G p l e R s m args below meth c0 Q A D aC X M (.iadd) := by
  intro pc lv st h c n x ad L H locs ls hF hs I k
  obtain ⟨he, hS, hl, hlv, hst, hln⟩ := id I
  simp only [fx_stp] at hs
  split at hs
  · cases hs
    exact lv_iadd C.1 C.2.1 (fx_dec K hF rfl) (k ad L H locs ls ⟨he, hS, hl, hlv, fx_ci (fx_tl (fx_tl hst)), hln⟩ (fx_ext.rf h ad))
  · cases hs
theorem fx_s_isub (C : fx_Cx p R s m args meth c0 A D aC X M) (K : fx_Mok M) : fx_G p l e R s m args below meth c0 Q A D aC X M (.isub) := by
  intro pc lv st h c n x ad L H locs ls hF hs I k
  obtain ⟨he, hS, hl, hlv, hst, hln⟩ := id I
  simp only [fx_stp] at hs
  split at hs
  · cases hs
    exact lv_isub C.1 C.2.1 (fx_dec K hF rfl) (k ad L H locs ls ⟨he, hS, hl, hlv, fx_ci (fx_tl (fx_tl hst)), hln⟩ (fx_ext.rf h ad))
  · cases hs
theorem fx_s_imul (C : fx_Cx p R s m args meth c0 A D aC X M) (K : fx_Mok M) : fx_G p l e R s m args below meth c0 Q A D aC X M (.imul) := by
  intro pc lv st h c n x ad L H locs ls hF hs I k
  obtain ⟨he, hS, hl, hlv, hst, hln⟩ := id I
  simp only [fx_stp] at hs
  split at hs
  · cases hs
    exact lv_imul C.1 C.2.1 (fx_dec K hF rfl) (k ad L H locs ls ⟨he, hS, hl, hlv, fx_ci (fx_tl (fx_tl hst)), hln⟩ (fx_ext.rf h ad))
  · cases hs
theorem fx_s_iand (C : fx_Cx p R s m args meth c0 A D aC X M) (K : fx_Mok M) : fx_G p l e R s m args below meth c0 Q A D aC X M (.iand) := by
  intro pc lv st h c n x ad L H locs ls hF hs I k
  obtain ⟨he, hS, hl, hlv, hst, hln⟩ := id I
  simp only [fx_stp] at hs
  split at hs
  · cases hs
    exact lv_iand C.1 C.2.1 (fx_dec K hF rfl) (k ad L H locs ls ⟨he, hS, hl, hlv, fx_ci (fx_tl (fx_tl hst)), hln⟩ (fx_ext.rf h ad))
  · cases hs
theorem fx_s_ior (C : fx_Cx p R s m args meth c0 A D aC X M) (K : fx_Mok M) : fx_G p l e R s m args below meth c0 Q A D aC X M (.ior) := by
  intro pc lv st h c n x ad L H locs ls hF hs I k
  obtain ⟨he, hS, hl, hlv, hst, hln⟩ := id I
  simp only [fx_stp] at hs
  split at hs
  · cases hs
    exact lv_ior C.1 C.2.1 (fx_dec K hF rfl) (k ad L H locs ls ⟨he, hS, hl, hlv, fx_ci (fx_tl (fx_tl hst)), hln⟩ (fx_ext.rf h ad))
  · cases hs
theorem fx_s_ixor (C : fx_Cx p R s m args meth c0 A D aC X M) (K : fx_Mok M) : fx_G p l e R s m args below meth c0 Q A D aC X M (.ixor) := by
  intro pc lv st h c n x ad L H locs ls hF hs I k
  obtain ⟨he, hS, hl, hlv, hst, hln⟩ := id I
  simp only [fx_stp] at hs
  split at hs
  · cases hs
    exact lv_ixor C.1 C.2.1 (fx_dec K hF rfl) (k ad L H locs ls ⟨he, hS, hl, hlv, fx_ci (fx_tl (fx_tl hst)), hln⟩ (fx_ext.rf h ad))
  · cases hs
theorem fx_s_ishl (C : fx_Cx p R s m args meth c0 A D aC X M) (K : fx_Mok M) : fx_G p l e R s m args below meth c0 Q A D aC X M (.ishl) := by
  intro pc lv st h c n x ad L H locs ls hF hs I k
  obtain ⟨he, hS, hl, hlv, hst, hln⟩ := id I
  simp only [fx_stp] at hs
  split at hs
  · cases hs
    exact lv_ishl C.1 C.2.1 (fx_dec K hF rfl) (k ad L H locs ls ⟨he, hS, hl, hlv, fx_ci (fx_tl (fx_tl hst)), hln⟩ (fx_ext.rf h ad))
  · cases hs
theorem fx_s_ishr (C : fx_Cx p R s m args meth c0 A D aC X M) (K : fx_Mok M) : fx_G p l e R s m args below meth c0 Q A D aC X M (.ishr) := by
  intro pc lv st h c n x ad L H locs ls hF hs I k
  obtain ⟨he, hS, hl, hlv, hst, hln⟩ := id I
  simp only [fx_stp] at hs
  split at hs
  · cases hs
    exact lv_ishr C.1 C.2.1 (fx_dec K hF rfl) (k ad L H locs ls ⟨he, hS, hl, hlv, fx_ci (fx_tl (fx_tl hst)), hln⟩ (fx_ext.rf h ad))
  · cases hs
theorem fx_s_iushr (C : fx_Cx p R s m args meth c0 A D aC X M) (K : fx_Mok M) : fx_G p l e R s m args below meth c0 Q A D aC X M (.iushr) := by
  intro pc lv st h c n x ad L H locs ls hF hs I k
  obtain ⟨he, hS, hl, hlv, hst, hln⟩ := id I
  simp only [fx_stp] at hs
  split at hs
  · cases hs
    exact lv_iushr C.1 C.2.1 (fx_dec K hF rfl) rfl (k ad L H locs ls ⟨he, hS, hl, hlv, fx_ci (fx_tl (fx_tl hst)), hln⟩ (fx_ext.rf h ad))
  · cases hs
theorem fx_s_idiv (C : fx_Cx p R s m args meth c0 A D aC X M) (K : fx_Mok M) : fx_G p l e R s m args below meth c0 Q A D aC X M (.idiv) := by
  intro pc lv st h c n x ad L H locs ls hF hs I k
  obtain ⟨he, hS, hl, hlv, hst, hln⟩ := id I
  simp only [fx_stp] at hs
  split at hs
  · split at hs
    · cases hs
    · rename_i hne
      cases hs
      exact lv_idiv C.1 C.2.1 (fx_dec K hF rfl) hne (k ad L H locs ls ⟨he, hS, hl, hlv, fx_ci (fx_tl (fx_tl hst)), hln⟩ (fx_ext.rf h ad))
  · cases hs
theorem fx_s_irem (C : fx_Cx p R s m args meth c0 A D aC X M) (K : fx_Mok M) : fx_G p l e R s m args below meth c0 Q A D aC X M (.irem) := by
  intro pc lv st h c n x ad L H locs ls hF hs I k
  obtain ⟨he, hS, hl, hlv, hst, hln⟩ := id I
  simp only [fx_stp] at hs
  split at hs
  · split at hs
    · cases hs
    · rename_i hne
      cases hs
      exact lv_irem C.1 C.2.1 (fx_dec K hF rfl) hne (k ad L H locs ls ⟨he, hS, hl, hlv, fx_ci (fx_tl (fx_tl hst)), hln⟩ (fx_ext.rf h ad))
  · cases hs
theorem fx_s_ineg (C : fx_Cx p R s m args meth c0 A D aC X M) (K : fx_Mok M) : fx_G p l e R s m args below meth c0 Q A D aC X M (.ineg) := by
  intro pc lv st h c n x ad L H locs ls hF hs I k
  obtain ⟨he, hS, hl, hlv, hst, hln⟩ := id I
  simp only [fx_stp] at hs
  split at hs
  · cases hs
    exact lv_ineg C.1 C.2.1 (fx_dec K hF rfl) (k ad L H locs ls ⟨he, hS, hl, hlv, fx_ci (fx_tl hst), hln⟩ (fx_ext.rf h ad))
  · cases hs
theorem fx_s_ladd (C : fx_Cx p R s m args meth c0 A D aC X M) (K : fx_Mok M) : fx_G p l e R s m args below meth c0 Q A D aC X M (.ladd) := by
  intro pc lv st h c n x ad L H locs ls hF hs I k
  obtain ⟨he, hS, hl, hlv, hst, hln⟩ := id I
  simp only [fx_stp] at hs
  split at hs
  · cases hs
    exact lv_ladd C.1 C.2.1 (fx_dec K hF rfl) (k ad L H locs ls ⟨he, hS, hl, hlv, fx_cL (fx_tl (fx_tl hst)), hln⟩ (fx_ext.rf h ad))
  · cases hs
theorem fx_s_lsub (C : fx_Cx p R s m args meth c0 A D aC X M) (K : fx_Mok M) : fx_G p l e R s m args below meth c0 Q A D aC X M (.lsub) := by
  intro pc lv st h c n x ad L H locs ls hF hs I k
  obtain ⟨he, hS, hl, hlv, hst, hln⟩ := id I
  simp only [fx_stp] at hs
  split at hs
  · cases hs
    exact lv_lsub C.1 C.2.1 (fx_dec K hF rfl) (k ad L H locs ls ⟨he, hS, hl, hlv, fx_cL (fx_tl (fx_tl hst)), hln⟩ (fx_ext.rf h ad))
  · cases hs
theorem fx_s_lmul (C : fx_Cx p R s m args meth c0 A D aC X M) (K : fx_Mok M) : fx_G p l e R s m args below meth c0 Q A D aC X M (.lmul) := by
  intro pc lv st h c n x ad L H locs ls hF hs I k
  obtain ⟨he, hS, hl, hlv, hst, hln⟩ := id I
  simp only [fx_stp] at hs
  split at hs
  · cases hs
    exact lv_lmul C.1 C.2.1 (fx_dec K hF rfl) (k ad L H locs ls ⟨he, hS, hl, hlv, fx_cL (fx_tl (fx_tl hst)), hln⟩ (fx_ext.rf h ad))
  · cases hs
theorem fx_s_land (C : fx_Cx p R s m args meth c0 A D aC X M) (K : fx_Mok M) : fx_G p l e R s m args below meth c0 Q A D aC X M (.land) := by
  intro pc lv st h c n x ad L H locs ls hF hs I k
  obtain ⟨he, hS, hl, hlv, hst, hln⟩ := id I
  simp only [fx_stp] at hs
  split at hs
  · cases hs
    exact lv_land C.1 C.2.1 (fx_dec K hF rfl) (k ad L H locs ls ⟨he, hS, hl, hlv, fx_cL (fx_tl (fx_tl hst)), hln⟩ (fx_ext.rf h ad))
  · cases hs
theorem fx_s_lor (C : fx_Cx p R s m args meth c0 A D aC X M) (K : fx_Mok M) : fx_G p l e R s m args below meth c0 Q A D aC X M (.lor) := by
  intro pc lv st h c n x ad L H locs ls hF hs I k
  obtain ⟨he, hS, hl, hlv, hst, hln⟩ := id I
  simp only [fx_stp] at hs
  split at hs
  · cases hs
    exact lv_lor C.1 C.2.1 (fx_dec K hF rfl) (k ad L H locs ls ⟨he, hS, hl, hlv, fx_cL (fx_tl (fx_tl hst)), hln⟩ (fx_ext.rf h ad))
  · cases hs
theorem fx_s_lxor (C : fx_Cx p R s m args meth c0 A D aC X M) (K : fx_Mok M) : fx_G p l e R s m args below meth c0 Q A D aC X M (.lxor) := by
  intro pc lv st h c n x ad L H locs ls hF hs I k
  obtain ⟨he, hS, hl, hlv, hst, hln⟩ := id I
  simp only [fx_stp] at hs
  split at hs
  · cases hs
    exact lv_lxor C.1 C.2.1 (fx_dec K hF rfl) (k ad L H locs ls ⟨he, hS, hl, hlv, fx_cL (fx_tl (fx_tl hst)), hln⟩ (fx_ext.rf h ad))
  · cases hs
theorem fx_s_ldiv (C : fx_Cx p R s m args meth c0 A D aC X M) (K : fx_Mok M) : fx_G p l e R s m args below meth c0 Q A D aC X M (.ldiv) := by
  intro pc lv st h c n x ad L H locs ls hF hs I k
  obtain ⟨he, hS, hl, hlv, hst, hln⟩ := id I
  simp only [fx_stp] at hs
  split at hs
  · split at hs
    · cases hs
    · rename_i hne
      cases hs
      exact lv_ldiv C.1 C.2.1 (fx_dec K hF rfl) hne (k ad L H locs ls ⟨he, hS, hl, hlv, fx_cL (fx_tl (fx_tl hst)), hln⟩ (fx_ext.rf h ad))
  · cases hs
theorem fx_s_lrem (C : fx_Cx p R s m args meth c0 A D aC X M) (K : fx_Mok M) : fx_G p l e R s m args below meth c0 Q A D aC X M (.lrem) := by
  intro pc lv st h c n x ad L H locs ls hF hs I k
  obtain ⟨he, hS, hl, hlv, hst, hln⟩ := id I
  simp only [fx_stp] at hs
  split at hs
  · split at hs
    · cases hs
    · rename_i hne
      cases hs
      exact lv_lrem C.1 C.2.1 (fx_dec K hF rfl) hne (k ad L H locs ls ⟨he, hS, hl, hlv, fx_cL (fx_tl (fx_tl hst)), hln⟩ (fx_ext.rf h ad))
  · cases hs
theorem fx_s_lneg (C : fx_Cx p R s m args meth c0 A D aC X M) (K : fx_Mok M) : fx_G p l e R s m args below meth c0 Q A D aC X M (.lneg) := by
  intro pc lv st h c n x ad L H locs ls hF hs I k
  obtain ⟨he, hS, hl, hlv, hst, hln⟩ := id I
  simp only [fx_stp] at hs
  split at hs
  · cases hs
    exact lv_lneg C.1 C.2.1 (fx_dec K hF rfl) (k ad L H locs ls ⟨he, hS, hl, hlv, fx_cL (fx_tl hst), hln⟩ (fx_ext.rf h ad))
  · cases hs
theorem fx_s_lshl (C : fx_Cx p R s m args meth c0 A D aC X M) (K : fx_Mok M) : fx_G p l e R s m args below meth c0 Q A D aC X M (.lshl) := by
  intro pc lv st h c n x ad L H locs ls hF hs I k
  obtain ⟨he, hS, hl, hlv, hst, hln⟩ := id I
  simp only [fx_stp] at hs
  split at hs
  · cases hs
    exact lv_lshl C.1 C.2.1 (fx_dec K hF rfl) rfl (k ad L H locs ls ⟨he, hS, hl, hlv, fx_cL (fx_tl (fx_tl hst)), hln⟩ (fx_ext.rf h ad))
  · cases hs
theorem fx_s_lushr (C : fx_Cx p R s m args meth c0 A D aC X M) (K : fx_Mok M) : fx_G p l e R s m args below meth c0 Q A D aC X M (.lushr) := by
  intro pc lv st h c n x ad L H locs ls hF hs I k
  obtain ⟨he, hS, hl, hlv, hst, hln⟩ := id I
  simp only [fx_stp] at hs
  split at hs
  · cases hs
    exact lv_lushr C.1 C.2.1 (fx_dec K hF rfl) rfl (k ad L H locs ls ⟨he, hS, hl, hlv, fx_cL (fx_tl (fx_tl hst)), hln⟩ (fx_ext.rf h ad))
  · cases hs
theorem fx_s_lcmp (C : fx_Cx p R s m args meth c0 A D aC X M) (K : fx_Mok M) : fx_G p l e R s m args below meth c0 Q A D aC X M (.lcmp) := by
  intro pc lv st h c n x ad L H locs ls hF hs I k
  obtain ⟨he, hS, hl, hlv, hst, hln⟩ := id I
  simp only [fx_stp] at hs
  split at hs
  · cases hs
    exact W.lcmp C.1 C.2.1 (fx_dec K hF rfl) (k ad L H locs ls ⟨he, hS, hl, hlv, fx_ci (fx_tl (fx_tl hst)), hln⟩ (fx_ext.rf h ad))
  · cases hs
theorem fx_s_i2l (C : fx_Cx p R s m args meth c0 A D aC X M) (K : fx_Mok M) : fx_G p l e R s m args below meth c0 Q A D aC X M (.i2l) := by
  intro pc lv st h c n x ad L H locs ls hF hs I k
  obtain ⟨he, hS, hl, hlv, hst, hln⟩ := id I
  simp only [fx_stp] at hs
  split at hs
  · cases hs
    exact lv_i2l C.1 C.2.1 (fx_dec K hF rfl) rfl (k ad L H locs ls ⟨he, hS, hl, hlv, fx_cL (fx_tl hst), hln⟩ (fx_ext.rf h ad))
  · cases hs
theorem fx_s_l2i (C : fx_Cx p R s m args meth c0 A D aC X M) (K : fx_Mok M) : fx_G p l e R s m args below meth c0 Q A D aC X M (.l2i) := by
  intro pc lv st h c n x ad L H locs ls hF hs I k
  obtain ⟨he, hS, hl, hlv, hst, hln⟩ := id I
  simp only [fx_stp] at hs
  split at hs
  · cases hs
    exact lv_l2i C.1 C.2.1 (fx_dec K hF rfl) rfl (k ad L H locs ls ⟨he, hS, hl, hlv, fx_ci (fx_tl hst), hln⟩ (fx_ext.rf h ad))
  · cases hs
theorem fx_s_i2b (C : fx_Cx p R s m args meth c0 A D aC X M) (K : fx_Mok M) : fx_G p l e R s m args below meth c0 Q A D aC X M (.i2b) := by
  intro pc lv st h c n x ad L H locs ls hF hs I k
  obtain ⟨he, hS, hl, hlv, hst, hln⟩ := id I
  simp only [fx_stp] at hs
  split at hs
  · cases hs
    exact lv_i2b C.1 C.2.1 (fx_dec K hF rfl) rfl (k ad L H locs ls ⟨he, hS, hl, hlv, fx_ci (fx_tl hst), hln⟩ (fx_ext.rf h ad))
  · cases hs
theorem fx_s_iconst (C : fx_Cx p R s m args meth c0 A D aC X M) (K : fx_Mok M) (v : Int) : fx_G p l e R s m args below meth c0 Q A D aC X M (.iconst v) := by
  intro pc lv st h c n x ad L H locs ls hF hs I k
  obtain ⟨he, hS, hl, hlv, hst, hln⟩ := id I
  simp only [fx_stp] at hs
  cases hs
  exact lv_iconst C.1 C.2.1 (fx_dec K hF rfl) rfl (k ad L H locs ls ⟨he, hS, hl, hlv, fx_ci hst, hln⟩ (fx_ext.rf h ad))
theorem fx_s_bipush (C : fx_Cx p R s m args meth c0 A D aC X M) (K : fx_Mok M) (v : Int) : fx_G p l e R s m args below meth c0 Q A D aC X M (.bipush v) := by
  intro pc lv st h c n x ad L H locs ls hF hs I k
  obtain ⟨he, hS, hl, hlv, hst, hln⟩ := id I
  simp only [fx_stp] at hs
  cases hs
  exact lv_bipush C.1 C.2.1 (fx_dec K hF rfl) rfl (k ad L H locs ls ⟨he, hS, hl, hlv, fx_ci hst, hln⟩ (fx_ext.rf h ad))
theorem fx_s_sipush (C : fx_Cx p R s m args meth c0 A D aC X M) (K : fx_Mok M) (v : Int) : fx_G p l e R s m args below meth c0 Q A D aC X M (.sipush v) := by
  intro pc lv st h c n x ad L H locs ls hF hs I k
  obtain ⟨he, hS, hl, hlv, hst, hln⟩ := id I
  simp only [fx_stp] at hs
  cases hs
  exact lv_sipush C.1 C.2.1 (fx_dec K hF rfl) rfl (k ad L H locs ls ⟨he, hS, hl, hlv, fx_ci hst, hln⟩ (fx_ext.rf h ad))
theorem fx_s_lconst (C : fx_Cx p R s m args meth c0 A D aC X M) (K : fx_Mok M) (v : Fin 2) : fx_G p l e R s m args below meth c0 Q A D aC X M (.lconst v) := by
  intro pc lv st h c n x ad L H locs ls hF hs I k
  obtain ⟨he, hS, hl, hlv, hst, hln⟩ := id I
  simp only [fx_stp] at hs
  cases hs
  exact lv_lconst C.1 C.2.1 (fx_dec K hF rfl) rfl (k ad L H locs ls ⟨he, hS, hl, hlv, fx_cL hst, hln⟩ (fx_ext.rf h ad))
theorem fx_s_aconst_null (C : fx_Cx p R s m args meth c0 A D aC X M) (K : fx_Mok M) : fx_G p l e R s m args below meth c0 Q A D aC X M (.aconst_null) := by
  intro pc lv st h c n x ad L H locs ls hF hs I k
  obtain ⟨he, hS, hl, hlv, hst, hln⟩ := id I
  simp only [fx_stp] at hs
  cases hs
  exact lv_null C.1 C.2.1 (fx_dec K hF rfl) (k ad L H locs ls ⟨he, hS, hl, hlv, fx_cn (P := fx_ok h) trivial hst, hln⟩ (fx_ext.rf h ad))
theorem fx_s_ldc (C : fx_Cx p R s m args meth c0 A D aC X M) (K : fx_Mok M) (v : Nat) : fx_G p l e R s m args below meth c0 Q A D aC X M (.ldc v) := by
  intro pc lv st h c n x ad L H locs ls hF hs I k
  obtain ⟨he, hS, hl, hlv, hst, hln⟩ := id I
  simp only [fx_stp] at hs
  obtain ⟨-, -, -, -, -, Ki, -, Ks, -, -⟩ := id K
  split at hs
  · rename_i w hw
    cases hs
    exact lv_ldc C.1 C.2.1 C.2.2.2.1 (C.2.2.2.2.1 _ (Ki _ _ (fx_lk_mem hw))) (fx_dec K hF rfl) (k ad L H locs ls ⟨he, hS, hl, hlv, fx_ci hst, hln⟩ (fx_ext.rf h ad))
  · split at hs
    · rename_i j hj
      cases hs
      obtain ⟨hj1, tx, hj2⟩ := Ks _ _ (fx_lk_mem hj)
      have hX := he.2.2.2.2
      have e9 := hX.2.2.2.2.2.2.2.2.1 j hj1
      refine va_ldcS (q := ad (92, j)) C.1 C.2.1 C.2.2.2.1 (tx := tx) (by rw [e9]; exact C.2.2.2.2.2.2.2.2.2.1.2.2.2.2.1 _ hj2) (fx_dec K hF rfl) (k ad L H locs ls ⟨he, hS, hl, hlv, fx_cn (P := fx_ok h) (by show j < h.1 92; rw [hX.2.2.2.2.2.2.2.2.2]; exact hj1) hst, hln⟩ (fx_ext.rf h ad))
    · cases hs
theorem fx_s_ldc_w (C : fx_Cx p R s m args meth c0 A D aC X M) (K : fx_Mok M) (v : Nat) : fx_G p l e R s m args below meth c0 Q A D aC X M (.ldc_w v) := by
  intro pc lv st h c n x ad L H locs ls hF hs I k
  obtain ⟨he, hS, hl, hlv, hst, hln⟩ := id I
  simp only [fx_stp] at hs
  have Ki := K.2.2.2.2.2.1
  split at hs
  · rename_i w hw
    cases hs
    exact lv_ldcw C.1 C.2.1 C.2.2.2.1 (C.2.2.2.2.1 _ (Ki _ _ (fx_lk_mem hw))) (fx_dec K hF rfl) (k ad L H locs ls ⟨he, hS, hl, hlv, fx_ci hst, hln⟩ (fx_ext.rf h ad))
  · cases hs
theorem fx_s_ldc2_w (C : fx_Cx p R s m args meth c0 A D aC X M) (K : fx_Mok M) (v : Nat) : fx_G p l e R s m args below meth c0 Q A D aC X M (.ldc2_w v) := by
  intro pc lv st h c n x ad L H locs ls hF hs I k
  obtain ⟨he, hS, hl, hlv, hst, hln⟩ := id I
  simp only [fx_stp] at hs
  have Ki := K.2.2.2.2.2.2.1
  split at hs
  · rename_i w hw
    cases hs
    exact lv_ldc2 C.1 C.2.1 C.2.2.2.1 (C.2.2.2.2.1 _ (Ki _ _ (fx_lk_mem hw))) (fx_dec K hF rfl) (k ad L H locs ls ⟨he, hS, hl, hlv, fx_cL hst, hln⟩ (fx_ext.rf h ad))
  · cases hs
theorem fx_s_iload_n (C : fx_Cx p R s m args meth c0 A D aC X M) (K : fx_Mok M) (v : Fin 4) : fx_G p l e R s m args below meth c0 Q A D aC X M (.iload_n v) := by
  intro pc lv st h c n x ad L H locs ls hF hs I k
  obtain ⟨he, hS, hl, hlv, hst, hln⟩ := id I
  simp only [fx_stp] at hs
  split at hs
  · rename_i w hw
    cases hs
    exact lv_iload_n C.1 C.2.1 (fx_dec K hF rfl) rfl (fx_lvat hl hw) (k ad L H locs ls ⟨he, hS, hl, hlv, fx_ci hst, hln⟩ (fx_ext.rf h ad))
  · cases hs
theorem fx_s_iload (C : fx_Cx p R s m args meth c0 A D aC X M) (K : fx_Mok M) (v : Nat) : fx_G p l e R s m args below meth c0 Q A D aC X M (.iload v) := by
  intro pc lv st h c n x ad L H locs ls hF hs I k
  obtain ⟨he, hS, hl, hlv, hst, hln⟩ := id I
  simp only [fx_stp] at hs
  split at hs
  · rename_i w hw
    cases hs
    exact lv_iload C.1 C.2.1 (fx_dec K hF rfl) (fx_lvat hl hw) (k ad L H locs ls ⟨he, hS, hl, hlv, fx_ci hst, hln⟩ (fx_ext.rf h ad))
  · cases hs
theorem fx_s_lload_n (C : fx_Cx p R s m args meth c0 A D aC X M) (K : fx_Mok M) (v : Fin 4) : fx_G p l e R s m args below meth c0 Q A D aC X M (.lload_n v) := by
  intro pc lv st h c n x ad L H locs ls hF hs I k
  obtain ⟨he, hS, hl, hlv, hst, hln⟩ := id I
  simp only [fx_stp] at hs
  split at hs
  · rename_i w hw
    cases hs
    exact lv_lload_n C.1 C.2.1 (fx_dec K hF rfl) rfl (fx_lvat hl hw) (k ad L H locs ls ⟨he, hS, hl, hlv, fx_cL hst, hln⟩ (fx_ext.rf h ad))
  · cases hs
theorem fx_s_lload (C : fx_Cx p R s m args meth c0 A D aC X M) (K : fx_Mok M) (v : Nat) : fx_G p l e R s m args below meth c0 Q A D aC X M (.lload v) := by
  intro pc lv st h c n x ad L H locs ls hF hs I k
  obtain ⟨he, hS, hl, hlv, hst, hln⟩ := id I
  simp only [fx_stp] at hs
  split at hs
  · rename_i w hw
    cases hs
    exact lv_lload C.1 C.2.1 (fx_dec K hF rfl) (fx_lvat hl hw) (k ad L H locs ls ⟨he, hS, hl, hlv, fx_cL hst, hln⟩ (fx_ext.rf h ad))
  · cases hs
theorem fx_s_aload_n (C : fx_Cx p R s m args meth c0 A D aC X M) (K : fx_Mok M) (v : Fin 4) : fx_G p l e R s m args below meth c0 Q A D aC X M (.aload_n v) := by
  intro pc lv st h c n x ad L H locs ls hF hs I k
  obtain ⟨he, hS, hl, hlv, hst, hln⟩ := id I
  simp only [fx_stp] at hs
  split at hs
  · rename_i w hw
    cases hs
    cases w with
    | none => exact lv_aload_nN C.1 C.2.1 (fx_dec K hF rfl) rfl (fx_lvat hl hw) (k ad L H locs ls ⟨he, hS, hl, hlv, fx_cn (P := fx_ok h) (hlv _ _ hw) hst, hln⟩ (fx_ext.rf h ad))
    | some r => exact lv_aload_n C.1 C.2.1 (fx_dec K hF rfl) rfl (fx_lvat hl hw) (k ad L H locs ls ⟨he, hS, hl, hlv, fx_cn (P := fx_ok h) (hlv _ _ hw) hst, hln⟩ (fx_ext.rf h ad))
  · cases hs
theorem fx_s_aload (C : fx_Cx p R s m args meth c0 A D aC X M) (K : fx_Mok M) (v : Nat) : fx_G p l e R s m args below meth c0 Q A D aC X M (.aload v) := by
  intro pc lv st h c n x ad L H locs ls hF hs I k
  obtain ⟨he, hS, hl, hlv, hst, hln⟩ := id I
  simp only [fx_stp] at hs
  split at hs
  · rename_i w hw
    cases hs
    cases w with
    | none => exact lv_aloadN C.1 C.2.1 (fx_dec K hF rfl) (fx_lvat hl hw) (k ad L H locs ls ⟨he, hS, hl, hlv, fx_cn (P := fx_ok h) (hlv _ _ hw) hst, hln⟩ (fx_ext.rf h ad))
    | some r => exact lv_aload C.1 C.2.1 (fx_dec K hF rfl) (fx_lvat hl hw) (k ad L H locs ls ⟨he, hS, hl, hlv, fx_cn (P := fx_ok h) (hlv _ _ hw) hst, hln⟩ (fx_ext.rf h ad))
  · cases hs
theorem fx_s_istore_n (C : fx_Cx p R s m args meth c0 A D aC X M) (K : fx_Mok M) (v : Fin 4) : fx_G p l e R s m args below meth c0 Q A D aC X M (.istore_n v) := by
  intro pc lv st h c n x ad L H locs ls hF hs I k
  obtain ⟨he, hS, hl, hlv, hst, hln⟩ := id I
  simp only [fx_stp] at hs
  split at hs
  · cases hb : Nat.blt v M.1.2.2.1 with
    | false => rw [hb] at hs; cases hs
    | true =>
      rw [hb] at hs
      cases hs
      exact lv_istore_n C.1 C.2.1 (fx_dec K hF rfl) rfl hl (Nat.le_of_ble_eq_true hb) rfl (fun ls' hl' => (k ad L H locs ls' ⟨he, hS, fx_lv1 hl', (fun i w hw => (fx_st1_get hw).elim (fun z => by rw [z.2]; exact True.intro) (fun z => hlv i w z.2.1)), (fx_tl hst), (by rw [fx_st1_len]; exact hln)⟩ (fx_ext.rf h ad)))
  · cases hs
theorem fx_s_istore (C : fx_Cx p R s m args meth c0 A D aC X M) (K : fx_Mok M) (v : Nat) : fx_G p l e R s m args below meth c0 Q A D aC X M (.istore v) := by
  intro pc lv st h c n x ad L H locs ls hF hs I k
  obtain ⟨he, hS, hl, hlv, hst, hln⟩ := id I
  simp only [fx_stp] at hs
  split at hs
  · cases hb : Nat.blt v M.1.2.2.1 with
    | false => rw [hb] at hs; cases hs
    | true =>
      rw [hb] at hs
      cases hs
      exact lv_istore C.1 C.2.1 (fx_dec K hF rfl) hl (Nat.le_of_ble_eq_true hb) rfl (fun ls' hl' => (k ad L H locs ls' ⟨he, hS, fx_lv1 hl', (fun i w hw => (fx_st1_get hw).elim (fun z => by rw [z.2]; exact True.intro) (fun z => hlv i w z.2.1)), (fx_tl hst), (by rw [fx_st1_len]; exact hln)⟩ (fx_ext.rf h ad)))
  · cases hs
theorem fx_s_lstore_n (C : fx_Cx p R s m args meth c0 A D aC X M) (K : fx_Mok M) (v : Fin 4) : fx_G p l e R s m args below meth c0 Q A D aC X M (.lstore_n v) := by
  intro pc lv st h c n x ad L H locs ls hF hs I k
  obtain ⟨he, hS, hl, hlv, hst, hln⟩ := id I
  simp only [fx_stp] at hs
  split at hs
  · cases hb : Nat.blt (v + 1) M.1.2.2.1 with
    | false => rw [hb] at hs; cases hs
    | true =>
      rw [hb] at hs
      cases hs
      exact lv_lstore_n C.1 C.2.1 (fx_dec K hF rfl) rfl hl (Nat.le_of_ble_eq_true hb) rfl (fun ls' hl' => (k ad L H locs ls' ⟨he, hS, fx_lv2 hl', (fun i w hw => (fx_st2_get hw).elim (fun z => by rw [z.2]; exact True.intro) (fun z => hlv i w z.2.2.1)), (fx_tl hst), (by rw [fx_st2_len]; exact hln)⟩ (fx_ext.rf h ad)))
  · cases hs
theorem fx_s_lstore (C : fx_Cx p R s m args meth c0 A D aC X M) (K : fx_Mok M) (v : Nat) : fx_G p l e R s m args below meth c0 Q A D aC X M (.lstore v) := by
  intro pc lv st h c n x ad L H locs ls hF hs I k
  obtain ⟨he, hS, hl, hlv, hst, hln⟩ := id I
  simp only [fx_stp] at hs
  split at hs
  · cases hb : Nat.blt (v + 1) M.1.2.2.1 with
    | false => rw [hb] at hs; cases hs
    | true =>
      rw [hb] at hs
      cases hs
      exact lv_lstore C.1 C.2.1 (fx_dec K hF rfl) hl (Nat.le_of_ble_eq_true hb) rfl (fun ls' hl' => (k ad L H locs ls' ⟨he, hS, fx_lv2 hl', (fun i w hw => (fx_st2_get hw).elim (fun z => by rw [z.2]; exact True.intro) (fun z => hlv i w z.2.2.1)), (fx_tl hst), (by rw [fx_st2_len]; exact hln)⟩ (fx_ext.rf h ad)))
  · cases hs
theorem fx_s_astore_n (C : fx_Cx p R s m args meth c0 A D aC X M) (K : fx_Mok M) (v : Fin 4) : fx_G p l e R s m args below meth c0 Q A D aC X M (.astore_n v) := by
  intro pc lv st h c n x ad L H locs ls hF hs I k
  obtain ⟨he, hS, hl, hlv, hst, hln⟩ := id I
  simp only [fx_stp] at hs
  split at hs
  · rename_i u r
    cases hb : Nat.blt v M.1.2.2.1 with
    | false => rw [hb] at hs; cases hs
    | true =>
      rw [hb] at hs
      cases hs
      cases u with
      | none => exact lv_astore_nN C.1 C.2.1 (fx_dec K hF rfl) rfl hl (Nat.le_of_ble_eq_true hb) rfl (fun ls' hl' => (k ad L H locs ls' ⟨he, hS, fx_lv1 hl', (fun i w hw => (fx_st1_get hw).elim (fun z => by rw [z.2]; exact fx_hd hst) (fun z => hlv i w z.2.1)), (fx_tl hst), (by rw [fx_st1_len]; exact hln)⟩ (fx_ext.rf h ad)))
      | some u => exact lv_astore_n C.1 C.2.1 (fx_dec K hF rfl) rfl hl (Nat.le_of_ble_eq_true hb) rfl (fun ls' hl' => (k ad L H locs ls' ⟨he, hS, fx_lv1 hl', (fun i w hw => (fx_st1_get hw).elim (fun z => by rw [z.2]; exact fx_hd hst) (fun z => hlv i w z.2.1)), (fx_tl hst), (by rw [fx_st1_len]; exact hln)⟩ (fx_ext.rf h ad)))
  · cases hs
theorem fx_s_astore (C : fx_Cx p R s m args meth c0 A D aC X M) (K : fx_Mok M) (v : Nat) : fx_G p l e R s m args below meth c0 Q A D aC X M (.astore v) := by
  intro pc lv st h c n x ad L H locs ls hF hs I k
  obtain ⟨he, hS, hl, hlv, hst, hln⟩ := id I
  simp only [fx_stp] at hs
  split at hs
  · rename_i u r
    cases hb : Nat.blt v M.1.2.2.1 with
    | false => rw [hb] at hs; cases hs
    | true =>
      rw [hb] at hs
      cases hs
      cases u with
      | none => exact lv_astoreN C.1 C.2.1 (fx_dec K hF rfl) hl (Nat.le_of_ble_eq_true hb) rfl (fun ls' hl' => (k ad L H locs ls' ⟨he, hS, fx_lv1 hl', (fun i w hw => (fx_st1_get hw).elim (fun z => by rw [z.2]; exact fx_hd hst) (fun z => hlv i w z.2.1)), (fx_tl hst), (by rw [fx_st1_len]; exact hln)⟩ (fx_ext.rf h ad)))
      | some u => exact lv_astore C.1 C.2.1 (fx_dec K hF rfl) hl (Nat.le_of_ble_eq_true hb) rfl (fun ls' hl' => (k ad L H locs ls' ⟨he, hS, fx_lv1 hl', (fun i w hw => (fx_st1_get hw).elim (fun z => by rw [z.2]; exact fx_hd hst) (fun z => hlv i w z.2.1)), (fx_tl hst), (by rw [fx_st1_len]; exact hln)⟩ (fx_ext.rf h ad)))
  · cases hs
theorem fx_s_iinc (C : fx_Cx p R s m args meth c0 A D aC X M) (K : fx_Mok M) (v : Nat) (d : Int) : fx_G p l e R s m args below meth c0 Q A D aC X M (.iinc v d) := by
  intro pc lv st h c n x ad L H locs ls hF hs I k
  obtain ⟨he, hS, hl, hlv, hst, hln⟩ := id I
  simp only [fx_stp] at hs
  split at hs
  · rename_i w hw
    cases hb : Nat.blt v M.1.2.2.1 with
    | false => rw [hb] at hs; cases hs
    | true =>
      rw [hb] at hs
      cases hs
      obtain ⟨q, hq⟩ := List.getElem?_of_mem (fx_lvo_mem (ad := ad) (q := (v, .int w)).mpr ⟨_, hw, rfl⟩)
      exact lv_iinc C.1 C.2.1 (fx_dec K hF rfl) hl hq rfl (Nat.le_of_ble_eq_true hb) rfl (fun ls' hl' => (k ad L H locs ls' ⟨he, hS, fx_lv1 hl', (fun i w hw => (fx_st1_get hw).elim (fun z => by rw [z.2]; exact True.intro) (fun z => hlv i w z.2.1)), hst, (by rw [fx_st1_len]; exact hln)⟩ (fx_ext.rf h ad)))
  · cases hs
theorem fx_s_dup (C : fx_Cx p R s m args meth c0 A D aC X M) (K : fx_Mok M) : fx_G p l e R s m args below meth c0 Q A D aC X M (.dup) := by
  intro pc lv st h c n x ad L H locs ls hF hs I k
  obtain ⟨he, hS, hl, hlv, hst, hln⟩ := id I
  simp only [fx_stp] at hs
  split at hs
  · cases hs
  · rename_i u r hn
    cases hs
    exact lv_dup C.1 C.2.1 (fx_dec K hF rfl) (by rcases u with z | z | (_ | z) <;> first | rfl | exact (hn _ rfl).elim) (k ad L H locs ls ⟨he, hS, hl, hlv, fx_cn (P := fx_ok h) (fx_hd hst) hst, hln⟩ (fx_ext.rf h ad))
  · cases hs
theorem fx_s_pop (C : fx_Cx p R s m args meth c0 A D aC X M) (K : fx_Mok M) : fx_G p l e R s m args below meth c0 Q A D aC X M (.pop) := by
  intro pc lv st h c n x ad L H locs ls hF hs I k
  obtain ⟨he, hS, hl, hlv, hst, hln⟩ := id I
  simp only [fx_stp] at hs
  split at hs
  · cases hs
  · rename_i u r hn
    cases hs
    exact lv_pop (va := fx_cv ad u) C.1 C.2.1 (fx_dec K hF rfl) (by rcases u with z | z | (_ | z) <;> first | rfl | exact (hn _ rfl).elim) (k ad L H locs ls ⟨he, hS, hl, hlv, (fx_tl hst), hln⟩ (fx_ext.rf h ad))
  · cases hs
theorem fx_s_dup2 (C : fx_Cx p R s m args meth c0 A D aC X M) (K : fx_Mok M) : fx_G p l e R s m args below meth c0 Q A D aC X M (.dup2) := by
  intro pc lv st h c n x ad L H locs ls hF hs I k
  obtain ⟨he, hS, hl, hlv, hst, hln⟩ := id I
  simp only [fx_stp] at hs
  split at hs
  · rename_i y u r
    cases hs
    exact lv_dup2_11 C.1 C.2.1 (fx_dec K hF rfl) rfl (by cases u <;> rfl) (k ad L H locs ls ⟨he, hS, hl, hlv, fx_ci (fx_cn (P := fx_ok h) (fx_hd (fx_tl hst)) hst), hln⟩ (fx_ext.rf h ad))
  · cases hs
theorem fx_s_ifCond_eq (C : fx_Cx p R s m args meth c0 A D aC X M) (K : fx_Mok M) (o : Int) : fx_G p l e R s m args below meth c0 Q A D aC X M (.ifCond .eq o) := by
  intro pc lv st h c n x ad L H locs ls hF hs I k
  obtain ⟨he, hS, hl, hlv, hst, hln⟩ := id I
  simp only [fx_stp] at hs
  split at hs
  · rcases fx_br_spec hs with ⟨hc, rfl, ht⟩ | ⟨hc, rfl, ht⟩
    · exact lv_if_eq C.1 C.2.1 (fx_dec K hF rfl) ht (fun _ => (k ad L H locs ls ⟨he, hS, hl, hlv, (fx_tl hst), hln⟩ (fx_ext.rf h ad))) (fun q => absurd hc q)
    · exact lv_if_eq C.1 C.2.1 (fx_dec K hF rfl) ht (fun q => absurd q hc) (fun _ => (k ad L H locs ls ⟨he, hS, hl, hlv, (fx_tl hst), hln⟩ (fx_ext.rf h ad)))
  · cases hs
theorem fx_s_if_icmp_eq (C : fx_Cx p R s m args meth c0 A D aC X M) (K : fx_Mok M) (o : Int) : fx_G p l e R s m args below meth c0 Q A D aC X M (.if_icmp .eq o) := by
  intro pc lv st h c n x ad L H locs ls hF hs I k
  obtain ⟨he, hS, hl, hlv, hst, hln⟩ := id I
  simp only [fx_stp] at hs
  split at hs
  · rcases fx_br_spec hs with ⟨hc, rfl, ht⟩ | ⟨hc, rfl, ht⟩
    · exact lv_icmp_eq C.1 C.2.1 (fx_dec K hF rfl) ht (fun _ => (k ad L H locs ls ⟨he, hS, hl, hlv, (fx_tl (fx_tl hst)), hln⟩ (fx_ext.rf h ad))) (fun q => absurd hc q)
    · exact lv_icmp_eq C.1 C.2.1 (fx_dec K hF rfl) ht (fun q => absurd q hc) (fun _ => (k ad L H locs ls ⟨he, hS, hl, hlv, (fx_tl (fx_tl hst)), hln⟩ (fx_ext.rf h ad)))
  · cases hs
theorem fx_s_ifCond_ne (C : fx_Cx p R s m args meth c0 A D aC X M) (K : fx_Mok M) (o : Int) : fx_G p l e R s m args below meth c0 Q A D aC X M (.ifCond .ne o) := by
  intro pc lv st h c n x ad L H locs ls hF hs I k
  obtain ⟨he, hS, hl, hlv, hst, hln⟩ := id I
  simp only [fx_stp] at hs
  split at hs
  · rcases fx_br_spec hs with ⟨hc, rfl, ht⟩ | ⟨hc, rfl, ht⟩
    · exact lv_if_ne C.1 C.2.1 (fx_dec K hF rfl) ht (fun _ => (k ad L H locs ls ⟨he, hS, hl, hlv, (fx_tl hst), hln⟩ (fx_ext.rf h ad))) (fun q => absurd q hc)
    · exact lv_if_ne C.1 C.2.1 (fx_dec K hF rfl) ht (fun q => absurd q hc) (fun _ => (k ad L H locs ls ⟨he, hS, hl, hlv, (fx_tl hst), hln⟩ (fx_ext.rf h ad)))
  · cases hs
theorem fx_s_if_icmp_ne (C : fx_Cx p R s m args meth c0 A D aC X M) (K : fx_Mok M) (o : Int) : fx_G p l e R s m args below meth c0 Q A D aC X M (.if_icmp .ne o) := by
  intro pc lv st h c n x ad L H locs ls hF hs I k
  obtain ⟨he, hS, hl, hlv, hst, hln⟩ := id I
  simp only [fx_stp] at hs
  split at hs
  · rcases fx_br_spec hs with ⟨hc, rfl, ht⟩ | ⟨hc, rfl, ht⟩
    · exact lv_icmp_ne C.1 C.2.1 (fx_dec K hF rfl) ht (fun _ => (k ad L H locs ls ⟨he, hS, hl, hlv, (fx_tl (fx_tl hst)), hln⟩ (fx_ext.rf h ad))) (fun q => absurd q hc)
    · exact lv_icmp_ne C.1 C.2.1 (fx_dec K hF rfl) ht (fun q => absurd q hc) (fun _ => (k ad L H locs ls ⟨he, hS, hl, hlv, (fx_tl (fx_tl hst)), hln⟩ (fx_ext.rf h ad)))
  · cases hs
theorem fx_s_ifCond_lt (C : fx_Cx p R s m args meth c0 A D aC X M) (K : fx_Mok M) (o : Int) : fx_G p l e R s m args below meth c0 Q A D aC X M (.ifCond .lt o) := by
  intro pc lv st h c n x ad L H locs ls hF hs I k
  obtain ⟨he, hS, hl, hlv, hst, hln⟩ := id I
  simp only [fx_stp] at hs
  split at hs
  · rcases fx_br_spec hs with ⟨hc, rfl, ht⟩ | ⟨hc, rfl, ht⟩
    · exact lv_if_lt C.1 C.2.1 (fx_dec K hF rfl) ht (fun _ => (k ad L H locs ls ⟨he, hS, hl, hlv, (fx_tl hst), hln⟩ (fx_ext.rf h ad))) (fun q => absurd hc q)
    · exact lv_if_lt C.1 C.2.1 (fx_dec K hF rfl) ht (fun q => absurd q hc) (fun _ => (k ad L H locs ls ⟨he, hS, hl, hlv, (fx_tl hst), hln⟩ (fx_ext.rf h ad)))
  · cases hs
theorem fx_s_if_icmp_lt (C : fx_Cx p R s m args meth c0 A D aC X M) (K : fx_Mok M) (o : Int) : fx_G p l e R s m args below meth c0 Q A D aC X M (.if_icmp .lt o) := by
  intro pc lv st h c n x ad L H locs ls hF hs I k
  obtain ⟨he, hS, hl, hlv, hst, hln⟩ := id I
  simp only [fx_stp] at hs
  split at hs
  · rcases fx_br_spec hs with ⟨hc, rfl, ht⟩ | ⟨hc, rfl, ht⟩
    · exact lv_icmp_lt C.1 C.2.1 (fx_dec K hF rfl) ht (fun _ => (k ad L H locs ls ⟨he, hS, hl, hlv, (fx_tl (fx_tl hst)), hln⟩ (fx_ext.rf h ad))) (fun q => absurd hc q)
    · exact lv_icmp_lt C.1 C.2.1 (fx_dec K hF rfl) ht (fun q => absurd q hc) (fun _ => (k ad L H locs ls ⟨he, hS, hl, hlv, (fx_tl (fx_tl hst)), hln⟩ (fx_ext.rf h ad)))
  · cases hs
theorem fx_s_ifCond_ge (C : fx_Cx p R s m args meth c0 A D aC X M) (K : fx_Mok M) (o : Int) : fx_G p l e R s m args below meth c0 Q A D aC X M (.ifCond .ge o) := by
  intro pc lv st h c n x ad L H locs ls hF hs I k
  obtain ⟨he, hS, hl, hlv, hst, hln⟩ := id I
  simp only [fx_stp] at hs
  split at hs
  · rcases fx_br_spec hs with ⟨hc, rfl, ht⟩ | ⟨hc, rfl, ht⟩
    · exact lv_if_ge C.1 C.2.1 (fx_dec K hF rfl) ht (fun _ => (k ad L H locs ls ⟨he, hS, hl, hlv, (fx_tl hst), hln⟩ (fx_ext.rf h ad))) (fun q => absurd hc q)
    · exact lv_if_ge C.1 C.2.1 (fx_dec K hF rfl) ht (fun q => absurd q hc) (fun _ => (k ad L H locs ls ⟨he, hS, hl, hlv, (fx_tl hst), hln⟩ (fx_ext.rf h ad)))
  · cases hs
theorem fx_s_if_icmp_ge (C : fx_Cx p R s m args meth c0 A D aC X M) (K : fx_Mok M) (o : Int) : fx_G p l e R s m args below meth c0 Q A D aC X M (.if_icmp .ge o) := by
  intro pc lv st h c n x ad L H locs ls hF hs I k
  obtain ⟨he, hS, hl, hlv, hst, hln⟩ := id I
  simp only [fx_stp] at hs
  split at hs
  · rcases fx_br_spec hs with ⟨hc, rfl, ht⟩ | ⟨hc, rfl, ht⟩
    · exact lv_icmp_ge C.1 C.2.1 (fx_dec K hF rfl) ht (fun _ => (k ad L H locs ls ⟨he, hS, hl, hlv, (fx_tl (fx_tl hst)), hln⟩ (fx_ext.rf h ad))) (fun q => absurd hc q)
    · exact lv_icmp_ge C.1 C.2.1 (fx_dec K hF rfl) ht (fun q => absurd q hc) (fun _ => (k ad L H locs ls ⟨he, hS, hl, hlv, (fx_tl (fx_tl hst)), hln⟩ (fx_ext.rf h ad)))
  · cases hs
theorem fx_s_ifCond_gt (C : fx_Cx p R s m args meth c0 A D aC X M) (K : fx_Mok M) (o : Int) : fx_G p l e R s m args below meth c0 Q A D aC X M (.ifCond .gt o) := by
  intro pc lv st h c n x ad L H locs ls hF hs I k
  obtain ⟨he, hS, hl, hlv, hst, hln⟩ := id I
  simp only [fx_stp] at hs
  split at hs
  · rcases fx_br_spec hs with ⟨hc, rfl, ht⟩ | ⟨hc, rfl, ht⟩
    · exact lv_if_gt C.1 C.2.1 (fx_dec K hF rfl) ht (fun _ => (k ad L H locs ls ⟨he, hS, hl, hlv, (fx_tl hst), hln⟩ (fx_ext.rf h ad))) (fun q => absurd hc q)
    · exact lv_if_gt C.1 C.2.1 (fx_dec K hF rfl) ht (fun q => absurd q hc) (fun _ => (k ad L H locs ls ⟨he, hS, hl, hlv, (fx_tl hst), hln⟩ (fx_ext.rf h ad)))
  · cases hs
theorem fx_s_if_icmp_gt (C : fx_Cx p R s m args meth c0 A D aC X M) (K : fx_Mok M) (o : Int) : fx_G p l e R s m args below meth c0 Q A D aC X M (.if_icmp .gt o) := by
  intro pc lv st h c n x ad L H locs ls hF hs I k
  obtain ⟨he, hS, hl, hlv, hst, hln⟩ := id I
  simp only [fx_stp] at hs
  split at hs
  · rcases fx_br_spec hs with ⟨hc, rfl, ht⟩ | ⟨hc, rfl, ht⟩
    · exact lv_icmp_gt C.1 C.2.1 (fx_dec K hF rfl) ht (fun _ => (k ad L H locs ls ⟨he, hS, hl, hlv, (fx_tl (fx_tl hst)), hln⟩ (fx_ext.rf h ad))) (fun q => absurd hc q)
    · exact lv_icmp_gt C.1 C.2.1 (fx_dec K hF rfl) ht (fun q => absurd q hc) (fun _ => (k ad L H locs ls ⟨he, hS, hl, hlv, (fx_tl (fx_tl hst)), hln⟩ (fx_ext.rf h ad)))
  · cases hs
theorem fx_s_ifCond_le (C : fx_Cx p R s m args meth c0 A D aC X M) (K : fx_Mok M) (o : Int) : fx_G p l e R s m args below meth c0 Q A D aC X M (.ifCond .le o) := by
  intro pc lv st h c n x ad L H locs ls hF hs I k
  obtain ⟨he, hS, hl, hlv, hst, hln⟩ := id I
  simp only [fx_stp] at hs
  split at hs
  · rcases fx_br_spec hs with ⟨hc, rfl, ht⟩ | ⟨hc, rfl, ht⟩
    · exact lv_if_le C.1 C.2.1 (fx_dec K hF rfl) ht (fun _ => (k ad L H locs ls ⟨he, hS, hl, hlv, (fx_tl hst), hln⟩ (fx_ext.rf h ad))) (fun q => absurd hc q)
    · exact lv_if_le C.1 C.2.1 (fx_dec K hF rfl) ht (fun q => absurd q hc) (fun _ => (k ad L H locs ls ⟨he, hS, hl, hlv, (fx_tl hst), hln⟩ (fx_ext.rf h ad)))
  · cases hs
theorem fx_s_if_icmp_le (C : fx_Cx p R s m args meth c0 A D aC X M) (K : fx_Mok M) (o : Int) : fx_G p l e R s m args below meth c0 Q A D aC X M (.if_icmp .le o) := by
  intro pc lv st h c n x ad L H locs ls hF hs I k
  obtain ⟨he, hS, hl, hlv, hst, hln⟩ := id I
  simp only [fx_stp] at hs
  split at hs
  · rcases fx_br_spec hs with ⟨hc, rfl, ht⟩ | ⟨hc, rfl, ht⟩
    · exact lv_icmp_le C.1 C.2.1 (fx_dec K hF rfl) ht (fun _ => (k ad L H locs ls ⟨he, hS, hl, hlv, (fx_tl (fx_tl hst)), hln⟩ (fx_ext.rf h ad))) (fun q => absurd hc q)
    · exact lv_icmp_le C.1 C.2.1 (fx_dec K hF rfl) ht (fun q => absurd q hc) (fun _ => (k ad L H locs ls ⟨he, hS, hl, hlv, (fx_tl (fx_tl hst)), hln⟩ (fx_ext.rf h ad)))
  · cases hs
theorem fx_s_goto (C : fx_Cx p R s m args meth c0 A D aC X M) (K : fx_Mok M) (o : Int) : fx_G p l e R s m args below meth c0 Q A D aC X M (.goto o) := by
  intro pc lv st h c n x ad L H locs ls hF hs I k
  obtain ⟨he, hS, hl, hlv, hst, hln⟩ := id I
  simp only [fx_stp] at hs
  obtain ⟨rfl, ht⟩ := fx_jmp_spec hs
  exact lv_goto C.1 C.2.1 (fx_dec K hF rfl) ht (k ad L H locs ls ⟨he, hS, hl, hlv, hst, hln⟩ (fx_ext.rf h ad))
theorem fx_s_ifnull (C : fx_Cx p R s m args meth c0 A D aC X M) (K : fx_Mok M) (o : Int) : fx_G p l e R s m args below meth c0 Q A D aC X M (.ifnull o) := by
  intro pc lv st h c n x ad L H locs ls hF hs I k
  obtain ⟨he, hS, hl, hlv, hst, hln⟩ := id I
  simp only [fx_stp] at hs
  split at hs
  · obtain ⟨rfl, ht⟩ := fx_jmp_spec hs
    exact lv_ifnullN C.1 C.2.1 (fx_dec K hF rfl) ht (k ad L H locs ls ⟨he, hS, hl, hlv, (fx_tl hst), hln⟩ (fx_ext.rf h ad))
  · cases hs
    exact lv_ifnull C.1 C.2.1 (fx_dec K hF rfl) (k ad L H locs ls ⟨he, hS, hl, hlv, (fx_tl hst), hln⟩ (fx_ext.rf h ad))
  · cases hs
theorem fx_s_ifnonnull (C : fx_Cx p R s m args meth c0 A D aC X M) (K : fx_Mok M) (o : Int) : fx_G p l e R s m args below meth c0 Q A D aC X M (.ifnonnull o) := by
  intro pc lv st h c n x ad L H locs ls hF hs I k
  obtain ⟨he, hS, hl, hlv, hst, hln⟩ := id I
  simp only [fx_stp] at hs
  split at hs
  · cases hs
    exact lv_ifnonnullN C.1 C.2.1 (fx_dec K hF rfl) (k ad L H locs ls ⟨he, hS, hl, hlv, (fx_tl hst), hln⟩ (fx_ext.rf h ad))
  · obtain ⟨rfl, ht⟩ := fx_jmp_spec hs
    exact lv_ifnonnull C.1 C.2.1 (fx_dec K hF rfl) ht (k ad L H locs ls ⟨he, hS, hl, hlv, (fx_tl hst), hln⟩ (fx_ext.rf h ad))
  · cases hs
theorem fx_s_tableswitch (C : fx_Cx p R s m args meth c0 A D aC X M) (K : fx_Mok M) (d lo hi : Int) (os : Array Int) : fx_G p l e R s m args below meth c0 Q A D aC X M (.tableswitch d lo hi os) := by
  intro pc lv st h c n x ad L H locs ls hF hs I k
  obtain ⟨he, hS, hl, hlv, hst, hln⟩ := id I
  simp only [fx_stp] at hs
  obtain ⟨n1, hd1, -⟩ := K.1 _ _ hF
  split at hs
  · split at hs
    · rename_i hc
      obtain ⟨rfl, ht⟩ := fx_jmp_spec hs
      exact lv_tableOut C.1 C.2.1 hd1 hc ht (k ad L H locs ls ⟨he, hS, hl, hlv, (fx_tl hst), hln⟩ (fx_ext.rf h ad))
    · rename_i hc
      split at hs
      · rename_i of ho
        obtain ⟨rfl, ht⟩ := fx_jmp_spec hs
        exact lv_tableIn C.1 C.2.1 hd1 (fun q => hc (Or.inl q)) (fun q => hc (Or.inr q)) ho ht (k ad L H locs ls ⟨he, hS, hl, hlv, (fx_tl hst), hln⟩ (fx_ext.rf h ad))
      · cases hs
  · cases hs
theorem fx_s_lookupswitch (C : fx_Cx p R s m args meth c0 A D aC X M) (K : fx_Mok M) (d : Int) (ps : Array (Int × Int)) : fx_G p l e R s m args below meth c0 Q A D aC X M (.lookupswitch d ps) := by
  intro pc lv st h c n x ad L H locs ls hF hs I k
  obtain ⟨he, hS, hl, hlv, hst, hln⟩ := id I
  simp only [fx_stp] at hs
  obtain ⟨n1, hd1, -⟩ := K.1 _ _ hF
  split at hs
  · cases hb : (ps.toList.zip (ps.toList.drop 1)).all (fun (a, next) => decide (a.1 < next.1)) with
    | false => rw [hb] at hs; cases hs
    | true =>
      rw [hb] at hs
      obtain ⟨rfl, ht⟩ := fx_jmp_spec hs
      exact lv_lookup C.1 C.2.1 hd1 hb rfl ht (k ad L H locs ls ⟨he, hS, hl, hlv, (fx_tl hst), hln⟩ (fx_ext.rf h ad))
  · cases hs
end FXI
end
section
/-! fields, arrays, what is made -/
theorem fx_clin {ci : Nat} {q : vw_C} (h : fx_cl[ci]? = some q) : (∀ w ∈ u_ws q.1 q.2.1 q.2.2, w ∈ fx_tbl) ∧ Cond.instantiable q.1 q.2.2 ∈ fx_tbl ∧ Cond.initialized q.1 ∈ fx_tbl := by
  obtain ⟨h1, -, -, h4, h5⟩ := fx_clok ci q h
  refine ⟨fun w hw => fx_tb (h1 w hw) ?_, fx_tb h4 rfl, fx_tb h5 rfl⟩
  unfold u_ws at hw
  obtain ⟨k, -, rfl⟩ := List.mem_map.mp hw
  unfold u_lay
  split <;> rfl
section FXH
variable {p : Program} {l : Launch} {e : Env} {R : Room} {s : State} {m : MethodId} {args : Array Value} {below : List Frame} {meth : Method} {c0 : Code} {Q : State → Prop}
variable {A : Nat → Prop} {D : va_G} {aC : Nat → ClassId} {X : fxX} {M : fxM}
theorem fx_s_getfield (C : fx_Cx p R s m args meth c0 A D aC X M) (K : fx_Mok M) (v : Nat) : fx_G p l e R s m args below meth c0 Q A D aC X M (.getfield v) := by
  intro pc lv st h c n x ad L H locs ls hF hs I k
  obtain ⟨he, hS, hl, hlv, hst, hln⟩ := id I
  simp only [fx_stp] at hs
  split at hs
  · rename_i ci sl t hx
    split at hs
    · rename_i k1 j1 r
      cases hb : Nat.beq k1 ci with
      | false => rw [hb] at hs; cases hs
      | true =>
        rw [hb] at hs
        have e1 := Nat.eq_of_beq_eq_true hb
        subst e1
        obtain ⟨hci, q, hq, hsl, hlk, htc⟩ := K.2.1 _ _ _ _ (fx_lk_mem hx)
        obtain ⟨q0, hq0⟩ := fx_inL he (by omega) (fx_hd hst)
        have hw := fx_ws_at (aC := aC) (ad := ad) (h := h) hq0
        rw [fx_cell_o (by omega)] at hw
        refine va_get (C := q.1) (T := q.2.1) (N := q.2.2) C.1 C.2.1 C.2.2.2.2.1 (fx_clin hq).1 C.2.2.2.1 C.2.2.2.2.2.1 he.1 q0 hw hq sl hsl (C.2.2.2.2.1 _ hlk) (fun _ z => z) (fx_fvs (by rw [fx_nf_of hq]; exact hsl)) (fx_dec K hF rfl) ?_
        simp only [cond_true] at hs
        split at hs
        · cases hs
          have ev : fx_fv ad h k1 j1 sl = .int (h.2.2.2.1 k1 j1 sl) := by unfold fx_fv; rw [htc]; first | done | rfl
          rw [ev]
          exact k ad L H locs ls ⟨he, hS, hl, hlv, fx_ci (fx_tl hst), hln⟩ (fx_ext.rf h ad)
        · cases hs
          have ev : fx_fv ad h k1 j1 sl = .long (h.2.2.2.2 k1 j1 sl) := by unfold fx_fv; rw [htc]; first | done | rfl
          rw [ev]
          exact k ad L H locs ls ⟨he, hS, hl, hlv, fx_cL (fx_tl hst), hln⟩ (fx_ext.rf h ad)
        · cases hs
          have ev : fx_fv ad h k1 j1 sl = fx_cv ad (.inr (.inr (h.2.2.1 k1 j1 sl))) := by unfold fx_fv; rw [htc, fx_rf]; rfl
          rw [ev]
          refine k ad L H locs ls ⟨he, hS, hl, hlv, fx_cn (P := fx_ok h) ?_ (fx_tl hst), hln⟩ (fx_ext.rf h ad)
          cases hr : h.2.2.1 k1 j1 sl with
          | none => trivial
          | some r2 => exact he.2.2.2.1 _ _ _ _ (fx_hd hst) hr
        · rename_i n0 n1 n2
          cases hs
          have ev : fx_fv ad h k1 j1 sl = .int (h.2.2.2.1 k1 j1 sl) := by
            unfold fx_fv
            rw [htc]
            split
            · exact absurd rfl n1
            · exact absurd rfl n2
            · rfl
          rw [ev]
          exact k ad L H locs ls ⟨he, hS, hl, hlv, fx_ci (fx_tl hst), hln⟩ (fx_ext.rf h ad)
    · cases hs
  · cases hs
theorem fx_putl (C : fx_Cx p R s m args meth c0 A D aC X M) (K : fx_Mok M) {pc x ci sl t j q0 cells slots : Nat} (hF : M.2.1 pc = some (.putfield x)) (hx : (x, ci, sl, t) ∈ M.2.2.1.1) {ad : fxR → Nat} {L : List fxR} {h h' : fxH} {H : Heap} {locs : List Loc} {ls : Array Slot} {rest : List Value} (he : fx_He A D aC X ad L h H) (hS : va_S A s.heap H locs) (hq0 : L[q0]? = some (ci, j)) (v : Value) (hn : narrow (fx_ty ci sl) v = v) (hf : fits (fx_ty ci sl) v = true)
    (hc : fx_cell aC ad h' (ci, j) = .inr (ci, ((List.range (fx_nf ci)).map (fx_fv ad h ci j)).set sl v)) (ho : ∀ r', r' ≠ (ci, j) → fx_cell aC ad h' r' = fx_cell aC ad h r') (hcnt : h'.1 = h.1) (hr : ∀ k j t r, j < h'.1 k → h'.2.2.1 k j t = some r → r.2 < h'.1 r.1) (hX : fx_Xh X ad h')
    (kk : ∀ (H1 : Heap) (locs1 : List Loc), fx_He A D aC X ad L h' H1 → va_S A s.heap H1 locs1 → W p l e R s m args below meth c0 H1 locs1 cells slots Q (F0 m (pc + 3) ls rest)) : W p l e R s m args below meth c0 H locs cells slots Q (F0 m pc ls (v :: .ref (ad (ci, j)) :: rest)) := by
  obtain ⟨hci, q, hq, hsl, hlk, htc⟩ := K.2.1 _ _ _ _ hx
  have hw := fx_ws_at (aC := aC) (ad := ad) (h := h) hq0
  rw [fx_cell_o (by omega)] at hw
  obtain ⟨-, hty, hnm, -, -⟩ := fx_clok ci q hq
  have hlen : sl < ((List.range (fx_nf ci)).map (fx_fv ad h ci j)).length := by rw [List.length_map, List.length_range, fx_nf_of hq]; exact hsl
  cases hfin : (q.2.1 sl).2.2.2 with
  | false => exact va_put (C := q.1) (T := q.2.1) (N := q.2.2) C.1 C.2.1 C.2.2.2.2.1 (fx_clin hq).1 (fx_ty ci) hty hnm C.2.2.2.1 C.2.2.2.2.2.1 he.1 he.2.1 hS q0 hw hq sl hsl (C.2.2.2.2.1 _ hlk) (fun _ z => z) hfin (hty sl hsl) hn hf hlen (fx_dec K hF rfl) (fun H1 locs1 hP hD hS1 => kk H1 locs1 (fx_He_set he hq0 hc ho hcnt hr hX hP hD) hS1)
  | true =>
    obtain ⟨h1, h2⟩ := K.2.2.1 _ _ _ _ _ hF hx q hq hfin
    exact va_putF (C := q.1) (T := q.2.1) (N := q.2.2) C.1 C.2.1 C.2.2.2.2.1 (fx_clin hq).1 (fx_ty ci) hty hnm C.2.2.2.1 C.2.2.2.2.2.1 he.1 he.2.1 hS q0 hw hq sl hsl (C.2.2.2.2.1 _ hlk) (fun _ z => z) hfin (C.2.2.2.2.2.2.2.2.1 h1) h2 (hty sl hsl) hn hf hlen (fx_dec K hF rfl) (fun H1 locs1 hP hD hS1 => kk H1 locs1 (fx_He_set he hq0 hc ho hcnt hr hX hP hD) hS1)
theorem fx_s_putfield (C : fx_Cx p R s m args meth c0 A D aC X M) (K : fx_Mok M) (v : Nat) : fx_G p l e R s m args below meth c0 Q A D aC X M (.putfield v) := by
  intro pc lv st h c n x ad L H locs ls hF hs I k
  obtain ⟨he, hS, hl, hlv, hst, hln⟩ := id I
  simp only [fx_stp] at hs
  split at hs
  · rename_i ci sl t hx
    have hx := fx_lk_mem hx
    obtain ⟨hci, q, hq, hsl, hlk, htc⟩ := K.2.1 _ _ _ _ hx
    split at hs
    · rename_i u k1 j1 r hx0
      cases hb : Nat.beq k1 ci with
      | false => rw [hb] at hs; cases hs
      | true =>
        rw [hb] at hs
        have e1 := Nat.eq_of_beq_eq_true hb
        subst e1
        cases hs
        obtain ⟨q0, hq0⟩ := fx_inL he (by omega) (fx_hd (fx_tl hst))
        have ht := fx_tint htc
        exact fx_putl C K hF hx he hS hq0 (.int u) (by rw [ht]; rfl) (by rw [ht]; rfl) (fx_wi_o (by omega) (Or.inl htc)) (fun r' hr => fx_wi_ne hr) rfl he.2.2.2.1 (fx_Xh_i (by omega) he.2.2.2.2) (fun H1 locs1 hH hS1 => k ad L H1 locs1 ls ⟨hH, hS1, hl, hlv, fx_tl (fx_tl hst), hln⟩ (fx_ext.rf h ad))
    · rename_i u k1 j1 r hx0
      cases hb : Nat.beq k1 ci with
      | false => rw [hb] at hs; cases hs
      | true =>
        rw [hb] at hs
        have e1 := Nat.eq_of_beq_eq_true hb
        subst e1
        cases hs
        obtain ⟨q0, hq0⟩ := fx_inL he (by omega) (fx_hd (fx_tl hst))
        have ht := fx_tlong htc
        exact fx_putl C K hF hx he hS hq0 (.long u) (by rw [ht]; rfl) (by rw [ht]; rfl) (fx_wl_o (by omega) htc) (fun r' hr => fx_wl_ne hr) rfl he.2.2.2.1 he.2.2.2.2 (fun H1 locs1 hH hS1 => k ad L H1 locs1 ls ⟨hH, hS1, hl, hlv, fx_tl (fx_tl hst), hln⟩ (fx_ext.rf h ad))
    · rename_i u k1 j1 r hx0
      cases hb : Nat.beq k1 ci with
      | false => rw [hb] at hs; cases hs
      | true =>
        rw [hb] at hs
        have e1 := Nat.eq_of_beq_eq_true hb
        subst e1
        cases hs
        obtain ⟨q0, hq0⟩ := fx_inL he (by omega) (fx_hd (fx_tl hst))
        have hd := fx_tydef _ hci sl (by rw [fx_nf_of hq]; exact hsl)
        rw [htc] at hd
        obtain ⟨g1, g2⟩ := fx_tref hd _ (fx_cvn ad u)
        exact fx_putl C K hF hx he hS hq0 (fx_cv ad (.inr (.inr u))) g1 g2 (fx_wr_o (by omega) htc) (fun r' hr => fx_wr_ne hr) rfl (fx_refs_r he.2.2.2.1 (fx_hd hst)) he.2.2.2.2 (fun H1 locs1 hH hS1 => k ad L H1 locs1 ls ⟨hH, hS1, hl, hlv, fx_tl (fx_tl hst), hln⟩ (fx_ext.rf h ad))
    · rename_i u k1 j1 r hx0
      cases hb : Nat.beq k1 ci with
      | false => rw [hb] at hs; cases hs
      | true =>
        rw [hb] at hs
        have e1 := Nat.eq_of_beq_eq_true hb
        subst e1
        simp only [cond_true] at hs
        split at hs
        · rename_i hu
          cases hs
          obtain ⟨q0, hq0⟩ := fx_inL he (by omega) (fx_hd (fx_tl hst))
          have ht := fx_tbool htc
          exact fx_putl C K hF hx he hS hq0 (.int u) (by rw [ht]; rcases hu with rfl | rfl <;> rfl) (by rw [ht]; rcases hu with rfl | rfl <;> rfl) (fx_wi_o (by omega) (Or.inr htc)) (fun r' hr => fx_wi_ne hr) rfl he.2.2.2.1 (fx_Xh_i (by omega) he.2.2.2.2) (fun H1 locs1 hH hS1 => k ad L H1 locs1 ls ⟨hH, hS1, hl, hlv, fx_tl (fx_tl hst), hln⟩ (fx_ext.rf h ad))
        · cases hs
    · cases hs
  · cases hs
theorem fx_s_getstatic (C : fx_Cx p R s m args meth c0 A D aC X M) (K : fx_Mok M) (v : Nat) : fx_G p l e R s m args below meth c0 Q A D aC X M (.getstatic v) := by
  intro pc lv st h c n x ad L H locs ls hF hs I k
  obtain ⟨he, hS, hl, hlv, hst, hln⟩ := id I
  simp only [fx_stp] at hs
  cases hs
  obtain ⟨x1, x2, x3, x4, x5, x6, x7, x8, -⟩ := he.2.2.2.2
  have hg := K.2.2.2.2.2.2.2.2.1 _ _ hF
  refine va_gets (v := .ref (ad (91, 0))) C.1 C.2.1 (by rw [x5]; exact C.2.2.2.2.2.2.2.2.2.1.2.1) hS C.2.2.2.1 (C.2.2.2.2.1 _ hg) (fun _ z => z) (fx_dec K hF rfl) ?_
  exact k ad L H locs ls ⟨he, hS, hl, hlv, fx_cn (P := fx_ok h) (by show 0 < h.1 91; rw [x8]; exact Nat.one_pos) hst, hln⟩ (fx_ext.rf h ad)
theorem fx_s_iaload (C : fx_Cx p R s m args meth c0 A D aC X M) (K : fx_Mok M) : fx_G p l e R s m args below meth c0 Q A D aC X M (.iaload) := by
  intro pc lv st h c n x ad L H locs ls hF hs I k
  obtain ⟨he, hS, hl, hlv, hst, hln⟩ := id I
  simp only [fx_stp] at hs
  split at hs
  · rename_i i k1 j1 r
    cases hb : fx_ar k1 0 with
    | false => rw [hb] at hs; cases hs
    | true =>
      rw [hb] at hs
      simp only [cond_true] at hs
      split at hs
      · rename_i hi
        cases hs
        obtain ⟨b1, b2, b3⟩ := fx_ar_spec hb
        have kk := k ad L H locs ls ⟨he, hS, hl, hlv, fx_ci (fx_tl (fx_tl hst)), hln⟩ (fx_ext.rf h ad)
        by_cases z : k1 < 90
        · obtain ⟨q0, hq0⟩ := fx_inL he z (fx_hd (fx_tl hst))
          have hw := fx_ws_at (aC := aC) (ad := ad) (h := h) hq0
          rw [fx_cell_a b1, b3] at hw
          exact va_iald C.1 C.2.1 C.2.2.2.2.2.1 he.1 q0 0 hw (fx_tys_at aC (by decide)) (fx_vin hi) (fx_dec K hF rfl) kk
        · obtain ⟨x1, x2, x3, x4, x5, x6, x7, x8, -⟩ := he.2.2.2.2
          have hj : j1 < h.1 k1 := fx_hd (fx_tl hst)
          have hX := C.2.2.2.2.2.2.2.2.2.1
          rcases (show k1 = 90 ∨ k1 = 91 by omega) with rfl | rfl
          · rw [x4] at hj
            have : j1 = 0 := by omega
            subst this
            have hi2 := hi
            rw [x2] at hi2
            have q := va_sld (l := l) (e := e) (R := R) (m := m) (args := args) (below := below) (meth := meth) (locs := locs) (cells := c) (slots := n) (Q := Q) (pc := pc) (ls := ls) (rest := r.map (fx_cv ad)) C.1 C.2.1 hX.1.1 hX.1.2.1 hX.1.2.2 hS (fx_vin hi2) (fx_dec K hF rfl) (by rw [← x3]; exact kk)
            rw [← x1] at q
            exact q
          · rw [x8] at hj
            have : j1 = 0 := by omega
            subst this
            have hi2 := hi
            rw [x6] at hi2
            have q := va_ti (l := l) (e := e) (R := R) (m := m) (args := args) (below := below) (meth := meth) (locs := locs) (cells := c) (slots := n) (Q := Q) (pc := pc) (ls := ls) (rest := r.map (fx_cv ad)) C.1 C.2.1 hX.2.2.1 hS (fx_vin hi2) rfl (fx_dec K hF rfl) (by rw [← x7]; exact kk)
            rw [← x5] at q
            exact q
      · cases hs
  · cases hs
theorem fx_s_baload (C : fx_Cx p R s m args meth c0 A D aC X M) (K : fx_Mok M) : fx_G p l e R s m args below meth c0 Q A D aC X M (.baload) := by
  intro pc lv st h c n x ad L H locs ls hF hs I k
  obtain ⟨he, hS, hl, hlv, hst, hln⟩ := id I
  simp only [fx_stp] at hs
  split at hs
  · rename_i i k1 j1 r
    cases hb : (fx_aw k1 1 || fx_aw k1 2) with
    | false => rw [hb] at hs; cases hs
    | true =>
      rw [hb] at hs
      simp only [cond_true] at hs
      split at hs
      · rename_i hi
        cases hs
        have kk := k ad L H locs ls ⟨he, hS, hl, hlv, fx_ci (fx_tl (fx_tl hst)), hln⟩ (fx_ext.rf h ad)
        rcases Bool.or_eq_true_iff.mp hb with hb | hb
        · obtain ⟨b1, b2, b3⟩ := fx_aw_spec hb
          obtain ⟨q0, hq0⟩ := fx_inL he b2 (fx_hd (fx_tl hst))
          have hw := fx_ws_at (aC := aC) (ad := ad) (h := h) hq0
          rw [fx_cell_a b1, b3] at hw
          exact va_bald C.1 C.2.1 C.2.2.2.2.2.1 he.1 q0 1 hw (fx_tys_at aC (by decide)) (fx_vin hi) (fx_dec K hF rfl) kk
        · obtain ⟨b1, b2, b3⟩ := fx_aw_spec hb
          obtain ⟨q0, hq0⟩ := fx_inL he b2 (fx_hd (fx_tl hst))
          have hw := fx_ws_at (aC := aC) (ad := ad) (h := h) hq0
          rw [fx_cell_a b1, b3] at hw
          exact va_zald C.1 C.2.1 C.2.2.2.2.2.1 he.1 q0 2 hw (fx_tys_at aC (by decide)) (fx_vin hi) (fx_dec K hF rfl) kk
      · cases hs
  · cases hs
theorem fx_s_laload (C : fx_Cx p R s m args meth c0 A D aC X M) (K : fx_Mok M) : fx_G p l e R s m args below meth c0 Q A D aC X M (.laload) := by
  intro pc lv st h c n x ad L H locs ls hF hs I k
  obtain ⟨he, hS, hl, hlv, hst, hln⟩ := id I
  simp only [fx_stp] at hs
  split at hs
  · rename_i i k1 j1 r
    cases hb : fx_aw k1 3 with
    | false => rw [hb] at hs; cases hs
    | true =>
      rw [hb] at hs
      simp only [cond_true] at hs
      split at hs
      · rename_i hi
        cases hs
        have kk := k ad L H locs ls ⟨he, hS, hl, hlv, fx_cL (fx_tl (fx_tl hst)), hln⟩ (fx_ext.rf h ad)
        obtain ⟨b1, b2, b3⟩ := fx_aw_spec hb
        obtain ⟨q0, hq0⟩ := fx_inL he b2 (fx_hd (fx_tl hst))
        have hw := fx_ws_at (aC := aC) (ad := ad) (h := h) hq0
        rw [fx_cell_a b1, b3] at hw
        exact va_lald C.1 C.2.1 C.2.2.2.2.2.1 he.1 q0 3 hw (fx_tys_at aC (by decide)) (fx_vin hi) (fx_dec K hF rfl) kk
      · cases hs
  · cases hs
theorem fx_s_aaload (C : fx_Cx p R s m args meth c0 A D aC X M) (K : fx_Mok M) : fx_G p l e R s m args below meth c0 Q A D aC X M (.aaload) := by
  intro pc lv st h c n x ad L H locs ls hF hs I k
  obtain ⟨he, hS, hl, hlv, hst, hln⟩ := id I
  simp only [fx_stp] at hs
  split at hs
  · rename_i i k1 j1 r
    cases hb : (fx_aw k1 4 || fx_aw k1 5 || fx_aw k1 6) with
    | false => rw [hb] at hs; cases hs
    | true =>
      rw [hb] at hs
      simp only [cond_true] at hs
      split at hs
      · rename_i hi
        cases hs
        have kk := k ad L H locs ls ⟨he, hS, hl, hlv, fx_cn (P := fx_ok h) (by
          cases hr : h.2.2.1 k1 j1 i.toNatClampNeg with
          | none => trivial
          | some r2 => exact he.2.2.2.1 _ _ _ _ (fx_hd (fx_tl hst)) hr) (fx_tl (fx_tl hst)), hln⟩ (fx_ext.rf h ad)
        simp only [List.map_cons, fx_rf] at kk
        rcases Bool.or_eq_true_iff.mp hb with hb | hb
        · rcases Bool.or_eq_true_iff.mp hb with hb | hb
          · obtain ⟨b1, b2, b3⟩ := fx_aw_spec hb
            obtain ⟨q0, hq0⟩ := fx_inL he b2 (fx_hd (fx_tl hst))
            have hw := fx_ws_at (aC := aC) (ad := ad) (h := h) hq0
            rw [fx_cell_a b1, b3] at hw
            exact va_aldq C.1 C.2.1 C.2.2.2.2.2.1 he.1 q0 4 hw (fx_tys_at aC (by decide)) (fx_vin hi) (fx_dec K hF rfl) kk
          · obtain ⟨b1, b2, b3⟩ := fx_aw_spec hb
            obtain ⟨q0, hq0⟩ := fx_inL he b2 (fx_hd (fx_tl hst))
            have hw := fx_ws_at (aC := aC) (ad := ad) (h := h) hq0
            rw [fx_cell_a b1, b3] at hw
            exact va_aldq C.1 C.2.1 C.2.2.2.2.2.1 he.1 q0 5 hw (fx_tys_at aC (by decide)) (fx_vin hi) (fx_dec K hF rfl) kk
        · obtain ⟨b1, b2, b3⟩ := fx_aw_spec hb
          obtain ⟨q0, hq0⟩ := fx_inL he b2 (fx_hd (fx_tl hst))
          have hw := fx_ws_at (aC := aC) (ad := ad) (h := h) hq0
          rw [fx_cell_a b1, b3] at hw
          exact va_aldq C.1 C.2.1 C.2.2.2.2.2.1 he.1 q0 6 hw (fx_tys_at aC (by decide)) (fx_vin hi) (fx_dec K hF rfl) kk
      · cases hs
  · cases hs
end FXH
end
section
/-! stores into arrays, lengths, what is made, primitives -/
section FXJ
variable {p : Program} {l : Launch} {e : Env} {R : Room} {s : State} {m : MethodId} {args : Array Value} {below : List Frame} {meth : Method} {c0 : Code} {Q : State → Prop}
variable {A : Nat → Prop} {D : va_G} {aC : Nat → ClassId} {X : fxX} {M : fxM}
theorem fx_s_iastore (C : fx_Cx p R s m args meth c0 A D aC X M) (K : fx_Mok M) : fx_G p l e R s m args below meth c0 Q A D aC X M (.iastore) := by
  intro pc lv st h c n x ad L H locs ls hF hs I k
  obtain ⟨he, hS, hl, hlv, hst, hln⟩ := id I
  simp only [fx_stp] at hs
  split at hs
  · rename_i v i k1 j1 r
    cases hb : fx_aw k1 0 with
    | false => rw [hb] at hs; cases hs
    | true =>
      rw [hb] at hs
      simp only [cond_true] at hs
      split at hs
      · rename_i hi
        cases hs
        obtain ⟨b1, b2, b3⟩ := fx_aw_spec hb
        obtain ⟨q0, hq0⟩ := fx_inL he b2 (fx_hd (fx_tl (fx_tl hst)))
        have hw := fx_ws_at (aC := aC) (ad := ad) (h := h) hq0
        rw [fx_cell_a b1, b3] at hw
        refine va_iast C.1 C.2.1 C.2.2.2.2.2.1 he.1 he.2.1 hS q0 0 hw (fx_tys_at aC (by decide)) (fx_vin hi) (fx_dec K hF rfl) (fun H1 locs1 hP hD hS1 => k ad L H1 locs1 ls ⟨fx_He_set (h' := fx_wi h k1 j1 i.toNatClampNeg v) he hq0 (fx_wi_a b1 (Or.inl b3)) (fun r' hr => fx_wi_ne hr) rfl he.2.2.2.1 (fx_Xh_i b2 he.2.2.2.2) ?_ ?_, hS1, hl, hlv, fx_tl (fx_tl (fx_tl hst)), hln⟩ (fx_ext.rf h ad))
        · rw [b3]; exact hP
        · rw [b3]; exact hD
      · cases hs
  · cases hs
theorem fx_s_bastore (C : fx_Cx p R s m args meth c0 A D aC X M) (K : fx_Mok M) : fx_G p l e R s m args below meth c0 Q A D aC X M (.bastore) := by
  intro pc lv st h c n x ad L H locs ls hF hs I k
  obtain ⟨he, hS, hl, hlv, hst, hln⟩ := id I
  simp only [fx_stp] at hs
  split at hs
  · rename_i v i k1 j1 r
    cases hb : fx_aw k1 1 with
    | false =>
      rw [hb] at hs
      simp only [cond_false] at hs
      cases hb2 : fx_aw k1 2 with
      | false => rw [hb2] at hs; cases hs
      | true =>
        rw [hb2] at hs
        simp only [cond_true] at hs
        split at hs
        · rename_i hi
          cases hs
          obtain ⟨b1, b2, b3⟩ := fx_aw_spec hb2
          obtain ⟨q0, hq0⟩ := fx_inL he b2 (fx_hd (fx_tl (fx_tl hst)))
          have hw := fx_ws_at (aC := aC) (ad := ad) (h := h) hq0
          rw [fx_cell_a b1, b3] at hw
          refine va_zast C.1 C.2.1 C.2.2.2.2.2.1 he.1 he.2.1 hS q0 2 hw (fx_tys_at aC (by decide)) (fx_vin hi) (fx_dec K hF rfl) (fun H1 locs1 hP hD hS1 => k ad L H1 locs1 ls ⟨fx_He_set (h' := fx_wi h k1 j1 i.toNatClampNeg (vp_nar .boolean v)) he hq0 (fx_wi_a b1 (Or.inr (Or.inr b3))) (fun r' hr => fx_wi_ne hr) rfl he.2.2.2.1 (fx_Xh_i b2 he.2.2.2.2) ?_ ?_, hS1, hl, hlv, fx_tl (fx_tl (fx_tl hst)), hln⟩ (fx_ext.rf h ad))
          · rw [b3]; exact hP
          · rw [b3]; exact hD
        · cases hs
    | true =>
      rw [hb] at hs
      simp only [cond_true] at hs
      split at hs
      · rename_i hi
        cases hs
        obtain ⟨b1, b2, b3⟩ := fx_aw_spec hb
        obtain ⟨q0, hq0⟩ := fx_inL he b2 (fx_hd (fx_tl (fx_tl hst)))
        have hw := fx_ws_at (aC := aC) (ad := ad) (h := h) hq0
        rw [fx_cell_a b1, b3] at hw
        refine va_bast C.1 C.2.1 C.2.2.2.2.2.1 he.1 he.2.1 hS q0 1 hw (fx_tys_at aC (by decide)) (fx_vin hi) (fx_dec K hF rfl) (fun H1 locs1 hP hD hS1 => k ad L H1 locs1 ls ⟨fx_He_set (h' := fx_wi h k1 j1 i.toNatClampNeg v.toInt8.toInt32) he hq0 (fx_wi_a b1 (Or.inr (Or.inl b3))) (fun r' hr => fx_wi_ne hr) rfl he.2.2.2.1 (fx_Xh_i b2 he.2.2.2.2) ?_ ?_, hS1, hl, hlv, fx_tl (fx_tl (fx_tl hst)), hln⟩ (fx_ext.rf h ad))
        · rw [b3]; exact hP
        · rw [b3]; exact hD
      · cases hs
  · cases hs
theorem fx_s_lastore (C : fx_Cx p R s m args meth c0 A D aC X M) (K : fx_Mok M) : fx_G p l e R s m args below meth c0 Q A D aC X M (.lastore) := by
  intro pc lv st h c n x ad L H locs ls hF hs I k
  obtain ⟨he, hS, hl, hlv, hst, hln⟩ := id I
  simp only [fx_stp] at hs
  split at hs
  · rename_i v i k1 j1 r
    cases hb : fx_aw k1 3 with
    | false => rw [hb] at hs; cases hs
    | true =>
      rw [hb] at hs
      simp only [cond_true] at hs
      split at hs
      · rename_i hi
        cases hs
        obtain ⟨b1, b2, b3⟩ := fx_aw_spec hb
        obtain ⟨q0, hq0⟩ := fx_inL he b2 (fx_hd (fx_tl (fx_tl hst)))
        have hw := fx_ws_at (aC := aC) (ad := ad) (h := h) hq0
        rw [fx_cell_a b1, b3] at hw
        refine va_last C.1 C.2.1 C.2.2.2.2.2.1 he.1 he.2.1 hS q0 3 hw (fx_tys_at aC (by decide)) (fx_vin hi) (fx_dec K hF rfl) (fun H1 locs1 hP hD hS1 => k ad L H1 locs1 ls ⟨fx_He_set (h' := fx_wl h k1 j1 i.toNatClampNeg v) he hq0 (fx_wl_a b1 b3) (fun r' hr => fx_wl_ne hr) rfl he.2.2.2.1 he.2.2.2.2 ?_ ?_, hS1, hl, hlv, fx_tl (fx_tl (fx_tl hst)), hln⟩ (fx_ext.rf h ad))
        · rw [b3]; exact hP
        · rw [b3]; exact hD
      · cases hs
  · cases hs
theorem fx_aast (C : fx_Cx p R s m args meth c0 A D aC X M) (K : fx_Mok M) {pc c n k1 j1 k2 j2 t0 : Nat} {i : Int32} {lv : fxLv} {r : List fxV} {ad : fxR → Nat} {L : List fxR} {h : fxH} {H : Heap} {locs : List Loc} {ls : Array Slot} (hF : M.2.1 pc = some .aastore) (hb : fx_aw k1 t0 = true) (ht : t0 = 4 ∨ t0 = 5 ∨ t0 = 6) {q : vw_C} (hq : fx_cl[k2]? = some q) (hk2 : k2 < 12) (het : fx_et t0 = .object q.1) (hi : 0 ≤ i.toInt ∧ i.toInt < (h.2.1 k1 j1 : Int))
    (I : fx_Inv s A D aC X M.1.2.2.1 ad L h lv (.inr (.inr (some (k2, j2))) :: .inl i :: .inr (.inr (some (k1, j1))) :: r) H locs ls)
    (k : fx_K p l e R s m args below meth c0 Q A D aC X M.1.2.2.1 ad h (pc + 1, lv, r, fx_wr h k1 j1 i.toNatClampNeg (some (k2, j2)), c, n)) : W p l e R s m args below meth c0 H locs c n Q (F0 m pc ls (.ref (ad (k2, j2)) :: .int i :: .ref (ad (k1, j1)) :: r.map (fx_cv ad))) := by
  obtain ⟨he, hS, hl, hlv, hst, hln⟩ := id I
  obtain ⟨b1, b2, b3⟩ := fx_aw_spec hb
  obtain ⟨q0, hq0⟩ := fx_inL he b2 (fx_hd (fx_tl (fx_tl hst)))
  obtain ⟨q1, hq1⟩ := fx_inL he (show k2 < 90 by omega) (fx_hd hst)
  have hw := fx_ws_at (aC := aC) (ad := ad) (h := h) hq0
  have hw1 := fx_ws_at (aC := aC) (ad := ad) (h := h) hq1
  rw [fx_cell_o (show k2 < 20 by omega)] at hw1
  have hwe : fx_cell aC ad h (k1, j1) = .inl (aC t0, h.2.1 k1 j1, .inr (.inr (.inr (.inr (fun s => (h.2.2.1 k1 j1 s).map ad))))) := by
    rw [fx_cell_a b1, b3]
    rcases ht with rfl | rfl | rfl <;> rfl
  rw [hwe] at hw
  have h7 : t0 < 7 := by omega
  refine va_astq C.1 C.2.1 C.2.2.2.2.2.1 he.1 he.2.1 hS q0 t0 q1 k2 hw (by rw [← het]; exact fx_tys_at aC h7) hw1 hq (fx_vin hi) (fx_dec K hF rfl) (fun H1 locs1 hP hD hS1 => k ad L H1 locs1 ls ⟨fx_He_set (h' := fx_wr h k1 j1 i.toNatClampNeg (some (k2, j2))) he hq0 (fx_wr_a b1 (by rw [b3]; exact ht)) (fun r' hr => fx_wr_ne hr) rfl (fx_refs_r he.2.2.2.1 (fx_hd hst)) he.2.2.2.2 ?_ ?_, hS1, hl, hlv, fx_tl (fx_tl (fx_tl hst)), hln⟩ (fx_ext.rf h ad))
  · rw [b3]; exact hP
  · rw [b3]; exact hD
theorem fx_s_aastore (C : fx_Cx p R s m args meth c0 A D aC X M) (K : fx_Mok M) : fx_G p l e R s m args below meth c0 Q A D aC X M (.aastore) := by
  intro pc lv st h c n x ad L H locs ls hF hs I k
  simp only [fx_stp] at hs
  split at hs
  · rename_i k2 j2 i k1 j1 r
    cases hb : ((fx_aw k1 4 && Nat.beq k2 1) || (fx_aw k1 5 && Nat.beq k2 9) || (fx_aw k1 6 && Nat.beq k2 5)) with
    | false => rw [hb] at hs; cases hs
    | true =>
      rw [hb] at hs
      simp only [cond_true] at hs
      split at hs
      · rename_i hi
        cases hs
        rcases Bool.or_eq_true_iff.mp hb with hb | hb
        · rcases Bool.or_eq_true_iff.mp hb with hb | hb
          · obtain ⟨g1, g2⟩ := Bool.and_eq_true_iff.mp hb
            have := Nat.eq_of_beq_eq_true g2
            subst this
            exact fx_aast C K hF g1 (Or.inl rfl) (q := ("FoxReply$Chase", fx_T1, 11)) rfl (by decide) rfl hi I k
          · obtain ⟨g1, g2⟩ := Bool.and_eq_true_iff.mp hb
            have := Nat.eq_of_beq_eq_true g2
            subst this
            exact fx_aast C K hF g1 (Or.inr (Or.inl rfl)) (q := ("FoxReply$World", fx_T9, 5)) rfl (by decide) rfl hi I k
        · obtain ⟨g1, g2⟩ := Bool.and_eq_true_iff.mp hb
          have := Nat.eq_of_beq_eq_true g2
          subst this
          exact fx_aast C K hF g1 (Or.inr (Or.inr rfl)) (q := ("FoxReply$Rule", fx_T5, 4)) rfl (by decide) rfl hi I k
      · cases hs
  · cases hs
theorem fx_s_arraylength (C : fx_Cx p R s m args meth c0 A D aC X M) (K : fx_Mok M) : fx_G p l e R s m args below meth c0 Q A D aC X M (.arraylength) := by
  intro pc lv st h c n x ad L H locs ls hF hs I k
  obtain ⟨he, hS, hl, hlv, hst, hln⟩ := id I
  simp only [fx_stp] at hs
  split at hs
  · rename_i k1 j1 r
    cases hb : (Nat.ble 20 k1 && Nat.ble k1 91) with
    | false => rw [hb] at hs; cases hs
    | true =>
      rw [hb] at hs
      cases hs
      obtain ⟨g1, g2⟩ := Bool.and_eq_true_iff.mp hb
      have b1 := Nat.le_of_ble_eq_true g1
      have b2 := Nat.le_of_ble_eq_true g2
      have kk := k ad L H locs ls ⟨he, hS, hl, hlv, fx_ci (fx_tl hst), hln⟩ (fx_ext.rf h ad)
      by_cases z : k1 < 90
      · obtain ⟨q0, hq0⟩ := fx_inL he z (fx_hd hst)
        have hw := fx_ws_at (aC := aC) (ad := ad) (h := h) hq0
        rw [fx_cell_a b1] at hw
        have h7 : fx_ek k1 < 7 := by unfold fx_ek; split <;> decide
        exact va_alen C.1 C.2.1 C.2.2.2.2.2.1 he.1 q0 (fx_ek k1) hw (fx_tys_at aC h7) rfl (fx_dec K hF rfl) kk
      · obtain ⟨x1, x2, x3, x4, x5, x6, x7, x8, -⟩ := he.2.2.2.2
        have hj : j1 < h.1 k1 := fx_hd hst
        have hX := C.2.2.2.2.2.2.2.2.2.1
        rcases (show k1 = 90 ∨ k1 = 91 by omega) with rfl | rfl
        · rw [x4] at hj
          have : j1 = 0 := by omega
          subst this
          have q := va_slen (l := l) (e := e) (R := R) (m := m) (args := args) (below := below) (meth := meth) (locs := locs) (cells := c) (slots := n) (Q := Q) (pc := pc) (ls := ls) (rest := r.map (fx_cv ad)) C.1 C.2.1 hX.1.1 hX.1.2.1 hX.1.2.2 hS (fx_dec K hF rfl) (by rw [← x2]; exact kk)
          rw [← x1] at q
          exact q
        · rw [x8] at hj
          have : j1 = 0 := by omega
          subst this
          have q := va_tlen (l := l) (e := e) (R := R) (m := m) (args := args) (below := below) (meth := meth) (locs := locs) (cells := c) (slots := n) (Q := Q) (pc := pc) (ls := ls) (rest := r.map (fx_cv ad)) C.1 C.2.1 hX.2.2.1 hS rfl (fx_dec K hF rfl) (by rw [← x6]; exact kk)
          rw [← x5] at q
          exact q
  · cases hs
/-- behind a making -/
theorem fx_made {nL : Nat} {ad : fxR → Nat} {L : List fxR} {h : fxH} {lv : fxLv} {st r : List fxV} {H H1 : Heap} {locs : List Loc} {ls : Array Slot} {k n q : Nat} {ce : va_E} (hk : k < 90) (I : fx_Inv s A D aC X nL ad L h lv st H locs ls) (hst : ∀ v ∈ r, fx_ok h v) (he : fx_cell aC (fx_adn ad h k q) (fx_mk h k n) (k, h.1 k) = ce)
    (hP : va_P D fx_cl (fx_ws aC ad h L ++ [(q, ce)]) H1) (hD : va_D A (fx_ws aC ad h L ++ [(q, ce)])) (hS1 : va_S A s.heap H1 locs) :
    fx_Inv s A D aC X nL (fx_adn ad h k q) (L ++ [(k, h.1 k)]) (fx_mk h k n) lv (.inr (.inr (some (k, h.1 k))) :: r) H1 locs ls ∧ (.inr (.inr (some (k, h.1 k))) :: r).map (fx_cv (fx_adn ad h k q)) = Value.ref q :: r.map (fx_cv ad) := by
  obtain ⟨hH, hS, hl, hlv, -, hln⟩ := I
  have x := fx_mk_ext ad h k n q
  refine ⟨⟨fx_mk_He hk hH he hP hD, hS1, by rw [x.lv hlv]; exact hl, fun i v hv => x.ok (hlv i v hv), fx_cn (P := fx_ok (fx_mk h k n)) ?_ (fun v hv => x.ok (hst v hv)), hln⟩, ?_⟩
  · show h.1 k < (fx_mk h k n).1 k
    rw [fx_mk_cnt, if_pos rfl]
    exact Nat.lt_succ_self _
  · rw [List.map_cons, x.st hst]
    show Value.ref (fx_adn ad h k q (k, h.1 k)) :: _ = _
    unfold fx_adn
    rw [if_pos rfl]
theorem fx_sameC (C : fx_Cx p R s m args meth c0 A D aC X M) {t : Nat} (ht : t < 7) {cA : ClassId} (h : va_K D fx_cl (fx_tys aC ++ [(cA, fx_et t)]) s) : cA = aC t := by
  have h1 := (h.2 7 (cA, fx_et t) rfl).2
  have h2 := (C.2.2.2.2.2.1.2 t _ (fx_tys_at aC ht)).2
  have e : ∀ {c1 c2 : ClassId} {ty : FieldType}, va_RA s c1 ty → va_RA s c2 ty → c1 = c2 := by
    intro c1 c2 ty g1 g2
    cases ty with
    | object C =>
      obtain ⟨-, -, -, -, -, g1⟩ := g1
      obtain ⟨-, -, -, -, -, g2⟩ := g2
      exact Option.some.inj (g1.symm.trans g2)
    | _ => exact Option.some.inj (Eq.trans (Eq.symm g1) g2)
  exact e h1 h2
theorem fx_newp (C : fx_Cx p R s m args meth c0 A D aC X M) (K : fx_Mok M) {pc c n k1 t0 : Nat} {at0 : ArrayType} {v : Int32} {lv : fxLv} {r : List fxV} {ad : fxR → Nat} {L : List fxR} {h : fxH} {H : Heap} {locs : List Loc} {ls : Array Slot} (hF : M.2.1 pc = some (.newarray at0)) (hb : fx_aw k1 t0 = true) (ht : newarray.typeOf at0 = fx_et t0) (ht4 : t0 < 4) (hac : Cond.arrayClass (newarray.typeOf at0) ∈ fx_tbl) (hcb : componentBytes (fx_et t0) ≤ 8)
    (hi : 0 ≤ v.toInt ∧ v.toInt ≤ 3000 ∧ c + 1 ≤ M.2.2.2.2.2.1 ∧ n + v.toNatClampNeg ≤ M.2.2.2.2.2.2) (I : fx_Inv s A D aC X M.1.2.2.1 ad L h lv (.inl v :: r) H locs ls)
    (k : fx_K p l e R s m args below meth c0 Q A D aC X M.1.2.2.1 ad h (pc + 2, lv, .inr (.inr (some (k1, h.1 k1))) :: r, fx_mk h k1 v.toNatClampNeg, c + 1, n + v.toNatClampNeg)) : W p l e R s m args below meth c0 H locs c n Q (F0 m pc ls (.int v :: r.map (fx_cv ad))) := by
  obtain ⟨he, hS, hl, hlv, hst, hln⟩ := id I
  obtain ⟨b1, b2, b3⟩ := fx_aw_spec hb
  obtain ⟨i1, i2, i3, i4⟩ := hi
  have hnn : ¬ v < 0 := by
    intro z
    have := Int32.lt_iff_toInt_lt.mp z
    have z0 : (0 : Int32).toInt = 0 := by decide
    omega
  have hN : v.toNatClampNeg = v.toInt.toNat := rfl
  have hby : v.toNatClampNeg * componentBytes (fx_et t0) ≤ 536870912 := by
    have : v.toNatClampNeg ≤ 3000 := by rw [hN]; omega
    calc v.toNatClampNeg * componentBytes (fx_et t0) ≤ 3000 * 8 := Nat.mul_le_mul this hcb
      _ ≤ 536870912 := by decide
  have hcell : ∀ q cA, cA = aC t0 → fx_cell aC (fx_adn ad h k1 q) (fx_mk h k1 v.toNatClampNeg) (k1, h.1 k1) = .inl (cA, v.toNatClampNeg, fx_ad t0 (fun _ => 0) (fun _ => 0, fun _ _ => 0, fun _ _ _ => none, fun _ _ _ => 0, fun _ _ _ => 0) 0 0) := by
    intro q cA hcA
    rw [fx_cell_a b1, b3, fx_mk_len, hcA]
    have e1 : (fx_mk h k1 v.toNatClampNeg).2.2.2.1 k1 (h.1 k1) = fun _ => 0 := fx_all_eq _ _ _ _
    have e2 : (fx_mk h k1 v.toNatClampNeg).2.2.2.2 k1 (h.1 k1) = fun _ => 0 := fx_all_eq _ _ _ _
    unfold fx_ad
    rcases (show t0 = 0 ∨ t0 = 1 ∨ t0 = 2 ∨ t0 = 3 by omega) with rfl | rfl | rfl | rfl <;> simp only [e1, e2]
  refine va_newa (a0 := (v.toNatClampNeg, fx_ad t0 (fun _ => 0) (fun _ => 0, fun _ _ => 0, fun _ _ _ => none, fun _ _ _ => 0, fun _ _ _ => 0) 0 0)) C.1 C.2.1 (C.2.2.2.2.1 _ hac) ht C.2.2.2.2.2.1 he.1 he.2.1 hS C.2.2.2.2.2.2.2.2.2.2.1 ?_ hnn rfl hby (by rw [C.2.2.2.2.2.2.2.2.2.2.2.1]; exact i3) (by rw [C.2.2.2.2.2.2.2.2.2.2.2.2.1]; exact i4) (fx_dec K hF rfl) ?_
  · intro cA
    rcases (show t0 = 0 ∨ t0 = 1 ∨ t0 = 2 ∨ t0 = 3 by omega) with rfl | rfl | rfl | rfl <;> rfl
  · intro q cA H1 hK hP hD hS1
    have hcA := fx_sameC C (by omega) hK
    obtain ⟨I2, e2⟩ := fx_made b2 I (fx_tl hst) (hcell q cA hcA) hP hD hS1
    rw [← e2]
    exact k _ _ H1 locs ls I2 (fx_mk_ext ad h k1 _ q)
theorem fx_s_newarray (C : fx_Cx p R s m args meth c0 A D aC X M) (K : fx_Mok M) (t : ArrayType) : fx_G p l e R s m args below meth c0 Q A D aC X M (.newarray t) := by
  intro pc lv st h c n x ad L H locs ls hF hs I k
  simp only [fx_stp] at hs
  split at hs
  · rename_i v r k1 hk1
    split at hs
    · cases hb : fx_aw k1 0 with
      | false => rw [hb] at hs; cases hs
      | true =>
        rw [hb] at hs
        simp only [cond_true] at hs
        split at hs
        · rename_i hi
          cases hs
          exact fx_newp C K hF hb rfl (by decide) fx_w_ac_int (by decide) hi I k
        · cases hs
    · cases hb : fx_aw k1 1 with
      | false => rw [hb] at hs; cases hs
      | true =>
        rw [hb] at hs
        simp only [cond_true] at hs
        split at hs
        · rename_i hi
          cases hs
          exact fx_newp C K hF hb rfl (by decide) fx_w_ac_byte (by decide) hi I k
        · cases hs
    · cases hb : fx_aw k1 2 with
      | false => rw [hb] at hs; cases hs
      | true =>
        rw [hb] at hs
        simp only [cond_true] at hs
        split at hs
        · rename_i hi
          cases hs
          exact fx_newp C K hF hb rfl (by decide) fx_w_ac_boolean (by decide) hi I k
        · cases hs
    · cases hb : fx_aw k1 3 with
      | false => rw [hb] at hs; cases hs
      | true =>
        rw [hb] at hs
        simp only [cond_true] at hs
        split at hs
        · rename_i hi
          cases hs
          exact fx_newp C K hF hb rfl (by decide) fx_w_ac_long (by decide) hi I k
        · cases hs
    · cases hb : fx_aw k1 9 with
      | false => rw [hb] at hs; cases hs
      | true =>
        exfalso
        have := (fx_aw_spec hb).2.2
        have h7 : fx_ek k1 < 7 := by unfold fx_ek; split <;> decide
        omega
  · cases hs
end FXJ
end
section
/-! arrays of references, objects, primitives -/
section FXK
variable {p : Program} {l : Launch} {e : Env} {R : Room} {s : State} {m : MethodId} {args : Array Value} {below : List Frame} {meth : Method} {c0 : Code} {Q : State → Prop}
variable {A : Nat → Prop} {D : va_G} {aC : Nat → ClassId} {X : fxX} {M : fxM}
theorem fx_newr (C : fx_Cx p R s m args meth c0 A D aC X M) (K : fx_Mok M) {pc c n k1 t0 x0 : Nat} {v : Int32} {lv : fxLv} {r : List fxV} {ad : fxR → Nat} {L : List fxR} {h : fxH} {H : Heap} {locs : List Loc} {ls : Array Slot} (hF : M.2.1 pc = some (.anewarray x0)) (hb : fx_aw k1 t0 = true) (ht : t0 = 4 ∨ t0 = 5 ∨ t0 = 6) {N : String} (het : fx_et t0 = .object N) (hlk : Cond.classLink M.1.1 x0 N ∈ fx_tbl) (hao : va_AO N s)
    (hi : 0 ≤ v.toInt ∧ v.toInt ≤ 3000 ∧ c + 1 ≤ M.2.2.2.2.2.1 ∧ n + v.toNatClampNeg ≤ M.2.2.2.2.2.2) (I : fx_Inv s A D aC X M.1.2.2.1 ad L h lv (.inl v :: r) H locs ls)
    (k : fx_K p l e R s m args below meth c0 Q A D aC X M.1.2.2.1 ad h (pc + 3, lv, .inr (.inr (some (k1, h.1 k1))) :: r, fx_mk h k1 v.toNatClampNeg, c + 1, n + v.toNatClampNeg)) : W p l e R s m args below meth c0 H locs c n Q (F0 m pc ls (.int v :: r.map (fx_cv ad))) := by
  obtain ⟨he, hS, hl, hlv, hst, hln⟩ := id I
  obtain ⟨b1, b2, b3⟩ := fx_aw_spec hb
  obtain ⟨i1, i2, i3, i4⟩ := hi
  have hnn : ¬ v < 0 := by
    intro z
    have := Int32.lt_iff_toInt_lt.mp z
    have z0 : (0 : Int32).toInt = 0 := by decide
    omega
  have hN : v.toNatClampNeg = v.toInt.toNat := rfl
  have hby : v.toNatClampNeg * 4 ≤ 536870912 := by rw [hN]; omega
  have hcell : ∀ q cA, cA = aC t0 → fx_cell aC (fx_adn ad h k1 q) (fx_mk h k1 v.toNatClampNeg) (k1, h.1 k1) = .inl (cA, v.toNatClampNeg, .inr (.inr (.inr (.inr (fun _ => none))))) := by
    intro q cA hcA
    rw [fx_cell_a b1, b3, fx_mk_len, hcA]
    have e1 : (fx_mk h k1 v.toNatClampNeg).2.2.1 k1 (h.1 k1) = fun _ => none := fx_all_eq _ _ _ _
    unfold fx_ad
    rcases ht with rfl | rfl | rfl <;> simp only [e1] <;> rfl
  refine va_newq (C := N) C.1 C.2.1 C.2.2.2.1 (C.2.2.2.2.1 _ hlk) hao C.2.2.2.2.2.1 he.1 he.2.1 hS C.2.2.2.2.2.2.2.2.2.2.1 hnn rfl hby (by rw [C.2.2.2.2.2.2.2.2.2.2.2.1]; exact i3) (by rw [C.2.2.2.2.2.2.2.2.2.2.2.2.1]; exact i4) (fx_dec K hF rfl) ?_
  intro q cA H1 hK hP hD hS1
  rw [← het] at hK
  have hcA := fx_sameC C (by omega) hK
  obtain ⟨I2, e2⟩ := fx_made b2 I (fx_tl hst) (hcell q cA hcA) hP hD hS1
  rw [← e2]
  exact k _ _ H1 locs ls I2 (fx_mk_ext ad h k1 _ q)
theorem fx_s_anewarray (C : fx_Cx p R s m args meth c0 A D aC X M) (K : fx_Mok M) (v : Nat) : fx_G p l e R s m args below meth c0 Q A D aC X M (.anewarray v) := by
  intro pc lv st h c n x ad L H locs ls hF hs I k
  have hX := C.2.2.2.2.2.2.2.2.2.1.2.2.2.2.2.2.2.2.1
  simp only [fx_stp] at hs
  split at hs
  · rename_i y r k1 ci hk1 hci
    obtain ⟨-, q, hq, hlk⟩ := K.2.2.2.2.1 _ _ (fx_lk_mem hci)
    cases hb : ((fx_aw k1 4 && Nat.beq ci 1) || (fx_aw k1 5 && Nat.beq ci 9) || (fx_aw k1 6 && Nat.beq ci 5)) with
    | false => rw [hb] at hs; cases hs
    | true =>
      rw [hb] at hs
      simp only [cond_true] at hs
      split at hs
      · rename_i hi
        cases hs
        rcases Bool.or_eq_true_iff.mp hb with hb | hb
        · rcases Bool.or_eq_true_iff.mp hb with hb | hb
          · obtain ⟨g1, g2⟩ := Bool.and_eq_true_iff.mp hb
            have := Nat.eq_of_beq_eq_true g2
            subst this
            cases hq
            exact fx_newr C K hF g1 (Or.inl rfl) rfl hlk hX.1 hi I k
          · obtain ⟨g1, g2⟩ := Bool.and_eq_true_iff.mp hb
            have := Nat.eq_of_beq_eq_true g2
            subst this
            cases hq
            exact fx_newr C K hF g1 (Or.inr (Or.inl rfl)) rfl hlk hX.2.1 hi I k
        · obtain ⟨g1, g2⟩ := Bool.and_eq_true_iff.mp hb
          have := Nat.eq_of_beq_eq_true g2
          subst this
          cases hq
          exact fx_newr C K hF g1 (Or.inr (Or.inr rfl)) rfl hlk hX.2.2 hi I k
      · cases hs
  · cases hs
theorem fx_s_new (C : fx_Cx p R s m args meth c0 A D aC X M) (K : fx_Mok M) (v : Nat) : fx_G p l e R s m args below meth c0 Q A D aC X M (.new v) := by
  intro pc lv st h c n x ad L H locs ls hF hs I k
  obtain ⟨he, hS, hl, hlv, hst, hln⟩ := id I
  simp only [fx_stp] at hs
  split at hs
  · rename_i ci hci
    obtain ⟨hc12, q, hq, hlk⟩ := K.2.2.2.2.1 _ _ (fx_lk_mem hci)
    rw [hq] at hs
    simp only at hs
    split at hs
    · rename_i hi
      cases hs
      obtain ⟨hin, hins, hini⟩ := fx_clin hq
      obtain ⟨-, hty, -, -, -⟩ := fx_clok ci q hq
      have hcell : ∀ z, fx_cell aC (fx_adn ad h ci z) (fx_mk h ci 0) (ci, h.1 ci) = .inr (ci, (List.range (fx_nf ci)).map (fun sl => defaultValue (fx_ty ci sl))) := by
        intro z
        rw [fx_cell_o (by omega)]
        congr 2
        refine List.map_congr_left (fun sl hsl => ?_)
        rw [fx_tydef ci hc12 sl (List.mem_range.mp hsl)]
        have e1 : (fx_mk h ci 0).2.2.1 ci (h.1 ci) = fun _ => none := fx_all_eq _ _ _ _
        have e2 : (fx_mk h ci 0).2.2.2.1 ci (h.1 ci) = fun _ => 0 := fx_all_eq _ _ _ _
        have e3 : (fx_mk h ci 0).2.2.2.2 ci (h.1 ci) = fun _ => 0 := fx_all_eq _ _ _ _
        unfold fx_fv
        rw [e1, e2, e3]
        rfl
      refine va_new (C := q.1) (T := q.2.1) (N := q.2.2) (ci := ci) (fs := (List.range (fx_nf ci)).map (fun sl => defaultValue (fx_ty ci sl))) C.1 C.2.1 C.2.2.2.2.1 hin (fx_ty ci) hty C.2.2.2.1 (C.2.2.2.2.1 _ hlk) (C.2.2.2.2.1 _ hins) (C.2.2.2.2.1 _ hini) C.2.2.2.2.2.1 he.1 he.2.1 hS C.2.2.2.2.2.2.2.2.2.2.1 hq (fun j hj => ?_) (by rw [C.2.2.2.2.2.2.2.2.2.2.2.1]; exact hi.1) (by rw [C.2.2.2.2.2.2.2.2.2.2.2.2.1]; exact hi.2) (fx_dec K hF rfl) ?_
      · unfold vp_V
        rw [List.getD_eq_getElem?_getD, List.getElem?_map, List.getElem?_range (by rw [fx_nf_of hq]; exact hj)]
        rfl
      · intro z H1 hP hD hS1
        obtain ⟨I2, e2⟩ := fx_made (show ci < 90 by omega) I hst (hcell z) hP hD hS1
        rw [← e2]
        exact k _ _ H1 locs ls I2 (fx_mk_ext ad h ci _ z)
    · cases hs
  · cases hs
theorem fx_fI (aC : Nat → ClassId) (C : fx_Cx p R s m args meth c0 A D aC X M) : s.vm.findClass "[I" = some (aC 0) := by
  have h := (C.2.2.2.2.2.1.2 0 _ (fx_tys_at aC (by decide))).2
  exact h
theorem fx_s_checkcast (C : fx_Cx p R s m args meth c0 A D aC X M) (K : fx_Mok M) (v : Nat) : fx_G p l e R s m args below meth c0 Q A D aC X M (.checkcast v) := by
  intro pc lv st h c n x ad L H locs ls hF hs I k
  obtain ⟨he, hS, hl, hlv, hst, hln⟩ := id I
  simp only [fx_stp] at hs
  split at hs
  · rename_i k1 j1 r
    cases hb : fx_aw k1 0 with
    | false => rw [hb] at hs; cases hs
    | true =>
      rw [hb] at hs
      cases hs
      obtain ⟨b1, b2, b3⟩ := fx_aw_spec hb
      obtain ⟨q0, hq0⟩ := fx_inL he b2 (fx_hd hst)
      have hw := fx_ws_at (aC := aC) (ad := ad) (h := h) hq0
      rw [fx_cell_a b1, b3] at hw
      exact va_castA C.1 C.2.1 C.2.2.2.1 (C.2.2.2.2.1 _ (K.2.2.2.2.2.2.2.2.2 _ _ hF)) he.1 q0 hw (fx_fI aC C) (fx_dec K hF rfl) (k ad L H locs ls I (fx_ext.rf h ad))
  · cases hs
theorem fx_c8 {ad : fxR → Nat} {r : List fxV} {N : Nat} (h : Nat.ble (r.map fx_cat).sum 8 = true) (hN : 8 + N ≤ R.locals) : ((r.map (fx_cv ad)).map fun v => v.category).sum + N ≤ R.locals := by
  rw [fx_cats]
  have := Nat.le_of_ble_eq_true h
  omega
theorem fx_s_invokestatic (C : fx_Cx p R s m args meth c0 A D aC X M) (K : fx_Mok M) (v : Nat) : fx_G p l e R s m args below meth c0 Q A D aC X M (.invokestatic v) := by
  intro pc lv st h c n x ad L H locs ls hF hs I k
  obtain ⟨he, hS, hl, hlv, hst, hln⟩ := id I
  obtain ⟨C1, C2, C3, C4, C5, C6, C7, C8, C9, C10, C11, C12, C13, C14, C15⟩ := id C
  have hml : c0.maxLocals = ls.size := by rw [C3, hl.1]
  simp only [fx_stp] at hs
  split at hs
  · rename_i hv
    have hp := K.2.2.2.1 _ _ (fx_lk_mem hv)
    split at hs
    · rename_i y z r
      cases hb : (Nat.ble (r.map fx_cat).sum 8 && Nat.ble c M.2.2.2.2.2.1 && Nat.ble n M.2.2.2.2.2.2) with
      | false => rw [hb] at hs; cases hs
      | true =>
        rw [hb] at hs
        cases hs
        obtain ⟨hb, hn0⟩ := Bool.and_eq_true_iff.mp hb
        obtain ⟨hb, hc0⟩ := Bool.and_eq_true_iff.mp hb
        have hc' : c ≤ R.cells := by rw [C12]; exact Nat.le_of_ble_eq_true hc0
        have hn' : n ≤ R.slots := by rw [C13]; exact Nat.le_of_ble_eq_true hn0
        exact va_mmax C1 C2 hml C4 (C5 _ hp) (C5 _ fx_w_max_s) (C5 _ fx_w_math) (C5 _ fx_w_max_c) C14 (fx_c8 hb (by omega)) hc' hn' (fx_dec K hF rfl) (k ad L H locs ls ⟨he, hS, hl, hlv, fx_ci (fx_tl (fx_tl hst)), hln⟩ (fx_ext.rf h ad))
    · cases hs
  · rename_i hv
    have hp := K.2.2.2.1 _ _ (fx_lk_mem hv)
    split at hs
    · rename_i y z r
      cases hb : (Nat.ble (r.map fx_cat).sum 8 && Nat.ble c M.2.2.2.2.2.1 && Nat.ble n M.2.2.2.2.2.2) with
      | false => rw [hb] at hs; cases hs
      | true =>
        rw [hb] at hs
        cases hs
        obtain ⟨hb, hn0⟩ := Bool.and_eq_true_iff.mp hb
        obtain ⟨hb, hc0⟩ := Bool.and_eq_true_iff.mp hb
        have hc' : c ≤ R.cells := by rw [C12]; exact Nat.le_of_ble_eq_true hc0
        have hn' : n ≤ R.slots := by rw [C13]; exact Nat.le_of_ble_eq_true hn0
        exact va_mmin C1 C2 hml C4 (C5 _ hp) (C5 _ fx_w_min_s) (C5 _ fx_w_math) (C5 _ fx_w_min_c) C14 (fx_c8 hb (by omega)) hc' hn' (fx_dec K hF rfl) (k ad L H locs ls ⟨he, hS, hl, hlv, fx_ci (fx_tl (fx_tl hst)), hln⟩ (fx_ext.rf h ad))
    · cases hs
  · rename_i hv
    have hp := K.2.2.2.1 _ _ (fx_lk_mem hv)
    split at hs
    · rename_i y z r
      cases hb : (Nat.ble (r.map fx_cat).sum 8 && Nat.ble c M.2.2.2.2.2.1 && Nat.ble n M.2.2.2.2.2.2) with
      | false => rw [hb] at hs; cases hs
      | true =>
        rw [hb] at hs
        cases hs
        obtain ⟨hb, hn0⟩ := Bool.and_eq_true_iff.mp hb
        obtain ⟨hb, hc0⟩ := Bool.and_eq_true_iff.mp hb
        have hc' : c ≤ R.cells := by rw [C12]; exact Nat.le_of_ble_eq_true hc0
        have hn' : n ≤ R.slots := by rw [C13]; exact Nat.le_of_ble_eq_true hn0
        exact va_mmin_long C1 C2 hml C4 (C5 _ hp) (C5 _ fx_w_minl_s) (C5 _ fx_w_math) (C5 _ fx_w_minl_c) C14 (fx_c8 hb (by omega)) hc' hn' (fx_dec K hF rfl) (k ad L H locs ls ⟨he, hS, hl, hlv, fx_cL (fx_tl (fx_tl hst)), hln⟩ (fx_ext.rf h ad))
    · cases hs
  · rename_i hv
    have hp := K.2.2.2.1 _ _ (fx_lk_mem hv)
    split at hs
    · rename_i z dp k1 j1 sp k0 j0 r
      cases hb : (fx_aw k1 0 && fx_aw k0 0 && Nat.ble (r.map fx_cat).sum 8) with
      | false => rw [hb] at hs; cases hs
      | true =>
        rw [hb] at hs
        simp only [cond_true] at hs
        split at hs
        · rename_i hi
          cases hs
          obtain ⟨hb1, hb3⟩ := Bool.and_eq_true_iff.mp hb
          obtain ⟨hb1, hb2⟩ := Bool.and_eq_true_iff.mp hb1
          obtain ⟨b1, b2, b3⟩ := fx_aw_spec hb1
          obtain ⟨d1, d2, d3⟩ := fx_aw_spec hb2
          obtain ⟨i1, i2, i3, i4, i5⟩ := hi
          obtain ⟨q1, hq1⟩ := fx_inL he b2 (fx_hd (fx_tl (fx_tl hst)))
          obtain ⟨q0, hq0⟩ := fx_inL he d2 (fx_hd (fx_tl (fx_tl (fx_tl (fx_tl hst)))))
          have hw1 := fx_ws_at (aC := aC) (ad := ad) (h := h) hq1
          have hw0 := fx_ws_at (aC := aC) (ad := ad) (h := h) hq0
          rw [fx_cell_a b1, b3] at hw1
          rw [fx_cell_a d1, d3] at hw0
          have nn : ∀ u : Int32, 0 ≤ u.toInt → ¬ u < 0 := by
            intro u hu z
            have := Int32.lt_iff_toInt_lt.mp z
            have z0 : (0 : Int32).toInt = 0 := by decide
            omega
          have cl : ∀ u : Int32, u.toNatClampNeg = u.toInt.toNat := fun _ => rfl
          refine va_copyi C1 C2 hml C4 (C5 _ hp) (C5 _ fx_w_cp_n) (C5 _ fx_w_cp_s) (C5 _ fx_w_sys) C6 he.1 he.2.1 hS q0 q1 0 0 hw0 hw1 (fx_tys_at aC (by decide)) (fx_tys_at aC (by decide)) rfl (nn _ i1) (nn _ i2) (nn _ i3) (by rw [cl, cl]; omega) (by rw [cl, cl]; omega) (fun _ _ => rfl) C14 (fx_c8 hb3 (Nat.le_trans (by decide) C15)) (fx_dec K hF rfl) (fun H1 locs1 hP hD hS1 => k ad L H1 locs1 ls ⟨fx_He_set (h' := fx_wa h k1 j1 (va_cpy (h.2.2.2.1 k0 j0) (h.2.2.2.1 k1 j1) sp.toNatClampNeg dp.toNatClampNeg z.toNatClampNeg)) he hq1 (fx_wa_a b1 b3) (fun r' hr => fx_wa_ne hr) rfl he.2.2.2.1 (fx_Xh_a b2 he.2.2.2.2) ?_ ?_, hS1, hl, hlv, fx_tl (fx_tl (fx_tl (fx_tl (fx_tl hst)))), hln⟩ (fx_ext.rf h ad))
          · rw [b3]; exact hP
          · rw [b3]; exact hD
        · cases hs
    · cases hs
  · cases hs
theorem fx_s_invokespecial (C : fx_Cx p R s m args meth c0 A D aC X M) (K : fx_Mok M) (v : Nat) : fx_G p l e R s m args below meth c0 Q A D aC X M (.invokespecial v) := by
  intro pc lv st h c n x ad L H locs ls hF hs I k
  obtain ⟨he, hS, hl, hlv, hst, hln⟩ := id I
  obtain ⟨C1, C2, C3, C4, C5, C6, C7, C8, C9, C10, C11, C12, C13, C14, C15⟩ := id C
  have hml : ls.size = c0.maxLocals := by rw [C3, hl.1]
  simp only [fx_stp] at hs
  split at hs
  · rename_i hv
    have hp := K.2.2.2.1 _ _ (fx_lk_mem hv)
    split at hs
    · rename_i r0 r
      cases hb : Nat.ble (r.map fx_cat).sum 8 with
      | false => rw [hb] at hs; cases hs
      | true =>
        rw [hb] at hs
        cases hs
        refine W.objInit (a := ad r0) (rest := r.map (fx_cv ad)) C1 C2 C4 (C5 _ hp) (C5 _ fx_w_oi_i) (C5 _ fx_w_oi_c) (g := F0 m pc ls (.ref (ad r0) :: r.map (fx_cv ad))) rfl hml rfl (fx_dec K hF rfl) C14 ?_ (k ad L H locs ls ⟨he, hS, hl, hlv, fx_tl hst, hln⟩ (fx_ext.rf h ad))
        have := fx_c8 (R := R) (ad := ad) (N := 12) hb (by omega)
        simpa [JFrame.monitorRoom] using this
    · cases hs
  · cases hs
theorem fx_s_invokevirtual (C : fx_Cx p R s m args meth c0 A D aC X M) (K : fx_Mok M) (v : Nat) : fx_G p l e R s m args below meth c0 Q A D aC X M (.invokevirtual v) := by
  intro pc lv st h c n x ad L H locs ls hF hs I k
  obtain ⟨he, hS, hl, hlv, hst, hln⟩ := id I
  obtain ⟨C1, C2, C3, C4, C5, C6, C7, C8, C9, C10, C11, C12, C13, C14, C15⟩ := id C
  have hml : c0.maxLocals = ls.size := by rw [C3, hl.1]
  simp only [fx_stp] at hs
  split at hs
  · rename_i hv
    have hp := K.2.2.2.1 _ _ (fx_lk_mem hv)
    split at hs
    · rename_i k0 j0 r k1 hk1
      cases hb : (fx_aw k0 0 && fx_aw k1 0 && Nat.ble (r.map fx_cat).sum 8) with
      | false => rw [hb] at hs; cases hs
      | true =>
        rw [hb] at hs
        simp only [cond_true] at hs
        split at hs
        · rename_i hi
          cases hs
          obtain ⟨hb1, hb3⟩ := Bool.and_eq_true_iff.mp hb
          obtain ⟨hb1, hb2⟩ := Bool.and_eq_true_iff.mp hb1
          obtain ⟨b1, b2, b3⟩ := fx_aw_spec hb1
          obtain ⟨d1, d2, d3⟩ := fx_aw_spec hb2
          obtain ⟨q0, hq0⟩ := fx_inL he b2 (fx_hd hst)
          have hw0 := fx_ws_at (aC := aC) (ad := ad) (h := h) hq0
          rw [fx_cell_a b1, b3] at hw0
          refine va_clone C1 C2 hml C4 (C5 _ hp) (C5 _ fx_w_cl_same) (C5 _ fx_w_cl_n) (C5 _ fx_w_cl_i) (C5 _ fx_w_cl_sel) C10.2.2.2.2.2.2.2.2.2 C6 he.1 he.2.1 hS C11 q0 0 hw0 (fx_tys_at aC (by decide)) (fx_fI aC C) ?_ C14 (fx_c8 hb3 (by omega)) (by rw [C12]; exact hi.1) (by rw [C13]; exact hi.2) (fx_dec K hF rfl) ?_
          · intro i w hw
            have hw2 : (arrV (aC 0) (h.2.1 k0 j0) (fun j => Value.int (h.2.2.2.1 k0 j0 j))).slots[i]? = some w := hw
            have hlt := (Array.getElem?_eq_some_iff.mp hw2).1
            rw [arrV_size] at hlt
            rw [arrV_read _ _ hlt] at hw2
            cases hw2
            rfl
          · intro q H1 hK hP hD hS1
            have hce : fx_cell aC (fx_adn ad h k1 q) (fx_wa (fx_mk h k1 (h.2.1 k0 j0)) k1 (h.1 k1) (h.2.2.2.1 k0 j0)) (k1, h.1 k1) = .inl (aC 0, h.2.1 k0 j0, .inl (h.2.2.2.1 k0 j0)) := by
              rw [fx_wa_a d1 d3, d3, fx_mk_len]
            have hw : fx_ws aC (fx_adn ad h k1 q) (fx_wa (fx_mk h k1 (h.2.1 k0 j0)) k1 (h.1 k1) (h.2.2.2.1 k0 j0)) (L ++ [(k1, h.1 k1)]) = fx_ws aC ad h L ++ [(q, .inl (aC 0, h.2.1 k0 j0, .inl (h.2.2.2.1 k0 j0)))] := by
              unfold fx_ws
              rw [List.map_append]
              congr 1
              · refine List.map_congr_left (fun r' hr1 => ?_)
                have h1 := ((he.2.2.1 r').mp hr1).2
                have hne : r' ≠ (k1, h.1 k1) := fun z => by rw [z] at h1; exact Nat.lt_irrefl _ h1
                rw [fx_wa_ne hne, fx_mk_cell he.2.2.2.1 h1, (fx_mk_ext ad h k1 (h.2.1 k0 j0) q).2 r' h1]
              · rw [List.map_singleton, hce]
                unfold fx_adn
                rw [if_pos rfl]
            have x2 := fx_mk_ext ad h k1 (h.2.1 k0 j0) q
            have hP0 : ∀ (D : va_G), True := fun _ => trivial
            have e2 : ((.inr (.inr (some (k1, h.1 k1))) :: r : List fxV)).map (fx_cv (fx_adn ad h k1 q)) = Value.ref q :: r.map (fx_cv ad) := by
              rw [List.map_cons, x2.st (fx_tl hst)]
              show Value.ref (fx_adn ad h k1 q (k1, h.1 k1)) :: _ = _
              unfold fx_adn
              rw [if_pos rfl]
            rw [← e2]
            refine k _ (L ++ [(k1, h.1 k1)]) H1 locs ls ⟨⟨by rw [hw]; exact hP, by rw [hw]; exact hD, ?_, ?_, ?_⟩, hS1, by rw [x2.lv hlv]; exact hl, fun i v hv => x2.ok (hlv i v hv), fx_cn (P := fx_ok (fx_mk h k1 (h.2.1 k0 j0))) ?_ (fun v hv => x2.ok (fx_tl hst v hv)), hln⟩ ⟨x2.1, x2.2⟩
            · intro r'
              show _ ↔ _ ∧ r'.2 < (fx_mk h k1 (h.2.1 k0 j0)).1 r'.1
              rw [List.mem_append, List.mem_singleton, he.2.2.1 r', fx_mk_cnt]
              constructor
              · rintro (⟨h1, h2⟩ | rfl)
                · refine ⟨h1, ?_⟩
                  split
                  · rename_i z
                    rw [z] at h2
                    omega
                  · exact h2
                · exact ⟨d2, by rw [if_pos rfl]; exact Nat.lt_succ_self _⟩
              · rintro ⟨h1, h2⟩
                by_cases z : r'.1 = k1
                · rw [if_pos z] at h2
                  by_cases z2 : r'.2 = h.1 k1
                  · exact Or.inr (Prod.ext z z2)
                  · exact Or.inl ⟨h1, by rw [z]; omega⟩
                · rw [if_neg z] at h2
                  exact Or.inl ⟨h1, h2⟩
            · intro a b t r' hb e1
              by_cases z : a = k1 ∧ b = h.1 k1
              · obtain ⟨rfl, rfl⟩ := z
                have e3 : (fx_mk h a (h.2.1 k0 j0)).2.2.1 a (h.1 a) t = none := congrFun (fx_all_eq _ _ _ _) t
                have e1' : (fx_mk h a (h.2.1 k0 j0)).2.2.1 a (h.1 a) t = some r' := e1
                rw [e3] at e1'
                cases e1'
              · have e3 : (fx_mk h k1 (h.2.1 k0 j0)).2.2.1 a b = h.2.2.1 a b := fx_all_ne _ _ z
                have e1' : (fx_mk h k1 (h.2.1 k0 j0)).2.2.1 a b t = some r' := e1
                rw [e3] at e1'
                refine Nat.lt_of_lt_of_le (he.2.2.2.1 _ _ _ _ ?_ e1') (x2.1 _)
                have hb : b < (if a = k1 then h.1 k1 + 1 else h.1 a) := hb
                split at hb
                · rename_i ek
                  subst ek
                  have : ¬ b = h.1 a := fun w => z ⟨rfl, w⟩
                  omega
                · exact hb
            · refine fx_Xh_a d2 ?_
              obtain ⟨a1, a2, a3, a4, a5, a6, a7, a8, a9, a10⟩ := he.2.2.2.2
              have n0 : ¬ (90 = k1) := by omega
              have n1 : ¬ (91 = k1) := by omega
              have n2 : ¬ (92 = k1) := by omega
              refine ⟨?_, ?_, fun t => ?_, ?_, ?_, ?_, fun t => ?_, ?_, fun i hi => ?_, ?_⟩
              · rw [← a1]
                exact if_neg (fun z => n0 (congrArg Prod.fst z))
              · rw [← a2]
                show (if 90 = k1 then _ else h.2.1 90) 0 = _
                rw [if_neg n0]
              · rw [← a3 t]
                exact congrFun (fx_all_ne _ _ (fun z => n0 z.1)) t
              · rw [fx_mk_cnt, if_neg n0, a4]
              · rw [← a5]
                exact if_neg (fun z => n1 (congrArg Prod.fst z))
              · rw [← a6]
                show (if 91 = k1 then _ else h.2.1 91) 0 = _
                rw [if_neg n1]
              · rw [← a7 t]
                exact congrFun (fx_all_ne _ _ (fun z => n1 z.1)) t
              · rw [fx_mk_cnt, if_neg n1, a8]
              · rw [← a9 i hi]
                exact if_neg (fun z => n2 (congrArg Prod.fst z))
              · rw [fx_mk_cnt, if_neg n2, a10]
            · show h.1 k1 < (fx_mk h k1 (h.2.1 k0 j0)).1 k1
              rw [fx_mk_cnt, if_pos rfl]
              exact Nat.lt_succ_self _
        · cases hs
    · cases hs
  · cases hs
end FXK
end
