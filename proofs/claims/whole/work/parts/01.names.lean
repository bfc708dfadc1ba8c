-- ===== PART A: goes FIRST, ahead of the names: the tables' words, and 'selects' of the private methods out of them =====
/-- a private method of a class that the tables say can be made, by its rows of tables_1 -/
def lw_okq (q : MethodName × Nat) : Prop := (q.1.cls ≠ "java/lang/invoke/MethodHandle" ∧ q.1.cls ≠ "java/lang/invoke/VarHandle") ∧ Cond.instantiable q.1.cls q.2 ∈ tables_1 ∧ Cond.privateMethod q.1 ∈ tables_1 ∧ Cond.instanceMethod q.1 ∈ tables_1
theorem lw_p0 : lw_okq (⟨"TaperTalk", "putBytes", "(I)V"⟩, 19) := ⟨⟨by decide +kernel, by decide +kernel⟩, List.mem_of_getElem? (i := 22) (by decide +kernel), List.mem_of_getElem? (i := 469) (by decide +kernel), List.mem_of_getElem? (i := 470) (by decide +kernel)⟩
theorem lw_p1 : lw_okq (⟨"TaperTalk$Reader", "advance", "()V"⟩, 9) := ⟨⟨by decide +kernel, by decide +kernel⟩, List.mem_of_getElem? (i := 30) (by decide +kernel), List.mem_of_getElem? (i := 489) (by decide +kernel), List.mem_of_getElem? (i := 490) (by decide +kernel)⟩
theorem lw_p2 : lw_okq (⟨"TaperTalk$Reader", "readLine", "()V"⟩, 9) := ⟨⟨by decide +kernel, by decide +kernel⟩, List.mem_of_getElem? (i := 30) (by decide +kernel), List.mem_of_getElem? (i := 502) (by decide +kernel), List.mem_of_getElem? (i := 503) (by decide +kernel)⟩
theorem lw_p3 : lw_okq (⟨"TaperTalk$Reader", "readNight", "()V"⟩, 9) := ⟨⟨by decide +kernel, by decide +kernel⟩, List.mem_of_getElem? (i := 30) (by decide +kernel), List.mem_of_getElem? (i := 506) (by decide +kernel), List.mem_of_getElem? (i := 507) (by decide +kernel)⟩
theorem lw_p4 : lw_okq (⟨"TaperTalk$Reader", "needWord", "(Ljava/lang/String;)V"⟩, 9) := ⟨⟨by decide +kernel, by decide +kernel⟩, List.mem_of_getElem? (i := 30) (by decide +kernel), List.mem_of_getElem? (i := 511) (by decide +kernel), List.mem_of_getElem? (i := 512) (by decide +kernel)⟩
theorem lw_p5 : lw_okq (⟨"TaperTalk$Reader", "isWord", "(Ljava/lang/String;)Z"⟩, 9) := ⟨⟨by decide +kernel, by decide +kernel⟩, List.mem_of_getElem? (i := 30) (by decide +kernel), List.mem_of_getElem? (i := 515) (by decide +kernel), List.mem_of_getElem? (i := 516) (by decide +kernel)⟩
theorem lw_p6 : lw_okq (⟨"TaperTalk$Reader", "fail", "(I)V"⟩, 9) := ⟨⟨by decide +kernel, by decide +kernel⟩, List.mem_of_getElem? (i := 30) (by decide +kernel), List.mem_of_getElem? (i := 567) (by decide +kernel), List.mem_of_getElem? (i := 568) (by decide +kernel)⟩
theorem lw_p7 : lw_okq (⟨"TaperTalk$Reader", "needNumber", "(II)I"⟩, 9) := ⟨⟨by decide +kernel, by decide +kernel⟩, List.mem_of_getElem? (i := 30) (by decide +kernel), List.mem_of_getElem? (i := 572) (by decide +kernel), List.mem_of_getElem? (i := 573) (by decide +kernel)⟩
theorem lw_p8 : lw_okq (⟨"TaperTalk$Reader", "readPew", "()V"⟩, 9) := ⟨⟨by decide +kernel, by decide +kernel⟩, List.mem_of_getElem? (i := 30) (by decide +kernel), List.mem_of_getElem? (i := 579) (by decide +kernel), List.mem_of_getElem? (i := 580) (by decide +kernel)⟩
theorem lw_p9 : lw_okq (⟨"TaperTalk$Reader", "refuseMoreThan", "(II)V"⟩, 9) := ⟨⟨by decide +kernel, by decide +kernel⟩, List.mem_of_getElem? (i := 30) (by decide +kernel), List.mem_of_getElem? (i := 583) (by decide +kernel), List.mem_of_getElem? (i := 584) (by decide +kernel)⟩
theorem lw_p10 : lw_okq (⟨"TaperTalk$Reader", "ruleWord", "()I"⟩, 9) := ⟨⟨by decide +kernel, by decide +kernel⟩, List.mem_of_getElem? (i := 30) (by decide +kernel), List.mem_of_getElem? (i := 587) (by decide +kernel), List.mem_of_getElem? (i := 588) (by decide +kernel)⟩
theorem lw_p11 : lw_okq (⟨"TaperTalk$Reader", "readAisle", "()V"⟩, 9) := ⟨⟨by decide +kernel, by decide +kernel⟩, List.mem_of_getElem? (i := 30) (by decide +kernel), List.mem_of_getElem? (i := 605) (by decide +kernel), List.mem_of_getElem? (i := 606) (by decide +kernel)⟩
theorem lw_p12 : lw_okq (⟨"TaperTalk$Reader", "areJoined", "(I)Z"⟩, 9) := ⟨⟨by decide +kernel, by decide +kernel⟩, List.mem_of_getElem? (i := 30) (by decide +kernel), List.mem_of_getElem? (i := 609) (by decide +kernel), List.mem_of_getElem? (i := 610) (by decide +kernel)⟩
theorem lw_p13 : lw_okq (⟨"TaperTalk$Reader", "readLight", "()V"⟩, 9) := ⟨⟨by decide +kernel, by decide +kernel⟩, List.mem_of_getElem? (i := 30) (by decide +kernel), List.mem_of_getElem? (i := 618) (by decide +kernel), List.mem_of_getElem? (i := 619) (by decide +kernel)⟩
theorem lw_p14 : lw_okq (⟨"TaperTalk$Reader", "readDraught", "()V"⟩, 9) := ⟨⟨by decide +kernel, by decide +kernel⟩, List.mem_of_getElem? (i := 30) (by decide +kernel), List.mem_of_getElem? (i := 630) (by decide +kernel), List.mem_of_getElem? (i := 631) (by decide +kernel)⟩
theorem lw_p15 : lw_okq (⟨"TaperTalk", "unsettle", "()V"⟩, 19) := ⟨⟨by decide +kernel, by decide +kernel⟩, List.mem_of_getElem? (i := 22) (by decide +kernel), List.mem_of_getElem? (i := 646) (by decide +kernel), List.mem_of_getElem? (i := 647) (by decide +kernel)⟩
def lw_privs_1 : List (MethodName × Nat) := [(⟨"TaperTalk", "putBytes", "(I)V"⟩, 19), (⟨"TaperTalk$Reader", "advance", "()V"⟩, 9), (⟨"TaperTalk$Reader", "readLine", "()V"⟩, 9), (⟨"TaperTalk$Reader", "readNight", "()V"⟩, 9), (⟨"TaperTalk$Reader", "needWord", "(Ljava/lang/String;)V"⟩, 9), (⟨"TaperTalk$Reader", "isWord", "(Ljava/lang/String;)Z"⟩, 9), (⟨"TaperTalk$Reader", "fail", "(I)V"⟩, 9), (⟨"TaperTalk$Reader", "needNumber", "(II)I"⟩, 9), (⟨"TaperTalk$Reader", "readPew", "()V"⟩, 9), (⟨"TaperTalk$Reader", "refuseMoreThan", "(II)V"⟩, 9), (⟨"TaperTalk$Reader", "ruleWord", "()I"⟩, 9), (⟨"TaperTalk$Reader", "readAisle", "()V"⟩, 9), (⟨"TaperTalk$Reader", "areJoined", "(I)Z"⟩, 9), (⟨"TaperTalk$Reader", "readLight", "()V"⟩, 9), (⟨"TaperTalk$Reader", "readDraught", "()V"⟩, 9), (⟨"TaperTalk", "unsettle", "()V"⟩, 19)]
theorem lw_r1 : ∀ q ∈ lw_privs_1, lw_okq q := List.forall_mem_cons.mpr ⟨lw_p0, List.forall_mem_cons.mpr ⟨lw_p1, List.forall_mem_cons.mpr ⟨lw_p2, List.forall_mem_cons.mpr ⟨lw_p3, List.forall_mem_cons.mpr ⟨lw_p4, List.forall_mem_cons.mpr ⟨lw_p5, List.forall_mem_cons.mpr ⟨lw_p6, List.forall_mem_cons.mpr ⟨lw_p7, List.forall_mem_cons.mpr ⟨lw_p8, List.forall_mem_cons.mpr ⟨lw_p9, List.forall_mem_cons.mpr ⟨lw_p10, List.forall_mem_cons.mpr ⟨lw_p11, List.forall_mem_cons.mpr ⟨lw_p12, List.forall_mem_cons.mpr ⟨lw_p13, List.forall_mem_cons.mpr ⟨lw_p14, List.forall_mem_cons.mpr ⟨lw_p15, fun _ h => absurd h List.not_mem_nil⟩⟩⟩⟩⟩⟩⟩⟩⟩⟩⟩⟩⟩⟩⟩⟩
theorem lw_p16 : lw_okq (⟨"TaperTalk", "noPew", "(I)Z"⟩, 19) := ⟨⟨by decide +kernel, by decide +kernel⟩, List.mem_of_getElem? (i := 22) (by decide +kernel), List.mem_of_getElem? (i := 659) (by decide +kernel), List.mem_of_getElem? (i := 660) (by decide +kernel)⟩
theorem lw_p17 : lw_okq (⟨"TaperTalk", "noHour", "(I)Z"⟩, 19) := ⟨⟨by decide +kernel, by decide +kernel⟩, List.mem_of_getElem? (i := 22) (by decide +kernel), List.mem_of_getElem? (i := 689) (by decide +kernel), List.mem_of_getElem? (i := 690) (by decide +kernel)⟩
theorem lw_p18 : lw_okq (⟨"TaperTalk", "noNight", "()Z"⟩, 19) := ⟨⟨by decide +kernel, by decide +kernel⟩, List.mem_of_getElem? (i := 22) (by decide +kernel), List.mem_of_getElem? (i := 693) (by decide +kernel), List.mem_of_getElem? (i := 694) (by decide +kernel)⟩
theorem lw_p19 : lw_okq (⟨"TaperTalk", "settledCourse", "()LTaperTalk$Course;"⟩, 19) := ⟨⟨by decide +kernel, by decide +kernel⟩, List.mem_of_getElem? (i := 22) (by decide +kernel), List.mem_of_getElem? (i := 697) (by decide +kernel), List.mem_of_getElem? (i := 698) (by decide +kernel)⟩
theorem lw_p20 : lw_okq (⟨"TaperTalk$Course", "begin", "()V"⟩, 17) := ⟨⟨by decide +kernel, by decide +kernel⟩, List.mem_of_getElem? (i := 216) (by decide +kernel), List.mem_of_getElem? (i := 709) (by decide +kernel), List.mem_of_getElem? (i := 710) (by decide +kernel)⟩
theorem lw_p21 : lw_okq (⟨"TaperTalk$Course", "quench", "(I)V"⟩, 17) := ⟨⟨by decide +kernel, by decide +kernel⟩, List.mem_of_getElem? (i := 216) (by decide +kernel), List.mem_of_getElem? (i := 713) (by decide +kernel), List.mem_of_getElem? (i := 714) (by decide +kernel)⟩
theorem lw_p22 : lw_okq (⟨"TaperTalk$Course", "kindle", "(III)V"⟩, 17) := ⟨⟨by decide +kernel, by decide +kernel⟩, List.mem_of_getElem? (i := 216) (by decide +kernel), List.mem_of_getElem? (i := 717) (by decide +kernel), List.mem_of_getElem? (i := 718) (by decide +kernel)⟩
theorem lw_p23 : lw_okq (⟨"TaperTalk$Course", "carry", "(I)V"⟩, 17) := ⟨⟨by decide +kernel, by decide +kernel⟩, List.mem_of_getElem? (i := 216) (by decide +kernel), List.mem_of_getElem? (i := 721) (by decide +kernel), List.mem_of_getElem? (i := 722) (by decide +kernel)⟩
theorem lw_p24 : lw_okq (⟨"TaperTalk$Course", "speaker", "(II)I"⟩, 17) := ⟨⟨by decide +kernel, by decide +kernel⟩, List.mem_of_getElem? (i := 216) (by decide +kernel), List.mem_of_getElem? (i := 726) (by decide +kernel), List.mem_of_getElem? (i := 727) (by decide +kernel)⟩
theorem lw_p25 : lw_okq (⟨"TaperTalk$Course", "lightByActs", "(I)V"⟩, 17) := ⟨⟨by decide +kernel, by decide +kernel⟩, List.mem_of_getElem? (i := 216) (by decide +kernel), List.mem_of_getElem? (i := 745) (by decide +kernel), List.mem_of_getElem? (i := 746) (by decide +kernel)⟩
theorem lw_p26 : lw_okq (⟨"TaperTalk$Course", "putOut", "(I)V"⟩, 17) := ⟨⟨by decide +kernel, by decide +kernel⟩, List.mem_of_getElem? (i := 216) (by decide +kernel), List.mem_of_getElem? (i := 749) (by decide +kernel), List.mem_of_getElem? (i := 750) (by decide +kernel)⟩
theorem lw_p27 : lw_okq (⟨"TaperTalk$Course", "noteLit", "(I)V"⟩, 17) := ⟨⟨by decide +kernel, by decide +kernel⟩, List.mem_of_getElem? (i := 216) (by decide +kernel), List.mem_of_getElem? (i := 753) (by decide +kernel), List.mem_of_getElem? (i := 754) (by decide +kernel)⟩
theorem lw_p28 : lw_okq (⟨"TaperTalk", "hearingRefusal", "(III)I"⟩, 19) := ⟨⟨by decide +kernel, by decide +kernel⟩, List.mem_of_getElem? (i := 22) (by decide +kernel), List.mem_of_getElem? (i := 881) (by decide +kernel), List.mem_of_getElem? (i := 882) (by decide +kernel)⟩
theorem lw_p29 : lw_okq (⟨"TaperTalk", "heardTwice", "(III)I"⟩, 19) := ⟨⟨by decide +kernel, by decide +kernel⟩, List.mem_of_getElem? (i := 22) (by decide +kernel), List.mem_of_getElem? (i := 898) (by decide +kernel), List.mem_of_getElem? (i := 899) (by decide +kernel)⟩
theorem lw_p30 : lw_okq (⟨"TaperTalk$Finder", "followTrail", "(I)V"⟩, 6) := ⟨⟨by decide +kernel, by decide +kernel⟩, List.mem_of_getElem? (i := 337) (by decide +kernel), List.mem_of_getElem? (i := 930) (by decide +kernel), List.mem_of_getElem? (i := 931) (by decide +kernel)⟩
theorem lw_p31 : lw_okq (⟨"TaperTalk$Finder", "tryAll", "(II)V"⟩, 6) := ⟨⟨by decide +kernel, by decide +kernel⟩, List.mem_of_getElem? (i := 337) (by decide +kernel), List.mem_of_getElem? (i := 934) (by decide +kernel), List.mem_of_getElem? (i := 935) (by decide +kernel)⟩
def lw_privs_2 : List (MethodName × Nat) := [(⟨"TaperTalk", "noPew", "(I)Z"⟩, 19), (⟨"TaperTalk", "noHour", "(I)Z"⟩, 19), (⟨"TaperTalk", "noNight", "()Z"⟩, 19), (⟨"TaperTalk", "settledCourse", "()LTaperTalk$Course;"⟩, 19), (⟨"TaperTalk$Course", "begin", "()V"⟩, 17), (⟨"TaperTalk$Course", "quench", "(I)V"⟩, 17), (⟨"TaperTalk$Course", "kindle", "(III)V"⟩, 17), (⟨"TaperTalk$Course", "carry", "(I)V"⟩, 17), (⟨"TaperTalk$Course", "speaker", "(II)I"⟩, 17), (⟨"TaperTalk$Course", "lightByActs", "(I)V"⟩, 17), (⟨"TaperTalk$Course", "putOut", "(I)V"⟩, 17), (⟨"TaperTalk$Course", "noteLit", "(I)V"⟩, 17), (⟨"TaperTalk", "hearingRefusal", "(III)I"⟩, 19), (⟨"TaperTalk", "heardTwice", "(III)I"⟩, 19), (⟨"TaperTalk$Finder", "followTrail", "(I)V"⟩, 6), (⟨"TaperTalk$Finder", "tryAll", "(II)V"⟩, 6)]
theorem lw_r2 : ∀ q ∈ lw_privs_2, lw_okq q := List.forall_mem_cons.mpr ⟨lw_p16, List.forall_mem_cons.mpr ⟨lw_p17, List.forall_mem_cons.mpr ⟨lw_p18, List.forall_mem_cons.mpr ⟨lw_p19, List.forall_mem_cons.mpr ⟨lw_p20, List.forall_mem_cons.mpr ⟨lw_p21, List.forall_mem_cons.mpr ⟨lw_p22, List.forall_mem_cons.mpr ⟨lw_p23, List.forall_mem_cons.mpr ⟨lw_p24, List.forall_mem_cons.mpr ⟨lw_p25, List.forall_mem_cons.mpr ⟨lw_p26, List.forall_mem_cons.mpr ⟨lw_p27, List.forall_mem_cons.mpr ⟨lw_p28, List.forall_mem_cons.mpr ⟨lw_p29, List.forall_mem_cons.mpr ⟨lw_p30, List.forall_mem_cons.mpr ⟨lw_p31, fun _ h => absurd h List.not_mem_nil⟩⟩⟩⟩⟩⟩⟩⟩⟩⟩⟩⟩⟩⟩⟩⟩
theorem lw_p32 : lw_okq (⟨"TaperTalk$Finder", "carried", "(I)I"⟩, 6) := ⟨⟨by decide +kernel, by decide +kernel⟩, List.mem_of_getElem? (i := 337) (by decide +kernel), List.mem_of_getElem? (i := 938) (by decide +kernel), List.mem_of_getElem? (i := 939) (by decide +kernel)⟩
theorem lw_p33 : lw_okq (⟨"TaperTalk", "litAtLast", "()I"⟩, 19) := ⟨⟨by decide +kernel, by decide +kernel⟩, List.mem_of_getElem? (i := 22) (by decide +kernel), List.mem_of_getElem? (i := 1006) (by decide +kernel), List.mem_of_getElem? (i := 1007) (by decide +kernel)⟩
theorem lw_p34 : lw_okq (⟨"TaperTalk", "originRefusal", "(I)I"⟩, 19) := ⟨⟨by decide +kernel, by decide +kernel⟩, List.mem_of_getElem? (i := 22) (by decide +kernel), List.mem_of_getElem? (i := 1028) (by decide +kernel), List.mem_of_getElem? (i := 1029) (by decide +kernel)⟩
theorem lw_p35 : lw_okq (⟨"TaperTalk", "clueRefusal", "(I)I"⟩, 19) := ⟨⟨by decide +kernel, by decide +kernel⟩, List.mem_of_getElem? (i := 22) (by decide +kernel), List.mem_of_getElem? (i := 1032) (by decide +kernel), List.mem_of_getElem? (i := 1033) (by decide +kernel)⟩
theorem lw_p36 : lw_okq (⟨"TaperTalk$Clues", "fit", "(I)Z"⟩, 7) := ⟨⟨by decide +kernel, by decide +kernel⟩, List.mem_of_getElem? (i := 364) (by decide +kernel), List.mem_of_getElem? (i := 1047) (by decide +kernel), List.mem_of_getElem? (i := 1048) (by decide +kernel)⟩
theorem lw_p37 : lw_okq (⟨"TaperTalk$Clues", "noteSizes", "(I)V"⟩, 7) := ⟨⟨by decide +kernel, by decide +kernel⟩, List.mem_of_getElem? (i := 364) (by decide +kernel), List.mem_of_getElem? (i := 1052) (by decide +kernel), List.mem_of_getElem? (i := 1053) (by decide +kernel)⟩
theorem lw_p38 : lw_okq (⟨"TaperTalk$Clues", "leftAtWorst", "(II)I"⟩, 7) := ⟨⟨by decide +kernel, by decide +kernel⟩, List.mem_of_getElem? (i := 364) (by decide +kernel), List.mem_of_getElem? (i := 1065) (by decide +kernel), List.mem_of_getElem? (i := 1066) (by decide +kernel)⟩
theorem lw_p39 : lw_okq (⟨"TaperTalk", "noChanceHour", "(I)Z"⟩, 19) := ⟨⟨by decide +kernel, by decide +kernel⟩, List.mem_of_getElem? (i := 22) (by decide +kernel), List.mem_of_getElem? (i := 1133) (by decide +kernel), List.mem_of_getElem? (i := 1134) (by decide +kernel)⟩
theorem lw_p40 : lw_okq (⟨"TaperTalk", "act", "(III)I"⟩, 19) := ⟨⟨by decide +kernel, by decide +kernel⟩, List.mem_of_getElem? (i := 22) (by decide +kernel), List.mem_of_getElem? (i := 1164) (by decide +kernel), List.mem_of_getElem? (i := 1165) (by decide +kernel)⟩
theorem lw_p41 : lw_okq (⟨"TaperTalkModel", "advance", "()V"⟩, 41) := ⟨⟨by decide +kernel, by decide +kernel⟩, List.mem_of_getElem? (i := 1261) (by decide +kernel), List.mem_of_getElem? (i := 1418) (by decide +kernel), List.mem_of_getElem? (i := 1419) (by decide +kernel)⟩
theorem lw_p42 : lw_okq (⟨"TaperTalkModel", "see", "(I)I"⟩, 41) := ⟨⟨by decide +kernel, by decide +kernel⟩, List.mem_of_getElem? (i := 1261) (by decide +kernel), List.mem_of_getElem? (i := 1422) (by decide +kernel), List.mem_of_getElem? (i := 1423) (by decide +kernel)⟩
theorem lw_p43 : lw_okq (⟨"TaperTalkModel", "good", "()Z"⟩, 41) := ⟨⟨by decide +kernel, by decide +kernel⟩, List.mem_of_getElem? (i := 1261) (by decide +kernel), List.mem_of_getElem? (i := 1432) (by decide +kernel), List.mem_of_getElem? (i := 1433) (by decide +kernel)⟩
theorem lw_p44 : lw_okq (⟨"TaperTalkModel", "readLine", "()V"⟩, 41) := ⟨⟨by decide +kernel, by decide +kernel⟩, List.mem_of_getElem? (i := 1261) (by decide +kernel), List.mem_of_getElem? (i := 1436) (by decide +kernel), List.mem_of_getElem? (i := 1437) (by decide +kernel)⟩
theorem lw_p45 : lw_okq (⟨"TaperTalkModel", "readFirst", "()V"⟩, 41) := ⟨⟨by decide +kernel, by decide +kernel⟩, List.mem_of_getElem? (i := 1261) (by decide +kernel), List.mem_of_getElem? (i := 1440) (by decide +kernel), List.mem_of_getElem? (i := 1441) (by decide +kernel)⟩
theorem lw_p46 : lw_okq (⟨"TaperTalkModel", "expects", "(Ljava/lang/String;)V"⟩, 41) := ⟨⟨by decide +kernel, by decide +kernel⟩, List.mem_of_getElem? (i := 1261) (by decide +kernel), List.mem_of_getElem? (i := 1445) (by decide +kernel), List.mem_of_getElem? (i := 1446) (by decide +kernel)⟩
theorem lw_p47 : lw_okq (⟨"TaperTalkModel", "takes", "(Ljava/lang/String;)Z"⟩, 41) := ⟨⟨by decide +kernel, by decide +kernel⟩, List.mem_of_getElem? (i := 1261) (by decide +kernel), List.mem_of_getElem? (i := 1449) (by decide +kernel), List.mem_of_getElem? (i := 1450) (by decide +kernel)⟩
def lw_privs_3 : List (MethodName × Nat) := [(⟨"TaperTalk$Finder", "carried", "(I)I"⟩, 6), (⟨"TaperTalk", "litAtLast", "()I"⟩, 19), (⟨"TaperTalk", "originRefusal", "(I)I"⟩, 19), (⟨"TaperTalk", "clueRefusal", "(I)I"⟩, 19), (⟨"TaperTalk$Clues", "fit", "(I)Z"⟩, 7), (⟨"TaperTalk$Clues", "noteSizes", "(I)V"⟩, 7), (⟨"TaperTalk$Clues", "leftAtWorst", "(II)I"⟩, 7), (⟨"TaperTalk", "noChanceHour", "(I)Z"⟩, 19), (⟨"TaperTalk", "act", "(III)I"⟩, 19), (⟨"TaperTalkModel", "advance", "()V"⟩, 41), (⟨"TaperTalkModel", "see", "(I)I"⟩, 41), (⟨"TaperTalkModel", "good", "()Z"⟩, 41), (⟨"TaperTalkModel", "readLine", "()V"⟩, 41), (⟨"TaperTalkModel", "readFirst", "()V"⟩, 41), (⟨"TaperTalkModel", "expects", "(Ljava/lang/String;)V"⟩, 41), (⟨"TaperTalkModel", "takes", "(Ljava/lang/String;)Z"⟩, 41)]
theorem lw_r3 : ∀ q ∈ lw_privs_3, lw_okq q := List.forall_mem_cons.mpr ⟨lw_p32, List.forall_mem_cons.mpr ⟨lw_p33, List.forall_mem_cons.mpr ⟨lw_p34, List.forall_mem_cons.mpr ⟨lw_p35, List.forall_mem_cons.mpr ⟨lw_p36, List.forall_mem_cons.mpr ⟨lw_p37, List.forall_mem_cons.mpr ⟨lw_p38, List.forall_mem_cons.mpr ⟨lw_p39, List.forall_mem_cons.mpr ⟨lw_p40, List.forall_mem_cons.mpr ⟨lw_p41, List.forall_mem_cons.mpr ⟨lw_p42, List.forall_mem_cons.mpr ⟨lw_p43, List.forall_mem_cons.mpr ⟨lw_p44, List.forall_mem_cons.mpr ⟨lw_p45, List.forall_mem_cons.mpr ⟨lw_p46, List.forall_mem_cons.mpr ⟨lw_p47, fun _ h => absurd h List.not_mem_nil⟩⟩⟩⟩⟩⟩⟩⟩⟩⟩⟩⟩⟩⟩⟩⟩
theorem lw_p48 : lw_okq (⟨"TaperTalkModel", "is", "(Ljava/lang/String;)Z"⟩, 41) := ⟨⟨by decide +kernel, by decide +kernel⟩, List.mem_of_getElem? (i := 1261) (by decide +kernel), List.mem_of_getElem? (i := 1453) (by decide +kernel), List.mem_of_getElem? (i := 1454) (by decide +kernel)⟩
theorem lw_p49 : lw_okq (⟨"TaperTalkModel", "errs", "(I)V"⟩, 41) := ⟨⟨by decide +kernel, by decide +kernel⟩, List.mem_of_getElem? (i := 1261) (by decide +kernel), List.mem_of_getElem? (i := 1459) (by decide +kernel), List.mem_of_getElem? (i := 1460) (by decide +kernel)⟩
theorem lw_p50 : lw_okq (⟨"TaperTalkModel", "toldBy", "(Ljava/lang/String;II)I"⟩, 41) := ⟨⟨by decide +kernel, by decide +kernel⟩, List.mem_of_getElem? (i := 1261) (by decide +kernel), List.mem_of_getElem? (i := 1464) (by decide +kernel), List.mem_of_getElem? (i := 1465) (by decide +kernel)⟩
theorem lw_p51 : lw_okq (⟨"TaperTalkModel", "number", "(II)I"⟩, 41) := ⟨⟨by decide +kernel, by decide +kernel⟩, List.mem_of_getElem? (i := 1261) (by decide +kernel), List.mem_of_getElem? (i := 1468) (by decide +kernel), List.mem_of_getElem? (i := 1469) (by decide +kernel)⟩
theorem lw_p52 : lw_okq (⟨"TaperTalkModel", "readNext", "()V"⟩, 41) := ⟨⟨by decide +kernel, by decide +kernel⟩, List.mem_of_getElem? (i := 1261) (by decide +kernel), List.mem_of_getElem? (i := 1474) (by decide +kernel), List.mem_of_getElem? (i := 1475) (by decide +kernel)⟩
theorem lw_p53 : lw_okq (⟨"TaperTalkModel", "isFull", "()Z"⟩, 41) := ⟨⟨by decide +kernel, by decide +kernel⟩, List.mem_of_getElem? (i := 1261) (by decide +kernel), List.mem_of_getElem? (i := 1482) (by decide +kernel), List.mem_of_getElem? (i := 1483) (by decide +kernel)⟩
theorem lw_p54 : lw_okq (⟨"TaperTalkModel", "readPew", "()V"⟩, 41) := ⟨⟨by decide +kernel, by decide +kernel⟩, List.mem_of_getElem? (i := 1261) (by decide +kernel), List.mem_of_getElem? (i := 1486) (by decide +kernel), List.mem_of_getElem? (i := 1487) (by decide +kernel)⟩
theorem lw_p55 : lw_okq (⟨"TaperTalkModel", "readAisle", "()V"⟩, 41) := ⟨⟨by decide +kernel, by decide +kernel⟩, List.mem_of_getElem? (i := 1261) (by decide +kernel), List.mem_of_getElem? (i := 1495) (by decide +kernel), List.mem_of_getElem? (i := 1496) (by decide +kernel)⟩
theorem lw_p56 : lw_okq (⟨"TaperTalkModel", "isJoined", "(II)Z"⟩, 41) := ⟨⟨by decide +kernel, by decide +kernel⟩, List.mem_of_getElem? (i := 1261) (by decide +kernel), List.mem_of_getElem? (i := 1499) (by decide +kernel), List.mem_of_getElem? (i := 1500) (by decide +kernel)⟩
theorem lw_p57 : lw_okq (⟨"TaperTalkModel", "readLight", "()V"⟩, 41) := ⟨⟨by decide +kernel, by decide +kernel⟩, List.mem_of_getElem? (i := 1261) (by decide +kernel), List.mem_of_getElem? (i := 1503) (by decide +kernel), List.mem_of_getElem? (i := 1504) (by decide +kernel)⟩
theorem lw_p58 : lw_okq (⟨"TaperTalkModel", "readDraught", "()V"⟩, 41) := ⟨⟨by decide +kernel, by decide +kernel⟩, List.mem_of_getElem? (i := 1261) (by decide +kernel), List.mem_of_getElem? (i := 1508) (by decide +kernel), List.mem_of_getElem? (i := 1509) (by decide +kernel)⟩
theorem lw_p59 : lw_okq (⟨"TaperTalkModel", "isPew", "(J)Z"⟩, 41) := ⟨⟨by decide +kernel, by decide +kernel⟩, List.mem_of_getElem? (i := 1261) (by decide +kernel), List.mem_of_getElem? (i := 1517) (by decide +kernel), List.mem_of_getElem? (i := 1518) (by decide +kernel)⟩
theorem lw_p60 : lw_okq (⟨"TaperTalkModel", "pews", "()I"⟩, 41) := ⟨⟨by decide +kernel, by decide +kernel⟩, List.mem_of_getElem? (i := 1261) (by decide +kernel), List.mem_of_getElem? (i := 1521) (by decide +kernel), List.mem_of_getElem? (i := 1522) (by decide +kernel)⟩
theorem lw_p61 : lw_okq (⟨"TaperTalkModel", "ruleOf", "(II)I"⟩, 41) := ⟨⟨by decide +kernel, by decide +kernel⟩, List.mem_of_getElem? (i := 1261) (by decide +kernel), List.mem_of_getElem? (i := 1525) (by decide +kernel), List.mem_of_getElem? (i := 1526) (by decide +kernel)⟩
theorem lw_p62 : lw_okq (⟨"TaperTalkModel", "nearOf", "(I)I"⟩, 41) := ⟨⟨by decide +kernel, by decide +kernel⟩, List.mem_of_getElem? (i := 1261) (by decide +kernel), List.mem_of_getElem? (i := 1546) (by decide +kernel), List.mem_of_getElem? (i := 1547) (by decide +kernel)⟩
theorem lw_p63 : lw_okq (⟨"TaperTalkModel", "asksHour", "(I)Z"⟩, 41) := ⟨⟨by decide +kernel, by decide +kernel⟩, List.mem_of_getElem? (i := 1261) (by decide +kernel), List.mem_of_getElem? (i := 1561) (by decide +kernel), List.mem_of_getElem? (i := 1562) (by decide +kernel)⟩
def lw_privs_4 : List (MethodName × Nat) := [(⟨"TaperTalkModel", "is", "(Ljava/lang/String;)Z"⟩, 41), (⟨"TaperTalkModel", "errs", "(I)V"⟩, 41), (⟨"TaperTalkModel", "toldBy", "(Ljava/lang/String;II)I"⟩, 41), (⟨"TaperTalkModel", "number", "(II)I"⟩, 41), (⟨"TaperTalkModel", "readNext", "()V"⟩, 41), (⟨"TaperTalkModel", "isFull", "()Z"⟩, 41), (⟨"TaperTalkModel", "readPew", "()V"⟩, 41), (⟨"TaperTalkModel", "readAisle", "()V"⟩, 41), (⟨"TaperTalkModel", "isJoined", "(II)Z"⟩, 41), (⟨"TaperTalkModel", "readLight", "()V"⟩, 41), (⟨"TaperTalkModel", "readDraught", "()V"⟩, 41), (⟨"TaperTalkModel", "isPew", "(J)Z"⟩, 41), (⟨"TaperTalkModel", "pews", "()I"⟩, 41), (⟨"TaperTalkModel", "ruleOf", "(II)I"⟩, 41), (⟨"TaperTalkModel", "nearOf", "(I)I"⟩, 41), (⟨"TaperTalkModel", "asksHour", "(I)Z"⟩, 41)]
theorem lw_r4 : ∀ q ∈ lw_privs_4, lw_okq q := List.forall_mem_cons.mpr ⟨lw_p48, List.forall_mem_cons.mpr ⟨lw_p49, List.forall_mem_cons.mpr ⟨lw_p50, List.forall_mem_cons.mpr ⟨lw_p51, List.forall_mem_cons.mpr ⟨lw_p52, List.forall_mem_cons.mpr ⟨lw_p53, List.forall_mem_cons.mpr ⟨lw_p54, List.forall_mem_cons.mpr ⟨lw_p55, List.forall_mem_cons.mpr ⟨lw_p56, List.forall_mem_cons.mpr ⟨lw_p57, List.forall_mem_cons.mpr ⟨lw_p58, List.forall_mem_cons.mpr ⟨lw_p59, List.forall_mem_cons.mpr ⟨lw_p60, List.forall_mem_cons.mpr ⟨lw_p61, List.forall_mem_cons.mpr ⟨lw_p62, List.forall_mem_cons.mpr ⟨lw_p63, fun _ h => absurd h List.not_mem_nil⟩⟩⟩⟩⟩⟩⟩⟩⟩⟩⟩⟩⟩⟩⟩⟩
theorem lw_p64 : lw_okq (⟨"TaperTalkModel", "asksNight", "()Z"⟩, 41) := ⟨⟨by decide +kernel, by decide +kernel⟩, List.mem_of_getElem? (i := 1261) (by decide +kernel), List.mem_of_getElem? (i := 1565) (by decide +kernel), List.mem_of_getElem? (i := 1566) (by decide +kernel)⟩
theorem lw_p65 : lw_okq (⟨"TaperTalkModel", "asItIs", "()V"⟩, 41) := ⟨⟨by decide +kernel, by decide +kernel⟩, List.mem_of_getElem? (i := 1261) (by decide +kernel), List.mem_of_getElem? (i := 1569) (by decide +kernel), List.mem_of_getElem? (i := 1570) (by decide +kernel)⟩
theorem lw_p66 : lw_okq (⟨"TaperTalkModel", "goAll", "()V"⟩, 41) := ⟨⟨by decide +kernel, by decide +kernel⟩, List.mem_of_getElem? (i := 1261) (by decide +kernel), List.mem_of_getElem? (i := 1573) (by decide +kernel), List.mem_of_getElem? (i := 1574) (by decide +kernel)⟩
theorem lw_p67 : lw_okq (⟨"TaperTalkModel", "beginNight", "()V"⟩, 41) := ⟨⟨by decide +kernel, by decide +kernel⟩, List.mem_of_getElem? (i := 1261) (by decide +kernel), List.mem_of_getElem? (i := 1577) (by decide +kernel), List.mem_of_getElem? (i := 1578) (by decide +kernel)⟩
theorem lw_p68 : lw_okq (⟨"TaperTalkModel", "putsOut", "(II)V"⟩, 41) := ⟨⟨by decide +kernel, by decide +kernel⟩, List.mem_of_getElem? (i := 1261) (by decide +kernel), List.mem_of_getElem? (i := 1581) (by decide +kernel), List.mem_of_getElem? (i := 1582) (by decide +kernel)⟩
theorem lw_p69 : lw_okq (⟨"TaperTalkModel", "lights", "(III)V"⟩, 41) := ⟨⟨by decide +kernel, by decide +kernel⟩, List.mem_of_getElem? (i := 1261) (by decide +kernel), List.mem_of_getElem? (i := 1585) (by decide +kernel), List.mem_of_getElem? (i := 1586) (by decide +kernel)⟩
theorem lw_p70 : lw_okq (⟨"TaperTalkModel", "hours", "()I"⟩, 41) := ⟨⟨by decide +kernel, by decide +kernel⟩, List.mem_of_getElem? (i := 1261) (by decide +kernel), List.mem_of_getElem? (i := 1589) (by decide +kernel), List.mem_of_getElem? (i := 1590) (by decide +kernel)⟩
theorem lw_p71 : lw_okq (⟨"TaperTalkModel", "beginHour", "(I)V"⟩, 41) := ⟨⟨by decide +kernel, by decide +kernel⟩, List.mem_of_getElem? (i := 1261) (by decide +kernel), List.mem_of_getElem? (i := 1593) (by decide +kernel), List.mem_of_getElem? (i := 1594) (by decide +kernel)⟩
theorem lw_p72 : lw_okq (⟨"TaperTalkModel", "goesOn", "(II)V"⟩, 41) := ⟨⟨by decide +kernel, by decide +kernel⟩, List.mem_of_getElem? (i := 1261) (by decide +kernel), List.mem_of_getElem? (i := 1597) (by decide +kernel), List.mem_of_getElem? (i := 1598) (by decide +kernel)⟩
theorem lw_p73 : lw_okq (⟨"TaperTalkModel", "heardBy", "(II)I"⟩, 41) := ⟨⟨by decide +kernel, by decide +kernel⟩, List.mem_of_getElem? (i := 1261) (by decide +kernel), List.mem_of_getElem? (i := 1601) (by decide +kernel), List.mem_of_getElem? (i := 1602) (by decide +kernel)⟩
theorem lw_p74 : lw_okq (⟨"TaperTalkModel", "saysOf", "(II)I"⟩, 41) := ⟨⟨by decide +kernel, by decide +kernel⟩, List.mem_of_getElem? (i := 1261) (by decide +kernel), List.mem_of_getElem? (i := 1605) (by decide +kernel), List.mem_of_getElem? (i := 1606) (by decide +kernel)⟩
theorem lw_p75 : lw_okq (⟨"TaperTalkModel", "isBetter", "(III)Z"⟩, 41) := ⟨⟨by decide +kernel, by decide +kernel⟩, List.mem_of_getElem? (i := 1261) (by decide +kernel), List.mem_of_getElem? (i := 1609) (by decide +kernel), List.mem_of_getElem? (i := 1610) (by decide +kernel)⟩
theorem lw_p76 : lw_okq (⟨"TaperTalkModel", "changed", "(II)I"⟩, 41) := ⟨⟨by decide +kernel, by decide +kernel⟩, List.mem_of_getElem? (i := 1261) (by decide +kernel), List.mem_of_getElem? (i := 1613) (by decide +kernel), List.mem_of_getElem? (i := 1614) (by decide +kernel)⟩
theorem lw_p77 : lw_okq (⟨"TaperTalkModel", "isNight", "()Z"⟩, 41) := ⟨⟨by decide +kernel, by decide +kernel⟩, List.mem_of_getElem? (i := 1261) (by decide +kernel), List.mem_of_getElem? (i := 1617) (by decide +kernel), List.mem_of_getElem? (i := 1618) (by decide +kernel)⟩
theorem lw_p78 : lw_okq (⟨"TaperTalkModel", "isHour", "(J)Z"⟩, 41) := ⟨⟨by decide +kernel, by decide +kernel⟩, List.mem_of_getElem? (i := 1261) (by decide +kernel), List.mem_of_getElem? (i := 1621) (by decide +kernel), List.mem_of_getElem? (i := 1622) (by decide +kernel)⟩
theorem lw_p79 : lw_okq (⟨"TaperTalkModel", "litAt", "(I)I"⟩, 41) := ⟨⟨by decide +kernel, by decide +kernel⟩, List.mem_of_getElem? (i := 1261) (by decide +kernel), List.mem_of_getElem? (i := 1625) (by decide +kernel), List.mem_of_getElem? (i := 1626) (by decide +kernel)⟩
def lw_privs_5 : List (MethodName × Nat) := [(⟨"TaperTalkModel", "asksNight", "()Z"⟩, 41), (⟨"TaperTalkModel", "asItIs", "()V"⟩, 41), (⟨"TaperTalkModel", "goAll", "()V"⟩, 41), (⟨"TaperTalkModel", "beginNight", "()V"⟩, 41), (⟨"TaperTalkModel", "putsOut", "(II)V"⟩, 41), (⟨"TaperTalkModel", "lights", "(III)V"⟩, 41), (⟨"TaperTalkModel", "hours", "()I"⟩, 41), (⟨"TaperTalkModel", "beginHour", "(I)V"⟩, 41), (⟨"TaperTalkModel", "goesOn", "(II)V"⟩, 41), (⟨"TaperTalkModel", "heardBy", "(II)I"⟩, 41), (⟨"TaperTalkModel", "saysOf", "(II)I"⟩, 41), (⟨"TaperTalkModel", "isBetter", "(III)Z"⟩, 41), (⟨"TaperTalkModel", "changed", "(II)I"⟩, 41), (⟨"TaperTalkModel", "isNight", "()Z"⟩, 41), (⟨"TaperTalkModel", "isHour", "(J)Z"⟩, 41), (⟨"TaperTalkModel", "litAt", "(I)I"⟩, 41)]
theorem lw_r5 : ∀ q ∈ lw_privs_5, lw_okq q := List.forall_mem_cons.mpr ⟨lw_p64, List.forall_mem_cons.mpr ⟨lw_p65, List.forall_mem_cons.mpr ⟨lw_p66, List.forall_mem_cons.mpr ⟨lw_p67, List.forall_mem_cons.mpr ⟨lw_p68, List.forall_mem_cons.mpr ⟨lw_p69, List.forall_mem_cons.mpr ⟨lw_p70, List.forall_mem_cons.mpr ⟨lw_p71, List.forall_mem_cons.mpr ⟨lw_p72, List.forall_mem_cons.mpr ⟨lw_p73, List.forall_mem_cons.mpr ⟨lw_p74, List.forall_mem_cons.mpr ⟨lw_p75, List.forall_mem_cons.mpr ⟨lw_p76, List.forall_mem_cons.mpr ⟨lw_p77, List.forall_mem_cons.mpr ⟨lw_p78, List.forall_mem_cons.mpr ⟨lw_p79, fun _ h => absurd h List.not_mem_nil⟩⟩⟩⟩⟩⟩⟩⟩⟩⟩⟩⟩⟩⟩⟩⟩
theorem lw_p80 : lw_okq (⟨"TaperTalkModel", "asksPew", "(I)Z"⟩, 41) := ⟨⟨by decide +kernel, by decide +kernel⟩, List.mem_of_getElem? (i := 1261) (by decide +kernel), List.mem_of_getElem? (i := 1653) (by decide +kernel), List.mem_of_getElem? (i := 1654) (by decide +kernel)⟩
theorem lw_p81 : lw_okq (⟨"TaperTalkModel", "allPews", "()I"⟩, 41) := ⟨⟨by decide +kernel, by decide +kernel⟩, List.mem_of_getElem? (i := 1261) (by decide +kernel), List.mem_of_getElem? (i := 1665) (by decide +kernel), List.mem_of_getElem? (i := 1666) (by decide +kernel)⟩
theorem lw_p82 : lw_okq (⟨"TaperTalkModel", "turnedAt", "(I)I"⟩, 41) := ⟨⟨by decide +kernel, by decide +kernel⟩, List.mem_of_getElem? (i := 1261) (by decide +kernel), List.mem_of_getElem? (i := 1677) (by decide +kernel), List.mem_of_getElem? (i := 1678) (by decide +kernel)⟩
theorem lw_p83 : lw_okq (⟨"TaperTalkModel", "alikeTo", "(II)I"⟩, 41) := ⟨⟨by decide +kernel, by decide +kernel⟩, List.mem_of_getElem? (i := 1261) (by decide +kernel), List.mem_of_getElem? (i := 1689) (by decide +kernel), List.mem_of_getElem? (i := 1690) (by decide +kernel)⟩
theorem lw_p84 : lw_okq (⟨"TaperTalkModel", "longestBy", "(II)I"⟩, 41) := ⟨⟨by decide +kernel, by decide +kernel⟩, List.mem_of_getElem? (i := 1261) (by decide +kernel), List.mem_of_getElem? (i := 1701) (by decide +kernel), List.mem_of_getElem? (i := 1702) (by decide +kernel)⟩
theorem lw_p85 : lw_okq (⟨"TaperTalkModel", "wordsAt", "(I)I"⟩, 41) := ⟨⟨by decide +kernel, by decide +kernel⟩, List.mem_of_getElem? (i := 1261) (by decide +kernel), List.mem_of_getElem? (i := 1713) (by decide +kernel), List.mem_of_getElem? (i := 1714) (by decide +kernel)⟩
theorem lw_p86 : lw_okq (⟨"TaperTalkModel", "askRow", "(III)I"⟩, 41) := ⟨⟨by decide +kernel, by decide +kernel⟩, List.mem_of_getElem? (i := 1261) (by decide +kernel), List.mem_of_getElem? (i := 1742) (by decide +kernel), List.mem_of_getElem? (i := 1743) (by decide +kernel)⟩
theorem lw_p87 : lw_okq (⟨"TaperTalkModel", "numberAt", "(II)J"⟩, 41) := ⟨⟨by decide +kernel, by decide +kernel⟩, List.mem_of_getElem? (i := 1261) (by decide +kernel), List.mem_of_getElem? (i := 1751) (by decide +kernel), List.mem_of_getElem? (i := 1752) (by decide +kernel)⟩
theorem lw_p88 : lw_okq (⟨"TaperTalkModel", "heardTwice", "(III)I"⟩, 41) := ⟨⟨by decide +kernel, by decide +kernel⟩, List.mem_of_getElem? (i := 1261) (by decide +kernel), List.mem_of_getElem? (i := 1755) (by decide +kernel), List.mem_of_getElem? (i := 1756) (by decide +kernel)⟩
theorem lw_p89 : lw_okq (⟨"TaperTalkModel", "askFirst", "(III)I"⟩, 41) := ⟨⟨by decide +kernel, by decide +kernel⟩, List.mem_of_getElem? (i := 1261) (by decide +kernel), List.mem_of_getElem? (i := 1771) (by decide +kernel), List.mem_of_getElem? (i := 1772) (by decide +kernel)⟩
theorem lw_p90 : lw_okq (⟨"TaperTalkModel", "layFirst", "(II)V"⟩, 41) := ⟨⟨by decide +kernel, by decide +kernel⟩, List.mem_of_getElem? (i := 1261) (by decide +kernel), List.mem_of_getElem? (i := 1775) (by decide +kernel), List.mem_of_getElem? (i := 1776) (by decide +kernel)⟩
theorem lw_p91 : lw_okq (⟨"TaperTalkModel", "isSaying", "(I)Z"⟩, 41) := ⟨⟨by decide +kernel, by decide +kernel⟩, List.mem_of_getElem? (i := 1261) (by decide +kernel), List.mem_of_getElem? (i := 1779) (by decide +kernel), List.mem_of_getElem? (i := 1780) (by decide +kernel)⟩
theorem lw_p92 : lw_okq (⟨"TaperTalkModel", "worthOf", "(I)I"⟩, 41) := ⟨⟨by decide +kernel, by decide +kernel⟩, List.mem_of_getElem? (i := 1261) (by decide +kernel), List.mem_of_getElem? (i := 1795) (by decide +kernel), List.mem_of_getElem? (i := 1796) (by decide +kernel)⟩
theorem lw_p93 : lw_okq (⟨"TaperTalkModel", "lastMany", "()I"⟩, 41) := ⟨⟨by decide +kernel, by decide +kernel⟩, List.mem_of_getElem? (i := 1261) (by decide +kernel), List.mem_of_getElem? (i := 1799) (by decide +kernel), List.mem_of_getElem? (i := 1800) (by decide +kernel)⟩
theorem lw_p94 : lw_okq (⟨"TaperTalkModel", "litLast", "()I"⟩, 41) := ⟨⟨by decide +kernel, by decide +kernel⟩, List.mem_of_getElem? (i := 1261) (by decide +kernel), List.mem_of_getElem? (i := 1803) (by decide +kernel), List.mem_of_getElem? (i := 1804) (by decide +kernel)⟩
theorem lw_p95 : lw_okq (⟨"TaperTalkModel", "fewestOf", "()I"⟩, 41) := ⟨⟨by decide +kernel, by decide +kernel⟩, List.mem_of_getElem? (i := 1261) (by decide +kernel), List.mem_of_getElem? (i := 1832) (by decide +kernel), List.mem_of_getElem? (i := 1833) (by decide +kernel)⟩
def lw_privs_6 : List (MethodName × Nat) := [(⟨"TaperTalkModel", "asksPew", "(I)Z"⟩, 41), (⟨"TaperTalkModel", "allPews", "()I"⟩, 41), (⟨"TaperTalkModel", "turnedAt", "(I)I"⟩, 41), (⟨"TaperTalkModel", "alikeTo", "(II)I"⟩, 41), (⟨"TaperTalkModel", "longestBy", "(II)I"⟩, 41), (⟨"TaperTalkModel", "wordsAt", "(I)I"⟩, 41), (⟨"TaperTalkModel", "askRow", "(III)I"⟩, 41), (⟨"TaperTalkModel", "numberAt", "(II)J"⟩, 41), (⟨"TaperTalkModel", "heardTwice", "(III)I"⟩, 41), (⟨"TaperTalkModel", "askFirst", "(III)I"⟩, 41), (⟨"TaperTalkModel", "layFirst", "(II)V"⟩, 41), (⟨"TaperTalkModel", "isSaying", "(I)Z"⟩, 41), (⟨"TaperTalkModel", "worthOf", "(I)I"⟩, 41), (⟨"TaperTalkModel", "lastMany", "()I"⟩, 41), (⟨"TaperTalkModel", "litLast", "()I"⟩, 41), (⟨"TaperTalkModel", "fewestOf", "()I"⟩, 41)]
theorem lw_r6 : ∀ q ∈ lw_privs_6, lw_okq q := List.forall_mem_cons.mpr ⟨lw_p80, List.forall_mem_cons.mpr ⟨lw_p81, List.forall_mem_cons.mpr ⟨lw_p82, List.forall_mem_cons.mpr ⟨lw_p83, List.forall_mem_cons.mpr ⟨lw_p84, List.forall_mem_cons.mpr ⟨lw_p85, List.forall_mem_cons.mpr ⟨lw_p86, List.forall_mem_cons.mpr ⟨lw_p87, List.forall_mem_cons.mpr ⟨lw_p88, List.forall_mem_cons.mpr ⟨lw_p89, List.forall_mem_cons.mpr ⟨lw_p90, List.forall_mem_cons.mpr ⟨lw_p91, List.forall_mem_cons.mpr ⟨lw_p92, List.forall_mem_cons.mpr ⟨lw_p93, List.forall_mem_cons.mpr ⟨lw_p94, List.forall_mem_cons.mpr ⟨lw_p95, fun _ h => absurd h List.not_mem_nil⟩⟩⟩⟩⟩⟩⟩⟩⟩⟩⟩⟩⟩⟩⟩⟩
theorem lw_p96 : lw_okq (⟨"TaperTalkModel", "askWhom", "(I)I"⟩, 41) := ⟨⟨by decide +kernel, by decide +kernel⟩, List.mem_of_getElem? (i := 1261) (by decide +kernel), List.mem_of_getElem? (i := 1852) (by decide +kernel), List.mem_of_getElem? (i := 1853) (by decide +kernel)⟩
theorem lw_p97 : lw_okq (⟨"TaperTalkModel", "askHeard", "(I)I"⟩, 41) := ⟨⟨by decide +kernel, by decide +kernel⟩, List.mem_of_getElem? (i := 1261) (by decide +kernel), List.mem_of_getElem? (i := 1856) (by decide +kernel), List.mem_of_getElem? (i := 1857) (by decide +kernel)⟩
theorem lw_p98 : lw_okq (⟨"TaperTalkModel", "whomOf", "(I)I"⟩, 41) := ⟨⟨by decide +kernel, by decide +kernel⟩, List.mem_of_getElem? (i := 1261) (by decide +kernel), List.mem_of_getElem? (i := 1860) (by decide +kernel), List.mem_of_getElem? (i := 1861) (by decide +kernel)⟩
theorem lw_p99 : lw_okq (⟨"TaperTalkModel", "isHeard", "(I)Z"⟩, 41) := ⟨⟨by decide +kernel, by decide +kernel⟩, List.mem_of_getElem? (i := 1261) (by decide +kernel), List.mem_of_getElem? (i := 1864) (by decide +kernel), List.mem_of_getElem? (i := 1865) (by decide +kernel)⟩
theorem lw_p100 : lw_okq (⟨"TaperTalkModel", "askOf", "(I)I"⟩, 41) := ⟨⟨by decide +kernel, by decide +kernel⟩, List.mem_of_getElem? (i := 1261) (by decide +kernel), List.mem_of_getElem? (i := 1872) (by decide +kernel), List.mem_of_getElem? (i := 1873) (by decide +kernel)⟩
theorem lw_p101 : lw_okq (⟨"TaperTalkModel", "worstOf", "(II)I"⟩, 41) := ⟨⟨by decide +kernel, by decide +kernel⟩, List.mem_of_getElem? (i := 1261) (by decide +kernel), List.mem_of_getElem? (i := 1876) (by decide +kernel), List.mem_of_getElem? (i := 1877) (by decide +kernel)⟩
theorem lw_p102 : lw_okq (⟨"TaperTalkModel", "goBy", "(I)V"⟩, 41) := ⟨⟨by decide +kernel, by decide +kernel⟩, List.mem_of_getElem? (i := 1261) (by decide +kernel), List.mem_of_getElem? (i := 1892) (by decide +kernel), List.mem_of_getElem? (i := 1893) (by decide +kernel)⟩
theorem lw_p103 : lw_okq (⟨"TaperTalkModel", "opensOf", "()I"⟩, 41) := ⟨⟨by decide +kernel, by decide +kernel⟩, List.mem_of_getElem? (i := 1261) (by decide +kernel), List.mem_of_getElem? (i := 1904) (by decide +kernel), List.mem_of_getElem? (i := 1905) (by decide +kernel)⟩
theorem lw_p104 : lw_okq (⟨"TaperTalkModel", "repliesTo", "(I)I"⟩, 41) := ⟨⟨by decide +kernel, by decide +kernel⟩, List.mem_of_getElem? (i := 1261) (by decide +kernel), List.mem_of_getElem? (i := 1908) (by decide +kernel), List.mem_of_getElem? (i := 1909) (by decide +kernel)⟩
theorem lw_p105 : lw_okq (⟨"TaperTalkModel", "litByTurns", "(II)I"⟩, 41) := ⟨⟨by decide +kernel, by decide +kernel⟩, List.mem_of_getElem? (i := 1261) (by decide +kernel), List.mem_of_getElem? (i := 1912) (by decide +kernel), List.mem_of_getElem? (i := 1913) (by decide +kernel)⟩
theorem lw_p106 : lw_okq (⟨"TaperTalkModel", "areTwo", "(II)Z"⟩, 41) := ⟨⟨by decide +kernel, by decide +kernel⟩, List.mem_of_getElem? (i := 1261) (by decide +kernel), List.mem_of_getElem? (i := 1928) (by decide +kernel), List.mem_of_getElem? (i := 1929) (by decide +kernel)⟩
theorem lw_p107 : lw_okq (⟨"TaperTalkModel", "getsBy", "(IIIII)I"⟩, 41) := ⟨⟨by decide +kernel, by decide +kernel⟩, List.mem_of_getElem? (i := 1261) (by decide +kernel), List.mem_of_getElem? (i := 1932) (by decide +kernel), List.mem_of_getElem? (i := 1933) (by decide +kernel)⟩
theorem lw_p108 : lw_okq (⟨"TaperTalkModel", "isSilence", "(II)Z"⟩, 41) := ⟨⟨by decide +kernel, by decide +kernel⟩, List.mem_of_getElem? (i := 1261) (by decide +kernel), List.mem_of_getElem? (i := 1944) (by decide +kernel), List.mem_of_getElem? (i := 1945) (by decide +kernel)⟩
theorem lw_p109 : lw_okq (⟨"TaperTalkModel", "laySilence", "(II)V"⟩, 41) := ⟨⟨by decide +kernel, by decide +kernel⟩, List.mem_of_getElem? (i := 1261) (by decide +kernel), List.mem_of_getElem? (i := 1950) (by decide +kernel), List.mem_of_getElem? (i := 1951) (by decide +kernel)⟩
theorem lw_p110 : lw_okq (⟨"TaperTalkModel", "keepAct", "(I)I"⟩, 41) := ⟨⟨by decide +kernel, by decide +kernel⟩, List.mem_of_getElem? (i := 1261) (by decide +kernel), List.mem_of_getElem? (i := 1962) (by decide +kernel), List.mem_of_getElem? (i := 1963) (by decide +kernel)⟩
theorem lw_p111 : lw_okq (⟨"TaperTalkModel", "goDrawn", "(J)V"⟩, 41) := ⟨⟨by decide +kernel, by decide +kernel⟩, List.mem_of_getElem? (i := 1261) (by decide +kernel), List.mem_of_getElem? (i := 1986) (by decide +kernel), List.mem_of_getElem? (i := 1987) (by decide +kernel)⟩
def lw_privs_7 : List (MethodName × Nat) := [(⟨"TaperTalkModel", "askWhom", "(I)I"⟩, 41), (⟨"TaperTalkModel", "askHeard", "(I)I"⟩, 41), (⟨"TaperTalkModel", "whomOf", "(I)I"⟩, 41), (⟨"TaperTalkModel", "isHeard", "(I)Z"⟩, 41), (⟨"TaperTalkModel", "askOf", "(I)I"⟩, 41), (⟨"TaperTalkModel", "worstOf", "(II)I"⟩, 41), (⟨"TaperTalkModel", "goBy", "(I)V"⟩, 41), (⟨"TaperTalkModel", "opensOf", "()I"⟩, 41), (⟨"TaperTalkModel", "repliesTo", "(I)I"⟩, 41), (⟨"TaperTalkModel", "litByTurns", "(II)I"⟩, 41), (⟨"TaperTalkModel", "areTwo", "(II)Z"⟩, 41), (⟨"TaperTalkModel", "getsBy", "(IIIII)I"⟩, 41), (⟨"TaperTalkModel", "isSilence", "(II)Z"⟩, 41), (⟨"TaperTalkModel", "laySilence", "(II)V"⟩, 41), (⟨"TaperTalkModel", "keepAct", "(I)I"⟩, 41), (⟨"TaperTalkModel", "goDrawn", "(J)V"⟩, 41)]
theorem lw_r7 : ∀ q ∈ lw_privs_7, lw_okq q := List.forall_mem_cons.mpr ⟨lw_p96, List.forall_mem_cons.mpr ⟨lw_p97, List.forall_mem_cons.mpr ⟨lw_p98, List.forall_mem_cons.mpr ⟨lw_p99, List.forall_mem_cons.mpr ⟨lw_p100, List.forall_mem_cons.mpr ⟨lw_p101, List.forall_mem_cons.mpr ⟨lw_p102, List.forall_mem_cons.mpr ⟨lw_p103, List.forall_mem_cons.mpr ⟨lw_p104, List.forall_mem_cons.mpr ⟨lw_p105, List.forall_mem_cons.mpr ⟨lw_p106, List.forall_mem_cons.mpr ⟨lw_p107, List.forall_mem_cons.mpr ⟨lw_p108, List.forall_mem_cons.mpr ⟨lw_p109, List.forall_mem_cons.mpr ⟨lw_p110, List.forall_mem_cons.mpr ⟨lw_p111, fun _ h => absurd h List.not_mem_nil⟩⟩⟩⟩⟩⟩⟩⟩⟩⟩⟩⟩⟩⟩⟩⟩
def lw_privs : List (MethodName × Nat) := lw_privs_1 ++ (lw_privs_2 ++ (lw_privs_3 ++ (lw_privs_4 ++ (lw_privs_5 ++ (lw_privs_6 ++ (lw_privs_7))))))
def lw_tbl : List Cond := k2_sels lw_privs ++ tables_1
theorem lw_privs_ok : ∀ q ∈ lw_privs, lw_okq q := by
  show ∀ q ∈ lw_privs_1 ++ (lw_privs_2 ++ (lw_privs_3 ++ (lw_privs_4 ++ (lw_privs_5 ++ (lw_privs_6 ++ (lw_privs_7)))))), lw_okq q
  exact List.forall_mem_append.mpr ⟨lw_r1, List.forall_mem_append.mpr ⟨lw_r2, List.forall_mem_append.mpr ⟨lw_r3, List.forall_mem_append.mpr ⟨lw_r4, List.forall_mem_append.mpr ⟨lw_r5, List.forall_mem_append.mpr ⟨lw_r6, lw_r7⟩⟩⟩⟩⟩⟩
def RX0 : String := "TaperTalk$Acts"
def TX0 : u_T := fun k => match k with
  | 0 => ("TaperTalk$Acts", "count", "I", false)
  | 1 => ("TaperTalk$Acts", "pew", "[I", true)
  | 2 => ("TaperTalk$Acts", "letter", "[I", true)
  | _ => ("TaperTalk$Acts", "hour", "[I", true)
def tyX0 : Nat → FieldType := fun k => match k with
  | 0 => .int
  | 1 => .array .int
  | 2 => .array .int
  | _ => .array .int
abbrev wsX00 : List Cond := u_ws RX0 TX0 4
theorem nmX0 : ∀ a, a < 4 → ∀ b, b < 4 → a ≠ b → (TX0 a).2.1 ≠ (TX0 b).2.1 := by decide +kernel
theorem tyX0_ok : ∀ k, k < 4 → parseFieldDescriptor (TX0 k).2.2.1 = some (tyX0 k) := by decide +kernel
abbrev cX0_init : ByteArray := prog_2_method_1_code
def yX0_init : MethodName := ⟨RX0, "<init>", "()V"⟩
abbrev cX0_add : ByteArray := prog_2_method_2_code
def yX0_add : MethodName := ⟨RX0, "add", "(III)V"⟩
abbrev cX0_take : ByteArray := prog_2_method_3_code
def yX0_take : MethodName := ⟨RX0, "take", "(LTaperTalk$Acts;)V"⟩
def RX1 : String := "TaperTalk$Chances"
def TX1 : u_T := fun k => match k with
  | 0 => ("TaperTalk$Chances", "night", "LTaperTalk$Night;", true)
  | _ => ("TaperTalk$Chances", "course", "LTaperTalk$Course;", true)
def tyX1 : Nat → FieldType := fun k => match k with
  | 0 => .object "TaperTalk$Night"
  | _ => .object "TaperTalk$Course"
abbrev wsX10 : List Cond := u_ws RX1 TX1 2
theorem nmX1 : ∀ a, a < 2 → ∀ b, b < 2 → a ≠ b → (TX1 a).2.1 ≠ (TX1 b).2.1 := by decide +kernel
theorem tyX1_ok : ∀ k, k < 2 → parseFieldDescriptor (TX1 k).2.2.1 = some (tyX1 k) := by decide +kernel
abbrev cX1_init : ByteArray := prog_3_method_1_code
def yX1_init : MethodName := ⟨RX1, "<init>", "(LTaperTalk$Night;LTaperTalk$Course;)V"⟩
abbrev cX1_power : ByteArray := prog_3_method_2_code
def yX1_power : MethodName := ⟨RX1, "power", "(II)J"⟩
abbrev cX1_weighed : ByteArray := prog_3_method_3_code
def yX1_weighed : MethodName := ⟨RX1, "weighed", "(II)J"⟩
abbrev cX1_backwards : ByteArray := prog_3_method_4_code
def yX1_backwards : MethodName := ⟨RX1, "backwards", "(II)I"⟩
abbrev cX1_firstChanged : ByteArray := prog_3_method_5_code
def yX1_firstChanged : MethodName := ⟨RX1, "firstChanged", "(II)I"⟩
abbrev cX1_silenceDrawn : ByteArray := prog_3_method_6_code
def yX1_silenceDrawn : MethodName := ⟨RX1, "silenceDrawn", "(J)I"⟩
abbrev cX1_litAfter : ByteArray := prog_3_method_7_code
def yX1_litAfter : MethodName := ⟨RX1, "litAfter", "(I)I"⟩
def RX2 : String := "TaperTalk$Clues"
def TX2 : u_T := fun k => match k with
  | 0 => ("TaperTalk$Clues", "question", "I", false)
  | 1 => ("TaperTalk$Clues", "left", "I", false)
  | 2 => ("TaperTalk$Clues", "sizes", "[I", true)
  | 3 => ("TaperTalk$Clues", "tally", "[I", true)
  | 4 => ("TaperTalk$Clues", "night", "LTaperTalk$Night;", true)
  | 5 => ("TaperTalk$Clues", "course", "LTaperTalk$Course;", true)
  | _ => ("TaperTalk$Clues", "slots", "LTaperTalk$Slots;", true)
def tyX2 : Nat → FieldType := fun k => match k with
  | 0 => .int
  | 1 => .int
  | 2 => .array .int
  | 3 => .array .int
  | 4 => .object "TaperTalk$Night"
  | 5 => .object "TaperTalk$Course"
  | _ => .object "TaperTalk$Slots"
abbrev wsX20 : List Cond := u_ws RX2 TX2 7
theorem nmX2 : ∀ a, a < 7 → ∀ b, b < 7 → a ≠ b → (TX2 a).2.1 ≠ (TX2 b).2.1 := by decide +kernel
theorem tyX2_ok : ∀ k, k < 7 → parseFieldDescriptor (TX2 k).2.2.1 = some (tyX2 k) := by decide +kernel
abbrev cX2_init : ByteArray := prog_4_method_1_code
def yX2_init : MethodName := ⟨RX2, "<init>", "(LTaperTalk$Night;LTaperTalk$Course;LTaperTalk$Slots;)V"⟩
abbrev cX2_areSound : ByteArray := prog_4_method_2_code
def yX2_areSound : MethodName := ⟨RX2, "areSound", "(I)Z"⟩
abbrev cX2_fit : ByteArray := prog_4_method_3_code
def yX2_fit : MethodName := ⟨RX2, "fit", "(I)Z"⟩
abbrev cX2_origins : ByteArray := prog_4_method_4_code
def yX2_origins : MethodName := ⟨RX2, "origins", "(I)I"⟩
abbrev cX2_noteSizes : ByteArray := prog_4_method_5_code
def yX2_noteSizes : MethodName := ⟨RX2, "noteSizes", "(I)V"⟩
abbrev cX2_chooseQuestion : ByteArray := prog_4_method_6_code
def yX2_chooseQuestion : MethodName := ⟨RX2, "chooseQuestion", "(I)V"⟩
abbrev cX2_leftAtWorst : ByteArray := prog_4_method_7_code
def yX2_leftAtWorst : MethodName := ⟨RX2, "leftAtWorst", "(II)I"⟩
abbrev cX2_fittingLaws : ByteArray := prog_4_method_8_code
def yX2_fittingLaws : MethodName := ⟨RX2, "fittingLaws", "(I)I"⟩
def RX3 : String := "TaperTalk$Course"
def TX3 : u_T := fun k => match k with
  | 0 => ("TaperTalk$Course", "lit", "[I", true)
  | 1 => ("TaperTalk$Course", "says", "[I", true)
  | 2 => ("TaperTalk$Course", "heardOf", "[I", true)
  | 3 => ("TaperTalk$Course", "litSince", "[I", true)
  | 4 => ("TaperTalk$Course", "depthOf", "[I", true)
  | 5 => ("TaperTalk$Course", "night", "LTaperTalk$Night;", true)
  | 6 => ("TaperTalk$Course", "acts", "LTaperTalk$Acts;", true)
  | 7 => ("TaperTalk$Course", "law", "I", false)
  | 8 => ("TaperTalk$Course", "shut", "I", false)
  | 9 => ("TaperTalk$Course", "silence", "I", false)
  | 10 => ("TaperTalk$Course", "lit0More", "I", false)
  | 11 => ("TaperTalk$Course", "gustPew", "I", false)
  | 12 => ("TaperTalk$Course", "gustHour", "I", false)
  | 13 => ("TaperTalk$Course", "draughtLeftOut", "I", false)
  | 14 => ("TaperTalk$Course", "alone", "Z", false)
  | 15 => ("TaperTalk$Course", "aloneSet", "I", false)
  | _ => ("TaperTalk$Course", "aloneSays", "I", false)
def tyX3 : Nat → FieldType := fun k => match k with
  | 0 => .array .int
  | 1 => .array .int
  | 2 => .array .int
  | 3 => .array .int
  | 4 => .array .int
  | 5 => .object "TaperTalk$Night"
  | 6 => .object "TaperTalk$Acts"
  | 7 => .int
  | 8 => .int
  | 9 => .int
  | 10 => .int
  | 11 => .int
  | 12 => .int
  | 13 => .int
  | 14 => .boolean
  | 15 => .int
  | _ => .int
abbrev wsX30 : List Cond := u_ws RX3 TX3 17
theorem nmX3 : ∀ a, a < 17 → ∀ b, b < 17 → a ≠ b → (TX3 a).2.1 ≠ (TX3 b).2.1 := by decide +kernel
theorem tyX3_ok : ∀ k, k < 17 → parseFieldDescriptor (TX3 k).2.2.1 = some (tyX3 k) := by decide +kernel
abbrev cX3_init : ByteArray := prog_5_method_1_code
def yX3_init : MethodName := ⟨RX3, "<init>", "(LTaperTalk$Night;LTaperTalk$Acts;)V"⟩
abbrev cX3_asNow : ByteArray := prog_5_method_2_code
def yX3_asNow : MethodName := ⟨RX3, "asNow", "()V"⟩
abbrev cX3_byLaw : ByteArray := prog_5_method_3_code
def yX3_byLaw : MethodName := ⟨RX3, "byLaw", "(I)V"⟩
abbrev cX3_tellAlone : ByteArray := prog_5_method_4_code
def yX3_tellAlone : MethodName := ⟨RX3, "tellAlone", "(II)V"⟩
abbrev cX3_run : ByteArray := prog_5_method_5_code
def yX3_run : MethodName := ⟨RX3, "run", "(II)I"⟩
abbrev cX3_begin : ByteArray := prog_5_method_6_code
def yX3_begin : MethodName := ⟨RX3, "begin", "()V"⟩
abbrev cX3_carry : ByteArray := prog_5_method_7_code
def yX3_carry : MethodName := ⟨RX3, "carry", "(I)V"⟩
abbrev cX3_speaker : ByteArray := prog_5_method_8_code
def yX3_speaker : MethodName := ⟨RX3, "speaker", "(II)I"⟩
abbrev cX3_lightByActs : ByteArray := prog_5_method_9_code
def yX3_lightByActs : MethodName := ⟨RX3, "lightByActs", "(I)V"⟩
abbrev cX3_putOut : ByteArray := prog_5_method_10_code
def yX3_putOut : MethodName := ⟨RX3, "putOut", "(I)V"⟩
abbrev cX3_kindle : ByteArray := prog_5_method_11_code
def yX3_kindle : MethodName := ⟨RX3, "kindle", "(III)V"⟩
abbrev cX3_quench : ByteArray := prog_5_method_12_code
def yX3_quench : MethodName := ⟨RX3, "quench", "(I)V"⟩
abbrev cX3_noteLit : ByteArray := prog_5_method_13_code
def yX3_noteLit : MethodName := ⟨RX3, "noteLit", "(I)V"⟩
abbrev cX3_isLit : ByteArray := prog_5_method_14_code
def yX3_isLit : MethodName := ⟨RX3, "isLit", "(II)Z"⟩
abbrev cX3_lettersSaid : ByteArray := prog_5_method_15_code
def yX3_lettersSaid : MethodName := ⟨RX3, "lettersSaid", "(I)I"⟩
abbrev cX3_otherwise : ByteArray := prog_5_method_16_code
def yX3_otherwise : MethodName := ⟨RX3, "otherwise", "(II)I"⟩
abbrev cX3_sayingSame : ByteArray := prog_5_method_17_code
def yX3_sayingSame : MethodName := ⟨RX3, "sayingSame", "(II)I"⟩
def RX4 : String := "TaperTalk$Finder"
def TX4 : u_T := fun k => match k with
  | 0 => ("TaperTalk$Finder", "found", "I", false)
  | 1 => ("TaperTalk$Finder", "ways", "I", false)
  | 2 => ("TaperTalk$Finder", "trail", "[I", true)
  | 3 => ("TaperTalk$Finder", "trailLength", "I", false)
  | 4 => ("TaperTalk$Finder", "night", "LTaperTalk$Night;", true)
  | _ => ("TaperTalk$Finder", "course", "LTaperTalk$Course;", true)
def tyX4 : Nat → FieldType := fun k => match k with
  | 0 => .int
  | 1 => .int
  | 2 => .array .int
  | 3 => .int
  | 4 => .object "TaperTalk$Night"
  | _ => .object "TaperTalk$Course"
abbrev wsX40 : List Cond := u_ws RX4 TX4 6
theorem nmX4 : ∀ a, a < 6 → ∀ b, b < 6 → a ≠ b → (TX4 a).2.1 ≠ (TX4 b).2.1 := by decide +kernel
theorem tyX4_ok : ∀ k, k < 6 → parseFieldDescriptor (TX4 k).2.2.1 = some (tyX4 k) := by decide +kernel
abbrev cX4_init : ByteArray := prog_6_method_1_code
def yX4_init : MethodName := ⟨RX4, "<init>", "(LTaperTalk$Night;LTaperTalk$Course;)V"⟩
abbrev cX4_seek : ByteArray := prog_6_method_2_code
def yX4_seek : MethodName := ⟨RX4, "seek", "(III)V"⟩
abbrev cX4_followTrail : ByteArray := prog_6_method_3_code
def yX4_followTrail : MethodName := ⟨RX4, "followTrail", "(I)V"⟩
abbrev cX4_tryAll : ByteArray := prog_6_method_4_code
def yX4_tryAll : MethodName := ⟨RX4, "tryAll", "(II)V"⟩
abbrev cX4_spelled : ByteArray := prog_6_method_5_code
def yX4_spelled : MethodName := ⟨RX4, "spelled", "(II)I"⟩
abbrev cX4_carried : ByteArray := prog_6_method_6_code
def yX4_carried : MethodName := ⟨RX4, "carried", "(I)I"⟩
def RX5 : String := "TaperTalk$Night"
def TX5 : u_T := fun k => match k with
  | 0 => ("TaperTalk$Night", "lines", "I", false)
  | 1 => ("TaperTalk$Night", "hours", "I", false)
  | 2 => ("TaperTalk$Night", "law", "I", false)
  | 3 => ("TaperTalk$Night", "odds", "I", false)
  | 4 => ("TaperTalk$Night", "pews", "I", false)
  | 5 => ("TaperTalk$Night", "aisles", "I", false)
  | 6 => ("TaperTalk$Night", "lights", "I", false)
  | 7 => ("TaperTalk$Night", "draughts", "I", false)
  | 8 => ("TaperTalk$Night", "rule", "[I", true)
  | 9 => ("TaperTalk$Night", "firstLetter", "[I", true)
  | 10 => ("TaperTalk$Night", "secondLetter", "[I", true)
  | 11 => ("TaperTalk$Night", "near", "[I", true)
  | 12 => ("TaperTalk$Night", "lightPew", "[I", true)
  | 13 => ("TaperTalk$Night", "lightSays", "[I", true)
  | 14 => ("TaperTalk$Night", "draughtPew", "[I", true)
  | _ => ("TaperTalk$Night", "draughtHour", "[I", true)
def tyX5 : Nat → FieldType := fun k => match k with
  | 0 => .int
  | 1 => .int
  | 2 => .int
  | 3 => .int
  | 4 => .int
  | 5 => .int
  | 6 => .int
  | 7 => .int
  | 8 => .array .int
  | 9 => .array .int
  | 10 => .array .int
  | 11 => .array .int
  | 12 => .array .int
  | 13 => .array .int
  | 14 => .array .int
  | _ => .array .int
abbrev wsX50 : List Cond := u_ws RX5 TX5 16
theorem nmX5 : ∀ a, a < 16 → ∀ b, b < 16 → a ≠ b → (TX5 a).2.1 ≠ (TX5 b).2.1 := by decide +kernel
theorem tyX5_ok : ∀ k, k < 16 → parseFieldDescriptor (TX5 k).2.2.1 = some (tyX5 k) := by decide +kernel
abbrev cX5_init : ByteArray := prog_7_method_1_code
def yX5_init : MethodName := ⟨RX5, "<init>", "()V"⟩
abbrev cX5_clear : ByteArray := prog_7_method_2_code
def yX5_clear : MethodName := ⟨RX5, "clear", "()V"⟩
abbrev cX5_take : ByteArray := prog_7_method_3_code
def yX5_take : MethodName := ⟨RX5, "take", "(LTaperTalk$Night;)V"⟩
abbrev cX5_addPew : ByteArray := prog_7_method_4_code
def yX5_addPew : MethodName := ⟨RX5, "addPew", "(III)V"⟩
abbrev cX5_setRule : ByteArray := prog_7_method_5_code
def yX5_setRule : MethodName := ⟨RX5, "setRule", "(IIII)V"⟩
abbrev cX5_addAisle : ByteArray := prog_7_method_6_code
def yX5_addAisle : MethodName := ⟨RX5, "addAisle", "(II)V"⟩
abbrev cX5_addLight : ByteArray := prog_7_method_7_code
def yX5_addLight : MethodName := ⟨RX5, "addLight", "(II)V"⟩
abbrev cX5_addDraught : ByteArray := prog_7_method_8_code
def yX5_addDraught : MethodName := ⟨RX5, "addDraught", "(II)V"⟩
abbrev cX5_allPews : ByteArray := prog_7_method_9_code
def yX5_allPews : MethodName := ⟨RX5, "allPews", "()I"⟩
abbrev cX5_nearAny : ByteArray := prog_7_method_10_code
def yX5_nearAny : MethodName := ⟨RX5, "nearAny", "(I)I"⟩
abbrev cX5_heardBy : ByteArray := prog_7_method_11_code
def yX5_heardBy : MethodName := ⟨RX5, "heardBy", "(II)I"⟩
def RX6 : String := "TaperTalk$Reader"
def TX6 : u_T := fun k => match k with
  | 0 => ("TaperTalk$Reader", "fault", "I", false)
  | 1 => ("TaperTalk$Reader", "place", "I", false)
  | 2 => ("TaperTalk$Reader", "draft", "LTaperTalk$Night;", true)
  | 3 => ("TaperTalk$Reader", "bytes", "[B", true)
  | 4 => ("TaperTalk$Reader", "length", "I", false)
  | 5 => ("TaperTalk$Reader", "start", "I", false)
  | 6 => ("TaperTalk$Reader", "next", "I", false)
  | 7 => ("TaperTalk$Reader", "token", "I", false)
  | _ => ("TaperTalk$Reader", "value", "I", false)
def tyX6 : Nat → FieldType := fun k => match k with
  | 0 => .int
  | 1 => .int
  | 2 => .object "TaperTalk$Night"
  | 3 => .array .byte
  | 4 => .int
  | 5 => .int
  | 6 => .int
  | 7 => .int
  | _ => .int
abbrev wsX60 : List Cond := u_ws RX6 TX6 9
theorem nmX6 : ∀ a, a < 9 → ∀ b, b < 9 → a ≠ b → (TX6 a).2.1 ≠ (TX6 b).2.1 := by decide +kernel
theorem tyX6_ok : ∀ k, k < 9 → parseFieldDescriptor (TX6 k).2.2.1 = some (tyX6 k) := by decide +kernel
abbrev cX6_init : ByteArray := prog_8_method_1_code
def yX6_init : MethodName := ⟨RX6, "<init>", "([B)V"⟩
abbrev cX6_read : ByteArray := prog_8_method_2_code
def yX6_read : MethodName := ⟨RX6, "read", "(I)LTaperTalk$Night;"⟩
abbrev cX6_readLine : ByteArray := prog_8_method_3_code
def yX6_readLine : MethodName := ⟨RX6, "readLine", "()V"⟩
abbrev cX6_readNight : ByteArray := prog_8_method_4_code
def yX6_readNight : MethodName := ⟨RX6, "readNight", "()V"⟩
abbrev cX6_readPew : ByteArray := prog_8_method_5_code
def yX6_readPew : MethodName := ⟨RX6, "readPew", "()V"⟩
abbrev cX6_ruleWord : ByteArray := prog_8_method_6_code
def yX6_ruleWord : MethodName := ⟨RX6, "ruleWord", "()I"⟩
abbrev cX6_readAisle : ByteArray := prog_8_method_7_code
def yX6_readAisle : MethodName := ⟨RX6, "readAisle", "()V"⟩
abbrev cX6_areJoined : ByteArray := prog_8_method_8_code
def yX6_areJoined : MethodName := ⟨RX6, "areJoined", "(I)Z"⟩
abbrev cX6_readLight : ByteArray := prog_8_method_9_code
def yX6_readLight : MethodName := ⟨RX6, "readLight", "()V"⟩
abbrev cX6_readDraught : ByteArray := prog_8_method_10_code
def yX6_readDraught : MethodName := ⟨RX6, "readDraught", "()V"⟩
abbrev cX6_refuseMoreThan : ByteArray := prog_8_method_11_code
def yX6_refuseMoreThan : MethodName := ⟨RX6, "refuseMoreThan", "(II)V"⟩
abbrev cX6_needWord : ByteArray := prog_8_method_12_code
def yX6_needWord : MethodName := ⟨RX6, "needWord", "(Ljava/lang/String;)V"⟩
abbrev cX6_needNumber : ByteArray := prog_8_method_13_code
def yX6_needNumber : MethodName := ⟨RX6, "needNumber", "(II)I"⟩
abbrev cX6_fail : ByteArray := prog_8_method_14_code
def yX6_fail : MethodName := ⟨RX6, "fail", "(I)V"⟩
abbrev cX6_advance : ByteArray := prog_8_method_15_code
def yX6_advance : MethodName := ⟨RX6, "advance", "()V"⟩
abbrev cX6_isLowerCase : ByteArray := prog_8_method_16_code
def yX6_isLowerCase : MethodName := ⟨RX6, "isLowerCase", "(I)Z"⟩
abbrev cX6_isDigit : ByteArray := prog_8_method_17_code
def yX6_isDigit : MethodName := ⟨RX6, "isDigit", "(I)Z"⟩
abbrev cX6_isWord : ByteArray := prog_8_method_18_code
def yX6_isWord : MethodName := ⟨RX6, "isWord", "(Ljava/lang/String;)Z"⟩
def RX7 : String := "TaperTalk$Sayings"
def TX7 : u_T := fun k => match k with
  | _ => ("", "", "", false)
def tyX7 : Nat → FieldType := fun k => match k with
  | _ => .int
abbrev wsX70 : List Cond := u_ws RX7 TX7 0
theorem nmX7 : ∀ a, a < 0 → ∀ b, b < 0 → a ≠ b → (TX7 a).2.1 ≠ (TX7 b).2.1 := by decide +kernel
theorem tyX7_ok : ∀ k, k < 0 → parseFieldDescriptor (TX7 k).2.2.1 = some (tyX7 k) := by decide +kernel
abbrev cX7_letterAt : ByteArray := prog_9_method_2_code
def yX7_letterAt : MethodName := ⟨RX7, "letterAt", "(II)I"⟩
abbrev cX7_size : ByteArray := prog_9_method_3_code
def yX7_size : MethodName := ⟨RX7, "size", "(I)I"⟩
abbrev cX7_with : ByteArray := prog_9_method_4_code
def yX7_with : MethodName := ⟨RX7, "with", "(III)I"⟩
abbrev cX7_reversed : ByteArray := prog_9_method_5_code
def yX7_reversed : MethodName := ⟨RX7, "reversed", "(I)I"⟩
abbrev cX7_replaced : ByteArray := prog_9_method_6_code
def yX7_replaced : MethodName := ⟨RX7, "replaced", "(III)I"⟩
def RX8 : String := "TaperTalk$Sets"
def TX8 : u_T := fun k => match k with
  | 0 => ("TaperTalk$Sets", "worths", "[I", true)
  | 1 => ("TaperTalk$Sets", "night", "LTaperTalk$Night;", true)
  | _ => ("TaperTalk$Sets", "course", "LTaperTalk$Course;", true)
def tyX8 : Nat → FieldType := fun k => match k with
  | 0 => .array .int
  | 1 => .object "TaperTalk$Night"
  | _ => .object "TaperTalk$Course"
abbrev wsX80 : List Cond := u_ws RX8 TX8 3
theorem nmX8 : ∀ a, a < 3 → ∀ b, b < 3 → a ≠ b → (TX8 a).2.1 ≠ (TX8 b).2.1 := by decide +kernel
theorem tyX8_ok : ∀ k, k < 3 → parseFieldDescriptor (TX8 k).2.2.1 = some (tyX8 k) := by decide +kernel
abbrev cX8_init : ByteArray := prog_10_method_1_code
def yX8_init : MethodName := ⟨RX8, "<init>", "(LTaperTalk$Night;LTaperTalk$Course;)V"⟩
abbrev cX8_forget : ByteArray := prog_10_method_2_code
def yX8_forget : MethodName := ⟨RX8, "forget", "()V"⟩
abbrev cX8_worthOf : ByteArray := prog_10_method_3_code
def yX8_worthOf : MethodName := ⟨RX8, "worthOf", "(I)I"⟩
abbrev cX8_gainInAllOrders : ByteArray := prog_10_method_4_code
def yX8_gainInAllOrders : MethodName := ⟨RX8, "gainInAllOrders", "(I)I"⟩
abbrev cX8_factorial : ByteArray := prog_10_method_5_code
def yX8_factorial : MethodName := ⟨RX8, "factorial", "(I)I"⟩
abbrev cX8_leastLightingAll : ByteArray := prog_10_method_6_code
def yX8_leastLightingAll : MethodName := ⟨RX8, "leastLightingAll", "()I"⟩
def RX9 : String := "TaperTalk$Slots"
def TX9 : u_T := fun k => match k with
  | 0 => ("TaperTalk$Slots", "width", "[I", true)
  | 1 => ("TaperTalk$Slots", "length", "[I", true)
  | _ => ("TaperTalk$Slots", "numbers", "[[J", true)
def tyX9 : Nat → FieldType := fun k => match k with
  | 0 => .array .int
  | 1 => .array .int
  | _ => .array (.array .long)
abbrev wsX90 : List Cond := u_ws RX9 TX9 3
theorem nmX9 : ∀ a, a < 3 → ∀ b, b < 3 → a ≠ b → (TX9 a).2.1 ≠ (TX9 b).2.1 := by decide +kernel
theorem tyX9_ok : ∀ k, k < 3 → parseFieldDescriptor (TX9 k).2.2.1 = some (tyX9 k) := by decide +kernel
abbrev cX9_init : ByteArray := prog_11_method_1_code
def yX9_init : MethodName := ⟨RX9, "<init>", "()V"⟩
abbrev cX9_noSlot : ByteArray := prog_11_method_2_code
def yX9_noSlot : MethodName := ⟨RX9, "noSlot", "(I)Z"⟩
abbrev cX9_hasRow : ByteArray := prog_11_method_3_code
def yX9_hasRow : MethodName := ⟨RX9, "hasRow", "(I)Z"⟩
abbrev cX9_rowsHeld : ByteArray := prog_11_method_4_code
def yX9_rowsHeld : MethodName := ⟨RX9, "rowsHeld", "()I"⟩
abbrev cX9_begin : ByteArray := prog_11_method_5_code
def yX9_begin : MethodName := ⟨RX9, "begin", "(III)V"⟩
abbrev cX9_areBeyond : ByteArray := prog_11_method_6_code
def yX9_areBeyond : MethodName := ⟨RX9, "areBeyond", "(III)Z"⟩
abbrev cX9_put : ByteArray := prog_11_method_7_code
def yX9_put : MethodName := ⟨RX9, "put", "(IIJ)V"⟩
abbrev cX9_saying : ByteArray := prog_11_method_8_code
def yX9_saying : MethodName := ⟨RX9, "saying", "(I)I"⟩
def RX10 : String := "TaperTalk$Trials"
def TX10 : u_T := fun k => match k with
  | 0 => ("TaperTalk$Trials", "value", "I", false)
  | 1 => ("TaperTalk$Trials", "opening", "I", false)
  | 2 => ("TaperTalk$Trials", "reply", "I", false)
  | 3 => ("TaperTalk$Trials", "night", "LTaperTalk$Night;", true)
  | _ => ("TaperTalk$Trials", "course", "LTaperTalk$Course;", true)
def tyX10 : Nat → FieldType := fun k => match k with
  | 0 => .int
  | 1 => .int
  | 2 => .int
  | 3 => .object "TaperTalk$Night"
  | _ => .object "TaperTalk$Course"
abbrev wsX100 : List Cond := u_ws RX10 TX10 5
theorem nmX10 : ∀ a, a < 5 → ∀ b, b < 5 → a ≠ b → (TX10 a).2.1 ≠ (TX10 b).2.1 := by decide +kernel
theorem tyX10_ok : ∀ k, k < 5 → parseFieldDescriptor (TX10 k).2.2.1 = some (tyX10 k) := by decide +kernel
abbrev cX10_init : ByteArray := prog_12_method_1_code
def yX10_init : MethodName := ⟨RX10, "<init>", "(LTaperTalk$Night;LTaperTalk$Course;)V"⟩
abbrev cX10_strongestGust : ByteArray := prog_12_method_2_code
def yX10_strongestGust : MethodName := ⟨RX10, "strongestGust", "(II)I"⟩
abbrev cX10_heaviestDraught : ByteArray := prog_12_method_3_code
def yX10_heaviestDraught : MethodName := ⟨RX10, "heaviestDraught", "(I)I"⟩
abbrev cX10_chooseOpening : ByteArray := prog_12_method_4_code
def yX10_chooseOpening : MethodName := ⟨RX10, "chooseOpening", "()V"⟩
abbrev cX10_chooseReply : ByteArray := prog_12_method_5_code
def yX10_chooseReply : MethodName := ⟨RX10, "chooseReply", "(I)V"⟩
abbrev cX10_gain : ByteArray := prog_12_method_6_code
def yX10_gain : MethodName := ⟨RX10, "gain", "(IIII)I"⟩
def RX11 : String := "TaperTalk"
def TX11 : u_T := fun k => match k with
  | 0 => ("TaperTalk", "tape", "[B", true)
  | 1 => ("TaperTalk", "tapeBytes", "I", false)
  | 2 => ("TaperTalk", "fault", "I", false)
  | 3 => ("TaperTalk", "faultPlace", "I", false)
  | 4 => ("TaperTalk", "reader", "LTaperTalk$Reader;", true)
  | 5 => ("TaperTalk", "plan", "LTaperTalk$Night;", true)
  | 6 => ("TaperTalk", "acts", "LTaperTalk$Acts;", true)
  | 7 => ("TaperTalk", "slots", "LTaperTalk$Slots;", true)
  | 8 => ("TaperTalk", "imageNights", "[LTaperTalk$Night;", true)
  | 9 => ("TaperTalk", "imageActs", "[LTaperTalk$Acts;", true)
  | 10 => ("TaperTalk", "imaged", "[Z", true)
  | 11 => ("TaperTalk", "now", "LTaperTalk$Course;", true)
  | 12 => ("TaperTalk", "trial", "LTaperTalk$Course;", true)
  | 13 => ("TaperTalk", "trials", "LTaperTalk$Trials;", true)
  | 14 => ("TaperTalk", "subsets", "LTaperTalk$Sets;", true)
  | 15 => ("TaperTalk", "finder", "LTaperTalk$Finder;", true)
  | 16 => ("TaperTalk", "clues", "LTaperTalk$Clues;", true)
  | 17 => ("TaperTalk", "chances", "LTaperTalk$Chances;", true)
  | _ => ("TaperTalk", "settled", "Z", false)
def tyX11 : Nat → FieldType := fun k => match k with
  | 0 => .array .byte
  | 1 => .int
  | 2 => .int
  | 3 => .int
  | 4 => .object "TaperTalk$Reader"
  | 5 => .object "TaperTalk$Night"
  | 6 => .object "TaperTalk$Acts"
  | 7 => .object "TaperTalk$Slots"
  | 8 => .array (.object "TaperTalk$Night")
  | 9 => .array (.object "TaperTalk$Acts")
  | 10 => .array .boolean
  | 11 => .object "TaperTalk$Course"
  | 12 => .object "TaperTalk$Course"
  | 13 => .object "TaperTalk$Trials"
  | 14 => .object "TaperTalk$Sets"
  | 15 => .object "TaperTalk$Finder"
  | 16 => .object "TaperTalk$Clues"
  | 17 => .object "TaperTalk$Chances"
  | _ => .boolean
abbrev wsX110 : List Cond := u_ws RX11 TX11 19
theorem nmX11 : ∀ a, a < 19 → ∀ b, b < 19 → a ≠ b → (TX11 a).2.1 ≠ (TX11 b).2.1 := by decide +kernel
theorem tyX11_ok : ∀ k, k < 19 → parseFieldDescriptor (TX11 k).2.2.1 = some (tyX11 k) := by decide +kernel
abbrev cX11_init : ByteArray := prog_1_method_1_code
def yX11_init : MethodName := ⟨RX11, "<init>", "()V"⟩
abbrev cX11_feed : ByteArray := prog_1_method_2_code
def yX11_feed : MethodName := ⟨RX11, "feed", "(IIIII)I"⟩
abbrev cX11_putBytes : ByteArray := prog_1_method_3_code
def yX11_putBytes : MethodName := ⟨RX11, "putBytes", "(I)V"⟩
abbrev cX11_end : ByteArray := prog_1_method_4_code
def yX11_end : MethodName := ⟨RX11, "end", "(I)I"⟩
abbrev cX11_night : ByteArray := prog_1_method_5_code
def yX11_night : MethodName := ⟨RX11, "night", "()I"⟩
abbrev cX11_fault : ByteArray := prog_1_method_6_code
def yX11_fault : MethodName := ⟨RX11, "fault", "(I)I"⟩
abbrev cX11_pew : ByteArray := prog_1_method_7_code
def yX11_pew : MethodName := ⟨RX11, "pew", "(II)I"⟩
abbrev cX11_near : ByteArray := prog_1_method_8_code
def yX11_near : MethodName := ⟨RX11, "near", "(I)I"⟩
abbrev cX11_far : ByteArray := prog_1_method_9_code
def yX11_far : MethodName := ⟨RX11, "far", "(II)I"⟩
abbrev cX11_told : ByteArray := prog_1_method_10_code
def yX11_told : MethodName := ⟨RX11, "told", "(II)I"⟩
abbrev cX11_lit : ByteArray := prog_1_method_11_code
def yX11_lit : MethodName := ⟨RX11, "lit", "(I)I"⟩
abbrev cX11_letters : ByteArray := prog_1_method_12_code
def yX11_letters : MethodName := ⟨RX11, "letters", "(II)I"⟩
abbrev cX11_says : ByteArray := prog_1_method_13_code
def yX11_says : MethodName := ⟨RX11, "says", "(III)I"⟩
abbrev cX11_from : ByteArray := prog_1_method_14_code
def yX11_from : MethodName := ⟨RX11, "from", "(II)I"⟩
abbrev cX11_since : ByteArray := prog_1_method_15_code
def yX11_since : MethodName := ⟨RX11, "since", "(II)I"⟩
abbrev cX11_when : ByteArray := prog_1_method_16_code
def yX11_when : MethodName := ⟨RX11, "when", "(I)I"⟩
abbrev cX11_often : ByteArray := prog_1_method_17_code
def yX11_often : MethodName := ⟨RX11, "often", "(I)I"⟩
abbrev cX11_full : ByteArray := prog_1_method_18_code
def yX11_full : MethodName := ⟨RX11, "full", "()I"⟩
abbrev cX11_dark : ByteArray := prog_1_method_19_code
def yX11_dark : MethodName := ⟨RX11, "dark", "()I"⟩
abbrev cX11_still : ByteArray := prog_1_method_20_code
def yX11_still : MethodName := ⟨RX11, "still", "()I"⟩
abbrev cX11_sorts : ByteArray := prog_1_method_21_code
def yX11_sorts : MethodName := ⟨RX11, "sorts", "(I)I"⟩
abbrev cX11_alike : ByteArray := prog_1_method_22_code
def yX11_alike : MethodName := ⟨RX11, "alike", "(II)I"⟩
abbrev cX11_depth : ByteArray := prog_1_method_23_code
def yX11_depth : MethodName := ⟨RX11, "depth", "(II)I"⟩
abbrev cX11_longest : ByteArray := prog_1_method_24_code
def yX11_longest : MethodName := ⟨RX11, "longest", "(I)I"⟩
abbrev cX11_shortest : ByteArray := prog_1_method_25_code
def yX11_shortest : MethodName := ⟨RX11, "shortest", "(I)I"⟩
abbrev cX11_words : ByteArray := prog_1_method_26_code
def yX11_words : MethodName := ⟨RX11, "words", "(I)I"⟩
abbrev cX11_turned : ByteArray := prog_1_method_27_code
def yX11_turned : MethodName := ⟨RX11, "turned", "(I)I"⟩
abbrev cX11_spoken : ByteArray := prog_1_method_28_code
def yX11_spoken : MethodName := ⟨RX11, "spoken", "(II)I"⟩
abbrev cX11_taught : ByteArray := prog_1_method_29_code
def yX11_taught : MethodName := ⟨RX11, "taught", "(I)I"⟩
abbrev cX11_deepest : ByteArray := prog_1_method_30_code
def yX11_deepest : MethodName := ⟨RX11, "deepest", "()I"⟩
abbrev cX11_fresh : ByteArray := prog_1_method_31_code
def yX11_fresh : MethodName := ⟨RX11, "fresh", "(I)I"⟩
abbrev cX11_gone : ByteArray := prog_1_method_32_code
def yX11_gone : MethodName := ⟨RX11, "gone", "(I)I"⟩
abbrev cX11_hears : ByteArray := prog_1_method_33_code
def yX11_hears : MethodName := ⟨RX11, "hears", "(III)I"⟩
abbrev cX11_heard : ByteArray := prog_1_method_34_code
def yX11_heard : MethodName := ⟨RX11, "heard", "(IIII)I"⟩
abbrev cX11_round : ByteArray := prog_1_method_35_code
def yX11_round : MethodName := ⟨RX11, "round", "(III)I"⟩
abbrev cX11_first : ByteArray := prog_1_method_36_code
def yX11_first : MethodName := ⟨RX11, "first", "(III)I"⟩
abbrev cX11_letter : ByteArray := prog_1_method_37_code
def yX11_letter : MethodName := ⟨RX11, "letter", "(IIII)I"⟩
abbrev cX11_ways : ByteArray := prog_1_method_38_code
def yX11_ways : MethodName := ⟨RX11, "ways", "(III)I"⟩
abbrev cX11_hearingRefusal : ByteArray := prog_1_method_39_code
def yX11_hearingRefusal : MethodName := ⟨RX11, "hearingRefusal", "(III)I"⟩
abbrev cX11_heardTwice : ByteArray := prog_1_method_40_code
def yX11_heardTwice : MethodName := ⟨RX11, "heardTwice", "(III)I"⟩
abbrev cX11_best : ByteArray := prog_1_method_41_code
def yX11_best : MethodName := ⟨RX11, "best", "()I"⟩
abbrev cX11_worth : ByteArray := prog_1_method_42_code
def yX11_worth : MethodName := ⟨RX11, "worth", "(I)I"⟩
abbrev cX11_share : ByteArray := prog_1_method_43_code
def yX11_share : MethodName := ⟨RX11, "share", "(II)I"⟩
abbrev cX11_fewest : ByteArray := prog_1_method_44_code
def yX11_fewest : MethodName := ⟨RX11, "fewest", "()I"⟩
abbrev cX11_sets : ByteArray := prog_1_method_45_code
def yX11_sets : MethodName := ⟨RX11, "sets", "()I"⟩
abbrev cX11_gust : ByteArray := prog_1_method_46_code
def yX11_gust : MethodName := ⟨RX11, "gust", "(I)I"⟩
abbrev cX11_guard : ByteArray := prog_1_method_47_code
def yX11_guard : MethodName := ⟨RX11, "guard", "()I"⟩
abbrev cX11_whom : ByteArray := prog_1_method_48_code
def yX11_whom : MethodName := ⟨RX11, "whom", "(I)I"⟩
abbrev cX11_ask : ByteArray := prog_1_method_49_code
def yX11_ask : MethodName := ⟨RX11, "ask", "(I)I"⟩
abbrev cX11_leaves : ByteArray := prog_1_method_50_code
def yX11_leaves : MethodName := ⟨RX11, "leaves", "(I)I"⟩
abbrev cX11_laws : ByteArray := prog_1_method_51_code
def yX11_laws : MethodName := ⟨RX11, "laws", "(I)I"⟩
abbrev cX11_originRefusal : ByteArray := prog_1_method_52_code
def yX11_originRefusal : MethodName := ⟨RX11, "originRefusal", "(I)I"⟩
abbrev cX11_clueRefusal : ByteArray := prog_1_method_53_code
def yX11_clueRefusal : MethodName := ⟨RX11, "clueRefusal", "(I)I"⟩
abbrev cX11_by : ByteArray := prog_1_method_54_code
def yX11_by : MethodName := ⟨RX11, "by", "(I)I"⟩
abbrev cX11_law : ByteArray := prog_1_method_55_code
def yX11_law : MethodName := ⟨RX11, "law", "()I"⟩
abbrev cX11_rector : ByteArray := prog_1_method_56_code
def yX11_rector : MethodName := ⟨RX11, "rector", "()I"⟩
abbrev cX11_opens : ByteArray := prog_1_method_57_code
def yX11_opens : MethodName := ⟨RX11, "opens", "()I"⟩
abbrev cX11_replies : ByteArray := prog_1_method_58_code
def yX11_replies : MethodName := ⟨RX11, "replies", "(I)I"⟩
abbrev cX11_rests : ByteArray := prog_1_method_59_code
def yX11_rests : MethodName := ⟨RX11, "rests", "(II)I"⟩
abbrev cX11_gets : ByteArray := prog_1_method_60_code
def yX11_gets : MethodName := ⟨RX11, "gets", "(IIII)I"⟩
abbrev cX11_chance : ByteArray := prog_1_method_61_code
def yX11_chance : MethodName := ⟨RX11, "chance", "(III)J"⟩
abbrev cX11_mean : ByteArray := prog_1_method_62_code
def yX11_mean : MethodName := ⟨RX11, "mean", "(II)J"⟩
abbrev cX11_noChanceHour : ByteArray := prog_1_method_63_code
def yX11_noChanceHour : MethodName := ⟨RX11, "noChanceHour", "(I)Z"⟩
abbrev cX11_light : ByteArray := prog_1_method_64_code
def yX11_light : MethodName := ⟨RX11, "light", "(III)I"⟩
abbrev cX11_draught : ByteArray := prog_1_method_65_code
def yX11_draught : MethodName := ⟨RX11, "draught", "(II)I"⟩
abbrev cX11_act : ByteArray := prog_1_method_66_code
def yX11_act : MethodName := ⟨RX11, "act", "(III)I"⟩
abbrev cX11_undo : ByteArray := prog_1_method_67_code
def yX11_undo : MethodName := ⟨RX11, "undo", "()I"⟩
abbrev cX11_anew : ByteArray := prog_1_method_68_code
def yX11_anew : MethodName := ⟨RX11, "anew", "()I"⟩
abbrev cX11_drawn : ByteArray := prog_1_method_69_code
def yX11_drawn : MethodName := ⟨RX11, "drawn", "(II)I"⟩
abbrev cX11_luck : ByteArray := prog_1_method_70_code
def yX11_luck : MethodName := ⟨RX11, "luck", "(III)I"⟩
abbrev cX11_noSeed : ByteArray := prog_1_method_71_code
def yX11_noSeed : MethodName := ⟨RX11, "noSeed", "(I)Z"⟩
abbrev cX11_hushes : ByteArray := prog_1_method_72_code
def yX11_hushes : MethodName := ⟨RX11, "hushes", "(I)I"⟩
abbrev cX11_count : ByteArray := prog_1_method_73_code
def yX11_count : MethodName := ⟨RX11, "count", "(I)I"⟩
abbrev cX11_image : ByteArray := prog_1_method_74_code
def yX11_image : MethodName := ⟨RX11, "image", "(I)I"⟩
abbrev cX11_back : ByteArray := prog_1_method_75_code
def yX11_back : MethodName := ⟨RX11, "back", "(I)I"⟩
abbrev cX11_row : ByteArray := prog_1_method_76_code
def yX11_row : MethodName := ⟨RX11, "row", "(III)I"⟩
abbrev cX11_write : ByteArray := prog_1_method_77_code
def yX11_write : MethodName := ⟨RX11, "write", "(IIJ)I"⟩
abbrev cX11_paste : ByteArray := prog_1_method_78_code
def yX11_paste : MethodName := ⟨RX11, "paste", "(IIIII)I"⟩
abbrev cX11_noNight : ByteArray := prog_1_method_79_code
def yX11_noNight : MethodName := ⟨RX11, "noNight", "()Z"⟩
abbrev cX11_noPew : ByteArray := prog_1_method_80_code
def yX11_noPew : MethodName := ⟨RX11, "noPew", "(I)Z"⟩
abbrev cX11_noHour : ByteArray := prog_1_method_81_code
def yX11_noHour : MethodName := ⟨RX11, "noHour", "(I)Z"⟩
abbrev cX11_noLetter : ByteArray := prog_1_method_82_code
def yX11_noLetter : MethodName := ⟨RX11, "noLetter", "(I)Z"⟩
abbrev cX11_noPart : ByteArray := prog_1_method_83_code
def yX11_noPart : MethodName := ⟨RX11, "noPart", "(I)Z"⟩
abbrev cX11_cell : ByteArray := prog_1_method_84_code
def yX11_cell : MethodName := ⟨RX11, "cell", "(II)I"⟩
abbrev cX11_letterOrNone : ByteArray := prog_1_method_85_code
def yX11_letterOrNone : MethodName := ⟨RX11, "letterOrNone", "(II)I"⟩
abbrev cX11_unsettle : ByteArray := prog_1_method_86_code
def yX11_unsettle : MethodName := ⟨RX11, "unsettle", "()V"⟩
abbrev cX11_settledCourse : ByteArray := prog_1_method_87_code
def yX11_settledCourse : MethodName := ⟨RX11, "settledCourse", "()LTaperTalk$Course;"⟩
abbrev cX11_litAtLast : ByteArray := prog_1_method_88_code
def yX11_litAtLast : MethodName := ⟨RX11, "litAtLast", "()I"⟩
abbrev cX11_lowestPart : ByteArray := prog_1_method_89_code
def yX11_lowestPart : MethodName := ⟨RX11, "lowestPart", "(JJI)J"⟩
def RX12 : String := "TaperTalkModel"
def TX12 : u_T := fun k => match k with
  | 0 => ("TaperTalkModel", "thrown", "I", false)
  | 1 => ("TaperTalkModel", "world", "[I", true)
  | 2 => ("TaperTalkModel", "images", "[I", true)
  | 3 => ("TaperTalkModel", "hasImage", "[Z", true)
  | 4 => ("TaperTalkModel", "tape", "[B", true)
  | 5 => ("TaperTalkModel", "taped", "I", false)
  | 6 => ("TaperTalkModel", "five", "[I", true)
  | 7 => ("TaperTalkModel", "size", "I", false)
  | 8 => ("TaperTalkModel", "at", "I", false)
  | 9 => ("TaperTalkModel", "from", "I", false)
  | 10 => ("TaperTalkModel", "token", "I", false)
  | 11 => ("TaperTalkModel", "value", "I", false)
  | 12 => ("TaperTalkModel", "faultKind", "I", false)
  | 13 => ("TaperTalkModel", "faultPlace", "I", false)
  | 14 => ("TaperTalkModel", "fresh", "[I", true)
  | 15 => ("TaperTalkModel", "shutSet", "I", false)
  | 16 => ("TaperTalkModel", "lawNow", "I", false)
  | 17 => ("TaperTalkModel", "silentSet", "I", false)
  | 18 => ("TaperTalkModel", "aloneSet", "I", false)
  | 19 => ("TaperTalkModel", "aloneSays", "I", false)
  | 20 => ("TaperTalkModel", "moreLit", "I", false)
  | 21 => ("TaperTalkModel", "outPew", "I", false)
  | 22 => ("TaperTalkModel", "outHour", "I", false)
  | 23 => ("TaperTalkModel", "leftOut", "I", false)
  | 24 => ("TaperTalkModel", "saysAt", "[I", true)
  | 25 => ("TaperTalkModel", "fromAt", "[I", true)
  | 26 => ("TaperTalkModel", "sinceAt", "[I", true)
  | 27 => ("TaperTalkModel", "depthAt", "[I", true)
  | 28 => ("TaperTalkModel", "rowSays", "I", false)
  | 29 => ("TaperTalkModel", "firstSays", "I", false)
  | 30 => ("TaperTalkModel", "firstMany", "I", false)
  | 31 => ("TaperTalkModel", "litBy", "[I", true)
  | 32 => ("TaperTalkModel", "longBy", "[I", true)
  | 33 => ("TaperTalkModel", "askWorst", "I", false)
  | 34 => ("TaperTalkModel", "oftenAll", "J", false)
  | 35 => ("TaperTalkModel", "oftenLit", "J", false)
  | 36 => ("TaperTalkModel", "oftenWords", "J", false)
  | 37 => ("TaperTalkModel", "many", "[I", true)
  | 38 => ("TaperTalkModel", "width", "[I", true)
  | 39 => ("TaperTalkModel", "numbers", "[J", true)
  | _ => ("TaperTalkModel", "moving", "[J", true)
def tyX12 : Nat → FieldType := fun k => match k with
  | 0 => .int
  | 1 => .array .int
  | 2 => .array .int
  | 3 => .array .boolean
  | 4 => .array .byte
  | 5 => .int
  | 6 => .array .int
  | 7 => .int
  | 8 => .int
  | 9 => .int
  | 10 => .int
  | 11 => .int
  | 12 => .int
  | 13 => .int
  | 14 => .array .int
  | 15 => .int
  | 16 => .int
  | 17 => .int
  | 18 => .int
  | 19 => .int
  | 20 => .int
  | 21 => .int
  | 22 => .int
  | 23 => .int
  | 24 => .array .int
  | 25 => .array .int
  | 26 => .array .int
  | 27 => .array .int
  | 28 => .int
  | 29 => .int
  | 30 => .int
  | 31 => .array .int
  | 32 => .array .int
  | 33 => .int
  | 34 => .long
  | 35 => .long
  | 36 => .long
  | 37 => .array .int
  | 38 => .array .int
  | 39 => .array .long
  | _ => .array .long
abbrev wsX120 : List Cond := u_ws RX12 TX12 41
theorem nmX12 : ∀ a, a < 41 → ∀ b, b < 41 → a ≠ b → (TX12 a).2.1 ≠ (TX12 b).2.1 := by decide +kernel
theorem tyX12_ok : ∀ k, k < 41 → parseFieldDescriptor (TX12 k).2.2.1 = some (tyX12 k) := by decide +kernel
abbrev cX12_init : ByteArray := prog_14_method_1_code
def yX12_init : MethodName := ⟨RX12, "<init>", "()V"⟩
abbrev cX12_in : ByteArray := prog_14_method_3_code
def yX12_in : MethodName := ⟨RX12, "in", "(JJJ)Z"⟩
abbrev cX12_bits : ByteArray := prog_14_method_4_code
def yX12_bits : MethodName := ⟨RX12, "bits", "(I)I"⟩
abbrev cX12_bit : ByteArray := prog_14_method_5_code
def yX12_bit : MethodName := ⟨RX12, "bit", "(II)I"⟩
abbrev cX12_image : ByteArray := prog_14_method_6_code
def yX12_image : MethodName := ⟨RX12, "image", "(I)I"⟩
abbrev cX12_back : ByteArray := prog_14_method_7_code
def yX12_back : MethodName := ⟨RX12, "back", "(I)I"⟩
abbrev cX12_isNight : ByteArray := prog_14_method_8_code
def yX12_isNight : MethodName := ⟨RX12, "isNight", "()Z"⟩
abbrev cX12_hours : ByteArray := prog_14_method_9_code
def yX12_hours : MethodName := ⟨RX12, "hours", "()I"⟩
abbrev cX12_pews : ByteArray := prog_14_method_10_code
def yX12_pews : MethodName := ⟨RX12, "pews", "()I"⟩
abbrev cX12_allPews : ByteArray := prog_14_method_11_code
def yX12_allPews : MethodName := ⟨RX12, "allPews", "()I"⟩
abbrev cX12_isHour : ByteArray := prog_14_method_12_code
def yX12_isHour : MethodName := ⟨RX12, "isHour", "(J)Z"⟩
abbrev cX12_isPew : ByteArray := prog_14_method_13_code
def yX12_isPew : MethodName := ⟨RX12, "isPew", "(J)Z"⟩
abbrev cX12_ruleOf : ByteArray := prog_14_method_14_code
def yX12_ruleOf : MethodName := ⟨RX12, "ruleOf", "(II)I"⟩
abbrev cX12_feed : ByteArray := prog_14_method_15_code
def yX12_feed : MethodName := ⟨RX12, "feed", "(IIIII)I"⟩
abbrev cX12_end : ByteArray := prog_14_method_16_code
def yX12_end : MethodName := ⟨RX12, "end", "(I)I"⟩
abbrev cX12_see : ByteArray := prog_14_method_17_code
def yX12_see : MethodName := ⟨RX12, "see", "(I)I"⟩
abbrev cX12_advance : ByteArray := prog_14_method_18_code
def yX12_advance : MethodName := ⟨RX12, "advance", "()V"⟩
abbrev cX12_good : ByteArray := prog_14_method_19_code
def yX12_good : MethodName := ⟨RX12, "good", "()Z"⟩
abbrev cX12_errs : ByteArray := prog_14_method_20_code
def yX12_errs : MethodName := ⟨RX12, "errs", "(I)V"⟩
abbrev cX12_is : ByteArray := prog_14_method_21_code
def yX12_is : MethodName := ⟨RX12, "is", "(Ljava/lang/String;)Z"⟩
abbrev cX12_takes : ByteArray := prog_14_method_22_code
def yX12_takes : MethodName := ⟨RX12, "takes", "(Ljava/lang/String;)Z"⟩
abbrev cX12_expects : ByteArray := prog_14_method_23_code
def yX12_expects : MethodName := ⟨RX12, "expects", "(Ljava/lang/String;)V"⟩
abbrev cX12_number : ByteArray := prog_14_method_24_code
def yX12_number : MethodName := ⟨RX12, "number", "(II)I"⟩
abbrev cX12_toldBy : ByteArray := prog_14_method_25_code
def yX12_toldBy : MethodName := ⟨RX12, "toldBy", "(Ljava/lang/String;II)I"⟩
abbrev cX12_fault : ByteArray := prog_14_method_26_code
def yX12_fault : MethodName := ⟨RX12, "fault", "(I)I"⟩
abbrev cX12_readFirst : ByteArray := prog_14_method_27_code
def yX12_readFirst : MethodName := ⟨RX12, "readFirst", "()V"⟩
abbrev cX12_readPew : ByteArray := prog_14_method_28_code
def yX12_readPew : MethodName := ⟨RX12, "readPew", "()V"⟩
abbrev cX12_isJoined : ByteArray := prog_14_method_29_code
def yX12_isJoined : MethodName := ⟨RX12, "isJoined", "(II)Z"⟩
abbrev cX12_readAisle : ByteArray := prog_14_method_30_code
def yX12_readAisle : MethodName := ⟨RX12, "readAisle", "()V"⟩
abbrev cX12_readLight : ByteArray := prog_14_method_31_code
def yX12_readLight : MethodName := ⟨RX12, "readLight", "()V"⟩
abbrev cX12_readDraught : ByteArray := prog_14_method_32_code
def yX12_readDraught : MethodName := ⟨RX12, "readDraught", "()V"⟩
abbrev cX12_isFull : ByteArray := prog_14_method_33_code
def yX12_isFull : MethodName := ⟨RX12, "isFull", "()Z"⟩
abbrev cX12_readNext : ByteArray := prog_14_method_34_code
def yX12_readNext : MethodName := ⟨RX12, "readNext", "()V"⟩
abbrev cX12_readLine : ByteArray := prog_14_method_35_code
def yX12_readLine : MethodName := ⟨RX12, "readLine", "()V"⟩
abbrev cX12_night : ByteArray := prog_14_method_36_code
def yX12_night : MethodName := ⟨RX12, "night", "()I"⟩
abbrev cX12_pew : ByteArray := prog_14_method_37_code
def yX12_pew : MethodName := ⟨RX12, "pew", "(II)I"⟩
abbrev cX12_longOf : ByteArray := prog_14_method_38_code
def yX12_longOf : MethodName := ⟨RX12, "longOf", "(I)I"⟩
abbrev cX12_letterOf : ByteArray := prog_14_method_39_code
def yX12_letterOf : MethodName := ⟨RX12, "letterOf", "(II)I"⟩
abbrev cX12_letterOrNone : ByteArray := prog_14_method_40_code
def yX12_letterOrNone : MethodName := ⟨RX12, "letterOrNone", "(II)I"⟩
abbrev cX12_changed : ByteArray := prog_14_method_41_code
def yX12_changed : MethodName := ⟨RX12, "changed", "(II)I"⟩
abbrev cX12_told : ByteArray := prog_14_method_42_code
def yX12_told : MethodName := ⟨RX12, "told", "(II)I"⟩
abbrev cX12_nearOf : ByteArray := prog_14_method_43_code
def yX12_nearOf : MethodName := ⟨RX12, "nearOf", "(I)I"⟩
abbrev cX12_near : ByteArray := prog_14_method_44_code
def yX12_near : MethodName := ⟨RX12, "near", "(I)I"⟩
abbrev cX12_far : ByteArray := prog_14_method_45_code
def yX12_far : MethodName := ⟨RX12, "far", "(II)I"⟩
abbrev cX12_asItIs : ByteArray := prog_14_method_46_code
def yX12_asItIs : MethodName := ⟨RX12, "asItIs", "()V"⟩
abbrev cX12_saysOf : ByteArray := prog_14_method_47_code
def yX12_saysOf : MethodName := ⟨RX12, "saysOf", "(II)I"⟩
abbrev cX12_lights : ByteArray := prog_14_method_48_code
def yX12_lights : MethodName := ⟨RX12, "lights", "(III)V"⟩
abbrev cX12_putsOut : ByteArray := prog_14_method_49_code
def yX12_putsOut : MethodName := ⟨RX12, "putsOut", "(II)V"⟩
abbrev cX12_beginNight : ByteArray := prog_14_method_50_code
def yX12_beginNight : MethodName := ⟨RX12, "beginNight", "()V"⟩
abbrev cX12_beginHour : ByteArray := prog_14_method_51_code
def yX12_beginHour : MethodName := ⟨RX12, "beginHour", "(I)V"⟩
abbrev cX12_isBetter : ByteArray := prog_14_method_52_code
def yX12_isBetter : MethodName := ⟨RX12, "isBetter", "(III)Z"⟩
abbrev cX12_heardBy : ByteArray := prog_14_method_53_code
def yX12_heardBy : MethodName := ⟨RX12, "heardBy", "(II)I"⟩
abbrev cX12_goesOn : ByteArray := prog_14_method_54_code
def yX12_goesOn : MethodName := ⟨RX12, "goesOn", "(II)V"⟩
abbrev cX12_goAll : ByteArray := prog_14_method_55_code
def yX12_goAll : MethodName := ⟨RX12, "goAll", "()V"⟩
abbrev cX12_asksNight : ByteArray := prog_14_method_56_code
def yX12_asksNight : MethodName := ⟨RX12, "asksNight", "()Z"⟩
abbrev cX12_asksHour : ByteArray := prog_14_method_57_code
def yX12_asksHour : MethodName := ⟨RX12, "asksHour", "(I)Z"⟩
abbrev cX12_asksPew : ByteArray := prog_14_method_58_code
def yX12_asksPew : MethodName := ⟨RX12, "asksPew", "(I)Z"⟩
abbrev cX12_litAt : ByteArray := prog_14_method_59_code
def yX12_litAt : MethodName := ⟨RX12, "litAt", "(I)I"⟩
abbrev cX12_litLast : ByteArray := prog_14_method_60_code
def yX12_litLast : MethodName := ⟨RX12, "litLast", "()I"⟩
abbrev cX12_lastMany : ByteArray := prog_14_method_61_code
def yX12_lastMany : MethodName := ⟨RX12, "lastMany", "()I"⟩
abbrev cX12_wordsAt : ByteArray := prog_14_method_62_code
def yX12_wordsAt : MethodName := ⟨RX12, "wordsAt", "(I)I"⟩
abbrev cX12_lit : ByteArray := prog_14_method_63_code
def yX12_lit : MethodName := ⟨RX12, "lit", "(I)I"⟩
abbrev cX12_letters : ByteArray := prog_14_method_64_code
def yX12_letters : MethodName := ⟨RX12, "letters", "(II)I"⟩
abbrev cX12_says : ByteArray := prog_14_method_65_code
def yX12_says : MethodName := ⟨RX12, "says", "(III)I"⟩
abbrev cX12_from : ByteArray := prog_14_method_66_code
def yX12_from : MethodName := ⟨RX12, "from", "(II)I"⟩
abbrev cX12_since : ByteArray := prog_14_method_67_code
def yX12_since : MethodName := ⟨RX12, "since", "(II)I"⟩
abbrev cX12_depth : ByteArray := prog_14_method_68_code
def yX12_depth : MethodName := ⟨RX12, "depth", "(II)I"⟩
abbrev cX12_when : ByteArray := prog_14_method_69_code
def yX12_when : MethodName := ⟨RX12, "when", "(I)I"⟩
abbrev cX12_often : ByteArray := prog_14_method_70_code
def yX12_often : MethodName := ⟨RX12, "often", "(I)I"⟩
abbrev cX12_full : ByteArray := prog_14_method_71_code
def yX12_full : MethodName := ⟨RX12, "full", "()I"⟩
abbrev cX12_dark : ByteArray := prog_14_method_72_code
def yX12_dark : MethodName := ⟨RX12, "dark", "()I"⟩
abbrev cX12_turnedAt : ByteArray := prog_14_method_73_code
def yX12_turnedAt : MethodName := ⟨RX12, "turnedAt", "(I)I"⟩
abbrev cX12_turned : ByteArray := prog_14_method_74_code
def yX12_turned : MethodName := ⟨RX12, "turned", "(I)I"⟩
abbrev cX12_still : ByteArray := prog_14_method_75_code
def yX12_still : MethodName := ⟨RX12, "still", "()I"⟩
abbrev cX12_alikeTo : ByteArray := prog_14_method_76_code
def yX12_alikeTo : MethodName := ⟨RX12, "alikeTo", "(II)I"⟩
abbrev cX12_alike : ByteArray := prog_14_method_77_code
def yX12_alike : MethodName := ⟨RX12, "alike", "(II)I"⟩
abbrev cX12_sorts : ByteArray := prog_14_method_78_code
def yX12_sorts : MethodName := ⟨RX12, "sorts", "(I)I"⟩
abbrev cX12_longestBy : ByteArray := prog_14_method_79_code
def yX12_longestBy : MethodName := ⟨RX12, "longestBy", "(II)I"⟩
abbrev cX12_longest : ByteArray := prog_14_method_80_code
def yX12_longest : MethodName := ⟨RX12, "longest", "(I)I"⟩
abbrev cX12_shortest : ByteArray := prog_14_method_81_code
def yX12_shortest : MethodName := ⟨RX12, "shortest", "(I)I"⟩
abbrev cX12_words : ByteArray := prog_14_method_82_code
def yX12_words : MethodName := ⟨RX12, "words", "(I)I"⟩
abbrev cX12_spoken : ByteArray := prog_14_method_83_code
def yX12_spoken : MethodName := ⟨RX12, "spoken", "(II)I"⟩
abbrev cX12_taught : ByteArray := prog_14_method_84_code
def yX12_taught : MethodName := ⟨RX12, "taught", "(I)I"⟩
abbrev cX12_deepest : ByteArray := prog_14_method_85_code
def yX12_deepest : MethodName := ⟨RX12, "deepest", "()I"⟩
abbrev cX12_fresh : ByteArray := prog_14_method_86_code
def yX12_fresh : MethodName := ⟨RX12, "fresh", "(I)I"⟩
abbrev cX12_gone : ByteArray := prog_14_method_87_code
def yX12_gone : MethodName := ⟨RX12, "gone", "(I)I"⟩
abbrev cX12_numberAt : ByteArray := prog_14_method_88_code
def yX12_numberAt : MethodName := ⟨RX12, "numberAt", "(II)J"⟩
abbrev cX12_askRow : ByteArray := prog_14_method_89_code
def yX12_askRow : MethodName := ⟨RX12, "askRow", "(III)I"⟩
abbrev cX12_heardTwice : ByteArray := prog_14_method_90_code
def yX12_heardTwice : MethodName := ⟨RX12, "heardTwice", "(III)I"⟩
abbrev cX12_hears : ByteArray := prog_14_method_91_code
def yX12_hears : MethodName := ⟨RX12, "hears", "(III)I"⟩
abbrev cX12_heard : ByteArray := prog_14_method_92_code
def yX12_heard : MethodName := ⟨RX12, "heard", "(IIII)I"⟩
abbrev cX12_round : ByteArray := prog_14_method_93_code
def yX12_round : MethodName := ⟨RX12, "round", "(III)I"⟩
abbrev cX12_isSaying : ByteArray := prog_14_method_94_code
def yX12_isSaying : MethodName := ⟨RX12, "isSaying", "(I)Z"⟩
abbrev cX12_layFirst : ByteArray := prog_14_method_95_code
def yX12_layFirst : MethodName := ⟨RX12, "layFirst", "(II)V"⟩
abbrev cX12_askFirst : ByteArray := prog_14_method_96_code
def yX12_askFirst : MethodName := ⟨RX12, "askFirst", "(III)I"⟩
abbrev cX12_first : ByteArray := prog_14_method_97_code
def yX12_first : MethodName := ⟨RX12, "first", "(III)I"⟩
abbrev cX12_letter : ByteArray := prog_14_method_98_code
def yX12_letter : MethodName := ⟨RX12, "letter", "(IIII)I"⟩
abbrev cX12_ways : ByteArray := prog_14_method_99_code
def yX12_ways : MethodName := ⟨RX12, "ways", "(III)I"⟩
abbrev cX12_worthOf : ByteArray := prog_14_method_100_code
def yX12_worthOf : MethodName := ⟨RX12, "worthOf", "(I)I"⟩
abbrev cX12_worth : ByteArray := prog_14_method_101_code
def yX12_worth : MethodName := ⟨RX12, "worth", "(I)I"⟩
abbrev cX12_best : ByteArray := prog_14_method_102_code
def yX12_best : MethodName := ⟨RX12, "best", "()I"⟩
abbrev cX12_factorial : ByteArray := prog_14_method_103_code
def yX12_factorial : MethodName := ⟨RX12, "factorial", "(I)I"⟩
abbrev cX12_divisor : ByteArray := prog_14_method_104_code
def yX12_divisor : MethodName := ⟨RX12, "divisor", "(JJ)J"⟩
abbrev cX12_part : ByteArray := prog_14_method_105_code
def yX12_part : MethodName := ⟨RX12, "part", "(JJI)J"⟩
abbrev cX12_share : ByteArray := prog_14_method_106_code
def yX12_share : MethodName := ⟨RX12, "share", "(II)I"⟩
abbrev cX12_fewestOf : ByteArray := prog_14_method_107_code
def yX12_fewestOf : MethodName := ⟨RX12, "fewestOf", "()I"⟩
abbrev cX12_fewest : ByteArray := prog_14_method_108_code
def yX12_fewest : MethodName := ⟨RX12, "fewest", "()I"⟩
abbrev cX12_sets : ByteArray := prog_14_method_109_code
def yX12_sets : MethodName := ⟨RX12, "sets", "()I"⟩
abbrev cX12_gust : ByteArray := prog_14_method_110_code
def yX12_gust : MethodName := ⟨RX12, "gust", "(I)I"⟩
abbrev cX12_guard : ByteArray := prog_14_method_111_code
def yX12_guard : MethodName := ⟨RX12, "guard", "()I"⟩
abbrev cX12_askHeard : ByteArray := prog_14_method_112_code
def yX12_askHeard : MethodName := ⟨RX12, "askHeard", "(I)I"⟩
abbrev cX12_isHeard : ByteArray := prog_14_method_113_code
def yX12_isHeard : MethodName := ⟨RX12, "isHeard", "(I)Z"⟩
abbrev cX12_askWhom : ByteArray := prog_14_method_114_code
def yX12_askWhom : MethodName := ⟨RX12, "askWhom", "(I)I"⟩
abbrev cX12_whomOf : ByteArray := prog_14_method_115_code
def yX12_whomOf : MethodName := ⟨RX12, "whomOf", "(I)I"⟩
abbrev cX12_whom : ByteArray := prog_14_method_116_code
def yX12_whom : MethodName := ⟨RX12, "whom", "(I)I"⟩
abbrev cX12_worstOf : ByteArray := prog_14_method_117_code
def yX12_worstOf : MethodName := ⟨RX12, "worstOf", "(II)I"⟩
abbrev cX12_askOf : ByteArray := prog_14_method_118_code
def yX12_askOf : MethodName := ⟨RX12, "askOf", "(I)I"⟩
abbrev cX12_ask : ByteArray := prog_14_method_119_code
def yX12_ask : MethodName := ⟨RX12, "ask", "(I)I"⟩
abbrev cX12_leaves : ByteArray := prog_14_method_120_code
def yX12_leaves : MethodName := ⟨RX12, "leaves", "(I)I"⟩
abbrev cX12_laws : ByteArray := prog_14_method_121_code
def yX12_laws : MethodName := ⟨RX12, "laws", "(I)I"⟩
abbrev cX12_goBy : ByteArray := prog_14_method_122_code
def yX12_goBy : MethodName := ⟨RX12, "goBy", "(I)V"⟩
abbrev cX12_by : ByteArray := prog_14_method_123_code
def yX12_by : MethodName := ⟨RX12, "by", "(I)I"⟩
abbrev cX12_law : ByteArray := prog_14_method_124_code
def yX12_law : MethodName := ⟨RX12, "law", "()I"⟩
abbrev cX12_litByTurns : ByteArray := prog_14_method_125_code
def yX12_litByTurns : MethodName := ⟨RX12, "litByTurns", "(II)I"⟩
abbrev cX12_repliesTo : ByteArray := prog_14_method_126_code
def yX12_repliesTo : MethodName := ⟨RX12, "repliesTo", "(I)I"⟩
abbrev cX12_opensOf : ByteArray := prog_14_method_127_code
def yX12_opensOf : MethodName := ⟨RX12, "opensOf", "()I"⟩
abbrev cX12_rector : ByteArray := prog_14_method_128_code
def yX12_rector : MethodName := ⟨RX12, "rector", "()I"⟩
abbrev cX12_opens : ByteArray := prog_14_method_129_code
def yX12_opens : MethodName := ⟨RX12, "opens", "()I"⟩
abbrev cX12_replies : ByteArray := prog_14_method_130_code
def yX12_replies : MethodName := ⟨RX12, "replies", "(I)I"⟩
abbrev cX12_getsBy : ByteArray := prog_14_method_131_code
def yX12_getsBy : MethodName := ⟨RX12, "getsBy", "(IIIII)I"⟩
abbrev cX12_areTwo : ByteArray := prog_14_method_132_code
def yX12_areTwo : MethodName := ⟨RX12, "areTwo", "(II)Z"⟩
abbrev cX12_rests : ByteArray := prog_14_method_133_code
def yX12_rests : MethodName := ⟨RX12, "rests", "(II)I"⟩
abbrev cX12_gets : ByteArray := prog_14_method_134_code
def yX12_gets : MethodName := ⟨RX12, "gets", "(IIII)I"⟩
abbrev cX12_laySilence : ByteArray := prog_14_method_135_code
def yX12_laySilence : MethodName := ⟨RX12, "laySilence", "(II)V"⟩
abbrev cX12_isSilence : ByteArray := prog_14_method_136_code
def yX12_isSilence : MethodName := ⟨RX12, "isSilence", "(II)Z"⟩
abbrev cX12_chance : ByteArray := prog_14_method_137_code
def yX12_chance : MethodName := ⟨RX12, "chance", "(III)J"⟩
abbrev cX12_mean : ByteArray := prog_14_method_138_code
def yX12_mean : MethodName := ⟨RX12, "mean", "(II)J"⟩
abbrev cX12_keepAct : ByteArray := prog_14_method_139_code
def yX12_keepAct : MethodName := ⟨RX12, "keepAct", "(I)I"⟩
abbrev cX12_light : ByteArray := prog_14_method_140_code
def yX12_light : MethodName := ⟨RX12, "light", "(III)I"⟩
abbrev cX12_draught : ByteArray := prog_14_method_141_code
def yX12_draught : MethodName := ⟨RX12, "draught", "(II)I"⟩
abbrev cX12_undo : ByteArray := prog_14_method_142_code
def yX12_undo : MethodName := ⟨RX12, "undo", "()I"⟩
abbrev cX12_anew : ByteArray := prog_14_method_143_code
def yX12_anew : MethodName := ⟨RX12, "anew", "()I"⟩
abbrev cX12_goDrawn : ByteArray := prog_14_method_144_code
def yX12_goDrawn : MethodName := ⟨RX12, "goDrawn", "(J)V"⟩
abbrev cX12_isSeed : ByteArray := prog_14_method_145_code
def yX12_isSeed : MethodName := ⟨RX12, "isSeed", "(I)Z"⟩
abbrev cX12_drawn : ByteArray := prog_14_method_146_code
def yX12_drawn : MethodName := ⟨RX12, "drawn", "(II)I"⟩
abbrev cX12_luck : ByteArray := prog_14_method_147_code
def yX12_luck : MethodName := ⟨RX12, "luck", "(III)I"⟩
abbrev cX12_hushes : ByteArray := prog_14_method_148_code
def yX12_hushes : MethodName := ⟨RX12, "hushes", "(I)I"⟩
abbrev cX12_count : ByteArray := prog_14_method_149_code
def yX12_count : MethodName := ⟨RX12, "count", "(I)I"⟩
abbrev cX12_isSlot : ByteArray := prog_14_method_150_code
def yX12_isSlot : MethodName := ⟨RX12, "isSlot", "(I)Z"⟩
abbrev cX12_clipped : ByteArray := prog_14_method_151_code
def yX12_clipped : MethodName := ⟨RX12, "clipped", "(JI)J"⟩
abbrev cX12_row : ByteArray := prog_14_method_152_code
def yX12_row : MethodName := ⟨RX12, "row", "(III)I"⟩
abbrev cX12_write : ByteArray := prog_14_method_153_code
def yX12_write : MethodName := ⟨RX12, "write", "(IIJ)I"⟩
abbrev cX12_paste : ByteArray := prog_14_method_154_code
def yX12_paste : MethodName := ⟨RX12, "paste", "(IIIII)I"⟩
def RJ6 : String := "java/lang/Integer"
def TJ6 : u_T := fun k => match k with
  | _ => ("", "", "", false)
def tyJ6 : Nat → FieldType := fun k => match k with
  | _ => .int
abbrev wsJ60 : List Cond := u_ws RJ6 TJ6 0
theorem nmJ6 : ∀ a, a < 0 → ∀ b, b < 0 → a ≠ b → (TJ6 a).2.1 ≠ (TJ6 b).2.1 := by decide +kernel
theorem tyJ6_ok : ∀ k, k < 0 → parseFieldDescriptor (TJ6 k).2.2.1 = some (tyJ6 k) := by decide +kernel
abbrev cJ6_bitCount_0f7a4 : ByteArray := prog_15_method_49_code
def yJ6_bitCount_0f7a4 : MethodName := ⟨RJ6, "bitCount", "(I)I"⟩
def RJ9 : String := "java/lang/Math"
def TJ9 : u_T := fun k => match k with
  | _ => ("", "", "", false)
def tyJ9 : Nat → FieldType := fun k => match k with
  | _ => .int
abbrev wsJ90 : List Cond := u_ws RJ9 TJ9 0
theorem nmJ9 : ∀ a, a < 0 → ∀ b, b < 0 → a ≠ b → (TJ9 a).2.1 ≠ (TJ9 b).2.1 := by decide +kernel
theorem tyJ9_ok : ∀ k, k < 0 → parseFieldDescriptor (TJ9 k).2.2.1 = some (tyJ9 k) := by decide +kernel
abbrev cJ9_abs_067f4 : ByteArray := prog_16_method_61_code
def yJ9_abs_067f4 : MethodName := ⟨RJ9, "abs", "(J)J"⟩
abbrev cJ9_max_7cf53 : ByteArray := prog_16_method_65_code
def yJ9_max_7cf53 : MethodName := ⟨RJ9, "max", "(II)I"⟩
abbrev cJ9_min_7cf53 : ByteArray := prog_16_method_69_code
def yJ9_min_7cf53 : MethodName := ⟨RJ9, "min", "(II)I"⟩
def RJ0 : String := "java/lang/String"
def TJ0 : u_T := fun k => match k with
  | _ => ("", "", "", false)
def tyJ0 : Nat → FieldType := fun k => match k with
  | _ => .int
abbrev wsJ00 : List Cond := u_ws RJ0 TJ0 0
theorem nmJ0 : ∀ a, a < 0 → ∀ b, b < 0 → a ≠ b → (TJ0 a).2.1 ≠ (TJ0 b).2.1 := by decide +kernel
theorem tyJ0_ok : ∀ k, k < 0 → parseFieldDescriptor (TJ0 k).2.2.1 = some (tyJ0 k) := by decide +kernel
abbrev cJ0_length_8abf5 : ByteArray := prog_17_method_54_code
def yJ0_length_8abf5 : MethodName := ⟨RJ0, "length", "()I"⟩
abbrev cJ0_charAt_5068e : ByteArray := prog_17_method_56_code
def yJ0_charAt_5068e : MethodName := ⟨RJ0, "charAt", "(I)C"⟩
abbrev cJ0_coder_7d493 : ByteArray := prog_17_method_152_code
def yJ0_coder_7d493 : MethodName := ⟨RJ0, "coder", "()B"⟩
abbrev cJ0_isLatin1_aae02 : ByteArray := prog_17_method_154_code
def yJ0_isLatin1_aae02 : MethodName := ⟨RJ0, "isLatin1", "()Z"⟩
abbrev cJ0_checkIndex_df160 : ByteArray := prog_17_method_155_code
def yJ0_checkIndex_df160 : MethodName := ⟨RJ0, "checkIndex", "(II)V"⟩
def RJ1 : String := "java/lang/StringLatin1"
def TJ1 : u_T := fun k => match k with
  | _ => ("", "", "", false)
def tyJ1 : Nat → FieldType := fun k => match k with
  | _ => .int
abbrev wsJ10 : List Cond := u_ws RJ1 TJ1 0
theorem nmJ1 : ∀ a, a < 0 → ∀ b, b < 0 → a ≠ b → (TJ1 a).2.1 ≠ (TJ1 b).2.1 := by decide +kernel
theorem tyJ1_ok : ∀ k, k < 0 → parseFieldDescriptor (TJ1 k).2.2.1 = some (tyJ1 k) := by decide +kernel
abbrev cJ1_charAt_3b067 : ByteArray := prog_18_method_2_code
def yJ1_charAt_3b067 : MethodName := ⟨RJ1, "charAt", "([BI)C"⟩
def RJ2 : String := "java/lang/StringUTF16"
def TJ2 : u_T := fun k => match k with
  | _ => ("", "", "", false)
def tyJ2 : Nat → FieldType := fun k => match k with
  | _ => .int
abbrev wsJ20 : List Cond := u_ws RJ2 TJ2 0
theorem nmJ2 : ∀ a, a < 0 → ∀ b, b < 0 → a ≠ b → (TJ2 a).2.1 ≠ (TJ2 b).2.1 := by decide +kernel
theorem tyJ2_ok : ∀ k, k < 0 → parseFieldDescriptor (TJ2 k).2.2.1 = some (tyJ2 k) := by decide +kernel
abbrev cJ2_getChar_3b067 : ByteArray := prog_19_method_5_code
def yJ2_getChar_3b067 : MethodName := ⟨RJ2, "getChar", "([BI)C"⟩
abbrev cJ2_length_9d52b : ByteArray := prog_19_method_6_code
def yJ2_length_9d52b : MethodName := ⟨RJ2, "length", "([B)I"⟩
abbrev cJ2_charAt_3b067 : ByteArray := prog_19_method_83_code
def yJ2_charAt_3b067 : MethodName := ⟨RJ2, "charAt", "([BI)C"⟩
abbrev cJ2_checkIndex_2214a : ByteArray := prog_19_method_91_code
def yJ2_checkIndex_2214a : MethodName := ⟨RJ2, "checkIndex", "(I[B)V"⟩
def RJ10 : String := "java/lang/System"
def TJ10 : u_T := fun k => match k with
  | _ => ("", "", "", false)
def tyJ10 : Nat → FieldType := fun k => match k with
  | _ => .int
abbrev wsJ100 : List Cond := u_ws RJ10 TJ10 0
theorem nmJ10 : ∀ a, a < 0 → ∀ b, b < 0 → a ≠ b → (TJ10 a).2.1 ≠ (TJ10 b).2.1 := by decide +kernel
theorem tyJ10_ok : ∀ k, k < 0 → parseFieldDescriptor (TJ10 k).2.2.1 = some (tyJ10 k) := by decide +kernel
def RJ3 : String := "jdk/internal/util/Preconditions"
def TJ3 : u_T := fun k => match k with
  | _ => ("", "", "", false)
def tyJ3 : Nat → FieldType := fun k => match k with
  | _ => .int
abbrev wsJ30 : List Cond := u_ws RJ3 TJ3 0
theorem nmJ3 : ∀ a, a < 0 → ∀ b, b < 0 → a ≠ b → (TJ3 a).2.1 ≠ (TJ3 b).2.1 := by decide +kernel
theorem tyJ3_ok : ∀ k, k < 0 → parseFieldDescriptor (TJ3 k).2.2.1 = some (tyJ3 k) := by decide +kernel
abbrev cJ3_checkIndex_8e157 : ByteArray := prog_21_method_11_code
def yJ3_checkIndex_8e157 : MethodName := ⟨RJ3, "checkIndex", "(IILjava/util/function/BiFunction;)I"⟩
def RL : String := "TaperTalkLaw"
abbrev cL_law : ByteArray := code
def yL_law : MethodName := ⟨RL, "law", "([I)Z"⟩
