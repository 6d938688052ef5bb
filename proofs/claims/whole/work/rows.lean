section
-- ===== PART A: goes FIRST, ahead of the names: the tables' words, and 'selects' of the private methods out of them =====
/-- a private method of a class that the tables say can be made, by its rows of tables_1 -/
def lw_okq (q : MethodName × Nat) : Prop := (q.1.cls ≠ "java/lang/invoke/MethodHandle" ∧ q.1.cls ≠ "java/lang/invoke/VarHandle") ∧ Cond.instantiable q.1.cls q.2 ∈ tables_1 ∧ Cond.privateMethod q.1 ∈ tables_1 ∧ Cond.instanceMethod q.1 ∈ tables_1
theorem lw_p0 : lw_okq (⟨"KingsYear", "scriptOf", "(I)LKingsYear$Script;"⟩, 14) := ⟨⟨by decide +kernel, by decide +kernel⟩, List.mem_of_getElem? (i := 17) (by decide +kernel), List.mem_of_getElem? (i := 337) (by decide +kernel), List.mem_of_getElem? (i := 338) (by decide +kernel)⟩
theorem lw_p1 : lw_okq (⟨"KingsYear", "refresh", "()V"⟩, 14) := ⟨⟨by decide +kernel, by decide +kernel⟩, List.mem_of_getElem? (i := 17) (by decide +kernel), List.mem_of_getElem? (i := 365) (by decide +kernel), List.mem_of_getElem? (i := 366) (by decide +kernel)⟩
theorem lw_p2 : lw_okq (⟨"KingsYear$Code", "layLaw", "(I)V"⟩, 14) := ⟨⟨by decide +kernel, by decide +kernel⟩, List.mem_of_getElem? (i := 72) (by decide +kernel), List.mem_of_getElem? (i := 383) (by decide +kernel), List.mem_of_getElem? (i := 384) (by decide +kernel)⟩
theorem lw_p3 : lw_okq (⟨"KingsYear$Code", "chainOf", "(I)I"⟩, 14) := ⟨⟨by decide +kernel, by decide +kernel⟩, List.mem_of_getElem? (i := 72) (by decide +kernel), List.mem_of_getElem? (i := 387) (by decide +kernel), List.mem_of_getElem? (i := 388) (by decide +kernel)⟩
theorem lw_p4 : lw_okq (⟨"KingsYear$Code", "rivalsOf", "(I)I"⟩, 14) := ⟨⟨by decide +kernel, by decide +kernel⟩, List.mem_of_getElem? (i := 72) (by decide +kernel), List.mem_of_getElem? (i := 391) (by decide +kernel), List.mem_of_getElem? (i := 392) (by decide +kernel)⟩
theorem lw_p5 : lw_okq (⟨"KingsYear", "tell", "(LKingsYear$Log;II)I"⟩, 14) := ⟨⟨by decide +kernel, by decide +kernel⟩, List.mem_of_getElem? (i := 17) (by decide +kernel), List.mem_of_getElem? (i := 412) (by decide +kernel), List.mem_of_getElem? (i := 413) (by decide +kernel)⟩
theorem lw_p6 : lw_okq (⟨"KingsYear$Reign", "begin", "()V"⟩, 3) := ⟨⟨by decide +kernel, by decide +kernel⟩, List.mem_of_getElem? (i := 143) (by decide +kernel), List.mem_of_getElem? (i := 428) (by decide +kernel), List.mem_of_getElem? (i := 429) (by decide +kernel)⟩
theorem lw_p7 : lw_okq (⟨"KingsYear$Reign", "lasting", "(I)I"⟩, 3) := ⟨⟨by decide +kernel, by decide +kernel⟩, List.mem_of_getElem? (i := 143) (by decide +kernel), List.mem_of_getElem? (i := 456) (by decide +kernel), List.mem_of_getElem? (i := 457) (by decide +kernel)⟩
theorem lw_p8 : lw_okq (⟨"KingsYear$Reign", "triedBetween", "(II)I"⟩, 3) := ⟨⟨by decide +kernel, by decide +kernel⟩, List.mem_of_getElem? (i := 143) (by decide +kernel), List.mem_of_getElem? (i := 460) (by decide +kernel), List.mem_of_getElem? (i := 461) (by decide +kernel)⟩
theorem lw_p9 : lw_okq (⟨"KingsYear", "kingsLaws", "(I)I"⟩, 14) := ⟨⟨by decide +kernel, by decide +kernel⟩, List.mem_of_getElem? (i := 17) (by decide +kernel), List.mem_of_getElem? (i := 484) (by decide +kernel), List.mem_of_getElem? (i := 485) (by decide +kernel)⟩
theorem lw_p10 : lw_okq (⟨"KingsYear$Keeper", "choose", "(LKingsYear$Code;III)V"⟩, 3) := ⟨⟨by decide +kernel, by decide +kernel⟩, List.mem_of_getElem? (i := 162) (by decide +kernel), List.mem_of_getElem? (i := 551) (by decide +kernel), List.mem_of_getElem? (i := 552) (by decide +kernel)⟩
theorem lw_p11 : lw_okq (⟨"KingsYear$Keeper", "weigh", "(II)V"⟩, 3) := ⟨⟨by decide +kernel, by decide +kernel⟩, List.mem_of_getElem? (i := 162) (by decide +kernel), List.mem_of_getElem? (i := 557) (by decide +kernel), List.mem_of_getElem? (i := 558) (by decide +kernel)⟩
theorem lw_p12 : lw_okq (⟨"KingsYear$Orderer", "tryNext", "(LKingsYear$Code;LKingsYear$Reign;LKingsYear$Log;IIII)V"⟩, 3) := ⟨⟨by decide +kernel, by decide +kernel⟩, List.mem_of_getElem? (i := 180) (by decide +kernel), List.mem_of_getElem? (i := 575) (by decide +kernel), List.mem_of_getElem? (i := 576) (by decide +kernel)⟩
theorem lw_p13 : lw_okq (⟨"KingsYear", "find", "(I)I"⟩, 14) := ⟨⟨by decide +kernel, by decide +kernel⟩, List.mem_of_getElem? (i := 17) (by decide +kernel), List.mem_of_getElem? (i := 614) (by decide +kernel), List.mem_of_getElem? (i := 615) (by decide +kernel)⟩
theorem lw_p14 : lw_okq (⟨"KingsYear$Inquiry", "comesOut", "(LKingsYear$Code;I)Z"⟩, 10) := ⟨⟨by decide +kernel, by decide +kernel⟩, List.mem_of_getElem? (i := 198) (by decide +kernel), List.mem_of_getElem? (i := 629) (by decide +kernel), List.mem_of_getElem? (i := 630) (by decide +kernel)⟩
theorem lw_p15 : lw_okq (⟨"KingsYear$Inquiry", "mostAlike", "(LKingsYear$Code;I)I"⟩, 10) := ⟨⟨by decide +kernel, by decide +kernel⟩, List.mem_of_getElem? (i := 198) (by decide +kernel), List.mem_of_getElem? (i := 650) (by decide +kernel), List.mem_of_getElem? (i := 651) (by decide +kernel)⟩
def lw_privs_1 : List (MethodName × Nat) := [(⟨"KingsYear", "scriptOf", "(I)LKingsYear$Script;"⟩, 14), (⟨"KingsYear", "refresh", "()V"⟩, 14), (⟨"KingsYear$Code", "layLaw", "(I)V"⟩, 14), (⟨"KingsYear$Code", "chainOf", "(I)I"⟩, 14), (⟨"KingsYear$Code", "rivalsOf", "(I)I"⟩, 14), (⟨"KingsYear", "tell", "(LKingsYear$Log;II)I"⟩, 14), (⟨"KingsYear$Reign", "begin", "()V"⟩, 3), (⟨"KingsYear$Reign", "lasting", "(I)I"⟩, 3), (⟨"KingsYear$Reign", "triedBetween", "(II)I"⟩, 3), (⟨"KingsYear", "kingsLaws", "(I)I"⟩, 14), (⟨"KingsYear$Keeper", "choose", "(LKingsYear$Code;III)V"⟩, 3), (⟨"KingsYear$Keeper", "weigh", "(II)V"⟩, 3), (⟨"KingsYear$Orderer", "tryNext", "(LKingsYear$Code;LKingsYear$Reign;LKingsYear$Log;IIII)V"⟩, 3), (⟨"KingsYear", "find", "(I)I"⟩, 14), (⟨"KingsYear$Inquiry", "comesOut", "(LKingsYear$Code;I)Z"⟩, 10), (⟨"KingsYear$Inquiry", "mostAlike", "(LKingsYear$Code;I)I"⟩, 10)]
theorem lw_r1 : ∀ q ∈ lw_privs_1, lw_okq q := List.forall_mem_cons.mpr ⟨lw_p0, List.forall_mem_cons.mpr ⟨lw_p1, List.forall_mem_cons.mpr ⟨lw_p2, List.forall_mem_cons.mpr ⟨lw_p3, List.forall_mem_cons.mpr ⟨lw_p4, List.forall_mem_cons.mpr ⟨lw_p5, List.forall_mem_cons.mpr ⟨lw_p6, List.forall_mem_cons.mpr ⟨lw_p7, List.forall_mem_cons.mpr ⟨lw_p8, List.forall_mem_cons.mpr ⟨lw_p9, List.forall_mem_cons.mpr ⟨lw_p10, List.forall_mem_cons.mpr ⟨lw_p11, List.forall_mem_cons.mpr ⟨lw_p12, List.forall_mem_cons.mpr ⟨lw_p13, List.forall_mem_cons.mpr ⟨lw_p14, List.forall_mem_cons.mpr ⟨lw_p15, fun _ h => absurd h List.not_mem_nil⟩⟩⟩⟩⟩⟩⟩⟩⟩⟩⟩⟩⟩⟩⟩⟩
theorem lw_p16 : lw_okq (⟨"KingsYear$Gout", "layPowers", "(I)V"⟩, 6) := ⟨⟨by decide +kernel, by decide +kernel⟩, List.mem_of_getElem? (i := 239) (by decide +kernel), List.mem_of_getElem? (i := 672) (by decide +kernel), List.mem_of_getElem? (i := 673) (by decide +kernel)⟩
theorem lw_p17 : lw_okq (⟨"KingsYear$Gout", "waysTo", "(LKingsYear$Code;II)J"⟩, 6) := ⟨⟨by decide +kernel, by decide +kernel⟩, List.mem_of_getElem? (i := 239) (by decide +kernel), List.mem_of_getElem? (i := 689) (by decide +kernel), List.mem_of_getElem? (i := 690) (by decide +kernel)⟩
theorem lw_p18 : lw_okq (⟨"KingsYear$Gout", "waysLiked", "(LKingsYear$Code;II)J"⟩, 6) := ⟨⟨by decide +kernel, by decide +kernel⟩, List.mem_of_getElem? (i := 239) (by decide +kernel), List.mem_of_getElem? (i := 693) (by decide +kernel), List.mem_of_getElem? (i := 694) (by decide +kernel)⟩
theorem lw_p19 : lw_okq (⟨"KingsYear$Gout", "some", "(I)J"⟩, 6) := ⟨⟨by decide +kernel, by decide +kernel⟩, List.mem_of_getElem? (i := 239) (by decide +kernel), List.mem_of_getElem? (i := 701) (by decide +kernel), List.mem_of_getElem? (i := 702) (by decide +kernel)⟩
theorem lw_p20 : lw_okq (⟨"KingsYear$Gout", "waysOrdered", "(I)J"⟩, 6) := ⟨⟨by decide +kernel, by decide +kernel⟩, List.mem_of_getElem? (i := 239) (by decide +kernel), List.mem_of_getElem? (i := 705) (by decide +kernel), List.mem_of_getElem? (i := 706) (by decide +kernel)⟩
theorem lw_p21 : lw_okq (⟨"KingsYear$Gout", "lower", "()V"⟩, 6) := ⟨⟨by decide +kernel, by decide +kernel⟩, List.mem_of_getElem? (i := 239) (by decide +kernel), List.mem_of_getElem? (i := 709) (by decide +kernel), List.mem_of_getElem? (i := 710) (by decide +kernel)⟩
theorem lw_p22 : lw_okq (⟨"KingsYear$Reign", "lot", "(I)I"⟩, 3) := ⟨⟨by decide +kernel, by decide +kernel⟩, List.mem_of_getElem? (i := 143) (by decide +kernel), List.mem_of_getElem? (i := 722) (by decide +kernel), List.mem_of_getElem? (i := 723) (by decide +kernel)⟩
theorem lw_p23 : lw_okq (⟨"KingsYear", "refusalOfItem", "(III)I"⟩, 14) := ⟨⟨by decide +kernel, by decide +kernel⟩, List.mem_of_getElem? (i := 17) (by decide +kernel), List.mem_of_getElem? (i := 744) (by decide +kernel), List.mem_of_getElem? (i := 745) (by decide +kernel)⟩
theorem lw_p24 : lw_okq (⟨"KingsYear", "withTexts", "(J)J"⟩, 14) := ⟨⟨by decide +kernel, by decide +kernel⟩, List.mem_of_getElem? (i := 17) (by decide +kernel), List.mem_of_getElem? (i := 782) (by decide +kernel), List.mem_of_getElem? (i := 783) (by decide +kernel)⟩
theorem lw_p25 : lw_okq (⟨"KingsYear", "withYear", "(JI)J"⟩, 14) := ⟨⟨by decide +kernel, by decide +kernel⟩, List.mem_of_getElem? (i := 17) (by decide +kernel), List.mem_of_getElem? (i := 791) (by decide +kernel), List.mem_of_getElem? (i := 792) (by decide +kernel)⟩
theorem lw_p26 : lw_okq (⟨"KingsYearModel", "finds", "(I)I"⟩, 25) := ⟨⟨by decide +kernel, by decide +kernel⟩, List.mem_of_getElem? (i := 808) (by decide +kernel), List.mem_of_getElem? (i := 902) (by decide +kernel), List.mem_of_getElem? (i := 903) (by decide +kernel)⟩
theorem lw_p27 : lw_okq (⟨"KingsYearModel", "lacks", "(III)I"⟩, 25) := ⟨⟨by decide +kernel, by decide +kernel⟩, List.mem_of_getElem? (i := 808) (by decide +kernel), List.mem_of_getElem? (i := 914) (by decide +kernel), List.mem_of_getElem? (i := 915) (by decide +kernel)⟩
theorem lw_p28 : lw_okq (⟨"KingsYearModel", "readsText", "(I)I"⟩, 25) := ⟨⟨by decide +kernel, by decide +kernel⟩, List.mem_of_getElem? (i := 808) (by decide +kernel), List.mem_of_getElem? (i := 950) (by decide +kernel), List.mem_of_getElem? (i := 951) (by decide +kernel)⟩
theorem lw_p29 : lw_okq (⟨"KingsYearModel", "readsThing", "(I)Z"⟩, 25) := ⟨⟨by decide +kernel, by decide +kernel⟩, List.mem_of_getElem? (i := 808) (by decide +kernel), List.mem_of_getElem? (i := 954) (by decide +kernel), List.mem_of_getElem? (i := 955) (by decide +kernel)⟩
theorem lw_p30 : lw_okq (⟨"KingsYearModel", "here", "(I)I"⟩, 25) := ⟨⟨by decide +kernel, by decide +kernel⟩, List.mem_of_getElem? (i := 808) (by decide +kernel), List.mem_of_getElem? (i := 958) (by decide +kernel), List.mem_of_getElem? (i := 959) (by decide +kernel)⟩
theorem lw_p31 : lw_okq (⟨"KingsYearModel", "reads", "()V"⟩, 25) := ⟨⟨by decide +kernel, by decide +kernel⟩, List.mem_of_getElem? (i := 808) (by decide +kernel), List.mem_of_getElem? (i := 972) (by decide +kernel), List.mem_of_getElem? (i := 973) (by decide +kernel)⟩
def lw_privs_2 : List (MethodName × Nat) := [(⟨"KingsYear$Gout", "layPowers", "(I)V"⟩, 6), (⟨"KingsYear$Gout", "waysTo", "(LKingsYear$Code;II)J"⟩, 6), (⟨"KingsYear$Gout", "waysLiked", "(LKingsYear$Code;II)J"⟩, 6), (⟨"KingsYear$Gout", "some", "(I)J"⟩, 6), (⟨"KingsYear$Gout", "waysOrdered", "(I)J"⟩, 6), (⟨"KingsYear$Gout", "lower", "()V"⟩, 6), (⟨"KingsYear$Reign", "lot", "(I)I"⟩, 3), (⟨"KingsYear", "refusalOfItem", "(III)I"⟩, 14), (⟨"KingsYear", "withTexts", "(J)J"⟩, 14), (⟨"KingsYear", "withYear", "(JI)J"⟩, 14), (⟨"KingsYearModel", "finds", "(I)I"⟩, 25), (⟨"KingsYearModel", "lacks", "(III)I"⟩, 25), (⟨"KingsYearModel", "readsText", "(I)I"⟩, 25), (⟨"KingsYearModel", "readsThing", "(I)Z"⟩, 25), (⟨"KingsYearModel", "here", "(I)I"⟩, 25), (⟨"KingsYearModel", "reads", "()V"⟩, 25)]
theorem lw_r2 : ∀ q ∈ lw_privs_2, lw_okq q := List.forall_mem_cons.mpr ⟨lw_p16, List.forall_mem_cons.mpr ⟨lw_p17, List.forall_mem_cons.mpr ⟨lw_p18, List.forall_mem_cons.mpr ⟨lw_p19, List.forall_mem_cons.mpr ⟨lw_p20, List.forall_mem_cons.mpr ⟨lw_p21, List.forall_mem_cons.mpr ⟨lw_p22, List.forall_mem_cons.mpr ⟨lw_p23, List.forall_mem_cons.mpr ⟨lw_p24, List.forall_mem_cons.mpr ⟨lw_p25, List.forall_mem_cons.mpr ⟨lw_p26, List.forall_mem_cons.mpr ⟨lw_p27, List.forall_mem_cons.mpr ⟨lw_p28, List.forall_mem_cons.mpr ⟨lw_p29, List.forall_mem_cons.mpr ⟨lw_p30, List.forall_mem_cons.mpr ⟨lw_p31, fun _ h => absurd h List.not_mem_nil⟩⟩⟩⟩⟩⟩⟩⟩⟩⟩⟩⟩⟩⟩⟩⟩
theorem lw_p32 : lw_okq (⟨"KingsYearModel", "isLaw", "(I)Z"⟩, 25) := ⟨⟨by decide +kernel, by decide +kernel⟩, List.mem_of_getElem? (i := 808) (by decide +kernel), List.mem_of_getElem? (i := 976) (by decide +kernel), List.mem_of_getElem? (i := 977) (by decide +kernel)⟩
theorem lw_p33 : lw_okq (⟨"KingsYearModel", "find", "()V"⟩, 25) := ⟨⟨by decide +kernel, by decide +kernel⟩, List.mem_of_getElem? (i := 808) (by decide +kernel), List.mem_of_getElem? (i := 1006) (by decide +kernel), List.mem_of_getElem? (i := 1007) (by decide +kernel)⟩
theorem lw_p34 : lw_okq (⟨"KingsYearModel", "breaks", "(I)V"⟩, 25) := ⟨⟨by decide +kernel, by decide +kernel⟩, List.mem_of_getElem? (i := 808) (by decide +kernel), List.mem_of_getElem? (i := 1010) (by decide +kernel), List.mem_of_getElem? (i := 1011) (by decide +kernel)⟩
theorem lw_p35 : lw_okq (⟨"KingsYearModel", "bindsOf", "(II)I"⟩, 25) := ⟨⟨by decide +kernel, by decide +kernel⟩, List.mem_of_getElem? (i := 808) (by decide +kernel), List.mem_of_getElem? (i := 1014) (by decide +kernel), List.mem_of_getElem? (i := 1015) (by decide +kernel)⟩
theorem lw_p36 : lw_okq (⟨"KingsYearModel", "bindsOne", "(III)Z"⟩, 25) := ⟨⟨by decide +kernel, by decide +kernel⟩, List.mem_of_getElem? (i := 808) (by decide +kernel), List.mem_of_getElem? (i := 1018) (by decide +kernel), List.mem_of_getElem? (i := 1019) (by decide +kernel)⟩
theorem lw_p37 : lw_okq (⟨"KingsYearModel", "bindsAlone", "(III)Z"⟩, 25) := ⟨⟨by decide +kernel, by decide +kernel⟩, List.mem_of_getElem? (i := 808) (by decide +kernel), List.mem_of_getElem? (i := 1022) (by decide +kernel), List.mem_of_getElem? (i := 1023) (by decide +kernel)⟩
theorem lw_p38 : lw_okq (⟨"KingsYearModel", "doesBy", "(II)I"⟩, 25) := ⟨⟨by decide +kernel, by decide +kernel⟩, List.mem_of_getElem? (i := 808) (by decide +kernel), List.mem_of_getElem? (i := 1034) (by decide +kernel), List.mem_of_getElem? (i := 1035) (by decide +kernel)⟩
theorem lw_p39 : lw_okq (⟨"KingsYearModel", "covers", "(II)Z"⟩, 25) := ⟨⟨by decide +kernel, by decide +kernel⟩, List.mem_of_getElem? (i := 808) (by decide +kernel), List.mem_of_getElem? (i := 1041) (by decide +kernel), List.mem_of_getElem? (i := 1042) (by decide +kernel)⟩
theorem lw_p40 : lw_okq (⟨"KingsYearModel", "likes", "(II)I"⟩, 25) := ⟨⟨by decide +kernel, by decide +kernel⟩, List.mem_of_getElem? (i := 808) (by decide +kernel), List.mem_of_getElem? (i := 1048) (by decide +kernel), List.mem_of_getElem? (i := 1049) (by decide +kernel)⟩
theorem lw_p41 : lw_okq (⟨"KingsYearModel", "joyOf", "(II)I"⟩, 25) := ⟨⟨by decide +kernel, by decide +kernel⟩, List.mem_of_getElem? (i := 808) (by decide +kernel), List.mem_of_getElem? (i := 1056) (by decide +kernel), List.mem_of_getElem? (i := 1057) (by decide +kernel)⟩
theorem lw_p42 : lw_okq (⟨"KingsYearModel", "joyBy", "(I)I"⟩, 25) := ⟨⟨by decide +kernel, by decide +kernel⟩, List.mem_of_getElem? (i := 808) (by decide +kernel), List.mem_of_getElem? (i := 1060) (by decide +kernel), List.mem_of_getElem? (i := 1061) (by decide +kernel)⟩
theorem lw_p43 : lw_okq (⟨"KingsYearModel", "clashBy", "(I)I"⟩, 25) := ⟨⟨by decide +kernel, by decide +kernel⟩, List.mem_of_getElem? (i := 808) (by decide +kernel), List.mem_of_getElem? (i := 1065) (by decide +kernel), List.mem_of_getElem? (i := 1066) (by decide +kernel)⟩
theorem lw_p44 : lw_okq (⟨"KingsYearModel", "quarrelsOf", "(II)I"⟩, 25) := ⟨⟨by decide +kernel, by decide +kernel⟩, List.mem_of_getElem? (i := 808) (by decide +kernel), List.mem_of_getElem? (i := 1073) (by decide +kernel), List.mem_of_getElem? (i := 1074) (by decide +kernel)⟩
theorem lw_p45 : lw_okq (⟨"KingsYearModel", "exemptOf", "(III)I"⟩, 25) := ⟨⟨by decide +kernel, by decide +kernel⟩, List.mem_of_getElem? (i := 808) (by decide +kernel), List.mem_of_getElem? (i := 1082) (by decide +kernel), List.mem_of_getElem? (i := 1083) (by decide +kernel)⟩
theorem lw_p46 : lw_okq (⟨"KingsYearModel", "keepOf", "(I)I"⟩, 25) := ⟨⟨by decide +kernel, by decide +kernel⟩, List.mem_of_getElem? (i := 808) (by decide +kernel), List.mem_of_getElem? (i := 1093) (by decide +kernel), List.mem_of_getElem? (i := 1094) (by decide +kernel)⟩
theorem lw_p47 : lw_okq (⟨"KingsYearModel", "orderOf", "(III)I"⟩, 25) := ⟨⟨by decide +kernel, by decide +kernel⟩, List.mem_of_getElem? (i := 808) (by decide +kernel), List.mem_of_getElem? (i := 1101) (by decide +kernel), List.mem_of_getElem? (i := 1102) (by decide +kernel)⟩
def lw_privs_3 : List (MethodName × Nat) := [(⟨"KingsYearModel", "isLaw", "(I)Z"⟩, 25), (⟨"KingsYearModel", "find", "()V"⟩, 25), (⟨"KingsYearModel", "breaks", "(I)V"⟩, 25), (⟨"KingsYearModel", "bindsOf", "(II)I"⟩, 25), (⟨"KingsYearModel", "bindsOne", "(III)Z"⟩, 25), (⟨"KingsYearModel", "bindsAlone", "(III)Z"⟩, 25), (⟨"KingsYearModel", "doesBy", "(II)I"⟩, 25), (⟨"KingsYearModel", "covers", "(II)Z"⟩, 25), (⟨"KingsYearModel", "likes", "(II)I"⟩, 25), (⟨"KingsYearModel", "joyOf", "(II)I"⟩, 25), (⟨"KingsYearModel", "joyBy", "(I)I"⟩, 25), (⟨"KingsYearModel", "clashBy", "(I)I"⟩, 25), (⟨"KingsYearModel", "quarrelsOf", "(II)I"⟩, 25), (⟨"KingsYearModel", "exemptOf", "(III)I"⟩, 25), (⟨"KingsYearModel", "keepOf", "(I)I"⟩, 25), (⟨"KingsYearModel", "orderOf", "(III)I"⟩, 25)]
theorem lw_r3 : ∀ q ∈ lw_privs_3, lw_okq q := List.forall_mem_cons.mpr ⟨lw_p32, List.forall_mem_cons.mpr ⟨lw_p33, List.forall_mem_cons.mpr ⟨lw_p34, List.forall_mem_cons.mpr ⟨lw_p35, List.forall_mem_cons.mpr ⟨lw_p36, List.forall_mem_cons.mpr ⟨lw_p37, List.forall_mem_cons.mpr ⟨lw_p38, List.forall_mem_cons.mpr ⟨lw_p39, List.forall_mem_cons.mpr ⟨lw_p40, List.forall_mem_cons.mpr ⟨lw_p41, List.forall_mem_cons.mpr ⟨lw_p42, List.forall_mem_cons.mpr ⟨lw_p43, List.forall_mem_cons.mpr ⟨lw_p44, List.forall_mem_cons.mpr ⟨lw_p45, List.forall_mem_cons.mpr ⟨lw_p46, List.forall_mem_cons.mpr ⟨lw_p47, fun _ h => absurd h List.not_mem_nil⟩⟩⟩⟩⟩⟩⟩⟩⟩⟩⟩⟩⟩⟩⟩⟩
theorem lw_p48 : lw_okq (⟨"KingsYearModel", "unfolds", "(II)V"⟩, 25) := ⟨⟨by decide +kernel, by decide +kernel⟩, List.mem_of_getElem? (i := 808) (by decide +kernel), List.mem_of_getElem? (i := 1105) (by decide +kernel), List.mem_of_getElem? (i := 1106) (by decide +kernel)⟩
theorem lw_p49 : lw_okq (⟨"KingsYearModel", "setsOf", "(I)I"⟩, 25) := ⟨⟨by decide +kernel, by decide +kernel⟩, List.mem_of_getElem? (i := 808) (by decide +kernel), List.mem_of_getElem? (i := 1126) (by decide +kernel), List.mem_of_getElem? (i := 1127) (by decide +kernel)⟩
theorem lw_p50 : lw_okq (⟨"KingsYearModel", "isSeen", "(I)Z"⟩, 25) := ⟨⟨by decide +kernel, by decide +kernel⟩, List.mem_of_getElem? (i := 808) (by decide +kernel), List.mem_of_getElem? (i := 1130) (by decide +kernel), List.mem_of_getElem? (i := 1131) (by decide +kernel)⟩
theorem lw_p51 : lw_okq (⟨"KingsYearModel", "watchNow", "()I"⟩, 25) := ⟨⟨by decide +kernel, by decide +kernel⟩, List.mem_of_getElem? (i := 808) (by decide +kernel), List.mem_of_getElem? (i := 1138) (by decide +kernel), List.mem_of_getElem? (i := 1139) (by decide +kernel)⟩
theorem lw_p52 : lw_okq (⟨"KingsYearModel", "goutOf", "(IIIII)J"⟩, 25) := ⟨⟨by decide +kernel, by decide +kernel⟩, List.mem_of_getElem? (i := 808) (by decide +kernel), List.mem_of_getElem? (i := 1148) (by decide +kernel), List.mem_of_getElem? (i := 1149) (by decide +kernel)⟩
theorem lw_p53 : lw_okq (⟨"KingsYearModel", "yearsOf", "(III)I"⟩, 25) := ⟨⟨by decide +kernel, by decide +kernel⟩, List.mem_of_getElem? (i := 808) (by decide +kernel), List.mem_of_getElem? (i := 1164) (by decide +kernel), List.mem_of_getElem? (i := 1165) (by decide +kernel)⟩
theorem lw_p54 : lw_okq (⟨"KingsYearModel", "lot", "(I)I"⟩, 25) := ⟨⟨by decide +kernel, by decide +kernel⟩, List.mem_of_getElem? (i := 808) (by decide +kernel), List.mem_of_getElem? (i := 1168) (by decide +kernel), List.mem_of_getElem? (i := 1169) (by decide +kernel)⟩
theorem lw_p55 : lw_okq (⟨"KingsYearModel", "tellsYear", "(JI)J"⟩, 25) := ⟨⟨by decide +kernel, by decide +kernel⟩, List.mem_of_getElem? (i := 808) (by decide +kernel), List.mem_of_getElem? (i := 1191) (by decide +kernel), List.mem_of_getElem? (i := 1192) (by decide +kernel)⟩
theorem lw_p56 : lw_okq (⟨"KingsYearModel", "tellsHour", "(JII)J"⟩, 25) := ⟨⟨by decide +kernel, by decide +kernel⟩, List.mem_of_getElem? (i := 808) (by decide +kernel), List.mem_of_getElem? (i := 1195) (by decide +kernel), List.mem_of_getElem? (i := 1196) (by decide +kernel)⟩
def lw_privs_4 : List (MethodName × Nat) := [(⟨"KingsYearModel", "unfolds", "(II)V"⟩, 25), (⟨"KingsYearModel", "setsOf", "(I)I"⟩, 25), (⟨"KingsYearModel", "isSeen", "(I)Z"⟩, 25), (⟨"KingsYearModel", "watchNow", "()I"⟩, 25), (⟨"KingsYearModel", "goutOf", "(IIIII)J"⟩, 25), (⟨"KingsYearModel", "yearsOf", "(III)I"⟩, 25), (⟨"KingsYearModel", "lot", "(I)I"⟩, 25), (⟨"KingsYearModel", "tellsYear", "(JI)J"⟩, 25), (⟨"KingsYearModel", "tellsHour", "(JII)J"⟩, 25)]
theorem lw_r4 : ∀ q ∈ lw_privs_4, lw_okq q := List.forall_mem_cons.mpr ⟨lw_p48, List.forall_mem_cons.mpr ⟨lw_p49, List.forall_mem_cons.mpr ⟨lw_p50, List.forall_mem_cons.mpr ⟨lw_p51, List.forall_mem_cons.mpr ⟨lw_p52, List.forall_mem_cons.mpr ⟨lw_p53, List.forall_mem_cons.mpr ⟨lw_p54, List.forall_mem_cons.mpr ⟨lw_p55, List.forall_mem_cons.mpr ⟨lw_p56, fun _ h => absurd h List.not_mem_nil⟩⟩⟩⟩⟩⟩⟩⟩⟩
def lw_privs : List (MethodName × Nat) := lw_privs_1 ++ (lw_privs_2 ++ (lw_privs_3 ++ (lw_privs_4)))
def lw_tbl : List Cond := k2_sels lw_privs ++ tables_1
theorem lw_privs_ok : ∀ q ∈ lw_privs, lw_okq q := by
  show ∀ q ∈ lw_privs_1 ++ (lw_privs_2 ++ (lw_privs_3 ++ (lw_privs_4))), lw_okq q
  exact List.forall_mem_append.mpr ⟨lw_r1, List.forall_mem_append.mpr ⟨lw_r2, List.forall_mem_append.mpr ⟨lw_r3, lw_r4⟩⟩⟩
end
section
def RX0 : String := "KingsYear$Code"
def TX0 : u_T := fun k => match k with
  | 0 => ("KingsYear$Code", "lawCount", "I", false)
  | 1 => ("KingsYear$Code", "must", "[I", true)
  | 2 => ("KingsYear$Code", "deed", "[I", true)
  | 3 => ("KingsYear$Code", "from", "[I", true)
  | 4 => ("KingsYear$Code", "to", "[I", true)
  | 5 => ("KingsYear$Code", "lean", "[I", true)
  | 6 => ("KingsYear$Code", "hoursOf", "[I", true)
  | 7 => ("KingsYear$Code", "needs", "[I", true)
  | 8 => ("KingsYear$Code", "rivals", "[I", true)
  | 9 => ("KingsYear$Code", "orders", "[I", true)
  | 10 => ("KingsYear$Code", "bans", "[I", true)
  | 11 => ("KingsYear$Code", "likes", "[I", true)
  | 12 => ("KingsYear$Code", "covers", "[I", true)
  | _ => ("KingsYear$Code", "wanted", "[Z", true)
def tyX0 : Nat → FieldType := fun k => match k with
  | 0 => .int
  | 1 => .array .int
  | 2 => .array .int
  | 3 => .array .int
  | 4 => .array .int
  | 5 => .array .int
  | 6 => .array .int
  | 7 => .array .int
  | 8 => .array .int
  | 9 => .array .int
  | 10 => .array .int
  | 11 => .array .int
  | 12 => .array .int
  | _ => .array .boolean
theorem nmX0 : ∀ a, a < 14 → ∀ b, b < 14 → a ≠ b → (TX0 a).2.1 ≠ (TX0 b).2.1 := by decide +kernel
theorem tyX0_ok : ∀ k, k < 14 → parseFieldDescriptor (TX0 k).2.2.1 = some (tyX0 k) := by decide +kernel
abbrev cX0_init : ByteArray := prog_2_method_1_code
def yX0_init : MethodName := ⟨RX0, "<init>", "()V"⟩
abbrev cX0_layOut : ByteArray := prog_2_method_2_code
def yX0_layOut : MethodName := ⟨RX0, "layOut", "(LKingsYear$Script;LKingsYear$Script;)V"⟩
abbrev cX0_layLaw : ByteArray := prog_2_method_3_code
def yX0_layLaw : MethodName := ⟨RX0, "layLaw", "(I)V"⟩
abbrev cX0_chainOf : ByteArray := prog_2_method_4_code
def yX0_chainOf : MethodName := ⟨RX0, "chainOf", "(I)I"⟩
abbrev cX0_rivalsOf : ByteArray := prog_2_method_5_code
def yX0_rivalsOf : MethodName := ⟨RX0, "rivalsOf", "(I)I"⟩
abbrev cX0_lawPart : ByteArray := prog_2_method_6_code
def yX0_lawPart : MethodName := ⟨RX0, "lawPart", "(II)I"⟩
abbrev cX0_all : ByteArray := prog_2_method_7_code
def yX0_all : MethodName := ⟨RX0, "all", "()I"⟩
abbrev cX0_standing : ByteArray := prog_2_method_8_code
def yX0_standing : MethodName := ⟨RX0, "standing", "(I)I"⟩
abbrev cX0_deedBy : ByteArray := prog_2_method_9_code
def yX0_deedBy : MethodName := ⟨RX0, "deedBy", "(II)I"⟩
abbrev cX0_joyBy : ByteArray := prog_2_method_10_code
def yX0_joyBy : MethodName := ⟨RX0, "joyBy", "(I)I"⟩
abbrev cX0_firstClash : ByteArray := prog_2_method_11_code
def yX0_firstClash : MethodName := ⟨RX0, "firstClash", "(I)I"⟩
abbrev cX0_rivalsWithin : ByteArray := prog_2_method_12_code
def yX0_rivalsWithin : MethodName := ⟨RX0, "rivalsWithin", "(II)I"⟩
abbrev cX0_quarrelCount : ByteArray := prog_2_method_13_code
def yX0_quarrelCount : MethodName := ⟨RX0, "quarrelCount", "(I)I"⟩
abbrev cX0_leastQuarrel : ByteArray := prog_2_method_14_code
def yX0_leastQuarrel : MethodName := ⟨RX0, "leastQuarrel", "(I)I"⟩
abbrev cX0_hindrances : ByteArray := prog_2_method_15_code
def yX0_hindrances : MethodName := ⟨RX0, "hindrances", "(III)I"⟩
abbrev cX0_leastExemption : ByteArray := prog_2_method_16_code
def yX0_leastExemption : MethodName := ⟨RX0, "leastExemption", "(III)I"⟩
abbrev cX0_coveringLaws : ByteArray := prog_2_method_17_code
def yX0_coveringLaws : MethodName := ⟨RX0, "coveringLaws", "(I)I"⟩
abbrev cX0_ordersOf : ByteArray := prog_2_method_18_code
def yX0_ordersOf : MethodName := ⟨RX0, "ordersOf", "(II)I"⟩
abbrev cX0_bansOf : ByteArray := prog_2_method_19_code
def yX0_bansOf : MethodName := ⟨RX0, "bansOf", "(II)I"⟩
abbrev cX0_prefers : ByteArray := prog_2_method_20_code
def yX0_prefers : MethodName := ⟨RX0, "prefers", "(III)Z"⟩
abbrev cX0_isLikeBefore : ByteArray := prog_2_method_21_code
def yX0_isLikeBefore : MethodName := ⟨RX0, "isLikeBefore", "(I)Z"⟩
def RX1 : String := "KingsYear$Gout"
def TX1 : u_T := fun k => match k with
  | 0 => ("KingsYear$Gout", "above", "J", false)
  | 1 => ("KingsYear$Gout", "below", "J", false)
  | 2 => ("KingsYear$Gout", "orders", "[I", true)
  | 3 => ("KingsYear$Gout", "bans", "[I", true)
  | 4 => ("KingsYear$Gout", "any", "[J", true)
  | _ => ("KingsYear$Gout", "none", "[J", true)
def tyX1 : Nat → FieldType := fun k => match k with
  | 0 => .long
  | 1 => .long
  | 2 => .array .int
  | 3 => .array .int
  | 4 => .array .long
  | _ => .array .long
theorem nmX1 : ∀ a, a < 6 → ∀ b, b < 6 → a ≠ b → (TX1 a).2.1 ≠ (TX1 b).2.1 := by decide +kernel
theorem tyX1_ok : ∀ k, k < 6 → parseFieldDescriptor (TX1 k).2.2.1 = some (tyX1 k) := by decide +kernel
abbrev cX1_init : ByteArray := prog_3_method_1_code
def yX1_init : MethodName := ⟨RX1, "<init>", "()V"⟩
abbrev cX1_reckon : ByteArray := prog_3_method_2_code
def yX1_reckon : MethodName := ⟨RX1, "reckon", "(LKingsYear$Code;IIII)V"⟩
abbrev cX1_layPowers : ByteArray := prog_3_method_3_code
def yX1_layPowers : MethodName := ⟨RX1, "layPowers", "(I)V"⟩
abbrev cX1_waysTo : ByteArray := prog_3_method_4_code
def yX1_waysTo : MethodName := ⟨RX1, "waysTo", "(LKingsYear$Code;II)J"⟩
abbrev cX1_waysOrdered : ByteArray := prog_3_method_5_code
def yX1_waysOrdered : MethodName := ⟨RX1, "waysOrdered", "(I)J"⟩
abbrev cX1_waysLiked : ByteArray := prog_3_method_6_code
def yX1_waysLiked : MethodName := ⟨RX1, "waysLiked", "(LKingsYear$Code;II)J"⟩
abbrev cX1_some : ByteArray := prog_3_method_7_code
def yX1_some : MethodName := ⟨RX1, "some", "(I)J"⟩
abbrev cX1_lower : ByteArray := prog_3_method_8_code
def yX1_lower : MethodName := ⟨RX1, "lower", "()V"⟩
def RX2 : String := "KingsYear$Inquiry"
def TX2 : u_T := fun k => match k with
  | 0 => ("KingsYear$Inquiry", "hours", "[I", true)
  | 1 => ("KingsYear$Inquiry", "deeds", "[I", true)
  | 2 => ("KingsYear$Inquiry", "size", "I", false)
  | 3 => ("KingsYear$Inquiry", "stale", "Z", false)
  | 4 => ("KingsYear$Inquiry", "fitting", "[I", true)
  | 5 => ("KingsYear$Inquiry", "fits", "I", false)
  | 6 => ("KingsYear$Inquiry", "common", "I", false)
  | 7 => ("KingsYear$Inquiry", "tally", "[I", true)
  | 8 => ("KingsYear$Inquiry", "alike", "[I", true)
  | _ => ("KingsYear$Inquiry", "watched", "I", false)
def tyX2 : Nat → FieldType := fun k => match k with
  | 0 => .array .int
  | 1 => .array .int
  | 2 => .int
  | 3 => .boolean
  | 4 => .array .int
  | 5 => .int
  | 6 => .int
  | 7 => .array .int
  | 8 => .array .int
  | _ => .int
theorem nmX2 : ∀ a, a < 10 → ∀ b, b < 10 → a ≠ b → (TX2 a).2.1 ≠ (TX2 b).2.1 := by decide +kernel
theorem tyX2_ok : ∀ k, k < 10 → parseFieldDescriptor (TX2 k).2.2.1 = some (tyX2 k) := by decide +kernel
abbrev cX2_init : ByteArray := prog_4_method_1_code
def yX2_init : MethodName := ⟨RX2, "<init>", "()V"⟩
abbrev cX2_isFull : ByteArray := prog_4_method_2_code
def yX2_isFull : MethodName := ⟨RX2, "isFull", "()Z"⟩
abbrev cX2_append : ByteArray := prog_4_method_3_code
def yX2_append : MethodName := ⟨RX2, "append", "(II)V"⟩
abbrev cX2_clear : ByteArray := prog_4_method_4_code
def yX2_clear : MethodName := ⟨RX2, "clear", "()V"⟩
abbrev cX2_leastFitting : ByteArray := prog_4_method_5_code
def yX2_leastFitting : MethodName := ⟨RX2, "leastFitting", "()I"⟩
abbrev cX2_sift : ByteArray := prog_4_method_6_code
def yX2_sift : MethodName := ⟨RX2, "sift", "(LKingsYear$Code;)V"⟩
abbrev cX2_comesOut : ByteArray := prog_4_method_7_code
def yX2_comesOut : MethodName := ⟨RX2, "comesOut", "(LKingsYear$Code;I)Z"⟩
abbrev cX2_hourToWatch : ByteArray := prog_4_method_8_code
def yX2_hourToWatch : MethodName := ⟨RX2, "hourToWatch", "(LKingsYear$Code;)I"⟩
abbrev cX2_mostAlike : ByteArray := prog_4_method_9_code
def yX2_mostAlike : MethodName := ⟨RX2, "mostAlike", "(LKingsYear$Code;I)I"⟩
def RX3 : String := "KingsYear$Keeper"
def TX3 : u_T := fun k => match k with
  | 0 => ("KingsYear$Keeper", "bestSet", "I", false)
  | 1 => ("KingsYear$Keeper", "bestJoy", "I", false)
  | _ => ("KingsYear$Keeper", "bestSize", "I", false)
def tyX3 : Nat → FieldType := fun k => match k with
  | 0 => .int
  | 1 => .int
  | _ => .int
theorem nmX3 : ∀ a, a < 3 → ∀ b, b < 3 → a ≠ b → (TX3 a).2.1 ≠ (TX3 b).2.1 := by decide +kernel
theorem tyX3_ok : ∀ k, k < 3 → parseFieldDescriptor (TX3 k).2.2.1 = some (tyX3 k) := by decide +kernel
abbrev cX3_init : ByteArray := prog_5_method_1_code
def yX3_init : MethodName := ⟨RX3, "<init>", "()V"⟩
abbrev cX3_search : ByteArray := prog_5_method_2_code
def yX3_search : MethodName := ⟨RX3, "search", "(LKingsYear$Code;I)V"⟩
abbrev cX3_choose : ByteArray := prog_5_method_3_code
def yX3_choose : MethodName := ⟨RX3, "choose", "(LKingsYear$Code;III)V"⟩
abbrev cX3_weigh : ByteArray := prog_5_method_4_code
def yX3_weigh : MethodName := ⟨RX3, "weigh", "(II)V"⟩
def RX4 : String := "KingsYear$Log"
def TX4 : u_T := fun k => match k with
  | 0 => ("KingsYear$Log", "years", "[I", true)
  | 1 => ("KingsYear$Log", "laws", "[I", true)
  | _ => ("KingsYear$Log", "size", "I", false)
def tyX4 : Nat → FieldType := fun k => match k with
  | 0 => .array .int
  | 1 => .array .int
  | _ => .int
theorem nmX4 : ∀ a, a < 3 → ∀ b, b < 3 → a ≠ b → (TX4 a).2.1 ≠ (TX4 b).2.1 := by decide +kernel
theorem tyX4_ok : ∀ k, k < 3 → parseFieldDescriptor (TX4 k).2.2.1 = some (tyX4 k) := by decide +kernel
abbrev cX4_init : ByteArray := prog_6_method_1_code
def yX4_init : MethodName := ⟨RX4, "<init>", "()V"⟩
abbrev cX4_isFull : ByteArray := prog_6_method_2_code
def yX4_isFull : MethodName := ⟨RX4, "isFull", "()Z"⟩
abbrev cX4_append : ByteArray := prog_6_method_3_code
def yX4_append : MethodName := ⟨RX4, "append", "(II)V"⟩
abbrev cX4_has : ByteArray := prog_6_method_4_code
def yX4_has : MethodName := ⟨RX4, "has", "(II)Z"⟩
def RX5 : String := "KingsYear$Orderer"
def TX5 : u_T := fun k => match k with
  | 0 => ("KingsYear$Orderer", "bestJoy", "I", false)
  | 1 => ("KingsYear$Orderer", "bestRow", "[I", true)
  | _ => ("KingsYear$Orderer", "row", "[I", true)
def tyX5 : Nat → FieldType := fun k => match k with
  | 0 => .int
  | 1 => .array .int
  | _ => .array .int
theorem nmX5 : ∀ a, a < 3 → ∀ b, b < 3 → a ≠ b → (TX5 a).2.1 ≠ (TX5 b).2.1 := by decide +kernel
theorem tyX5_ok : ∀ k, k < 3 → parseFieldDescriptor (TX5 k).2.2.1 = some (tyX5 k) := by decide +kernel
abbrev cX5_init : ByteArray := prog_7_method_1_code
def yX5_init : MethodName := ⟨RX5, "<init>", "()V"⟩
abbrev cX5_search : ByteArray := prog_7_method_2_code
def yX5_search : MethodName := ⟨RX5, "search", "(LKingsYear$Code;LKingsYear$Reign;LKingsYear$Log;II)V"⟩
abbrev cX5_tryNext : ByteArray := prog_7_method_3_code
def yX5_tryNext : MethodName := ⟨RX5, "tryNext", "(LKingsYear$Code;LKingsYear$Reign;LKingsYear$Log;IIII)V"⟩
def RX6 : String := "KingsYear$Reign"
def TX6 : u_T := fun k => match k with
  | 0 => ("KingsYear$Reign", "triedIn", "[I", true)
  | 1 => ("KingsYear$Reign", "lapsed", "I", false)
  | _ => ("KingsYear$Reign", "seed", "I", false)
def tyX6 : Nat → FieldType := fun k => match k with
  | 0 => .array .int
  | 1 => .int
  | _ => .int
theorem nmX6 : ∀ a, a < 3 → ∀ b, b < 3 → a ≠ b → (TX6 a).2.1 ≠ (TX6 b).2.1 := by decide +kernel
theorem tyX6_ok : ∀ k, k < 3 → parseFieldDescriptor (TX6 k).2.2.1 = some (tyX6 k) := by decide +kernel
abbrev cX6_init : ByteArray := prog_8_method_1_code
def yX6_init : MethodName := ⟨RX6, "<init>", "()V"⟩
abbrev cX6_begin : ByteArray := prog_8_method_2_code
def yX6_begin : MethodName := ⟨RX6, "begin", "()V"⟩
abbrev cX6_retell : ByteArray := prog_8_method_3_code
def yX6_retell : MethodName := ⟨RX6, "retell", "(LKingsYear$Log;LKingsYear$Log;)V"⟩
abbrev cX6_draw : ByteArray := prog_8_method_4_code
def yX6_draw : MethodName := ⟨RX6, "draw", "(III)V"⟩
abbrev cX6_lot : ByteArray := prog_8_method_5_code
def yX6_lot : MethodName := ⟨RX6, "lot", "(I)I"⟩
abbrev cX6_put : ByteArray := prog_8_method_6_code
def yX6_put : MethodName := ⟨RX6, "put", "(IIZ)V"⟩
abbrev cX6_drop : ByteArray := prog_8_method_7_code
def yX6_drop : MethodName := ⟨RX6, "drop", "(I)V"⟩
abbrev cX6_bindingKing : ByteArray := prog_8_method_8_code
def yX6_bindingKing : MethodName := ⟨RX6, "bindingKing", "(LKingsYear$Code;I)I"⟩
abbrev cX6_bindingOthers : ByteArray := prog_8_method_9_code
def yX6_bindingOthers : MethodName := ⟨RX6, "bindingOthers", "(LKingsYear$Code;I)I"⟩
abbrev cX6_lapsedBy : ByteArray := prog_8_method_10_code
def yX6_lapsedBy : MethodName := ⟨RX6, "lapsedBy", "(LKingsYear$Code;I)I"⟩
abbrev cX6_lasting : ByteArray := prog_8_method_11_code
def yX6_lasting : MethodName := ⟨RX6, "lasting", "(I)I"⟩
abbrev cX6_triedBetween : ByteArray := prog_8_method_12_code
def yX6_triedBetween : MethodName := ⟨RX6, "triedBetween", "(II)I"⟩
def RX7 : String := "KingsYear$Script"
def TX7 : u_T := fun k => match k with
  | 0 => ("KingsYear$Script", "least", "[I", true)
  | 1 => ("KingsYear$Script", "most", "[I", true)
  | 2 => ("KingsYear$Script", "needed", "I", true)
  | 3 => ("KingsYear$Script", "room", "I", true)
  | 4 => ("KingsYear$Script", "bytes", "[I", true)
  | 5 => ("KingsYear$Script", "parts", "[I", true)
  | 6 => ("KingsYear$Script", "length", "I", false)
  | 7 => ("KingsYear$Script", "size", "I", false)
  | _ => ("KingsYear$Script", "faultPlace", "I", false)
def tyX7 : Nat → FieldType := fun k => match k with
  | 0 => .array .int
  | 1 => .array .int
  | 2 => .int
  | 3 => .int
  | 4 => .array .int
  | 5 => .array .int
  | 6 => .int
  | 7 => .int
  | _ => .int
theorem nmX7 : ∀ a, a < 9 → ∀ b, b < 9 → a ≠ b → (TX7 a).2.1 ≠ (TX7 b).2.1 := by decide +kernel
theorem tyX7_ok : ∀ k, k < 9 → parseFieldDescriptor (TX7 k).2.2.1 = some (tyX7 k) := by decide +kernel
abbrev cX7_init : ByteArray := prog_9_method_1_code
def yX7_init : MethodName := ⟨RX7, "<init>", "([I[IIII)V"⟩
abbrev cX7_isFull : ByteArray := prog_9_method_2_code
def yX7_isFull : MethodName := ⟨RX7, "isFull", "()Z"⟩
abbrev cX7_append : ByteArray := prog_9_method_3_code
def yX7_append : MethodName := ⟨RX7, "append", "(I)V"⟩
abbrev cX7_shorten : ByteArray := prog_9_method_4_code
def yX7_shorten : MethodName := ⟨RX7, "shorten", "(I)V"⟩
abbrev cX7_part : ByteArray := prog_9_method_5_code
def yX7_part : MethodName := ⟨RX7, "part", "(II)I"⟩
abbrev cX7_parse : ByteArray := prog_9_method_6_code
def yX7_parse : MethodName := ⟨RX7, "parse", "()V"⟩
def RX8 : String := "KingsYear$Sheet"
def TX8 : u_T := fun k => match k with
  | 0 => ("KingsYear$Sheet", "items", "[I", true)
  | 1 => ("KingsYear$Sheet", "form", "I", false)
  | _ => ("KingsYear$Sheet", "size", "I", false)
def tyX8 : Nat → FieldType := fun k => match k with
  | 0 => .array .int
  | 1 => .int
  | _ => .int
theorem nmX8 : ∀ a, a < 3 → ∀ b, b < 3 → a ≠ b → (TX8 a).2.1 ≠ (TX8 b).2.1 := by decide +kernel
theorem tyX8_ok : ∀ k, k < 3 → parseFieldDescriptor (TX8 k).2.2.1 = some (tyX8 k) := by decide +kernel
abbrev cX8_init : ByteArray := prog_10_method_1_code
def yX8_init : MethodName := ⟨RX8, "<init>", "()V"⟩
abbrev cX8_isLost : ByteArray := prog_10_method_2_code
def yX8_isLost : MethodName := ⟨RX8, "isLost", "()Z"⟩
abbrev cX8_renew : ByteArray := prog_10_method_3_code
def yX8_renew : MethodName := ⟨RX8, "renew", "(II)V"⟩
abbrev cX8_put : ByteArray := prog_10_method_4_code
def yX8_put : MethodName := ⟨RX8, "put", "(II)V"⟩
abbrev cX8_hasRun : ByteArray := prog_10_method_5_code
def yX8_hasRun : MethodName := ⟨RX8, "hasRun", "(II)Z"⟩
def RX9 : String := "KingsYear"
def TX9 : u_T := fun k => match k with
  | 0 => ("KingsYear", "laws", "LKingsYear$Script;", true)
  | 1 => ("KingsYear", "wants", "LKingsYear$Script;", true)
  | 2 => ("KingsYear", "code", "LKingsYear$Code;", true)
  | 3 => ("KingsYear", "trials", "LKingsYear$Log;", true)
  | 4 => ("KingsYear", "breaches", "LKingsYear$Log;", true)
  | 5 => ("KingsYear", "told", "LKingsYear$Reign;", true)
  | 6 => ("KingsYear", "supposed", "LKingsYear$Reign;", true)
  | 7 => ("KingsYear", "keeper", "LKingsYear$Keeper;", true)
  | 8 => ("KingsYear", "orderer", "LKingsYear$Orderer;", true)
  | 9 => ("KingsYear", "inquiry", "LKingsYear$Inquiry;", true)
  | 10 => ("KingsYear", "chance", "LKingsYear$Gout;", true)
  | 11 => ("KingsYear", "sheets", "[LKingsYear$Sheet;", true)
  | 12 => ("KingsYear", "stale", "Z", false)
  | _ => ("KingsYear", "finding", "I", false)
def tyX9 : Nat → FieldType := fun k => match k with
  | 0 => .object "KingsYear$Script"
  | 1 => .object "KingsYear$Script"
  | 2 => .object "KingsYear$Code"
  | 3 => .object "KingsYear$Log"
  | 4 => .object "KingsYear$Log"
  | 5 => .object "KingsYear$Reign"
  | 6 => .object "KingsYear$Reign"
  | 7 => .object "KingsYear$Keeper"
  | 8 => .object "KingsYear$Orderer"
  | 9 => .object "KingsYear$Inquiry"
  | 10 => .object "KingsYear$Gout"
  | 11 => .array (.object "KingsYear$Sheet")
  | 12 => .boolean
  | _ => .int
theorem nmX9 : ∀ a, a < 14 → ∀ b, b < 14 → a ≠ b → (TX9 a).2.1 ≠ (TX9 b).2.1 := by decide +kernel
theorem tyX9_ok : ∀ k, k < 14 → parseFieldDescriptor (TX9 k).2.2.1 = some (tyX9 k) := by decide +kernel
abbrev cX9_init : ByteArray := prog_1_method_1_code
def yX9_init : MethodName := ⟨RX9, "<init>", "()V"⟩
abbrev cX9_type : ByteArray := prog_1_method_2_code
def yX9_type : MethodName := ⟨RX9, "type", "(II)I"⟩
abbrev cX9_wipe : ByteArray := prog_1_method_3_code
def yX9_wipe : MethodName := ⟨RX9, "wipe", "(I)I"⟩
abbrev cX9_undo : ByteArray := prog_1_method_4_code
def yX9_undo : MethodName := ⟨RX9, "undo", "(I)I"⟩
abbrev cX9_fault : ByteArray := prog_1_method_5_code
def yX9_fault : MethodName := ⟨RX9, "fault", "(I)I"⟩
abbrev cX9_law : ByteArray := prog_1_method_6_code
def yX9_law : MethodName := ⟨RX9, "law", "(II)I"⟩
abbrev cX9_want : ByteArray := prog_1_method_7_code
def yX9_want : MethodName := ⟨RX9, "want", "(II)I"⟩
abbrev cX9_trial : ByteArray := prog_1_method_8_code
def yX9_trial : MethodName := ⟨RX9, "trial", "(II)I"⟩
abbrev cX9_breach : ByteArray := prog_1_method_9_code
def yX9_breach : MethodName := ⟨RX9, "breach", "(II)I"⟩
abbrev cX9_back : ByteArray := prog_1_method_10_code
def yX9_back : MethodName := ⟨RX9, "back", "(I)I"⟩
abbrev cX9_binds : ByteArray := prog_1_method_11_code
def yX9_binds : MethodName := ⟨RX9, "binds", "(II)I"⟩
abbrev cX9_does : ByteArray := prog_1_method_12_code
def yX9_does : MethodName := ⟨RX9, "does", "(II)I"⟩
abbrev cX9_joy : ByteArray := prog_1_method_13_code
def yX9_joy : MethodName := ⟨RX9, "joy", "(II)I"⟩
abbrev cX9_quarrels : ByteArray := prog_1_method_14_code
def yX9_quarrels : MethodName := ⟨RX9, "quarrels", "(II)I"⟩
abbrev cX9_exempt : ByteArray := prog_1_method_15_code
def yX9_exempt : MethodName := ⟨RX9, "exempt", "(IIII)I"⟩
abbrev cX9_keep : ByteArray := prog_1_method_16_code
def yX9_keep : MethodName := ⟨RX9, "keep", "(II)I"⟩
abbrev cX9_order : ByteArray := prog_1_method_17_code
def yX9_order : MethodName := ⟨RX9, "order", "(III)I"⟩
abbrev cX9_seen : ByteArray := prog_1_method_18_code
def yX9_seen : MethodName := ⟨RX9, "seen", "(II)I"⟩
abbrev cX9_forget : ByteArray := prog_1_method_19_code
def yX9_forget : MethodName := ⟨RX9, "forget", "()I"⟩
abbrev cX9_read : ByteArray := prog_1_method_20_code
def yX9_read : MethodName := ⟨RX9, "read", "(I)I"⟩
abbrev cX9_sets : ByteArray := prog_1_method_21_code
def yX9_sets : MethodName := ⟨RX9, "sets", "(I)I"⟩
abbrev cX9_watch : ByteArray := prog_1_method_22_code
def yX9_watch : MethodName := ⟨RX9, "watch", "()I"⟩
abbrev cX9_gout : ByteArray := prog_1_method_23_code
def yX9_gout : MethodName := ⟨RX9, "gout", "(IIIII)J"⟩
abbrev cX9_years : ByteArray := prog_1_method_24_code
def yX9_years : MethodName := ⟨RX9, "years", "(III)I"⟩
abbrev cX9_sheet : ByteArray := prog_1_method_25_code
def yX9_sheet : MethodName := ⟨RX9, "sheet", "(III)I"⟩
abbrev cX9_lose : ByteArray := prog_1_method_26_code
def yX9_lose : MethodName := ⟨RX9, "lose", "(I)I"⟩
abbrev cX9_lay : ByteArray := prog_1_method_27_code
def yX9_lay : MethodName := ⟨RX9, "lay", "(IIII)I"⟩
abbrev cX9_get : ByteArray := prog_1_method_28_code
def yX9_get : MethodName := ⟨RX9, "get", "(III)I"⟩
abbrev cX9_copy : ByteArray := prog_1_method_29_code
def yX9_copy : MethodName := ⟨RX9, "copy", "(IIIII)I"⟩
abbrev cX9_write : ByteArray := prog_1_method_30_code
def yX9_write : MethodName := ⟨RX9, "write", "(II)I"⟩
abbrev cX9_count : ByteArray := prog_1_method_31_code
def yX9_count : MethodName := ⟨RX9, "count", "(I)I"⟩
abbrev cX9_digest : ByteArray := prog_1_method_32_code
def yX9_digest : MethodName := ⟨RX9, "digest", "()J"⟩
abbrev cX9_withTexts : ByteArray := prog_1_method_33_code
def yX9_withTexts : MethodName := ⟨RX9, "withTexts", "(J)J"⟩
abbrev cX9_withYear : ByteArray := prog_1_method_34_code
def yX9_withYear : MethodName := ⟨RX9, "withYear", "(JI)J"⟩
abbrev cX9_within : ByteArray := prog_1_method_35_code
def yX9_within : MethodName := ⟨RX9, "within", "(II)Z"⟩
abbrev cX9_isDeedOrNone : ByteArray := prog_1_method_36_code
def yX9_isDeedOrNone : MethodName := ⟨RX9, "isDeedOrNone", "(I)Z"⟩
abbrev cX9_scriptOf : ByteArray := prog_1_method_37_code
def yX9_scriptOf : MethodName := ⟨RX9, "scriptOf", "(I)LKingsYear$Script;"⟩
abbrev cX9_refresh : ByteArray := prog_1_method_38_code
def yX9_refresh : MethodName := ⟨RX9, "refresh", "()V"⟩
abbrev cX9_kingsLaws : ByteArray := prog_1_method_39_code
def yX9_kingsLaws : MethodName := ⟨RX9, "kingsLaws", "(I)I"⟩
abbrev cX9_tell : ByteArray := prog_1_method_40_code
def yX9_tell : MethodName := ⟨RX9, "tell", "(LKingsYear$Log;II)I"⟩
abbrev cX9_find : ByteArray := prog_1_method_41_code
def yX9_find : MethodName := ⟨RX9, "find", "(I)I"⟩
abbrev cX9_refusalOfItem : ByteArray := prog_1_method_42_code
def yX9_refusalOfItem : MethodName := ⟨RX9, "refusalOfItem", "(III)I"⟩
def RX10 : String := "KingsYearModel"
def TX10 : u_T := fun k => match k with
  | 0 => ("KingsYearModel", "forms", "[I", true)
  | 1 => ("KingsYearModel", "sizes", "[I", true)
  | 2 => ("KingsYearModel", "items", "[I", true)
  | 3 => ("KingsYearModel", "moved", "[I", true)
  | 4 => ("KingsYearModel", "latest", "I", false)
  | 5 => ("KingsYearModel", "bytes", "[I", true)
  | 6 => ("KingsYearModel", "typed", "[I", true)
  | 7 => ("KingsYearModel", "at", "I", false)
  | 8 => ("KingsYearModel", "many", "[I", true)
  | 9 => ("KingsYearModel", "law", "[I", true)
  | 10 => ("KingsYearModel", "want", "[I", true)
  | 11 => ("KingsYearModel", "trials", "I", false)
  | 12 => ("KingsYearModel", "trial", "[I", true)
  | 13 => ("KingsYearModel", "breaches", "I", false)
  | 14 => ("KingsYearModel", "breach", "[I", true)
  | 15 => ("KingsYearModel", "tried", "[I", true)
  | 16 => ("KingsYearModel", "lapses", "[I", true)
  | 17 => ("KingsYearModel", "bestJoy", "I", false)
  | 18 => ("KingsYearModel", "told", "[I", true)
  | 19 => ("KingsYearModel", "row", "[I", true)
  | 20 => ("KingsYearModel", "bestRow", "[I", true)
  | 21 => ("KingsYearModel", "sights", "I", false)
  | 22 => ("KingsYearModel", "sight", "[I", true)
  | 23 => ("KingsYearModel", "alike", "[I", true)
  | _ => ("KingsYearModel", "drawn", "I", false)
def tyX10 : Nat → FieldType := fun k => match k with
  | 0 => .array .int
  | 1 => .array .int
  | 2 => .array .int
  | 3 => .array .int
  | 4 => .int
  | 5 => .array .int
  | 6 => .array .int
  | 7 => .int
  | 8 => .array .int
  | 9 => .array .int
  | 10 => .array .int
  | 11 => .int
  | 12 => .array .int
  | 13 => .int
  | 14 => .array .int
  | 15 => .array .int
  | 16 => .array .int
  | 17 => .int
  | 18 => .array .int
  | 19 => .array .int
  | 20 => .array .int
  | 21 => .int
  | 22 => .array .int
  | 23 => .array .int
  | _ => .int
theorem nmX10 : ∀ a, a < 25 → ∀ b, b < 25 → a ≠ b → (TX10 a).2.1 ≠ (TX10 b).2.1 := by decide +kernel
theorem tyX10_ok : ∀ k, k < 25 → parseFieldDescriptor (TX10 k).2.2.1 = some (tyX10 k) := by decide +kernel
abbrev cX10_init : ByteArray := prog_12_method_1_code
def yX10_init : MethodName := ⟨RX10, "<init>", "()V"⟩
abbrev cX10_in : ByteArray := prog_12_method_3_code
def yX10_in : MethodName := ⟨RX10, "in", "(JJJ)Z"⟩
abbrev cX10_no : ByteArray := prog_12_method_4_code
def yX10_no : MethodName := ⟨RX10, "no", "(I)J"⟩
abbrev cX10_isTwo : ByteArray := prog_12_method_5_code
def yX10_isTwo : MethodName := ⟨RX10, "isTwo", "(I)Z"⟩
abbrev cX10_isIn : ByteArray := prog_12_method_6_code
def yX10_isIn : MethodName := ⟨RX10, "isIn", "(II)Z"⟩
abbrev cX10_ones : ByteArray := prog_12_method_7_code
def yX10_ones : MethodName := ⟨RX10, "ones", "(I)I"⟩
abbrev cX10_lesser : ByteArray := prog_12_method_8_code
def yX10_lesser : MethodName := ⟨RX10, "lesser", "(II)I"⟩
abbrev cX10_part : ByteArray := prog_12_method_9_code
def yX10_part : MethodName := ⟨RX10, "part", "(JJI)J"⟩
abbrev cX10_finds : ByteArray := prog_12_method_10_code
def yX10_finds : MethodName := ⟨RX10, "finds", "(I)I"⟩
abbrev cX10_isSheet : ByteArray := prog_12_method_11_code
def yX10_isSheet : MethodName := ⟨RX10, "isSheet", "(I)Z"⟩
abbrev cX10_sheet : ByteArray := prog_12_method_12_code
def yX10_sheet : MethodName := ⟨RX10, "sheet", "(III)I"⟩
abbrev cX10_lose : ByteArray := prog_12_method_13_code
def yX10_lose : MethodName := ⟨RX10, "lose", "(I)I"⟩
abbrev cX10_lacks : ByteArray := prog_12_method_14_code
def yX10_lacks : MethodName := ⟨RX10, "lacks", "(III)I"⟩
abbrev cX10_cut : ByteArray := prog_12_method_15_code
def yX10_cut : MethodName := ⟨RX10, "cut", "(II)I"⟩
abbrev cX10_lay : ByteArray := prog_12_method_16_code
def yX10_lay : MethodName := ⟨RX10, "lay", "(IIII)I"⟩
abbrev cX10_get : ByteArray := prog_12_method_17_code
def yX10_get : MethodName := ⟨RX10, "get", "(III)I"⟩
abbrev cX10_copy : ByteArray := prog_12_method_18_code
def yX10_copy : MethodName := ⟨RX10, "copy", "(IIIII)I"⟩
abbrev cX10_type : ByteArray := prog_12_method_19_code
def yX10_type : MethodName := ⟨RX10, "type", "(II)I"⟩
abbrev cX10_wipe : ByteArray := prog_12_method_20_code
def yX10_wipe : MethodName := ⟨RX10, "wipe", "(I)I"⟩
abbrev cX10_undo : ByteArray := prog_12_method_21_code
def yX10_undo : MethodName := ⟨RX10, "undo", "(I)I"⟩
abbrev cX10_here : ByteArray := prog_12_method_22_code
def yX10_here : MethodName := ⟨RX10, "here", "(I)I"⟩
abbrev cX10_within : ByteArray := prog_12_method_23_code
def yX10_within : MethodName := ⟨RX10, "within", "(III)I"⟩
abbrev cX10_tellsOf : ByteArray := prog_12_method_24_code
def yX10_tellsOf : MethodName := ⟨RX10, "tellsOf", "(III)I"⟩
abbrev cX10_readsThing : ByteArray := prog_12_method_25_code
def yX10_readsThing : MethodName := ⟨RX10, "readsThing", "(I)Z"⟩
abbrev cX10_readsText : ByteArray := prog_12_method_26_code
def yX10_readsText : MethodName := ⟨RX10, "readsText", "(I)I"⟩
abbrev cX10_reads : ByteArray := prog_12_method_27_code
def yX10_reads : MethodName := ⟨RX10, "reads", "()V"⟩
abbrev cX10_fault : ByteArray := prog_12_method_28_code
def yX10_fault : MethodName := ⟨RX10, "fault", "(I)I"⟩
abbrev cX10_isLaw : ByteArray := prog_12_method_29_code
def yX10_isLaw : MethodName := ⟨RX10, "isLaw", "(I)Z"⟩
abbrev cX10_isYear : ByteArray := prog_12_method_30_code
def yX10_isYear : MethodName := ⟨RX10, "isYear", "(I)Z"⟩
abbrev cX10_isHour : ByteArray := prog_12_method_31_code
def yX10_isHour : MethodName := ⟨RX10, "isHour", "(I)Z"⟩
abbrev cX10_law : ByteArray := prog_12_method_32_code
def yX10_law : MethodName := ⟨RX10, "law", "(II)I"⟩
abbrev cX10_want : ByteArray := prog_12_method_33_code
def yX10_want : MethodName := ⟨RX10, "want", "(II)I"⟩
abbrev cX10_trial : ByteArray := prog_12_method_34_code
def yX10_trial : MethodName := ⟨RX10, "trial", "(II)I"⟩
abbrev cX10_breach : ByteArray := prog_12_method_35_code
def yX10_breach : MethodName := ⟨RX10, "breach", "(II)I"⟩
abbrev cX10_back : ByteArray := prog_12_method_36_code
def yX10_back : MethodName := ⟨RX10, "back", "(I)I"⟩
abbrev cX10_breaks : ByteArray := prog_12_method_37_code
def yX10_breaks : MethodName := ⟨RX10, "breaks", "(I)V"⟩
abbrev cX10_find : ByteArray := prog_12_method_38_code
def yX10_find : MethodName := ⟨RX10, "find", "()V"⟩
abbrev cX10_bindsAlone : ByteArray := prog_12_method_39_code
def yX10_bindsAlone : MethodName := ⟨RX10, "bindsAlone", "(III)Z"⟩
abbrev cX10_bindsOne : ByteArray := prog_12_method_40_code
def yX10_bindsOne : MethodName := ⟨RX10, "bindsOne", "(III)Z"⟩
abbrev cX10_bindsOf : ByteArray := prog_12_method_41_code
def yX10_bindsOf : MethodName := ⟨RX10, "bindsOf", "(II)I"⟩
abbrev cX10_binds : ByteArray := prog_12_method_42_code
def yX10_binds : MethodName := ⟨RX10, "binds", "(II)I"⟩
abbrev cX10_covers : ByteArray := prog_12_method_43_code
def yX10_covers : MethodName := ⟨RX10, "covers", "(II)Z"⟩
abbrev cX10_likes : ByteArray := prog_12_method_44_code
def yX10_likes : MethodName := ⟨RX10, "likes", "(II)I"⟩
abbrev cX10_doesBy : ByteArray := prog_12_method_45_code
def yX10_doesBy : MethodName := ⟨RX10, "doesBy", "(II)I"⟩
abbrev cX10_does : ByteArray := prog_12_method_46_code
def yX10_does : MethodName := ⟨RX10, "does", "(II)I"⟩
abbrev cX10_joyBy : ByteArray := prog_12_method_47_code
def yX10_joyBy : MethodName := ⟨RX10, "joyBy", "(I)I"⟩
abbrev cX10_clashBy : ByteArray := prog_12_method_48_code
def yX10_clashBy : MethodName := ⟨RX10, "clashBy", "(I)I"⟩
abbrev cX10_joyOf : ByteArray := prog_12_method_49_code
def yX10_joyOf : MethodName := ⟨RX10, "joyOf", "(II)I"⟩
abbrev cX10_joy : ByteArray := prog_12_method_50_code
def yX10_joy : MethodName := ⟨RX10, "joy", "(II)I"⟩
abbrev cX10_quarrelsOf : ByteArray := prog_12_method_51_code
def yX10_quarrelsOf : MethodName := ⟨RX10, "quarrelsOf", "(II)I"⟩
abbrev cX10_quarrels : ByteArray := prog_12_method_52_code
def yX10_quarrels : MethodName := ⟨RX10, "quarrels", "(II)I"⟩
abbrev cX10_tells : ByteArray := prog_12_method_53_code
def yX10_tells : MethodName := ⟨RX10, "tells", "(II)I"⟩
abbrev cX10_exemptOf : ByteArray := prog_12_method_54_code
def yX10_exemptOf : MethodName := ⟨RX10, "exemptOf", "(III)I"⟩
abbrev cX10_exempt : ByteArray := prog_12_method_55_code
def yX10_exempt : MethodName := ⟨RX10, "exempt", "(IIII)I"⟩
abbrev cX10_keepOf : ByteArray := prog_12_method_56_code
def yX10_keepOf : MethodName := ⟨RX10, "keepOf", "(I)I"⟩
abbrev cX10_keep : ByteArray := prog_12_method_57_code
def yX10_keep : MethodName := ⟨RX10, "keep", "(II)I"⟩
abbrev cX10_unfolds : ByteArray := prog_12_method_58_code
def yX10_unfolds : MethodName := ⟨RX10, "unfolds", "(II)V"⟩
abbrev cX10_orderOf : ByteArray := prog_12_method_59_code
def yX10_orderOf : MethodName := ⟨RX10, "orderOf", "(III)I"⟩
abbrev cX10_order : ByteArray := prog_12_method_60_code
def yX10_order : MethodName := ⟨RX10, "order", "(III)I"⟩
abbrev cX10_seen : ByteArray := prog_12_method_61_code
def yX10_seen : MethodName := ⟨RX10, "seen", "(II)I"⟩
abbrev cX10_forget : ByteArray := prog_12_method_62_code
def yX10_forget : MethodName := ⟨RX10, "forget", "()I"⟩
abbrev cX10_read : ByteArray := prog_12_method_63_code
def yX10_read : MethodName := ⟨RX10, "read", "(I)I"⟩
abbrev cX10_isSeen : ByteArray := prog_12_method_64_code
def yX10_isSeen : MethodName := ⟨RX10, "isSeen", "(I)Z"⟩
abbrev cX10_setsOf : ByteArray := prog_12_method_65_code
def yX10_setsOf : MethodName := ⟨RX10, "setsOf", "(I)I"⟩
abbrev cX10_sets : ByteArray := prog_12_method_66_code
def yX10_sets : MethodName := ⟨RX10, "sets", "(I)I"⟩
abbrev cX10_watchNow : ByteArray := prog_12_method_67_code
def yX10_watchNow : MethodName := ⟨RX10, "watchNow", "()I"⟩
abbrev cX10_watch : ByteArray := prog_12_method_68_code
def yX10_watch : MethodName := ⟨RX10, "watch", "()I"⟩
abbrev cX10_goutOf : ByteArray := prog_12_method_69_code
def yX10_goutOf : MethodName := ⟨RX10, "goutOf", "(IIIII)J"⟩
abbrev cX10_gout : ByteArray := prog_12_method_70_code
def yX10_gout : MethodName := ⟨RX10, "gout", "(IIIII)J"⟩
abbrev cX10_lot : ByteArray := prog_12_method_71_code
def yX10_lot : MethodName := ⟨RX10, "lot", "(I)I"⟩
abbrev cX10_yearsOf : ByteArray := prog_12_method_72_code
def yX10_yearsOf : MethodName := ⟨RX10, "yearsOf", "(III)I"⟩
abbrev cX10_years : ByteArray := prog_12_method_73_code
def yX10_years : MethodName := ⟨RX10, "years", "(III)I"⟩
abbrev cX10_write : ByteArray := prog_12_method_74_code
def yX10_write : MethodName := ⟨RX10, "write", "(II)I"⟩
abbrev cX10_count : ByteArray := prog_12_method_75_code
def yX10_count : MethodName := ⟨RX10, "count", "(I)I"⟩
abbrev cX10_tellsHour : ByteArray := prog_12_method_76_code
def yX10_tellsHour : MethodName := ⟨RX10, "tellsHour", "(JII)J"⟩
abbrev cX10_tellsYear : ByteArray := prog_12_method_77_code
def yX10_tellsYear : MethodName := ⟨RX10, "tellsYear", "(JI)J"⟩
abbrev cX10_digest : ByteArray := prog_12_method_78_code
def yX10_digest : MethodName := ⟨RX10, "digest", "()J"⟩
def RJ6 : String := "java/lang/Integer"
def TJ6 : u_T := fun k => match k with
  | _ => ("", "", "", false)
def tyJ6 : Nat → FieldType := fun k => match k with
  | _ => .int
theorem nmJ6 : ∀ a, a < 0 → ∀ b, b < 0 → a ≠ b → (TJ6 a).2.1 ≠ (TJ6 b).2.1 := by decide +kernel
theorem tyJ6_ok : ∀ k, k < 0 → parseFieldDescriptor (TJ6 k).2.2.1 = some (tyJ6 k) := by decide +kernel
abbrev cJ6_bitCount_0f7a4 : ByteArray := prog_13_method_49_code
def yJ6_bitCount_0f7a4 : MethodName := ⟨RJ6, "bitCount", "(I)I"⟩
def RJ9 : String := "java/lang/Math"
def TJ9 : u_T := fun k => match k with
  | _ => ("", "", "", false)
def tyJ9 : Nat → FieldType := fun k => match k with
  | _ => .int
theorem nmJ9 : ∀ a, a < 0 → ∀ b, b < 0 → a ≠ b → (TJ9 a).2.1 ≠ (TJ9 b).2.1 := by decide +kernel
theorem tyJ9_ok : ∀ k, k < 0 → parseFieldDescriptor (TJ9 k).2.2.1 = some (tyJ9 k) := by decide +kernel
abbrev cJ9_max_7cf53 : ByteArray := prog_14_method_65_code
def yJ9_max_7cf53 : MethodName := ⟨RJ9, "max", "(II)I"⟩
abbrev cJ9_min_7cf53 : ByteArray := prog_14_method_69_code
def yJ9_min_7cf53 : MethodName := ⟨RJ9, "min", "(II)I"⟩
def RJ10 : String := "java/lang/System"
def TJ10 : u_T := fun k => match k with
  | _ => ("", "", "", false)
def tyJ10 : Nat → FieldType := fun k => match k with
  | _ => .int
theorem nmJ10 : ∀ a, a < 0 → ∀ b, b < 0 → a ≠ b → (TJ10 a).2.1 ≠ (TJ10 b).2.1 := by decide +kernel
theorem tyJ10_ok : ∀ k, k < 0 → parseFieldDescriptor (TJ10 k).2.2.1 = some (tyJ10 k) := by decide +kernel
def RJ7 : String := "java/util/Arrays"
def TJ7 : u_T := fun k => match k with
  | _ => ("", "", "", false)
def tyJ7 : Nat → FieldType := fun k => match k with
  | _ => .int
theorem nmJ7 : ∀ a, a < 0 → ∀ b, b < 0 → a ≠ b → (TJ7 a).2.1 ≠ (TJ7 b).2.1 := by decide +kernel
theorem tyJ7_ok : ∀ k, k < 0 → parseFieldDescriptor (TJ7 k).2.2.1 = some (tyJ7 k) := by decide +kernel
abbrev cJ7_fill_53178 : ByteArray := prog_16_method_103_code
def yJ7_fill_53178 : MethodName := ⟨RJ7, "fill", "([II)V"⟩
def RL : String := "KingsYearLaw"
abbrev cL_law : ByteArray := code
def yL_law : MethodName := ⟨RL, "law", "([I)Z"⟩
end
section
/-! CORE: one world for each of the two systems. A world is a memory h (cell, place -> int), hl (cell, place -> long) behind fixed addresses; a method's contract takes h, hl to h', hl'. -/
def lw_big : List Cond := lw_tbl.filter goodWord
theorem lw_big_in {w : Cond} (h : w ∈ lw_big) : w ∈ lw_tbl := (List.mem_filter.mp h).1
theorem lw_big_good {w : Cond} (h : w ∈ lw_big) : goodWord w = true := (List.mem_filter.mp h).2
theorem mem_tab {w : Cond} (i : Nat) (h : tables_1[i]? = some w) (hg : goodWord w = true) : w ∈ lw_big := List.mem_filter.mpr ⟨List.mem_append_right _ (List.mem_of_getElem? h), hg⟩
theorem mem_sel {w : Cond} (i : Nat) (h : (k2_sels lw_privs)[i]? = some w) (hg : goodWord w = true) : w ∈ lw_big := List.mem_filter.mpr ⟨List.mem_append_left _ (List.mem_of_getElem? h), hg⟩
def wsU (y : MethodName) (cc : ByteArray) (n : Nat) (ret : Option FieldType) : List Cond := Cond.code y cc n ret :: lw_big
theorem goodU {y : MethodName} {cc : ByteArray} {n : Nat} {ret : Option FieldType} (hc : Cond.code y cc n ret ∈ lw_big) : GoodIn lw_big (wsU y cc n ret) := by
  intro w hw
  rcases List.mem_cons.mp hw with h | h
  · subst h
    exact ⟨hc, good_of_word (lw_big_good hc)⟩
  · exact ⟨h, good_of_word (lw_big_good h)⟩
abbrev clsAll : List vw_C := [(RX0, TX0, 14), (RX1, TX1, 6), (RX2, TX2, 10), (RX3, TX3, 3), (RX4, TX4, 3), (RX5, TX5, 3), (RX6, TX6, 3), (RX7, TX7, 9), (RX8, TX8, 3), (RX9, TX9, 14), (RX10, TX10, 25)]
abbrev Mem : Type := Nat → Nat → Int32
abbrev MemL : Type := Nat → Nat → Int64
/-- one place of one cell changes -/
def up2 (h : Mem) (k j : Nat) (v : Int32) : Mem := fun c => bif Nat.beq c k then upd (h k) j v else h c
def up2L (h : MemL) (k j : Nat) (v : Int64) : MemL := fun c => bif Nat.beq c k then vp_updL (h k) j v else h c
/-- one cell becomes another row -/
def upR (h : Mem) (k : Nat) (f : Nat → Int32) : Mem := fun c => bif Nat.beq c k then f else h c
/-- a world: classes' and slots' numbers, classes of arrays, cells, the addresses, which may change, static rows, static fields -/
abbrev Wd : Type := va_G × List (ClassId × FieldType) × (Mem → MemL → va_W) × (Nat → Nat) × (Nat → Prop) × List (Nat × Nat × (Nat → Int32)) × List (String × String × Nat)
def wD (w : Wd) : va_G := w.1
def wT (w : Wd) : List (ClassId × FieldType) := w.2.1
def wW (w : Wd) : Mem → MemL → va_W := w.2.2.1
def wad (w : Wd) : Nat → Nat := w.2.2.2.1
def wA (w : Wd) : Nat → Prop := w.2.2.2.2.1
def wTab (w : Wd) : List (Nat × Nat × (Nat → Int32)) := w.2.2.2.2.2.1
def wFld (w : Wd) : List (String × String × Nat) := w.2.2.2.2.2.2
def wStat (w : Wd) (U : State) (H : Heap) : Prop :=
  va_K (wD w) clsAll (wT w) U ∧ (∀ (h : Mem) (hl : MemL), va_D (wA w) (wW w h hl)) ∧
  (∀ (k : Nat) (q : Nat × Nat × (Nat → Int32)), (wTab w)[k]? = some q → va_T .int q.1 q.2.1 (fun j => .int (q.2.2 j)) (wA w) U H) ∧
  (∀ (k : Nat) (q : String × String × Nat), (wFld w)[k]? = some q → va_Z q.1 q.2.1 "[I" (.ref q.2.2) (wA w) U H)
theorem wStat.moved {w : Wd} {u U : State} {H : Heap} (hvm : u.vm.Alike U.vm) (h : wStat w u H) : wStat w U H :=
  ⟨va_K.moved hvm h.1, h.2.1, fun k q hq => va_T.moved hvm (h.2.2.1 k q hq), fun k q hq => va_Z.moved hvm (h.2.2.2 k q hq)⟩
theorem wStat.kept {w : Wd} {U : State} {H H1 : Heap} (h : wStat w U H) (hq : ∀ a : Nat, a < H.size → ¬ wA w a → H1[a]? = H[a]?) : wStat w U H1 :=
  ⟨h.1, h.2.1, fun k q hk => va_T.kept (h.2.2.1 k q hk) hq, fun k q hk => va_Z.kept (h.2.2.2 k q hk) hq⟩
def mPc (w : Wd) (av : List Value) (h : Mem) (hl : MemL) : Array Value → State → Prop := fun v U => v = av.toArray ∧ wStat w U U.heap ∧ va_P (wD w) clsAll (wW w h hl) U.heap
theorem mPc.blind {w : Wd} {av : List Value} {h : Mem} {hl : MemL} : FrameBlind (mPc w av h hl) := fun a U g mk q => ⟨q.1, wStat.moved (u := U) (U := U.calling g mk a) (Vm.Alike.refl U.vm) q.2.1, q.2.2⟩
abbrev PI : Type := Int32 → Mem → MemL → Prop
abbrev PL : Type := Int64 → Mem → MemL → Prop
abbrev PV : Type := Mem → MemL → Prop
abbrev PR : Type := Nat → Mem → MemL → Prop
def mQi (w : Wd) (Qp : PI) : Array Value → State → Outcome → State → Prop := fun _ st oc t => ∃ (r : Int32) (h : Mem) (hl : MemL), oc = .returned (some (.int r)) ∧ Qp r h hl ∧ va_P (wD w) clsAll (wW w h hl) t.heap ∧ va_F (wA w) st t
def mQz (w : Wd) (Qp : PI) : Array Value → State → Outcome → State → Prop := fun _ st oc t => ∃ (r : Int32) (h : Mem) (hl : MemL), oc = .returned (some (.int r)) ∧ ((r = 0 ∨ r = 1) ∧ Qp r h hl) ∧ va_P (wD w) clsAll (wW w h hl) t.heap ∧ va_F (wA w) st t
def mQl (w : Wd) (Qp : PL) : Array Value → State → Outcome → State → Prop := fun _ st oc t => ∃ (r : Int64) (h : Mem) (hl : MemL), oc = .returned (some (.long r)) ∧ Qp r h hl ∧ va_P (wD w) clsAll (wW w h hl) t.heap ∧ va_F (wA w) st t
def mQv (w : Wd) (Qp : PV) : Array Value → State → Outcome → State → Prop := fun _ st oc t => ∃ (h : Mem) (hl : MemL), oc = .returned none ∧ Qp h hl ∧ va_P (wD w) clsAll (wW w h hl) t.heap ∧ va_F (wA w) st t
def mQr (w : Wd) (Qp : PR) : Array Value → State → Outcome → State → Prop := fun _ st oc t => ∃ (r : Nat) (h : Mem) (hl : MemL), oc = .returned (some (.ref (wad w r))) ∧ Qp r h hl ∧ va_P (wD w) clsAll (wW w h hl) t.heap ∧ va_F (wA w) st t
def mC (w : Wd) (p : Program) (s : State) (m : MethodId) (meth : Method) (c : Code) (args : Array Value) (cc : ByteArray) (nL : Nat) (own : String) (ret : Option FieldType) : Prop :=
  p.tables.exec = Jvm.exec ∧ c.code = cc ∧ c.maxLocals = nL ∧ s.vm.findClass own = some m.cls ∧ (∀ x ∈ lw_big, x.before args s = true) ∧ wStat w s s.heap ∧ meth.locks = false ∧ meth.sig.returnType = ret
def mD (w : Wd) (h : Mem) (hl : MemL) (s : State) (H : Heap) (locs : List Loc) : Prop := va_P (wD w) clsAll (wW w h hl) H ∧ va_S (wA w) s.heap H locs
def isIA (w : Wd) (k n : Nat) : Prop := ∃ cA : ClassId, (wT w)[0]? = some (cA, .int) ∧ ∀ (h : Mem) (hl : MemL), (wW w h hl)[k]? = some (wad w k, .inl (cA, n, .inl (h k))) ∧ ∀ (f : Nat → Int32), (wW w h hl).set k (wad w k, .inl (cA, n, .inl f)) = wW w (upR h k f) hl
def isZA (w : Wd) (k n : Nat) : Prop := ∃ cA : ClassId, (wT w)[1]? = some (cA, .boolean) ∧ ∀ (h : Mem) (hl : MemL), (wW w h hl)[k]? = some (wad w k, .inl (cA, n, .inl (h k))) ∧ ∀ (f : Nat → Int32), (wW w h hl).set k (wad w k, .inl (cA, n, .inl f)) = wW w (upR h k f) hl
def isLA (w : Wd) (k n : Nat) : Prop := ∃ cA : ClassId, (wT w)[2]? = some (cA, .long) ∧ ∀ (h : Mem) (hl : MemL), (wW w h hl)[k]? = some (wad w k, .inl (cA, n, .inr (.inl (hl k)))) ∧ ∀ (j : Nat) (v : Int64), (wW w h hl).set k (wad w k, .inl (cA, n, .inr (.inl (vp_updL (hl k) j v)))) = wW w h (up2L hl k j v)
theorem upR_upd (h : Mem) (k j : Nat) (v : Int32) : upR h k (upd (h k) j v) = up2 h k j v := rfl
theorem z01_0 : (0 : Int32) = 0 ∨ (0 : Int32) = 1 := Or.inl rfl
theorem z01_1 : (1 : Int32) = 0 ∨ (1 : Int32) = 1 := Or.inr rfl
theorem z01_ite {q : Prop} {_ : Decidable q} {a b : Int32} (ha : a = 0 ∨ a = 1) (hb : b = 0 ∨ b = 1) : (if q then a else b) = 0 ∨ (if q then a else b) = 1 := by
  by_cases h : q
  · rw [if_pos h]; exact ha
  · rw [if_neg h]; exact hb
section XRows
variable {p : Program} {l : Launch} {e : Env} {R : Room} {s : State} {m : MethodId} {args : Array Value} {below : List Frame} {meth : Method} {c : Code} {H : Heap} {locs : List Loc} {cells slots : Nat} {Q : State → Prop}
variable {cc : ByteArray} {nL pc : Nat} {ls : Array Slot} {rest : List Value} {own : String} {ret : Option FieldType} {w : Wd} {h : Mem} {hl : MemL}
theorem mC.x (C : mC w p s m meth c args cc nL own ret) : p.tables.exec = Jvm.exec := C.1
theorem mC.b (C : mC w p s m meth c args cc nL own ret) : c.code = cc := C.2.1
theorem mC.ml (C : mC w p s m meth c args cc nL own ret) : c.maxLocals = nL := C.2.2.1
theorem mC.ow (C : mC w p s m meth c args cc nL own ret) : s.vm.findClass own = some m.cls := C.2.2.2.1
theorem mC.ts (C : mC w p s m meth c args cc nL own ret) : ∀ x ∈ lw_big, x.before args s = true := C.2.2.2.2.1
theorem mC.st (C : mC w p s m meth c args cc nL own ret) : wStat w s s.heap := C.2.2.2.2.2.1
theorem mC.lk (C : mC w p s m meth c args cc nL own ret) : meth.locks = false := C.2.2.2.2.2.2.1
theorem mC.rt (C : mC w p s m meth c args cc nL own ret) : meth.sig.returnType = ret := C.2.2.2.2.2.2.2
theorem x_get {k a ci j N index : Nat} {Cn : String} {T : u_T} {fs : List Value} {v : Value} (C : mC w p s m meth c args cc nL own ret) (Dy : mD w h hl s H locs) (hq : (wW w h hl)[k]? = some (a, .inr (ci, fs))) (hc : clsAll[ci]? = some (Cn, T, N)) (hin : ∀ x ∈ u_ws Cn T N, x ∈ lw_big) (hj : j < N) (hlk : Cond.fieldLink own index (T j).1 (T j).2.1 (T j).2.2.1 ∈ lw_big) (hv : fs[j]? = some v) (hdg : decode cc pc = .ok (.getfield index, 3))
    (kk : W p l e R s m args below meth c H locs cells slots Q (F0 m (pc + 3) ls (v :: rest))) : W p l e R s m args below meth c H locs cells slots Q (F0 m pc ls (.ref a :: rest)) :=
  va_get C.x C.b C.ts hin C.ow C.st.1 Dy.1 k hq hc j hj (C.ts _ hlk) (fun _ h9 => h9) hv hdg kk
theorem x_put {k a ci j N index : Nat} {Cn : String} {T : u_T} {fs : List Value} {v : Value} {h1 : Mem} {hl1 : MemL} {ty : FieldType} (C : mC w p s m meth c args cc nL own ret) (Dy : mD w h hl s H locs) (hq : (wW w h hl)[k]? = some (a, .inr (ci, fs))) (hc : clsAll[ci]? = some (Cn, T, N)) (hin : ∀ x ∈ u_ws Cn T N, x ∈ lw_big) (ty0 : Nat → FieldType) (hty : ∀ k, k < N → parseFieldDescriptor (T k).2.2.1 = some (ty0 k)) (hnm : ∀ a, a < N → ∀ b, b < N → a ≠ b → (T a).2.1 ≠ (T b).2.1) (hj : j < N) (hlk : Cond.fieldLink own index (T j).1 (T j).2.1 (T j).2.2.1 ∈ lw_big) (hfin : (T j).2.2.2 = false) (hd : ty0 j = ty) (hn : narrow ty v = v) (hfit : fits ty v = true) (hlen : j < fs.length) (hs : (wW w h hl).set k (a, .inr (ci, fs.set j v)) = wW w h1 hl1) (hdg : decode cc pc = .ok (.putfield index, 3))
    (kk : ∀ (H1 : Heap) (locs1 : List Loc), mD w h1 hl1 s H1 locs1 → W p l e R s m args below meth c H1 locs1 cells slots Q (F0 m (pc + 3) ls rest)) : W p l e R s m args below meth c H locs cells slots Q (F0 m pc ls (v :: .ref a :: rest)) :=
  va_put C.x C.b C.ts hin ty0 hty hnm C.ow C.st.1 Dy.1 (C.st.2.1 h hl) Dy.2 k hq hc j hj (C.ts _ hlk) (fun _ h9 => h9) hfin (by rw [← hd]; exact hty j hj) hn hfit hlen hdg (fun H1 locs1 hP _ hS => kk H1 locs1 ⟨by rw [← hs]; exact hP, hS⟩)
theorem x_iald {k n : Nat} {i : Int32} (C : mC w p s m meth c args cc nL own ret) (Dy : mD w h hl s H locs) (ia : isIA w k n) (hin : vp_in i n) (hdg : decode cc pc = .ok (.iaload, 1))
    (kk : W p l e R s m args below meth c H locs cells slots Q (F0 m (pc + 1) ls (.int (h k i.toNatClampNeg) :: rest))) : W p l e R s m args below meth c H locs cells slots Q (F0 m pc ls (.int i :: .ref (wad w k) :: rest)) := by
  obtain ⟨cA, h1, h2⟩ := ia
  exact va_iald C.x C.b C.st.1 Dy.1 k 0 (h2 h hl).1 h1 hin hdg kk
theorem x_iast {k n : Nat} {i x : Int32} (C : mC w p s m meth c args cc nL own ret) (Dy : mD w h hl s H locs) (ia : isIA w k n) (hin : vp_in i n) (hdg : decode cc pc = .ok (.iastore, 1))
    (kk : ∀ (H1 : Heap) (locs1 : List Loc), mD w (up2 h k i.toNatClampNeg x) hl s H1 locs1 → W p l e R s m args below meth c H1 locs1 cells slots Q (F0 m (pc + 1) ls rest)) : W p l e R s m args below meth c H locs cells slots Q (F0 m pc ls (.int x :: .int i :: .ref (wad w k) :: rest)) := by
  obtain ⟨cA, h1, h2⟩ := ia
  exact va_iast C.x C.b C.st.1 Dy.1 (C.st.2.1 h hl) Dy.2 k 0 (h2 h hl).1 h1 hin hdg (fun H1 locs1 hP _ hS => kk H1 locs1 ⟨by rw [← upR_upd, ← (h2 h hl).2]; exact hP, hS⟩)
theorem x_alen {k n : Nat} {v : Int32} (C : mC w p s m meth c args cc nL own ret) (Dy : mD w h hl s H locs) (ia : isIA w k n) (hv : Int32.ofNat n = v) (hdg : decode cc pc = .ok (.arraylength, 1))
    (kk : W p l e R s m args below meth c H locs cells slots Q (F0 m (pc + 1) ls (.int v :: rest))) : W p l e R s m args below meth c H locs cells slots Q (F0 m pc ls (.ref (wad w k) :: rest)) := by
  obtain ⟨cA, h1, h2⟩ := ia
  exact va_alen C.x C.b C.st.1 Dy.1 k 0 (h2 h hl).1 h1 hv hdg kk
theorem x_zald {k n : Nat} {i : Int32} (C : mC w p s m meth c args cc nL own ret) (Dy : mD w h hl s H locs) (ia : isZA w k n) (hin : vp_in i n) (hdg : decode cc pc = .ok (.baload, 1))
    (kk : W p l e R s m args below meth c H locs cells slots Q (F0 m (pc + 1) ls (.int (h k i.toNatClampNeg) :: rest))) : W p l e R s m args below meth c H locs cells slots Q (F0 m pc ls (.int i :: .ref (wad w k) :: rest)) := by
  obtain ⟨cA, h1, h2⟩ := ia
  exact va_zald C.x C.b C.st.1 Dy.1 k 1 (h2 h hl).1 h1 hin hdg kk
theorem x_lald {k n : Nat} {i : Int32} (C : mC w p s m meth c args cc nL own ret) (Dy : mD w h hl s H locs) (ia : isLA w k n) (hin : vp_in i n) (hdg : decode cc pc = .ok (.laload, 1))
    (kk : W p l e R s m args below meth c H locs cells slots Q (F0 m (pc + 1) ls (.long (hl k i.toNatClampNeg) :: rest))) : W p l e R s m args below meth c H locs cells slots Q (F0 m pc ls (.int i :: .ref (wad w k) :: rest)) := by
  obtain ⟨cA, h1, h2⟩ := ia
  exact va_lald C.x C.b C.st.1 Dy.1 k 2 (h2 h hl).1 h1 hin hdg kk
theorem x_last {k n : Nat} {i : Int32} {x : Int64} (C : mC w p s m meth c args cc nL own ret) (Dy : mD w h hl s H locs) (ia : isLA w k n) (hin : vp_in i n) (hdg : decode cc pc = .ok (.lastore, 1))
    (kk : ∀ (H1 : Heap) (locs1 : List Loc), mD w h (up2L hl k i.toNatClampNeg x) s H1 locs1 → W p l e R s m args below meth c H1 locs1 cells slots Q (F0 m (pc + 1) ls rest)) : W p l e R s m args below meth c H locs cells slots Q (F0 m pc ls (.long x :: .int i :: .ref (wad w k) :: rest)) := by
  obtain ⟨cA, h1, h2⟩ := ia
  exact va_last C.x C.b C.st.1 Dy.1 (C.st.2.1 h hl) Dy.2 k 2 (h2 h hl).1 h1 hin hdg (fun H1 locs1 hP _ hS => kk H1 locs1 ⟨by rw [← (h2 h hl).2]; exact hP, hS⟩)
theorem x_tald {k n : Nat} {f : Nat → Int32} {a : Nat} {i : Int32} (C : mC w p s m meth c args cc nL own ret) (Dy : mD w h hl s H locs) (ht : (wTab w)[k]? = some (a, n, f)) (hin : vp_in i n) (hdg : decode cc pc = .ok (.iaload, 1))
    (kk : W p l e R s m args below meth c H locs cells slots Q (F0 m (pc + 1) ls (.int (f i.toNatClampNeg) :: rest))) : W p l e R s m args below meth c H locs cells slots Q (F0 m pc ls (.int i :: .ref a :: rest)) :=
  va_ti C.x C.b (C.st.2.2.1 k _ ht) Dy.2 hin rfl hdg kk
theorem x_tlen {k n : Nat} {f : Nat → Int32} {a : Nat} {v : Int32} (C : mC w p s m meth c args cc nL own ret) (Dy : mD w h hl s H locs) (ht : (wTab w)[k]? = some (a, n, f)) (hv : Int32.ofNat n = v) (hdg : decode cc pc = .ok (.arraylength, 1))
    (kk : W p l e R s m args below meth c H locs cells slots Q (F0 m (pc + 1) ls (.int v :: rest))) : W p l e R s m args below meth c H locs cells slots Q (F0 m pc ls (.ref a :: rest)) :=
  va_tlen C.x C.b (C.st.2.2.1 k _ ht) Dy.2 hv hdg kk
theorem x_gets {k a index : Nat} {Cn n : String} (C : mC w p s m meth c args cc nL own ret) (Dy : mD w h hl s H locs) (ht : (wFld w)[k]? = some (Cn, n, a)) (hlk : Cond.fieldLink own index Cn n "[I" ∈ lw_big) (hdg : decode cc pc = .ok (.getstatic index, 3))
    (kk : W p l e R s m args below meth c H locs cells slots Q (F0 m (pc + 3) ls (.ref a :: rest))) : W p l e R s m args below meth c H locs cells slots Q (F0 m pc ls rest) :=
  va_gets C.x C.b (C.st.2.2.2 k _ ht) Dy.2 C.ow (C.ts _ hlk) (fun _ h9 => h9) hdg kk
theorem x_cw {y : MethodName} {bytes : ByteArray} {maxL index : Nat} {rt : Option FieldType} {rm : Room} {Cn : String} (n : Nat) (C : mC w p s m meth c args cc nL own ret) (hcode : Cond.code y bytes maxL rt ∈ lw_big) (hlk : Cond.methodLink own index y ∈ lw_big) (hini : Cond.initialized y.cls ∈ lw_big) (hins : Cond.instanceMethod y ∈ lw_big) (hsel : Cond.selects Cn y y ∈ lw_big) (hd : y.cls ≠ "java/lang/invoke/MethodHandle" ∧ y.cls ≠ "java/lang/invoke/VarHandle" ∧ (parseMethodDescriptor y.desc).map (fun d => d.parameters.length) = some n) (h0 : rm.cells = 0) (h1 : rm.slots = 0) (hR : rm.frames + 1 ≤ R.frames ∧ 8 + (maxL + 11) + rm.locals ≤ R.locals) : CallW R s args own Cn index y bytes maxL rt (wsU y bytes maxL rt) rm 0 0 n :=
  ⟨callB_of n C.ts (goodU hcode) rfl h0 h1 (C.ts _ hini) (C.ts _ hlk) hd hR, C.ts _ hins, C.ts _ hsel⟩
theorem x_cs {y : MethodName} {bytes : ByteArray} {maxL index : Nat} {rt : Option FieldType} {rm : Room} (n : Nat) (C : mC w p s m meth c args cc nL own ret) (hcode : Cond.code y bytes maxL rt ∈ lw_big) (hlk : Cond.methodLink own index y ∈ lw_big) (hini : Cond.initialized y.cls ∈ lw_big) (hst : Cond.static y ∈ lw_big) (hd : y.cls ≠ "java/lang/invoke/MethodHandle" ∧ y.cls ≠ "java/lang/invoke/VarHandle" ∧ (parseMethodDescriptor y.desc).map (fun d => d.parameters.length) = some n) (h0 : rm.cells = 0) (h1 : rm.slots = 0) (hR : rm.frames + 1 ≤ R.frames ∧ 8 + (maxL + 11) + rm.locals ≤ R.locals) : CallB R s args own index y bytes maxL rt (wsU y bytes maxL rt) rm 0 0 n ∧ (Cond.static y).before args s = true :=
  ⟨callB_of n C.ts (goodU hcode) rfl h0 h1 (C.ts _ hini) (C.ts _ hlk) hd hR, C.ts _ hst⟩
/-- what holds at a callee's entry -/
theorem x_pre {As : List Value} (C : mC w p s m meth c args cc nL own ret) (Dy : mD w h hl s H locs) : ∀ U : State, U.heap = H → s.WarmedH U.vm → mPc w As h hl As.toArray U := by
  intro U hU hW
  refine ⟨rfl, ?_, by rw [hU]; exact Dy.1⟩
  rw [hU]
  exact (C.st.kept (fun a h1 h2 => Dy.2.2.1 a h1 h2)).moved hW.alike
theorem x_back {H1 : Heap} {L : List Loc} {st₀ t : State} (Dy : mD w h hl s H locs) (h0 : st₀.heap = H) (e1 : H1 = t.heap) (hL : ∀ q ∈ L, wA w q.base) {h1 : Mem} {hl1 : MemL} (hP : va_P (wD w) clsAll (wW w h1 hl1) t.heap) (hF : va_F (wA w) st₀ t) : mD w h1 hl1 s H1 (locs ++ L) := by
  subst h0
  subst e1
  refine ⟨hP, Nat.le_trans Dy.2.1 hF.1, fun q h1 h2 => ?_, fun q hq => ?_⟩
  · rw [hF.2 q (Nat.lt_of_lt_of_le h1 Dy.2.1) h2]; exact Dy.2.2.1 q h1 h2
  · rcases List.mem_append.mp hq with h | h
    · exact Dy.2.2.2 q h
    · exact hL q h
theorem x_cont_i {st0 : List Value} {a : Array Value} {Qp : PI} (Dy : mD w h hl s H locs) (hr : va_Run p l e R s m args below meth c H locs cells slots 0 0 (F0 m pc ls st0) rest (mQi w Qp a) (wA w))
    (kk : ∀ (r : Int32) (h1 : Mem) (hl1 : MemL) (H1 : Heap) (locs1 : List Loc), Qp r h1 hl1 → mD w h1 hl1 s H1 locs1 → W p l e R s m args below meth c H1 locs1 cells slots Q (F0 m (pc + 3) ls (.int r :: rest))) : W p l e R s m args below meth c H locs cells slots Q (F0 m pc ls st0) := by
  intro T hT X
  obtain ⟨v, st₀, t, T', L, h0, X', hL, e1, e2, ⟨r, h1, hl1, hv, hp, hP, hF⟩, st⟩ := hr T hT X
  cases hv
  obtain ⟨t2, a1, b1⟩ := kk r h1 hl1 T'.heap (locs ++ L) hp (x_back Dy h0 e1 hL hP hF) T' rfl X'
  exact ⟨t2, st t2 a1, b1⟩
theorem x_cont_z {st0 : List Value} {a : Array Value} {Qp : PI} (Dy : mD w h hl s H locs) (hr : va_Run p l e R s m args below meth c H locs cells slots 0 0 (F0 m pc ls st0) rest (mQz w Qp a) (wA w))
    (kk : ∀ (r : Int32) (h1 : Mem) (hl1 : MemL) (H1 : Heap) (locs1 : List Loc), (r = 0 ∨ r = 1) → Qp r h1 hl1 → mD w h1 hl1 s H1 locs1 → W p l e R s m args below meth c H1 locs1 cells slots Q (F0 m (pc + 3) ls (.int r :: rest))) : W p l e R s m args below meth c H locs cells slots Q (F0 m pc ls st0) := by
  intro T hT X
  obtain ⟨v, st₀, t, T', L, h0, X', hL, e1, e2, ⟨r, h1, hl1, hv, hp, hP, hF⟩, st⟩ := hr T hT X
  cases hv
  obtain ⟨t2, a1, b1⟩ := kk r h1 hl1 T'.heap (locs ++ L) hp.1 hp.2 (x_back Dy h0 e1 hL hP hF) T' rfl X'
  exact ⟨t2, st t2 a1, b1⟩
theorem x_cont_l {st0 : List Value} {a : Array Value} {Qp : PL} (Dy : mD w h hl s H locs) (hr : va_Run p l e R s m args below meth c H locs cells slots 0 0 (F0 m pc ls st0) rest (mQl w Qp a) (wA w))
    (kk : ∀ (r : Int64) (h1 : Mem) (hl1 : MemL) (H1 : Heap) (locs1 : List Loc), Qp r h1 hl1 → mD w h1 hl1 s H1 locs1 → W p l e R s m args below meth c H1 locs1 cells slots Q (F0 m (pc + 3) ls (.long r :: rest))) : W p l e R s m args below meth c H locs cells slots Q (F0 m pc ls st0) := by
  intro T hT X
  obtain ⟨v, st₀, t, T', L, h0, X', hL, e1, e2, ⟨r, h1, hl1, hv, hp, hP, hF⟩, st⟩ := hr T hT X
  cases hv
  obtain ⟨t2, a1, b1⟩ := kk r h1 hl1 T'.heap (locs ++ L) hp (x_back Dy h0 e1 hL hP hF) T' rfl X'
  exact ⟨t2, st t2 a1, b1⟩
theorem x_cont_v {st0 : List Value} {a : Array Value} {Qp : PV} (Dy : mD w h hl s H locs) (hr : va_Run p l e R s m args below meth c H locs cells slots 0 0 (F0 m pc ls st0) rest (mQv w Qp a) (wA w))
    (kk : ∀ (h1 : Mem) (hl1 : MemL) (H1 : Heap) (locs1 : List Loc), Qp h1 hl1 → mD w h1 hl1 s H1 locs1 → W p l e R s m args below meth c H1 locs1 cells slots Q (F0 m (pc + 3) ls rest)) : W p l e R s m args below meth c H locs cells slots Q (F0 m pc ls st0) := by
  intro T hT X
  obtain ⟨v, st₀, t, T', L, h0, X', hL, e1, e2, ⟨h1, hl1, hv, hp, hP, hF⟩, st⟩ := hr T hT X
  cases hv
  obtain ⟨t2, a1, b1⟩ := kk h1 hl1 T'.heap (locs ++ L) hp (x_back Dy h0 e1 hL hP hF) T' rfl X'
  exact ⟨t2, st t2 a1, b1⟩
theorem x_cont_r {st0 : List Value} {a : Array Value} {Qp : PR} (Dy : mD w h hl s H locs) (hr : va_Run p l e R s m args below meth c H locs cells slots 0 0 (F0 m pc ls st0) rest (mQr w Qp a) (wA w))
    (kk : ∀ (r : Nat) (h1 : Mem) (hl1 : MemL) (H1 : Heap) (locs1 : List Loc), Qp r h1 hl1 → mD w h1 hl1 s H1 locs1 → W p l e R s m args below meth c H1 locs1 cells slots Q (F0 m (pc + 3) ls (.ref (wad w r) :: rest))) : W p l e R s m args below meth c H locs cells slots Q (F0 m pc ls st0) := by
  intro T hT X
  obtain ⟨v, st₀, t, T', L, h0, X', hL, e1, e2, ⟨r, h1, hl1, hv, hp, hP, hF⟩, st⟩ := hr T hT X
  cases hv
  obtain ⟨t2, a1, b1⟩ := kk r h1 hl1 T'.heap (locs ++ L) hp (x_back Dy h0 e1 hL hP hF) T' rfl X'
  exact ⟨t2, st t2 a1, b1⟩
/-- a call on an object of the world -/
theorem x_runV {y : MethodName} {bytes : ByteArray} {maxL index n kc ci N b : Nat} {rt : Option FieldType} {rm : Room} {Cn : String} {T : u_T} {As st0 : List Value} {fs : List Value} {Qc : Array Value → State → Outcome → State → Prop} (C : mC w p s m meth c args cc nL own ret) (Dy : mD w h hl s H locs)
    (hM : Met l y (wsU y bytes maxL rt) rm (mPc w (.ref b :: As) h hl) Qc 0 0 (wA w)) (cw : CallW R s args own Cn index y bytes maxL rt (wsU y bytes maxL rt) rm 0 0 n) (hq : (wW w h hl)[kc]? = some (b, .inr (ci, fs))) (hc : clsAll[ci]? = some (Cn, T, N)) (hn : As.length = n) (hsz : ls.size = nL) (hst : st0 = As.reverse ++ .ref b :: rest) (hW : (rest.map fun v => v.category).sum ≤ 8) (hdg : decode cc pc = .ok (.invokevirtual index, 3)) (hf : cells ≤ R.cells ∧ slots ≤ R.slots) :
    va_Run p l e R s m args below meth c H locs cells slots 0 0 (F0 m pc ls st0) rest (Qc (Value.ref b :: As).toArray) (wA w) :=
  va_runV (C := Cn) ⟨C.x, C.b, C.ml, C.ow, C.ts⟩ hM cw ⟨mPc.blind, va_recv C.st.1 Dy.1 hc hq, x_pre C Dy⟩ rfl hn hsz hst (lv_room hW) hdg hf
theorem x_runS {y : MethodName} {bytes : ByteArray} {maxL index n : Nat} {rt : Option FieldType} {rm : Room} {As st0 : List Value} {Qc : Array Value → State → Outcome → State → Prop} (C : mC w p s m meth c args cc nL own ret) (Dy : mD w h hl s H locs)
    (hM : Met l y (wsU y bytes maxL rt) rm (mPc w As h hl) Qc 0 0 (wA w)) (cw : CallB R s args own index y bytes maxL rt (wsU y bytes maxL rt) rm 0 0 n ∧ (Cond.static y).before args s = true) (hn : As.length = n) (hsz : ls.size = nL) (hst : st0 = As.reverse ++ rest) (hW : (rest.map fun v => v.category).sum ≤ 8) (hdg : decode cc pc = .ok (.invokestatic index, 3)) (hf : cells ≤ R.cells ∧ slots ≤ R.slots) :
    va_Run p l e R s m args below meth c H locs cells slots 0 0 (F0 m pc ls st0) rest (Qc As.toArray) (wA w) :=
  va_runS ⟨C.x, C.b, C.ml, C.ow, C.ts⟩ hM cw ⟨mPc.blind, x_pre C Dy⟩ rfl hn hsz hst (lv_room hW) hdg hf
theorem x_iret {Qp : PI} {v : Int32} (C : mC w p s m meth c args cc nL own (some .int)) (Dy : mD w h hl s H locs) (hwp : Qp v h hl) (hdg : decode cc pc = .ok (.ireturn, 1)) : W p l e R s m args below meth c H locs cells slots (MQ below (mQi w Qp) args s cells slots (wA w)) (F0 m pc ls [.int v]) :=
  W.iret C.x C.b C.rt (fun t ht _ => ⟨v, h, hl, rfl, hwp, by rw [ht]; exact Dy.1, Dy.2.F ht⟩) Dy.2.2.2 hdg C.lk
theorem x_zret {Qp : PI} {v : Int32} (C : mC w p s m meth c args cc nL own (some .boolean)) (Dy : mD w h hl s H locs) (hv : v = 0 ∨ v = 1) (hwp : Qp v h hl) (hdg : decode cc pc = .ok (.ireturn, 1)) : W p l e R s m args below meth c H locs cells slots (MQ below (mQz w Qp) args s cells slots (wA w)) (F0 m pc ls [.int v]) :=
  W.zret C.x C.b C.rt (by rcases hv with rfl | rfl <;> rfl) (fun t ht _ => ⟨v, h, hl, rfl, ⟨hv, hwp⟩, by rw [ht]; exact Dy.1, Dy.2.F ht⟩) Dy.2.2.2 hdg C.lk
theorem x_lret {Qp : PL} {v : Int64} (C : mC w p s m meth c args cc nL own (some .long)) (Dy : mD w h hl s H locs) (hwp : Qp v h hl) (hdg : decode cc pc = .ok (.lreturn, 1)) : W p l e R s m args below meth c H locs cells slots (MQ below (mQl w Qp) args s cells slots (wA w)) (F0 m pc ls [.long v]) :=
  W.lret C.x C.b C.rt (fun t ht _ => ⟨v, h, hl, rfl, hwp, by rw [ht]; exact Dy.1, Dy.2.F ht⟩) Dy.2.2.2 hdg C.lk
theorem x_vret {Qp : PV} (C : mC w p s m meth c args cc nL own none) (Dy : mD w h hl s H locs) (hwp : Qp h hl) (hdg : decode cc pc = .ok (.return_, 1)) : W p l e R s m args below meth c H locs cells slots (MQ below (mQv w Qp) args s cells slots (wA w)) (F0 m pc ls []) :=
  W.vret C.x C.b C.rt (fun t ht _ => ⟨h, hl, rfl, hwp, by rw [ht]; exact Dy.1, Dy.2.F ht⟩) Dy.2.2.2 hdg C.lk
theorem x_rret {Qp : PR} {k : Nat} {nm : String} (C : mC w p s m meth c args cc nL own (some (.object nm))) (Dy : mD w h hl s H locs) (hwp : Qp k h hl) (hdg : decode cc pc = .ok (.areturn, 1)) : W p l e R s m args below meth c H locs cells slots (MQ below (mQr w Qp) args s cells slots (wA w)) (F0 m pc ls [.ref (wad w k)]) :=
  W.aret C.x C.b C.rt (Or.inl ⟨_, rfl⟩) (Or.inr ⟨_, rfl⟩) (fun t ht _ => ⟨k, h, hl, rfl, hwp, by rw [ht]; exact Dy.1, Dy.2.F ht⟩) Dy.2.2.2 hdg C.lk
end XRows
/-- a method's contract out of the walk of its body -/
theorem x_met {w : Wd} {h : Mem} {hl : MemL} {l : Launch} {y : MethodName} {cc : ByteArray} {nL : Nat} {ret : Option FieldType} {rm : Room} {av : List Value} {Qc : Array Value → State → Outcome → State → Prop} (own : String) (lv : List (Nat × Value)) (hy : plainName y.cls = true) (ho : y.cls = own) (hsl : (lg_sl av).length ≤ nL) (hlv : lv_args 0 av = lv)
    (body : ∀ (p : Program) (e : Env) (s : State) (m : MethodId) (args : Array Value) (below : List Frame) (meth : Method) (c : Code) (ls : Array Slot), mC w p s m meth c args cc nL own ret → mD w h hl s s.heap [] → lv_has ls nL lv → W p l e rm s m args below meth c s.heap [] 0 0 (MQ below Qc args s 0 0 (wA w)) (F0 m 0 ls [])) : Met l y (wsU y cc nL ret) rm (mPc w av h hl) Qc 0 0 (wA w) := by
  refine Met.ofW (cc := cc) (maxL := nL) (ret := ret) hy rfl ?_
  intro p e s m args below meth c s₁ B hml hv
  obtain ⟨rfl, hst, hP⟩ := hv
  have hts := atoms_spec (ws := wsU y cc nL ret) B.pre
  have hown : s.vm.findClass own = some m.cls := by rw [← ho]; exact findClass_of_methodNamed B.named
  have hl0 := lv_entry av (n := nL) hsl
  rw [lg_entry_eq]
  generalize (lg_sl av ++ List.replicate (nL - (lg_sl av).length) Slot.unset).toArray = ls at hl0 ⊢
  rw [hlv] at hl0
  exact body p e s m _ below meth c ls ⟨B.exec, B.bytes, hml, hown, fun x hx => hts x (List.mem_cons_of_mem _ hx), hst, B.notSynchronized, B.returns⟩ ⟨hP, va_S.rf⟩ hl0
end
