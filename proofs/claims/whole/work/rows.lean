section
-- ===== PART A: goes FIRST, ahead of the names: the tables' words, and 'selects' of the private methods out of them =====
/-- a private method of a class that the tables say can be made, by its rows of tables_1 -/
def lw_okq (q : MethodName × Nat) : Prop := (q.1.cls ≠ "java/lang/invoke/MethodHandle" ∧ q.1.cls ≠ "java/lang/invoke/VarHandle") ∧ Cond.instantiable q.1.cls q.2 ∈ tables_1 ∧ Cond.privateMethod q.1 ∈ tables_1 ∧ Cond.instanceMethod q.1 ∈ tables_1
theorem lw_p0 : lw_okq (⟨"LuggageBelt", "found", "(I)I"⟩, 12) := ⟨⟨by decide +kernel, by decide +kernel⟩, List.mem_of_getElem? (i := 20) (by decide +kernel), List.mem_of_getElem? (i := 270) (by decide +kernel), List.mem_of_getElem? (i := 271) (by decide +kernel)⟩
theorem lw_p1 : lw_okq (⟨"LuggageBelt", "fine", "(I)I"⟩, 12) := ⟨⟨by decide +kernel, by decide +kernel⟩, List.mem_of_getElem? (i := 20) (by decide +kernel), List.mem_of_getElem? (i := 280) (by decide +kernel), List.mem_of_getElem? (i := 281) (by decide +kernel)⟩
theorem lw_p2 : lw_okq (⟨"LuggageBelt$Tape", "nextToken", "()V"⟩, 6) := ⟨⟨by decide +kernel, by decide +kernel⟩, List.mem_of_getElem? (i := 50) (by decide +kernel), List.mem_of_getElem? (i := 350) (by decide +kernel), List.mem_of_getElem? (i := 351) (by decide +kernel)⟩
theorem lw_p3 : lw_okq (⟨"LuggageBelt$Tape", "byteAt", "(I)I"⟩, 6) := ⟨⟨by decide +kernel, by decide +kernel⟩, List.mem_of_getElem? (i := 50) (by decide +kernel), List.mem_of_getElem? (i := 354) (by decide +kernel), List.mem_of_getElem? (i := 355) (by decide +kernel)⟩
theorem lw_p4 : lw_okq (⟨"LuggageBelt$Tape", "readFigures", "()V"⟩, 6) := ⟨⟨by decide +kernel, by decide +kernel⟩, List.mem_of_getElem? (i := 50) (by decide +kernel), List.mem_of_getElem? (i := 361) (by decide +kernel), List.mem_of_getElem? (i := 362) (by decide +kernel)⟩
theorem lw_p5 : lw_okq (⟨"LuggageBelt$Tape", "readLaw", "(LLuggageBelt$Hall;)I"⟩, 6) := ⟨⟨by decide +kernel, by decide +kernel⟩, List.mem_of_getElem? (i := 50) (by decide +kernel), List.mem_of_getElem? (i := 365) (by decide +kernel), List.mem_of_getElem? (i := 366) (by decide +kernel)⟩
theorem lw_p6 : lw_okq (⟨"LuggageBelt$Tape", "readSign", "(I)I"⟩, 6) := ⟨⟨by decide +kernel, by decide +kernel⟩, List.mem_of_getElem? (i := 50) (by decide +kernel), List.mem_of_getElem? (i := 369) (by decide +kernel), List.mem_of_getElem? (i := 370) (by decide +kernel)⟩
theorem lw_p7 : lw_okq (⟨"LuggageBelt$Tape", "readNumber", "(II)I"⟩, 6) := ⟨⟨by decide +kernel, by decide +kernel⟩, List.mem_of_getElem? (i := 50) (by decide +kernel), List.mem_of_getElem? (i := 373) (by decide +kernel), List.mem_of_getElem? (i := 374) (by decide +kernel)⟩
theorem lw_p8 : lw_okq (⟨"LuggageBelt$Tape", "readTraveller", "(LLuggageBelt$Hall;)I"⟩, 6) := ⟨⟨by decide +kernel, by decide +kernel⟩, List.mem_of_getElem? (i := 50) (by decide +kernel), List.mem_of_getElem? (i := 383) (by decide +kernel), List.mem_of_getElem? (i := 384) (by decide +kernel)⟩
theorem lw_p9 : lw_okq (⟨"LuggageBelt$Hall", "followSpots", "()V"⟩, 13) := ⟨⟨by decide +kernel, by decide +kernel⟩, List.mem_of_getElem? (i := 75) (by decide +kernel), List.mem_of_getElem? (i := 513) (by decide +kernel), List.mem_of_getElem? (i := 514) (by decide +kernel)⟩
theorem lw_p10 : lw_okq (⟨"LuggageBelt", "noHall", "()Z"⟩, 12) := ⟨⟨by decide +kernel, by decide +kernel⟩, List.mem_of_getElem? (i := 20) (by decide +kernel), List.mem_of_getElem? (i := 534) (by decide +kernel), List.mem_of_getElem? (i := 535) (by decide +kernel)⟩
theorem lw_p11 : lw_okq (⟨"LuggageBelt$Hall", "dropFirst", "()V"⟩, 13) := ⟨⟨by decide +kernel, by decide +kernel⟩, List.mem_of_getElem? (i := 75) (by decide +kernel), List.mem_of_getElem? (i := 566) (by decide +kernel), List.mem_of_getElem? (i := 567) (by decide +kernel)⟩
theorem lw_p12 : lw_okq (⟨"LuggageBelt$Hall", "letLook", "(II)V"⟩, 13) := ⟨⟨by decide +kernel, by decide +kernel⟩, List.mem_of_getElem? (i := 75) (by decide +kernel), List.mem_of_getElem? (i := 578) (by decide +kernel), List.mem_of_getElem? (i := 579) (by decide +kernel)⟩
theorem lw_p13 : lw_okq (⟨"LuggageBelt$Hall", "wants", "(II)Z"⟩, 13) := ⟨⟨by decide +kernel, by decide +kernel⟩, List.mem_of_getElem? (i := 75) (by decide +kernel), List.mem_of_getElem? (i := 582) (by decide +kernel), List.mem_of_getElem? (i := 583) (by decide +kernel)⟩
theorem lw_p14 : lw_okq (⟨"LuggageBelt$Hall", "isAlone", "(I)Z"⟩, 13) := ⟨⟨by decide +kernel, by decide +kernel⟩, List.mem_of_getElem? (i := 75) (by decide +kernel), List.mem_of_getElem? (i := 586) (by decide +kernel), List.mem_of_getElem? (i := 587) (by decide +kernel)⟩
theorem lw_p15 : lw_okq (⟨"LuggageBelt$Hall", "take", "(II)V"⟩, 13) := ⟨⟨by decide +kernel, by decide +kernel⟩, List.mem_of_getElem? (i := 75) (by decide +kernel), List.mem_of_getElem? (i := 590) (by decide +kernel), List.mem_of_getElem? (i := 591) (by decide +kernel)⟩
def lw_privs_1 : List (MethodName × Nat) := [(⟨"LuggageBelt", "found", "(I)I"⟩, 12), (⟨"LuggageBelt", "fine", "(I)I"⟩, 12), (⟨"LuggageBelt$Tape", "nextToken", "()V"⟩, 6), (⟨"LuggageBelt$Tape", "byteAt", "(I)I"⟩, 6), (⟨"LuggageBelt$Tape", "readFigures", "()V"⟩, 6), (⟨"LuggageBelt$Tape", "readLaw", "(LLuggageBelt$Hall;)I"⟩, 6), (⟨"LuggageBelt$Tape", "readSign", "(I)I"⟩, 6), (⟨"LuggageBelt$Tape", "readNumber", "(II)I"⟩, 6), (⟨"LuggageBelt$Tape", "readTraveller", "(LLuggageBelt$Hall;)I"⟩, 6), (⟨"LuggageBelt$Hall", "followSpots", "()V"⟩, 13), (⟨"LuggageBelt", "noHall", "()Z"⟩, 12), (⟨"LuggageBelt$Hall", "dropFirst", "()V"⟩, 13), (⟨"LuggageBelt$Hall", "letLook", "(II)V"⟩, 13), (⟨"LuggageBelt$Hall", "wants", "(II)Z"⟩, 13), (⟨"LuggageBelt$Hall", "isAlone", "(I)Z"⟩, 13), (⟨"LuggageBelt$Hall", "take", "(II)V"⟩, 13)]
theorem lw_r1 : ∀ q ∈ lw_privs_1, lw_okq q := List.forall_mem_cons.mpr ⟨lw_p0, List.forall_mem_cons.mpr ⟨lw_p1, List.forall_mem_cons.mpr ⟨lw_p2, List.forall_mem_cons.mpr ⟨lw_p3, List.forall_mem_cons.mpr ⟨lw_p4, List.forall_mem_cons.mpr ⟨lw_p5, List.forall_mem_cons.mpr ⟨lw_p6, List.forall_mem_cons.mpr ⟨lw_p7, List.forall_mem_cons.mpr ⟨lw_p8, List.forall_mem_cons.mpr ⟨lw_p9, List.forall_mem_cons.mpr ⟨lw_p10, List.forall_mem_cons.mpr ⟨lw_p11, List.forall_mem_cons.mpr ⟨lw_p12, List.forall_mem_cons.mpr ⟨lw_p13, List.forall_mem_cons.mpr ⟨lw_p14, List.forall_mem_cons.mpr ⟨lw_p15, fun _ h => absurd h List.not_mem_nil⟩⟩⟩⟩⟩⟩⟩⟩⟩⟩⟩⟩⟩⟩⟩⟩
theorem lw_p16 : lw_okq (⟨"LuggageBelt$Hall", "isIn", "(II)Z"⟩, 13) := ⟨⟨by decide +kernel, by decide +kernel⟩, List.mem_of_getElem? (i := 75) (by decide +kernel), List.mem_of_getElem? (i := 598) (by decide +kernel), List.mem_of_getElem? (i := 599) (by decide +kernel)⟩
theorem lw_p17 : lw_okq (⟨"LuggageBelt$Foresight", "goOn", "(I)LLuggageBelt$Hall;"⟩, 2) := ⟨⟨by decide +kernel, by decide +kernel⟩, List.mem_of_getElem? (i := 158) (by decide +kernel), List.mem_of_getElem? (i := 691) (by decide +kernel), List.mem_of_getElem? (i := 692) (by decide +kernel)⟩
theorem lw_p18 : lw_okq (⟨"LuggageBelt$Foresight", "whenGoneWithOwn", "(III)I"⟩, 2) := ⟨⟨by decide +kernel, by decide +kernel⟩, List.mem_of_getElem? (i := 158) (by decide +kernel), List.mem_of_getElem? (i := 734) (by decide +kernel), List.mem_of_getElem? (i := 735) (by decide +kernel)⟩
theorem lw_p19 : lw_okq (⟨"LuggageBelt$OrderSearch", "isSearched", "()Z"⟩, 10) := ⟨⟨by decide +kernel, by decide +kernel⟩, List.mem_of_getElem? (i := 171) (by decide +kernel), List.mem_of_getElem? (i := 749) (by decide +kernel), List.mem_of_getElem? (i := 750) (by decide +kernel)⟩
theorem lw_p20 : lw_okq (⟨"LuggageBelt$OrderSearch", "tryFrom", "(II)V"⟩, 10) := ⟨⟨by decide +kernel, by decide +kernel⟩, List.mem_of_getElem? (i := 171) (by decide +kernel), List.mem_of_getElem? (i := 755) (by decide +kernel), List.mem_of_getElem? (i := 756) (by decide +kernel)⟩
theorem lw_p21 : lw_okq (⟨"LuggageBelt$OrderSearch", "tryEachFall", "(II)V"⟩, 10) := ⟨⟨by decide +kernel, by decide +kernel⟩, List.mem_of_getElem? (i := 171) (by decide +kernel), List.mem_of_getElem? (i := 761) (by decide +kernel), List.mem_of_getElem? (i := 762) (by decide +kernel)⟩
theorem lw_p22 : lw_okq (⟨"LuggageBelt$OrderSearch", "mayBeBetter", "()Z"⟩, 10) := ⟨⟨by decide +kernel, by decide +kernel⟩, List.mem_of_getElem? (i := 171) (by decide +kernel), List.mem_of_getElem? (i := 769) (by decide +kernel), List.mem_of_getElem? (i := 770) (by decide +kernel)⟩
theorem lw_p23 : lw_okq (⟨"LuggageBelt$OrderSearch", "weigh", "(I)V"⟩, 10) := ⟨⟨by decide +kernel, by decide +kernel⟩, List.mem_of_getElem? (i := 171) (by decide +kernel), List.mem_of_getElem? (i := 780) (by decide +kernel), List.mem_of_getElem? (i := 781) (by decide +kernel)⟩
theorem lw_p24 : lw_okq (⟨"LuggageBelt$OrderSearch", "ownCount", "()I"⟩, 10) := ⟨⟨by decide +kernel, by decide +kernel⟩, List.mem_of_getElem? (i := 171) (by decide +kernel), List.mem_of_getElem? (i := 784) (by decide +kernel), List.mem_of_getElem? (i := 785) (by decide +kernel)⟩
theorem lw_p25 : lw_okq (⟨"LuggageBelt$Foresight", "markEach", "(I)V"⟩, 2) := ⟨⟨by decide +kernel, by decide +kernel⟩, List.mem_of_getElem? (i := 158) (by decide +kernel), List.mem_of_getElem? (i := 810) (by decide +kernel), List.mem_of_getElem? (i := 811) (by decide +kernel)⟩
theorem lw_p26 : lw_okq (⟨"LuggageBelt$Foresight", "seenBy", "(I)I"⟩, 2) := ⟨⟨by decide +kernel, by decide +kernel⟩, List.mem_of_getElem? (i := 158) (by decide +kernel), List.mem_of_getElem? (i := 822) (by decide +kernel), List.mem_of_getElem? (i := 823) (by decide +kernel)⟩
theorem lw_p27 : lw_okq (⟨"LuggageBelt", "isTold", "(II)Z"⟩, 12) := ⟨⟨by decide +kernel, by decide +kernel⟩, List.mem_of_getElem? (i := 20) (by decide +kernel), List.mem_of_getElem? (i := 851) (by decide +kernel), List.mem_of_getElem? (i := 852) (by decide +kernel)⟩
theorem lw_p28 : lw_okq (⟨"LuggageBelt", "findingOfItems", "(III)I"⟩, 12) := ⟨⟨by decide +kernel, by decide +kernel⟩, List.mem_of_getElem? (i := 20) (by decide +kernel), List.mem_of_getElem? (i := 855) (by decide +kernel), List.mem_of_getElem? (i := 856) (by decide +kernel)⟩
theorem lw_p29 : lw_okq (⟨"LuggageBelt$Foresight", "goesAsTold", "(I[III)Z"⟩, 2) := ⟨⟨by decide +kernel, by decide +kernel⟩, List.mem_of_getElem? (i := 158) (by decide +kernel), List.mem_of_getElem? (i := 867) (by decide +kernel), List.mem_of_getElem? (i := 868) (by decide +kernel)⟩
theorem lw_p30 : lw_okq (⟨"LuggageBelt$Foresight", "drawOne", "(J)V"⟩, 2) := ⟨⟨by decide +kernel, by decide +kernel⟩, List.mem_of_getElem? (i := 158) (by decide +kernel), List.mem_of_getElem? (i := 912) (by decide +kernel), List.mem_of_getElem? (i := 913) (by decide +kernel)⟩
theorem lw_p31 : lw_okq (⟨"LuggageBelt$Asks", "asked", "(III)I"⟩, 3) := ⟨⟨by decide +kernel, by decide +kernel⟩, List.mem_of_getElem? (i := 208) (by decide +kernel), List.mem_of_getElem? (i := 953) (by decide +kernel), List.mem_of_getElem? (i := 954) (by decide +kernel)⟩
def lw_privs_2 : List (MethodName × Nat) := [(⟨"LuggageBelt$Hall", "isIn", "(II)Z"⟩, 13), (⟨"LuggageBelt$Foresight", "goOn", "(I)LLuggageBelt$Hall;"⟩, 2), (⟨"LuggageBelt$Foresight", "whenGoneWithOwn", "(III)I"⟩, 2), (⟨"LuggageBelt$OrderSearch", "isSearched", "()Z"⟩, 10), (⟨"LuggageBelt$OrderSearch", "tryFrom", "(II)V"⟩, 10), (⟨"LuggageBelt$OrderSearch", "tryEachFall", "(II)V"⟩, 10), (⟨"LuggageBelt$OrderSearch", "mayBeBetter", "()Z"⟩, 10), (⟨"LuggageBelt$OrderSearch", "weigh", "(I)V"⟩, 10), (⟨"LuggageBelt$OrderSearch", "ownCount", "()I"⟩, 10), (⟨"LuggageBelt$Foresight", "markEach", "(I)V"⟩, 2), (⟨"LuggageBelt$Foresight", "seenBy", "(I)I"⟩, 2), (⟨"LuggageBelt", "isTold", "(II)Z"⟩, 12), (⟨"LuggageBelt", "findingOfItems", "(III)I"⟩, 12), (⟨"LuggageBelt$Foresight", "goesAsTold", "(I[III)Z"⟩, 2), (⟨"LuggageBelt$Foresight", "drawOne", "(J)V"⟩, 2), (⟨"LuggageBelt$Asks", "asked", "(III)I"⟩, 3)]
theorem lw_r2 : ∀ q ∈ lw_privs_2, lw_okq q := List.forall_mem_cons.mpr ⟨lw_p16, List.forall_mem_cons.mpr ⟨lw_p17, List.forall_mem_cons.mpr ⟨lw_p18, List.forall_mem_cons.mpr ⟨lw_p19, List.forall_mem_cons.mpr ⟨lw_p20, List.forall_mem_cons.mpr ⟨lw_p21, List.forall_mem_cons.mpr ⟨lw_p22, List.forall_mem_cons.mpr ⟨lw_p23, List.forall_mem_cons.mpr ⟨lw_p24, List.forall_mem_cons.mpr ⟨lw_p25, List.forall_mem_cons.mpr ⟨lw_p26, List.forall_mem_cons.mpr ⟨lw_p27, List.forall_mem_cons.mpr ⟨lw_p28, List.forall_mem_cons.mpr ⟨lw_p29, List.forall_mem_cons.mpr ⟨lw_p30, List.forall_mem_cons.mpr ⟨lw_p31, fun _ h => absurd h List.not_mem_nil⟩⟩⟩⟩⟩⟩⟩⟩⟩⟩⟩⟩⟩⟩⟩⟩
theorem lw_p32 : lw_okq (⟨"LuggageBelt$Asks", "given", "(III)I"⟩, 3) := ⟨⟨by decide +kernel, by decide +kernel⟩, List.mem_of_getElem? (i := 208) (by decide +kernel), List.mem_of_getElem? (i := 962) (by decide +kernel), List.mem_of_getElem? (i := 963) (by decide +kernel)⟩
theorem lw_p33 : lw_okq (⟨"LuggageBelt$Asks", "leave", "(I)V"⟩, 3) := ⟨⟨by decide +kernel, by decide +kernel⟩, List.mem_of_getElem? (i := 208) (by decide +kernel), List.mem_of_getElem? (i := 966) (by decide +kernel), List.mem_of_getElem? (i := 967) (by decide +kernel)⟩
theorem lw_p34 : lw_okq (⟨"LuggageBeltModel", "find", "(I)I"⟩, 21) := ⟨⟨by decide +kernel, by decide +kernel⟩, List.mem_of_getElem? (i := 995) (by decide +kernel), List.mem_of_getElem? (i := 1079) (by decide +kernel), List.mem_of_getElem? (i := 1080) (by decide +kernel)⟩
theorem lw_p35 : lw_okq (⟨"LuggageBeltModel", "well", "(I)I"⟩, 21) := ⟨⟨by decide +kernel, by decide +kernel⟩, List.mem_of_getElem? (i := 995) (by decide +kernel), List.mem_of_getElem? (i := 1084) (by decide +kernel), List.mem_of_getElem? (i := 1085) (by decide +kernel)⟩
theorem lw_p36 : lw_okq (⟨"LuggageBeltModel", "isSpan", "(III)Z"⟩, 21) := ⟨⟨by decide +kernel, by decide +kernel⟩, List.mem_of_getElem? (i := 995) (by decide +kernel), List.mem_of_getElem? (i := 1099) (by decide +kernel), List.mem_of_getElem? (i := 1100) (by decide +kernel)⟩
theorem lw_p37 : lw_okq (⟨"LuggageBeltModel", "reads", "()Z"⟩, 21) := ⟨⟨by decide +kernel, by decide +kernel⟩, List.mem_of_getElem? (i := 995) (by decide +kernel), List.mem_of_getElem? (i := 1117) (by decide +kernel), List.mem_of_getElem? (i := 1118) (by decide +kernel)⟩
theorem lw_p38 : lw_okq (⟨"LuggageBeltModel", "readsLaw", "()Z"⟩, 21) := ⟨⟨by decide +kernel, by decide +kernel⟩, List.mem_of_getElem? (i := 995) (by decide +kernel), List.mem_of_getElem? (i := 1124) (by decide +kernel), List.mem_of_getElem? (i := 1125) (by decide +kernel)⟩
theorem lw_p39 : lw_okq (⟨"LuggageBeltModel", "sign", "(I)Z"⟩, 21) := ⟨⟨by decide +kernel, by decide +kernel⟩, List.mem_of_getElem? (i := 995) (by decide +kernel), List.mem_of_getElem? (i := 1128) (by decide +kernel), List.mem_of_getElem? (i := 1129) (by decide +kernel)⟩
theorem lw_p40 : lw_okq (⟨"LuggageBeltModel", "isLetter", "(I)Z"⟩, 21) := ⟨⟨by decide +kernel, by decide +kernel⟩, List.mem_of_getElem? (i := 995) (by decide +kernel), List.mem_of_getElem? (i := 1132) (by decide +kernel), List.mem_of_getElem? (i := 1133) (by decide +kernel)⟩
theorem lw_p41 : lw_okq (⟨"LuggageBeltModel", "refuse", "(I)Z"⟩, 21) := ⟨⟨by decide +kernel, by decide +kernel⟩, List.mem_of_getElem? (i := 995) (by decide +kernel), List.mem_of_getElem? (i := 1136) (by decide +kernel), List.mem_of_getElem? (i := 1137) (by decide +kernel)⟩
theorem lw_p42 : lw_okq (⟨"LuggageBeltModel", "readsNumber", "(II)Z"⟩, 21) := ⟨⟨by decide +kernel, by decide +kernel⟩, List.mem_of_getElem? (i := 995) (by decide +kernel), List.mem_of_getElem? (i := 1140) (by decide +kernel), List.mem_of_getElem? (i := 1141) (by decide +kernel)⟩
theorem lw_p43 : lw_okq (⟨"LuggageBeltModel", "isFigure", "(I)Z"⟩, 21) := ⟨⟨by decide +kernel, by decide +kernel⟩, List.mem_of_getElem? (i := 995) (by decide +kernel), List.mem_of_getElem? (i := 1144) (by decide +kernel), List.mem_of_getElem? (i := 1145) (by decide +kernel)⟩
theorem lw_p44 : lw_okq (⟨"LuggageBeltModel", "readsTraveller", "()Z"⟩, 21) := ⟨⟨by decide +kernel, by decide +kernel⟩, List.mem_of_getElem? (i := 995) (by decide +kernel), List.mem_of_getElem? (i := 1153) (by decide +kernel), List.mem_of_getElem? (i := 1154) (by decide +kernel)⟩
theorem lw_p45 : lw_okq (⟨"LuggageBeltModel", "copyHall", "(II)V"⟩, 21) := ⟨⟨by decide +kernel, by decide +kernel⟩, List.mem_of_getElem? (i := 995) (by decide +kernel), List.mem_of_getElem? (i := 1158) (by decide +kernel), List.mem_of_getElem? (i := 1159) (by decide +kernel)⟩
theorem lw_p46 : lw_okq (⟨"LuggageBeltModel", "isHall", "()Z"⟩, 21) := ⟨⟨by decide +kernel, by decide +kernel⟩, List.mem_of_getElem? (i := 995) (by decide +kernel), List.mem_of_getElem? (i := 1175) (by decide +kernel), List.mem_of_getElem? (i := 1176) (by decide +kernel)⟩
theorem lw_p47 : lw_okq (⟨"LuggageBeltModel", "keepPast", "()V"⟩, 21) := ⟨⟨by decide +kernel, by decide +kernel⟩, List.mem_of_getElem? (i := 995) (by decide +kernel), List.mem_of_getElem? (i := 1180) (by decide +kernel), List.mem_of_getElem? (i := 1181) (by decide +kernel)⟩
def lw_privs_3 : List (MethodName × Nat) := [(⟨"LuggageBelt$Asks", "given", "(III)I"⟩, 3), (⟨"LuggageBelt$Asks", "leave", "(I)V"⟩, 3), (⟨"LuggageBeltModel", "find", "(I)I"⟩, 21), (⟨"LuggageBeltModel", "well", "(I)I"⟩, 21), (⟨"LuggageBeltModel", "isSpan", "(III)Z"⟩, 21), (⟨"LuggageBeltModel", "reads", "()Z"⟩, 21), (⟨"LuggageBeltModel", "readsLaw", "()Z"⟩, 21), (⟨"LuggageBeltModel", "sign", "(I)Z"⟩, 21), (⟨"LuggageBeltModel", "isLetter", "(I)Z"⟩, 21), (⟨"LuggageBeltModel", "refuse", "(I)Z"⟩, 21), (⟨"LuggageBeltModel", "readsNumber", "(II)Z"⟩, 21), (⟨"LuggageBeltModel", "isFigure", "(I)Z"⟩, 21), (⟨"LuggageBeltModel", "readsTraveller", "()Z"⟩, 21), (⟨"LuggageBeltModel", "copyHall", "(II)V"⟩, 21), (⟨"LuggageBeltModel", "isHall", "()Z"⟩, 21), (⟨"LuggageBeltModel", "keepPast", "()V"⟩, 21)]
theorem lw_r3 : ∀ q ∈ lw_privs_3, lw_okq q := List.forall_mem_cons.mpr ⟨lw_p32, List.forall_mem_cons.mpr ⟨lw_p33, List.forall_mem_cons.mpr ⟨lw_p34, List.forall_mem_cons.mpr ⟨lw_p35, List.forall_mem_cons.mpr ⟨lw_p36, List.forall_mem_cons.mpr ⟨lw_p37, List.forall_mem_cons.mpr ⟨lw_p38, List.forall_mem_cons.mpr ⟨lw_p39, List.forall_mem_cons.mpr ⟨lw_p40, List.forall_mem_cons.mpr ⟨lw_p41, List.forall_mem_cons.mpr ⟨lw_p42, List.forall_mem_cons.mpr ⟨lw_p43, List.forall_mem_cons.mpr ⟨lw_p44, List.forall_mem_cons.mpr ⟨lw_p45, List.forall_mem_cons.mpr ⟨lw_p46, List.forall_mem_cons.mpr ⟨lw_p47, fun _ h => absurd h List.not_mem_nil⟩⟩⟩⟩⟩⟩⟩⟩⟩⟩⟩⟩⟩⟩⟩⟩
theorem lw_p48 : lw_okq (⟨"LuggageBeltModel", "ticksOf", "(II)V"⟩, 21) := ⟨⟨by decide +kernel, by decide +kernel⟩, List.mem_of_getElem? (i := 995) (by decide +kernel), List.mem_of_getElem? (i := 1184) (by decide +kernel), List.mem_of_getElem? (i := 1185) (by decide +kernel)⟩
theorem lw_p49 : lw_okq (⟨"LuggageBeltModel", "turns", "(II)V"⟩, 21) := ⟨⟨by decide +kernel, by decide +kernel⟩, List.mem_of_getElem? (i := 995) (by decide +kernel), List.mem_of_getElem? (i := 1188) (by decide +kernel), List.mem_of_getElem? (i := 1189) (by decide +kernel)⟩
theorem lw_p50 : lw_okq (⟨"LuggageBeltModel", "falls", "(I)V"⟩, 21) := ⟨⟨by decide +kernel, by decide +kernel⟩, List.mem_of_getElem? (i := 995) (by decide +kernel), List.mem_of_getElem? (i := 1192) (by decide +kernel), List.mem_of_getElem? (i := 1193) (by decide +kernel)⟩
theorem lw_p51 : lw_okq (⟨"LuggageBeltModel", "bagIn", "(II)I"⟩, 21) := ⟨⟨by decide +kernel, by decide +kernel⟩, List.mem_of_getElem? (i := 995) (by decide +kernel), List.mem_of_getElem? (i := 1196) (by decide +kernel), List.mem_of_getElem? (i := 1197) (by decide +kernel)⟩
theorem lw_p52 : lw_okq (⟨"LuggageBeltModel", "waits", "(II)Z"⟩, 21) := ⟨⟨by decide +kernel, by decide +kernel⟩, List.mem_of_getElem? (i := 995) (by decide +kernel), List.mem_of_getElem? (i := 1200) (by decide +kernel), List.mem_of_getElem? (i := 1201) (by decide +kernel)⟩
theorem lw_p53 : lw_okq (⟨"LuggageBeltModel", "looks", "(II)V"⟩, 21) := ⟨⟨by decide +kernel, by decide +kernel⟩, List.mem_of_getElem? (i := 995) (by decide +kernel), List.mem_of_getElem? (i := 1204) (by decide +kernel), List.mem_of_getElem? (i := 1205) (by decide +kernel)⟩
theorem lw_p54 : lw_okq (⟨"LuggageBeltModel", "takes", "(III)Z"⟩, 21) := ⟨⟨by decide +kernel, by decide +kernel⟩, List.mem_of_getElem? (i := 995) (by decide +kernel), List.mem_of_getElem? (i := 1211) (by decide +kernel), List.mem_of_getElem? (i := 1212) (by decide +kernel)⟩
theorem lw_p55 : lw_okq (⟨"LuggageBeltModel", "isSeen", "(II)Z"⟩, 21) := ⟨⟨by decide +kernel, by decide +kernel⟩, List.mem_of_getElem? (i := 995) (by decide +kernel), List.mem_of_getElem? (i := 1215) (by decide +kernel), List.mem_of_getElem? (i := 1216) (by decide +kernel)⟩
theorem lw_p56 : lw_okq (⟨"LuggageBeltModel", "goneOnes", "(I)I"⟩, 21) := ⟨⟨by decide +kernel, by decide +kernel⟩, List.mem_of_getElem? (i := 995) (by decide +kernel), List.mem_of_getElem? (i := 1219) (by decide +kernel), List.mem_of_getElem? (i := 1220) (by decide +kernel)⟩
theorem lw_p57 : lw_okq (⟨"LuggageBeltModel", "isOne", "(I)Z"⟩, 21) := ⟨⟨by decide +kernel, by decide +kernel⟩, List.mem_of_getElem? (i := 995) (by decide +kernel), List.mem_of_getElem? (i := 1227) (by decide +kernel), List.mem_of_getElem? (i := 1228) (by decide +kernel)⟩
theorem lw_p58 : lw_okq (⟨"LuggageBeltModel", "isPlace", "(I)Z"⟩, 21) := ⟨⟨by decide +kernel, by decide +kernel⟩, List.mem_of_getElem? (i := 995) (by decide +kernel), List.mem_of_getElem? (i := 1231) (by decide +kernel), List.mem_of_getElem? (i := 1232) (by decide +kernel)⟩
theorem lw_p59 : lw_okq (⟨"LuggageBeltModel", "comesBack", "(II)V"⟩, 21) := ⟨⟨by decide +kernel, by decide +kernel⟩, List.mem_of_getElem? (i := 995) (by decide +kernel), List.mem_of_getElem? (i := 1244) (by decide +kernel), List.mem_of_getElem? (i := 1245) (by decide +kernel)⟩
theorem lw_p60 : lw_okq (⟨"LuggageBeltModel", "onBelt", "(I)I"⟩, 21) := ⟨⟨by decide +kernel, by decide +kernel⟩, List.mem_of_getElem? (i := 995) (by decide +kernel), List.mem_of_getElem? (i := 1252) (by decide +kernel), List.mem_of_getElem? (i := 1253) (by decide +kernel)⟩
theorem lw_p61 : lw_okq (⟨"LuggageBeltModel", "isWrong", "(II)Z"⟩, 21) := ⟨⟨by decide +kernel, by decide +kernel⟩, List.mem_of_getElem? (i := 995) (by decide +kernel), List.mem_of_getElem? (i := 1263) (by decide +kernel), List.mem_of_getElem? (i := 1264) (by decide +kernel)⟩
theorem lw_p62 : lw_okq (⟨"LuggageBeltModel", "isRobbed", "(II)Z"⟩, 21) := ⟨⟨by decide +kernel, by decide +kernel⟩, List.mem_of_getElem? (i := 995) (by decide +kernel), List.mem_of_getElem? (i := 1267) (by decide +kernel), List.mem_of_getElem? (i := 1268) (by decide +kernel)⟩
theorem lw_p63 : lw_okq (⟨"LuggageBeltModel", "takenOnes", "()I"⟩, 21) := ⟨⟨by decide +kernel, by decide +kernel⟩, List.mem_of_getElem? (i := 995) (by decide +kernel), List.mem_of_getElem? (i := 1279) (by decide +kernel), List.mem_of_getElem? (i := 1280) (by decide +kernel)⟩
def lw_privs_4 : List (MethodName × Nat) := [(⟨"LuggageBeltModel", "ticksOf", "(II)V"⟩, 21), (⟨"LuggageBeltModel", "turns", "(II)V"⟩, 21), (⟨"LuggageBeltModel", "falls", "(I)V"⟩, 21), (⟨"LuggageBeltModel", "bagIn", "(II)I"⟩, 21), (⟨"LuggageBeltModel", "waits", "(II)Z"⟩, 21), (⟨"LuggageBeltModel", "looks", "(II)V"⟩, 21), (⟨"LuggageBeltModel", "takes", "(III)Z"⟩, 21), (⟨"LuggageBeltModel", "isSeen", "(II)Z"⟩, 21), (⟨"LuggageBeltModel", "goneOnes", "(I)I"⟩, 21), (⟨"LuggageBeltModel", "isOne", "(I)Z"⟩, 21), (⟨"LuggageBeltModel", "isPlace", "(I)Z"⟩, 21), (⟨"LuggageBeltModel", "comesBack", "(II)V"⟩, 21), (⟨"LuggageBeltModel", "onBelt", "(I)I"⟩, 21), (⟨"LuggageBeltModel", "isWrong", "(II)Z"⟩, 21), (⟨"LuggageBeltModel", "isRobbed", "(II)Z"⟩, 21), (⟨"LuggageBeltModel", "takenOnes", "()I"⟩, 21)]
theorem lw_r4 : ∀ q ∈ lw_privs_4, lw_okq q := List.forall_mem_cons.mpr ⟨lw_p48, List.forall_mem_cons.mpr ⟨lw_p49, List.forall_mem_cons.mpr ⟨lw_p50, List.forall_mem_cons.mpr ⟨lw_p51, List.forall_mem_cons.mpr ⟨lw_p52, List.forall_mem_cons.mpr ⟨lw_p53, List.forall_mem_cons.mpr ⟨lw_p54, List.forall_mem_cons.mpr ⟨lw_p55, List.forall_mem_cons.mpr ⟨lw_p56, List.forall_mem_cons.mpr ⟨lw_p57, List.forall_mem_cons.mpr ⟨lw_p58, List.forall_mem_cons.mpr ⟨lw_p59, List.forall_mem_cons.mpr ⟨lw_p60, List.forall_mem_cons.mpr ⟨lw_p61, List.forall_mem_cons.mpr ⟨lw_p62, List.forall_mem_cons.mpr ⟨lw_p63, fun _ h => absurd h List.not_mem_nil⟩⟩⟩⟩⟩⟩⟩⟩⟩⟩⟩⟩⟩⟩⟩⟩
theorem lw_p64 : lw_okq (⟨"LuggageBeltModel", "wrongOnes", "(I)I"⟩, 21) := ⟨⟨by decide +kernel, by decide +kernel⟩, List.mem_of_getElem? (i := 995) (by decide +kernel), List.mem_of_getElem? (i := 1283) (by decide +kernel), List.mem_of_getElem? (i := 1284) (by decide +kernel)⟩
theorem lw_p65 : lw_okq (⟨"LuggageBeltModel", "robbedOnes", "(I)I"⟩, 21) := ⟨⟨by decide +kernel, by decide +kernel⟩, List.mem_of_getElem? (i := 995) (by decide +kernel), List.mem_of_getElem? (i := 1287) (by decide +kernel), List.mem_of_getElem? (i := 1288) (by decide +kernel)⟩
theorem lw_p66 : lw_okq (⟨"LuggageBeltModel", "layTried", "()V"⟩, 21) := ⟨⟨by decide +kernel, by decide +kernel⟩, List.mem_of_getElem? (i := 995) (by decide +kernel), List.mem_of_getElem? (i := 1300) (by decide +kernel), List.mem_of_getElem? (i := 1301) (by decide +kernel)⟩
theorem lw_p67 : lw_okq (⟨"LuggageBeltModel", "goneFrom", "(III)I"⟩, 21) := ⟨⟨by decide +kernel, by decide +kernel⟩, List.mem_of_getElem? (i := 995) (by decide +kernel), List.mem_of_getElem? (i := 1324) (by decide +kernel), List.mem_of_getElem? (i := 1325) (by decide +kernel)⟩
theorem lw_p68 : lw_okq (⟨"LuggageBeltModel", "allSaw", "(I)I"⟩, 21) := ⟨⟨by decide +kernel, by decide +kernel⟩, List.mem_of_getElem? (i := 995) (by decide +kernel), List.mem_of_getElem? (i := 1333) (by decide +kernel), List.mem_of_getElem? (i := 1334) (by decide +kernel)⟩
theorem lw_p69 : lw_okq (⟨"LuggageBeltModel", "nextRanks", "(I)Z"⟩, 21) := ⟨⟨by decide +kernel, by decide +kernel⟩, List.mem_of_getElem? (i := 995) (by decide +kernel), List.mem_of_getElem? (i := 1337) (by decide +kernel), List.mem_of_getElem? (i := 1338) (by decide +kernel)⟩
theorem lw_p70 : lw_okq (⟨"LuggageBeltModel", "swapRanks", "(II)V"⟩, 21) := ⟨⟨by decide +kernel, by decide +kernel⟩, List.mem_of_getElem? (i := 995) (by decide +kernel), List.mem_of_getElem? (i := 1341) (by decide +kernel), List.mem_of_getElem? (i := 1342) (by decide +kernel)⟩
theorem lw_p71 : lw_okq (⟨"LuggageBeltModel", "sawOf", "(I)I"⟩, 21) := ⟨⟨by decide +kernel, by decide +kernel⟩, List.mem_of_getElem? (i := 995) (by decide +kernel), List.mem_of_getElem? (i := 1354) (by decide +kernel), List.mem_of_getElem? (i := 1355) (by decide +kernel)⟩
theorem lw_p72 : lw_okq (⟨"LuggageBeltModel", "refusal", "(III)I"⟩, 21) := ⟨⟨by decide +kernel, by decide +kernel⟩, List.mem_of_getElem? (i := 995) (by decide +kernel), List.mem_of_getElem? (i := 1373) (by decide +kernel), List.mem_of_getElem? (i := 1374) (by decide +kernel)⟩
theorem lw_p73 : lw_okq (⟨"LuggageBeltModel", "isSo", "(III)Z"⟩, 21) := ⟨⟨by decide +kernel, by decide +kernel⟩, List.mem_of_getElem? (i := 995) (by decide +kernel), List.mem_of_getElem? (i := 1377) (by decide +kernel), List.mem_of_getElem? (i := 1378) (by decide +kernel)⟩
theorem lw_p74 : lw_okq (⟨"LuggageBeltModel", "isOf", "(II)Z"⟩, 21) := ⟨⟨by decide +kernel, by decide +kernel⟩, List.mem_of_getElem? (i := 995) (by decide +kernel), List.mem_of_getElem? (i := 1415) (by decide +kernel), List.mem_of_getElem? (i := 1416) (by decide +kernel)⟩
theorem lw_p75 : lw_okq (⟨"LuggageBeltModel", "sizeOf", "(I)I"⟩, 21) := ⟨⟨by decide +kernel, by decide +kernel⟩, List.mem_of_getElem? (i := 995) (by decide +kernel), List.mem_of_getElem? (i := 1423) (by decide +kernel), List.mem_of_getElem? (i := 1424) (by decide +kernel)⟩
theorem lw_p76 : lw_okq (⟨"LuggageBeltModel", "begin", "(I)V"⟩, 21) := ⟨⟨by decide +kernel, by decide +kernel⟩, List.mem_of_getElem? (i := 995) (by decide +kernel), List.mem_of_getElem? (i := 1427) (by decide +kernel), List.mem_of_getElem? (i := 1428) (by decide +kernel)⟩
theorem lw_p77 : lw_okq (⟨"LuggageBeltModel", "calmSize", "(I)I"⟩, 21) := ⟨⟨by decide +kernel, by decide +kernel⟩, List.mem_of_getElem? (i := 995) (by decide +kernel), List.mem_of_getElem? (i := 1431) (by decide +kernel), List.mem_of_getElem? (i := 1432) (by decide +kernel)⟩
theorem lw_p78 : lw_okq (⟨"LuggageBeltModel", "lentSize", "(I)I"⟩, 21) := ⟨⟨by decide +kernel, by decide +kernel⟩, List.mem_of_getElem? (i := 995) (by decide +kernel), List.mem_of_getElem? (i := 1435) (by decide +kernel), List.mem_of_getElem? (i := 1436) (by decide +kernel)⟩
theorem lw_p79 : lw_okq (⟨"LuggageBeltModel", "calmerMark", "(I)I"⟩, 21) := ⟨⟨by decide +kernel, by decide +kernel⟩, List.mem_of_getElem? (i := 995) (by decide +kernel), List.mem_of_getElem? (i := 1439) (by decide +kernel), List.mem_of_getElem? (i := 1440) (by decide +kernel)⟩
def lw_privs_5 : List (MethodName × Nat) := [(⟨"LuggageBeltModel", "wrongOnes", "(I)I"⟩, 21), (⟨"LuggageBeltModel", "robbedOnes", "(I)I"⟩, 21), (⟨"LuggageBeltModel", "layTried", "()V"⟩, 21), (⟨"LuggageBeltModel", "goneFrom", "(III)I"⟩, 21), (⟨"LuggageBeltModel", "allSaw", "(I)I"⟩, 21), (⟨"LuggageBeltModel", "nextRanks", "(I)Z"⟩, 21), (⟨"LuggageBeltModel", "swapRanks", "(II)V"⟩, 21), (⟨"LuggageBeltModel", "sawOf", "(I)I"⟩, 21), (⟨"LuggageBeltModel", "refusal", "(III)I"⟩, 21), (⟨"LuggageBeltModel", "isSo", "(III)Z"⟩, 21), (⟨"LuggageBeltModel", "isOf", "(II)Z"⟩, 21), (⟨"LuggageBeltModel", "sizeOf", "(I)I"⟩, 21), (⟨"LuggageBeltModel", "begin", "(I)V"⟩, 21), (⟨"LuggageBeltModel", "calmSize", "(I)I"⟩, 21), (⟨"LuggageBeltModel", "lentSize", "(I)I"⟩, 21), (⟨"LuggageBeltModel", "calmerMark", "(I)I"⟩, 21)]
theorem lw_r5 : ∀ q ∈ lw_privs_5, lw_okq q := List.forall_mem_cons.mpr ⟨lw_p64, List.forall_mem_cons.mpr ⟨lw_p65, List.forall_mem_cons.mpr ⟨lw_p66, List.forall_mem_cons.mpr ⟨lw_p67, List.forall_mem_cons.mpr ⟨lw_p68, List.forall_mem_cons.mpr ⟨lw_p69, List.forall_mem_cons.mpr ⟨lw_p70, List.forall_mem_cons.mpr ⟨lw_p71, List.forall_mem_cons.mpr ⟨lw_p72, List.forall_mem_cons.mpr ⟨lw_p73, List.forall_mem_cons.mpr ⟨lw_p74, List.forall_mem_cons.mpr ⟨lw_p75, List.forall_mem_cons.mpr ⟨lw_p76, List.forall_mem_cons.mpr ⟨lw_p77, List.forall_mem_cons.mpr ⟨lw_p78, List.forall_mem_cons.mpr ⟨lw_p79, fun _ h => absurd h List.not_mem_nil⟩⟩⟩⟩⟩⟩⟩⟩⟩⟩⟩⟩⟩⟩⟩⟩
theorem lw_p80 : lw_okq (⟨"LuggageBeltModel", "calmMark", "(I)I"⟩, 21) := ⟨⟨by decide +kernel, by decide +kernel⟩, List.mem_of_getElem? (i := 995) (by decide +kernel), List.mem_of_getElem? (i := 1443) (by decide +kernel), List.mem_of_getElem? (i := 1444) (by decide +kernel)⟩
theorem lw_p81 : lw_okq (⟨"LuggageBeltModel", "lentMark", "(I)I"⟩, 21) := ⟨⟨by decide +kernel, by decide +kernel⟩, List.mem_of_getElem? (i := 995) (by decide +kernel), List.mem_of_getElem? (i := 1447) (by decide +kernel), List.mem_of_getElem? (i := 1448) (by decide +kernel)⟩
theorem lw_p82 : lw_okq (⟨"LuggageBeltModel", "slowSize", "(I)I"⟩, 21) := ⟨⟨by decide +kernel, by decide +kernel⟩, List.mem_of_getElem? (i := 995) (by decide +kernel), List.mem_of_getElem? (i := 1451) (by decide +kernel), List.mem_of_getElem? (i := 1452) (by decide +kernel)⟩
theorem lw_p83 : lw_okq (⟨"LuggageBeltModel", "slowMark", "(I)I"⟩, 21) := ⟨⟨by decide +kernel, by decide +kernel⟩, List.mem_of_getElem? (i := 995) (by decide +kernel), List.mem_of_getElem? (i := 1455) (by decide +kernel), List.mem_of_getElem? (i := 1456) (by decide +kernel)⟩
def lw_privs_6 : List (MethodName × Nat) := [(⟨"LuggageBeltModel", "calmMark", "(I)I"⟩, 21), (⟨"LuggageBeltModel", "lentMark", "(I)I"⟩, 21), (⟨"LuggageBeltModel", "slowSize", "(I)I"⟩, 21), (⟨"LuggageBeltModel", "slowMark", "(I)I"⟩, 21)]
theorem lw_r6 : ∀ q ∈ lw_privs_6, lw_okq q := List.forall_mem_cons.mpr ⟨lw_p80, List.forall_mem_cons.mpr ⟨lw_p81, List.forall_mem_cons.mpr ⟨lw_p82, List.forall_mem_cons.mpr ⟨lw_p83, fun _ h => absurd h List.not_mem_nil⟩⟩⟩⟩
def lw_privs : List (MethodName × Nat) := lw_privs_1 ++ (lw_privs_2 ++ (lw_privs_3 ++ (lw_privs_4 ++ (lw_privs_5 ++ (lw_privs_6)))))
def lw_tbl : List Cond := k2_sels lw_privs ++ tables_1
theorem lw_privs_ok : ∀ q ∈ lw_privs, lw_okq q := by
  show ∀ q ∈ lw_privs_1 ++ (lw_privs_2 ++ (lw_privs_3 ++ (lw_privs_4 ++ (lw_privs_5 ++ (lw_privs_6))))), lw_okq q
  exact List.forall_mem_append.mpr ⟨lw_r1, List.forall_mem_append.mpr ⟨lw_r2, List.forall_mem_append.mpr ⟨lw_r3, List.forall_mem_append.mpr ⟨lw_r4, List.forall_mem_append.mpr ⟨lw_r5, lw_r6⟩⟩⟩⟩⟩
end
section
def RX0 : String := "LuggageBelt$Acts"
def TX0 : u_T := fun k => match k with
  | 0 => ("LuggageBelt$Acts", "ring", "[I", true)
  | 1 => ("LuggageBelt$Acts", "next", "I", false)
  | _ => ("LuggageBelt$Acts", "kept", "I", false)
def tyX0 : Nat → FieldType := fun k => match k with
  | 0 => .array .int
  | 1 => .int
  | _ => .int
theorem nmX0 : ∀ a, a < 3 → ∀ b, b < 3 → a ≠ b → (TX0 a).2.1 ≠ (TX0 b).2.1 := by decide +kernel
theorem tyX0_ok : ∀ k, k < 3 → parseFieldDescriptor (TX0 k).2.2.1 = some (tyX0 k) := by decide +kernel
abbrev cX0_init : ByteArray := prog_2_method_1_code
def yX0_init : MethodName := ⟨RX0, "<init>", "()V"⟩
abbrev cX0_kept : ByteArray := prog_2_method_2_code
def yX0_kept : MethodName := ⟨RX0, "kept", "()I"⟩
abbrev cX0_clear : ByteArray := prog_2_method_3_code
def yX0_clear : MethodName := ⟨RX0, "clear", "()V"⟩
abbrev cX0_keep : ByteArray := prog_2_method_4_code
def yX0_keep : MethodName := ⟨RX0, "keep", "(LLuggageBelt$Hall;)V"⟩
abbrev cX0_undoIn : ByteArray := prog_2_method_5_code
def yX0_undoIn : MethodName := ⟨RX0, "undoIn", "(LLuggageBelt$Hall;)Z"⟩
def RX1 : String := "LuggageBelt$Asks"
def TX1 : u_T := fun k => match k with
  | 0 => ("LuggageBelt$Asks", "now", "LLuggageBelt$Hall;", true)
  | 1 => ("LuggageBelt$Asks", "trace", "[I", true)
  | _ => ("LuggageBelt$Asks", "traceLength", "I", false)
def tyX1 : Nat → FieldType := fun k => match k with
  | 0 => .object "LuggageBelt$Hall"
  | 1 => .array .int
  | _ => .int
theorem nmX1 : ∀ a, a < 3 → ∀ b, b < 3 → a ≠ b → (TX1 a).2.1 ≠ (TX1 b).2.1 := by decide +kernel
theorem tyX1_ok : ∀ k, k < 3 → parseFieldDescriptor (TX1 k).2.2.1 = some (tyX1 k) := by decide +kernel
abbrev cX1_init : ByteArray := prog_3_method_1_code
def yX1_init : MethodName := ⟨RX1, "<init>", "(LLuggageBelt$Hall;)V"⟩
abbrev cX1_isOfKind : ByteArray := prog_3_method_2_code
def yX1_isOfKind : MethodName := ⟨RX1, "isOfKind", "(II)Z"⟩
abbrev cX1_kindAbove : ByteArray := prog_3_method_3_code
def yX1_kindAbove : MethodName := ⟨RX1, "kindAbove", "(I)I"⟩
abbrev cX1_bodyInTrace : ByteArray := prog_3_method_4_code
def yX1_bodyInTrace : MethodName := ⟨RX1, "bodyInTrace", "(I)I"⟩
abbrev cX1_begin : ByteArray := prog_3_method_5_code
def yX1_begin : MethodName := ⟨RX1, "begin", "(II)I"⟩
abbrev cX1_asked : ByteArray := prog_3_method_6_code
def yX1_asked : MethodName := ⟨RX1, "asked", "(III)I"⟩
abbrev cX1_given : ByteArray := prog_3_method_7_code
def yX1_given : MethodName := ⟨RX1, "given", "(III)I"⟩
abbrev cX1_leave : ByteArray := prog_3_method_8_code
def yX1_leave : MethodName := ⟨RX1, "leave", "(I)V"⟩
def RX2 : String := "LuggageBelt$Foresight"
def TX2 : u_T := fun k => match k with
  | 0 => ("LuggageBelt$Foresight", "now", "LLuggageBelt$Hall;", true)
  | _ => ("LuggageBelt$Foresight", "trial", "LLuggageBelt$Hall;", true)
def tyX2 : Nat → FieldType := fun k => match k with
  | 0 => .object "LuggageBelt$Hall"
  | _ => .object "LuggageBelt$Hall"
theorem nmX2 : ∀ a, a < 2 → ∀ b, b < 2 → a ≠ b → (TX2 a).2.1 ≠ (TX2 b).2.1 := by decide +kernel
theorem tyX2_ok : ∀ k, k < 2 → parseFieldDescriptor (TX2 k).2.2.1 = some (tyX2 k) := by decide +kernel
abbrev cX2_init : ByteArray := prog_4_method_1_code
def yX2_init : MethodName := ⟨RX2, "<init>", "(LLuggageBelt$Hall;LLuggageBelt$Hall;)V"⟩
abbrev cX2_behind : ByteArray := prog_4_method_2_code
def yX2_behind : MethodName := ⟨RX2, "behind", "(I)LLuggageBelt$Hall;"⟩
abbrev cX2_goOn : ByteArray := prog_4_method_3_code
def yX2_goOn : MethodName := ⟨RX2, "goOn", "(I)LLuggageBelt$Hall;"⟩
abbrev cX2_whenGone : ByteArray := prog_4_method_4_code
def yX2_whenGone : MethodName := ⟨RX2, "whenGone", "(I)I"⟩
abbrev cX2_whenEmpty : ByteArray := prog_4_method_5_code
def yX2_whenEmpty : MethodName := ⟨RX2, "whenEmpty", "()I"⟩
abbrev cX2_bestStand : ByteArray := prog_4_method_6_code
def yX2_bestStand : MethodName := ⟨RX2, "bestStand", "(III)I"⟩
abbrev cX2_whenGoneWithOwn : ByteArray := prog_4_method_7_code
def yX2_whenGoneWithOwn : MethodName := ⟨RX2, "whenGoneWithOwn", "(III)I"⟩
abbrev cX2_fewestMarks : ByteArray := prog_4_method_8_code
def yX2_fewestMarks : MethodName := ⟨RX2, "fewestMarks", "(I)I"⟩
abbrev cX2_markEach : ByteArray := prog_4_method_9_code
def yX2_markEach : MethodName := ⟨RX2, "markEach", "(I)V"⟩
abbrev cX2_setsThatSaw : ByteArray := prog_4_method_10_code
def yX2_setsThatSaw : MethodName := ⟨RX2, "setsThatSaw", "(II)I"⟩
abbrev cX2_seenBy : ByteArray := prog_4_method_11_code
def yX2_seenBy : MethodName := ⟨RX2, "seenBy", "(I)I"⟩
abbrev cX2_outcomeOfTurns : ByteArray := prog_4_method_12_code
def yX2_outcomeOfTurns : MethodName := ⟨RX2, "outcomeOfTurns", "(IIII)I"⟩
abbrev cX2_kindsThatFit : ByteArray := prog_4_method_13_code
def yX2_kindsThatFit : MethodName := ⟨RX2, "kindsThatFit", "(II[III)I"⟩
abbrev cX2_standsThatFit : ByteArray := prog_4_method_14_code
def yX2_standsThatFit : MethodName := ⟨RX2, "standsThatFit", "(II[III)I"⟩
abbrev cX2_coloursThatFit : ByteArray := prog_4_method_15_code
def yX2_coloursThatFit : MethodName := ⟨RX2, "coloursThatFit", "(I[III)I"⟩
abbrev cX2_goesAsTold : ByteArray := prog_4_method_16_code
def yX2_goesAsTold : MethodName := ⟨RX2, "goesAsTold", "(I[III)Z"⟩
abbrev cX2_likelyOnBelt : ByteArray := prog_4_method_17_code
def yX2_likelyOnBelt : MethodName := ⟨RX2, "likelyOnBelt", "(IIII)J"⟩
abbrev cX2_power : ByteArray := prog_4_method_18_code
def yX2_power : MethodName := ⟨RX2, "power", "(II)J"⟩
abbrev cX2_commonDivisor : ByteArray := prog_4_method_19_code
def yX2_commonDivisor : MethodName := ⟨RX2, "commonDivisor", "(JJ)J"⟩
abbrev cX2_goneInDays : ByteArray := prog_4_method_20_code
def yX2_goneInDays : MethodName := ⟨RX2, "goneInDays", "(III)I"⟩
abbrev cX2_drawOne : ByteArray := prog_4_method_21_code
def yX2_drawOne : MethodName := ⟨RX2, "drawOne", "(J)V"⟩
def RX3 : String := "LuggageBelt$Hall"
def TX3 : u_T := fun k => match k with
  | 0 => ("LuggageBelt$Hall", "places", "I", false)
  | 1 => ("LuggageBelt$Hall", "travellers", "I", false)
  | 2 => ("LuggageBelt$Hall", "tick", "I", false)
  | 3 => ("LuggageBelt$Hall", "asleep", "I", false)
  | 4 => ("LuggageBelt$Hall", "shift", "I", false)
  | 5 => ("LuggageBelt$Hall", "inCart", "I", false)
  | 6 => ("LuggageBelt$Hall", "kinds", "[I", true)
  | 7 => ("LuggageBelt$Hall", "stands", "[I", true)
  | 8 => ("LuggageBelt$Hall", "saw", "[I", true)
  | 9 => ("LuggageBelt$Hall", "took", "[I", true)
  | 10 => ("LuggageBelt$Hall", "paints", "[I", true)
  | 11 => ("LuggageBelt$Hall", "spots", "[I", true)
  | _ => ("LuggageBelt$Hall", "slats", "[I", true)
def tyX3 : Nat → FieldType := fun k => match k with
  | 0 => .int
  | 1 => .int
  | 2 => .int
  | 3 => .int
  | 4 => .int
  | 5 => .int
  | 6 => .array .int
  | 7 => .array .int
  | 8 => .array .int
  | 9 => .array .int
  | 10 => .array .int
  | 11 => .array .int
  | _ => .array .int
theorem nmX3 : ∀ a, a < 13 → ∀ b, b < 13 → a ≠ b → (TX3 a).2.1 ≠ (TX3 b).2.1 := by decide +kernel
theorem tyX3_ok : ∀ k, k < 13 → parseFieldDescriptor (TX3 k).2.2.1 = some (tyX3 k) := by decide +kernel
abbrev cX3_init : ByteArray := prog_5_method_1_code
def yX3_init : MethodName := ⟨RX3, "<init>", "()V"⟩
abbrev cX3_begin : ByteArray := prog_5_method_2_code
def yX3_begin : MethodName := ⟨RX3, "begin", "(I)V"⟩
abbrev cX3_join : ByteArray := prog_5_method_3_code
def yX3_join : MethodName := ⟨RX3, "join", "(III)V"⟩
abbrev cX3_become : ByteArray := prog_5_method_4_code
def yX3_become : MethodName := ⟨RX3, "become", "(LLuggageBelt$Hall;)V"⟩
abbrev cX3_saveTo : ByteArray := prog_5_method_5_code
def yX3_saveTo : MethodName := ⟨RX3, "saveTo", "([II)V"⟩
abbrev cX3_loadFrom : ByteArray := prog_5_method_6_code
def yX3_loadFrom : MethodName := ⟨RX3, "loadFrom", "([II)V"⟩
abbrev cX3_followSpots : ByteArray := prog_5_method_7_code
def yX3_followSpots : MethodName := ⟨RX3, "followSpots", "()V"⟩
abbrev cX3_has : ByteArray := prog_5_method_8_code
def yX3_has : MethodName := ⟨RX3, "has", "(I)Z"⟩
abbrev cX3_hasPlace : ByteArray := prog_5_method_9_code
def yX3_hasPlace : MethodName := ⟨RX3, "hasPlace", "(I)Z"⟩
abbrev cX3_waits : ByteArray := prog_5_method_10_code
def yX3_waits : MethodName := ⟨RX3, "waits", "(I)Z"⟩
abbrev cX3_hasOwn : ByteArray := prog_5_method_11_code
def yX3_hasOwn : MethodName := ⟨RX3, "hasOwn", "(I)Z"⟩
abbrev cX3_isWrong : ByteArray := prog_5_method_12_code
def yX3_isWrong : MethodName := ⟨RX3, "isWrong", "(I)Z"⟩
abbrev cX3_isRobbed : ByteArray := prog_5_method_13_code
def yX3_isRobbed : MethodName := ⟨RX3, "isRobbed", "(I)Z"⟩
abbrev cX3_isTaken : ByteArray := prog_5_method_14_code
def yX3_isTaken : MethodName := ⟨RX3, "isTaken", "(I)Z"⟩
abbrev cX3_isInCart : ByteArray := prog_5_method_15_code
def yX3_isInCart : MethodName := ⟨RX3, "isInCart", "(I)Z"⟩
abbrev cX3_isOnBelt : ByteArray := prog_5_method_16_code
def yX3_isOnBelt : MethodName := ⟨RX3, "isOnBelt", "(I)Z"⟩
abbrev cX3_whereIs : ByteArray := prog_5_method_17_code
def yX3_whereIs : MethodName := ⟨RX3, "whereIs", "(I)I"⟩
abbrev cX3_bagAt : ByteArray := prog_5_method_18_code
def yX3_bagAt : MethodName := ⟨RX3, "bagAt", "(I)I"⟩
abbrev cX3_setOf : ByteArray := prog_5_method_19_code
def yX3_setOf : MethodName := ⟨RX3, "setOf", "(I)I"⟩
abbrev cX3_isIn : ByteArray := prog_5_method_20_code
def yX3_isIn : MethodName := ⟨RX3, "isIn", "(II)Z"⟩
abbrev cX3_seenTogether : ByteArray := prog_5_method_21_code
def yX3_seenTogether : MethodName := ⟨RX3, "seenTogether", "()I"⟩
abbrev cX3_shareOf : ByteArray := prog_5_method_22_code
def yX3_shareOf : MethodName := ⟨RX3, "shareOf", "(II)I"⟩
abbrev cX3_tickOnce : ByteArray := prog_5_method_23_code
def yX3_tickOnce : MethodName := ⟨RX3, "tickOnce", "()V"⟩
abbrev cX3_turnBy : ByteArray := prog_5_method_24_code
def yX3_turnBy : MethodName := ⟨RX3, "turnBy", "(I)V"⟩
abbrev cX3_isFallDue : ByteArray := prog_5_method_25_code
def yX3_isFallDue : MethodName := ⟨RX3, "isFallDue", "()Z"⟩
abbrev cX3_dropFirst : ByteArray := prog_5_method_26_code
def yX3_dropFirst : MethodName := ⟨RX3, "dropFirst", "()V"⟩
abbrev cX3_fallDown : ByteArray := prog_5_method_27_code
def yX3_fallDown : MethodName := ⟨RX3, "fallDown", "(I)V"⟩
abbrev cX3_letTake : ByteArray := prog_5_method_28_code
def yX3_letTake : MethodName := ⟨RX3, "letTake", "()V"⟩
abbrev cX3_letLook : ByteArray := prog_5_method_29_code
def yX3_letLook : MethodName := ⟨RX3, "letLook", "(II)V"⟩
abbrev cX3_wants : ByteArray := prog_5_method_30_code
def yX3_wants : MethodName := ⟨RX3, "wants", "(II)Z"⟩
abbrev cX3_isAlone : ByteArray := prog_5_method_31_code
def yX3_isAlone : MethodName := ⟨RX3, "isAlone", "(I)Z"⟩
abbrev cX3_take : ByteArray := prog_5_method_32_code
def yX3_take : MethodName := ⟨RX3, "take", "(II)V"⟩
abbrev cX3_comeBack : ByteArray := prog_5_method_33_code
def yX3_comeBack : MethodName := ⟨RX3, "comeBack", "(I)V"⟩
def RX4 : String := "LuggageBelt$OrderSearch"
def TX4 : u_T := fun k => match k with
  | 0 => ("LuggageBelt$OrderSearch", "trial", "LLuggageBelt$Hall;", true)
  | 1 => ("LuggageBelt$OrderSearch", "levels", "[I", true)
  | 2 => ("LuggageBelt$OrderSearch", "hallNow", "[I", true)
  | 3 => ("LuggageBelt$OrderSearch", "hallSearched", "[I", true)
  | 4 => ("LuggageBelt$OrderSearch", "falls", "[I", true)
  | 5 => ("LuggageBelt$OrderSearch", "bestFalls", "[I", true)
  | 6 => ("LuggageBelt$OrderSearch", "bestFallCount", "I", false)
  | 7 => ("LuggageBelt$OrderSearch", "ticksInAll", "I", false)
  | 8 => ("LuggageBelt$OrderSearch", "most", "I", false)
  | _ => ("LuggageBelt$OrderSearch", "least", "I", false)
def tyX4 : Nat → FieldType := fun k => match k with
  | 0 => .object "LuggageBelt$Hall"
  | 1 => .array .int
  | 2 => .array .int
  | 3 => .array .int
  | 4 => .array .int
  | 5 => .array .int
  | 6 => .int
  | 7 => .int
  | 8 => .int
  | _ => .int
theorem nmX4 : ∀ a, a < 10 → ∀ b, b < 10 → a ≠ b → (TX4 a).2.1 ≠ (TX4 b).2.1 := by decide +kernel
theorem tyX4_ok : ∀ k, k < 10 → parseFieldDescriptor (TX4 k).2.2.1 = some (tyX4 k) := by decide +kernel
abbrev cX4_init : ByteArray := prog_6_method_1_code
def yX4_init : MethodName := ⟨RX4, "<init>", "(LLuggageBelt$Hall;)V"⟩
abbrev cX4_mostOwn : ByteArray := prog_6_method_2_code
def yX4_mostOwn : MethodName := ⟨RX4, "mostOwn", "()I"⟩
abbrev cX4_search : ByteArray := prog_6_method_3_code
def yX4_search : MethodName := ⟨RX4, "search", "(LLuggageBelt$Hall;I)V"⟩
abbrev cX4_isSearched : ByteArray := prog_6_method_4_code
def yX4_isSearched : MethodName := ⟨RX4, "isSearched", "()Z"⟩
abbrev cX4_tryFrom : ByteArray := prog_6_method_5_code
def yX4_tryFrom : MethodName := ⟨RX4, "tryFrom", "(II)V"⟩
abbrev cX4_tryEachFall : ByteArray := prog_6_method_6_code
def yX4_tryEachFall : MethodName := ⟨RX4, "tryEachFall", "(II)V"⟩
abbrev cX4_mayBeBetter : ByteArray := prog_6_method_7_code
def yX4_mayBeBetter : MethodName := ⟨RX4, "mayBeBetter", "()Z"⟩
abbrev cX4_ownCount : ByteArray := prog_6_method_8_code
def yX4_ownCount : MethodName := ⟨RX4, "ownCount", "()I"⟩
abbrev cX4_weigh : ByteArray := prog_6_method_9_code
def yX4_weigh : MethodName := ⟨RX4, "weigh", "(I)V"⟩
abbrev cX4_bagInOrder : ByteArray := prog_6_method_10_code
def yX4_bagInOrder : MethodName := ⟨RX4, "bagInOrder", "(LLuggageBelt$Hall;I)I"⟩
abbrev cX4_lowest : ByteArray := prog_6_method_11_code
def yX4_lowest : MethodName := ⟨RX4, "lowest", "(I)I"⟩
def RX5 : String := "LuggageBelt$Rows"
def TX5 : u_T := fun k => match k with
  | 0 => ("LuggageBelt$Rows", "lanes", "[I", true)
  | 1 => ("LuggageBelt$Rows", "sizes", "[I", true)
  | _ => ("LuggageBelt$Rows", "items", "[[I", true)
def tyX5 : Nat → FieldType := fun k => match k with
  | 0 => .array .int
  | 1 => .array .int
  | _ => .array (.array .int)
theorem nmX5 : ∀ a, a < 3 → ∀ b, b < 3 → a ≠ b → (TX5 a).2.1 ≠ (TX5 b).2.1 := by decide +kernel
theorem tyX5_ok : ∀ k, k < 3 → parseFieldDescriptor (TX5 k).2.2.1 = some (tyX5 k) := by decide +kernel
abbrev cX5_init : ByteArray := prog_7_method_1_code
def yX5_init : MethodName := ⟨RX5, "<init>", "()V"⟩
abbrev cX5_isNumber : ByteArray := prog_7_method_2_code
def yX5_isNumber : MethodName := ⟨RX5, "isNumber", "(I)Z"⟩
abbrev cX5_isMissing : ByteArray := prog_7_method_3_code
def yX5_isMissing : MethodName := ⟨RX5, "isMissing", "(I)Z"⟩
abbrev cX5_laneOf : ByteArray := prog_7_method_4_code
def yX5_laneOf : MethodName := ⟨RX5, "laneOf", "(I)I"⟩
abbrev cX5_itemsOf : ByteArray := prog_7_method_5_code
def yX5_itemsOf : MethodName := ⟨RX5, "itemsOf", "(I)[I"⟩
abbrev cX5_reaches : ByteArray := prog_7_method_6_code
def yX5_reaches : MethodName := ⟨RX5, "reaches", "(III)Z"⟩
abbrev cX5_howMany : ByteArray := prog_7_method_7_code
def yX5_howMany : MethodName := ⟨RX5, "howMany", "()I"⟩
abbrev cX5_lay : ByteArray := prog_7_method_8_code
def yX5_lay : MethodName := ⟨RX5, "lay", "(III)V"⟩
abbrev cX5_put : ByteArray := prog_7_method_9_code
def yX5_put : MethodName := ⟨RX5, "put", "(III)I"⟩
abbrev cX5_cutTo : ByteArray := prog_7_method_10_code
def yX5_cutTo : MethodName := ⟨RX5, "cutTo", "(II)I"⟩
abbrev cX5_carry : ByteArray := prog_7_method_11_code
def yX5_carry : MethodName := ⟨RX5, "carry", "(IIIII)V"⟩
abbrev cX5_remove : ByteArray := prog_7_method_12_code
def yX5_remove : MethodName := ⟨RX5, "remove", "(I)I"⟩
def RX6 : String := "LuggageBelt$Tape"
def TX6 : u_T := fun k => match k with
  | 0 => ("LuggageBelt$Tape", "bytes", "[I", true)
  | 1 => ("LuggageBelt$Tape", "length", "I", false)
  | 2 => ("LuggageBelt$Tape", "token", "I", false)
  | 3 => ("LuggageBelt$Tape", "tokenStart", "I", false)
  | 4 => ("LuggageBelt$Tape", "tokenEnd", "I", false)
  | _ => ("LuggageBelt$Tape", "value", "I", false)
def tyX6 : Nat → FieldType := fun k => match k with
  | 0 => .array .int
  | 1 => .int
  | 2 => .int
  | 3 => .int
  | 4 => .int
  | _ => .int
theorem nmX6 : ∀ a, a < 6 → ∀ b, b < 6 → a ≠ b → (TX6 a).2.1 ≠ (TX6 b).2.1 := by decide +kernel
theorem tyX6_ok : ∀ k, k < 6 → parseFieldDescriptor (TX6 k).2.2.1 = some (tyX6 k) := by decide +kernel
abbrev cX6_init : ByteArray := prog_8_method_1_code
def yX6_init : MethodName := ⟨RX6, "<init>", "()V"⟩
abbrev cX6_size : ByteArray := prog_8_method_2_code
def yX6_size : MethodName := ⟨RX6, "size", "()I"⟩
abbrev cX6_isFull : ByteArray := prog_8_method_3_code
def yX6_isFull : MethodName := ⟨RX6, "isFull", "()Z"⟩
abbrev cX6_add : ByteArray := prog_8_method_4_code
def yX6_add : MethodName := ⟨RX6, "add", "(I)I"⟩
abbrev cX6_clear : ByteArray := prog_8_method_5_code
def yX6_clear : MethodName := ⟨RX6, "clear", "()V"⟩
abbrev cX6_faultPlace : ByteArray := prog_8_method_6_code
def yX6_faultPlace : MethodName := ⟨RX6, "faultPlace", "()I"⟩
abbrev cX6_readInto : ByteArray := prog_8_method_7_code
def yX6_readInto : MethodName := ⟨RX6, "readInto", "(LLuggageBelt$Hall;)I"⟩
abbrev cX6_readLaw : ByteArray := prog_8_method_8_code
def yX6_readLaw : MethodName := ⟨RX6, "readLaw", "(LLuggageBelt$Hall;)I"⟩
abbrev cX6_readTraveller : ByteArray := prog_8_method_9_code
def yX6_readTraveller : MethodName := ⟨RX6, "readTraveller", "(LLuggageBelt$Hall;)I"⟩
abbrev cX6_readSign : ByteArray := prog_8_method_10_code
def yX6_readSign : MethodName := ⟨RX6, "readSign", "(I)I"⟩
abbrev cX6_readNumber : ByteArray := prog_8_method_11_code
def yX6_readNumber : MethodName := ⟨RX6, "readNumber", "(II)I"⟩
abbrev cX6_nextToken : ByteArray := prog_8_method_12_code
def yX6_nextToken : MethodName := ⟨RX6, "nextToken", "()V"⟩
abbrev cX6_readFigures : ByteArray := prog_8_method_13_code
def yX6_readFigures : MethodName := ⟨RX6, "readFigures", "()V"⟩
abbrev cX6_byteAt : ByteArray := prog_8_method_14_code
def yX6_byteAt : MethodName := ⟨RX6, "byteAt", "(I)I"⟩
abbrev cX6_isFigure : ByteArray := prog_8_method_15_code
def yX6_isFigure : MethodName := ⟨RX6, "isFigure", "(I)Z"⟩
def RX7 : String := "LuggageBelt"
def TX7 : u_T := fun k => match k with
  | 0 => ("LuggageBelt", "rows", "LLuggageBelt$Rows;", true)
  | 1 => ("LuggageBelt", "tape", "LLuggageBelt$Tape;", true)
  | 2 => ("LuggageBelt", "now", "LLuggageBelt$Hall;", true)
  | 3 => ("LuggageBelt", "trial", "LLuggageBelt$Hall;", true)
  | 4 => ("LuggageBelt", "acts", "LLuggageBelt$Acts;", true)
  | 5 => ("LuggageBelt", "foresight", "LLuggageBelt$Foresight;", true)
  | 6 => ("LuggageBelt", "orders", "LLuggageBelt$OrderSearch;", true)
  | 7 => ("LuggageBelt", "asks", "LLuggageBelt$Asks;", true)
  | 8 => ("LuggageBelt", "images", "[I", true)
  | 9 => ("LuggageBelt", "imagesKept", "I", false)
  | 10 => ("LuggageBelt", "latestFault", "I", false)
  | _ => ("LuggageBelt", "latestFinding", "I", false)
def tyX7 : Nat → FieldType := fun k => match k with
  | 0 => .object "LuggageBelt$Rows"
  | 1 => .object "LuggageBelt$Tape"
  | 2 => .object "LuggageBelt$Hall"
  | 3 => .object "LuggageBelt$Hall"
  | 4 => .object "LuggageBelt$Acts"
  | 5 => .object "LuggageBelt$Foresight"
  | 6 => .object "LuggageBelt$OrderSearch"
  | 7 => .object "LuggageBelt$Asks"
  | 8 => .array .int
  | 9 => .int
  | 10 => .int
  | _ => .int
theorem nmX7 : ∀ a, a < 12 → ∀ b, b < 12 → a ≠ b → (TX7 a).2.1 ≠ (TX7 b).2.1 := by decide +kernel
theorem tyX7_ok : ∀ k, k < 12 → parseFieldDescriptor (TX7 k).2.2.1 = some (tyX7 k) := by decide +kernel
abbrev cX7_init : ByteArray := prog_1_method_1_code
def yX7_init : MethodName := ⟨RX7, "<init>", "()V"⟩
abbrev cX7_row : ByteArray := prog_1_method_2_code
def yX7_row : MethodName := ⟨RX7, "row", "(III)I"⟩
abbrev cX7_set : ByteArray := prog_1_method_3_code
def yX7_set : MethodName := ⟨RX7, "set", "(III)I"⟩
abbrev cX7_copy : ByteArray := prog_1_method_4_code
def yX7_copy : MethodName := ⟨RX7, "copy", "(IIIII)I"⟩
abbrev cX7_drop : ByteArray := prog_1_method_5_code
def yX7_drop : MethodName := ⟨RX7, "drop", "(I)I"⟩
abbrev cX7_found : ByteArray := prog_1_method_6_code
def yX7_found : MethodName := ⟨RX7, "found", "(I)I"⟩
abbrev cX7_fine : ByteArray := prog_1_method_7_code
def yX7_fine : MethodName := ⟨RX7, "fine", "(I)I"⟩
abbrev cX7_feed : ByteArray := prog_1_method_8_code
def yX7_feed : MethodName := ⟨RX7, "feed", "(I)I"⟩
abbrev cX7_hall : ByteArray := prog_1_method_9_code
def yX7_hall : MethodName := ⟨RX7, "hall", "()I"⟩
abbrev cX7_fault : ByteArray := prog_1_method_10_code
def yX7_fault : MethodName := ⟨RX7, "fault", "()I"⟩
abbrev cX7_undo : ByteArray := prog_1_method_11_code
def yX7_undo : MethodName := ⟨RX7, "undo", "()I"⟩
abbrev cX7_ticks : ByteArray := prog_1_method_12_code
def yX7_ticks : MethodName := ⟨RX7, "ticks", "(I)I"⟩
abbrev cX7_move : ByteArray := prog_1_method_13_code
def yX7_move : MethodName := ⟨RX7, "move", "(II)I"⟩
abbrev cX7_paint : ByteArray := prog_1_method_14_code
def yX7_paint : MethodName := ⟨RX7, "paint", "(II)I"⟩
abbrev cX7_back : ByteArray := prog_1_method_15_code
def yX7_back : MethodName := ⟨RX7, "back", "(I)I"⟩
abbrev cX7_turn : ByteArray := prog_1_method_16_code
def yX7_turn : MethodName := ⟨RX7, "turn", "()I"⟩
abbrev cX7_traveller : ByteArray := prog_1_method_17_code
def yX7_traveller : MethodName := ⟨RX7, "traveller", "(II)I"⟩
abbrev cX7_bag : ByteArray := prog_1_method_18_code
def yX7_bag : MethodName := ⟨RX7, "bag", "(II)I"⟩
abbrev cX7_stand : ByteArray := prog_1_method_19_code
def yX7_stand : MethodName := ⟨RX7, "stand", "(I)I"⟩
abbrev cX7_place : ByteArray := prog_1_method_20_code
def yX7_place : MethodName := ⟨RX7, "place", "(I)I"⟩
abbrev cX7_noHall : ByteArray := prog_1_method_21_code
def yX7_noHall : MethodName := ⟨RX7, "noHall", "()Z"⟩
abbrev cX7_ahead : ByteArray := prog_1_method_22_code
def yX7_ahead : MethodName := ⟨RX7, "ahead", "(II)I"⟩
abbrev cX7_with : ByteArray := prog_1_method_23_code
def yX7_with : MethodName := ⟨RX7, "with", "(III)I"⟩
abbrev cX7_all : ByteArray := prog_1_method_24_code
def yX7_all : MethodName := ⟨RX7, "all", "(II)I"⟩
abbrev cX7_when : ByteArray := prog_1_method_25_code
def yX7_when : MethodName := ⟨RX7, "when", "(I)I"⟩
abbrev cX7_empty : ByteArray := prog_1_method_26_code
def yX7_empty : MethodName := ⟨RX7, "empty", "()I"⟩
abbrev cX7_best : ByteArray := prog_1_method_27_code
def yX7_best : MethodName := ⟨RX7, "best", "(III)I"⟩
abbrev cX7_order : ByteArray := prog_1_method_28_code
def yX7_order : MethodName := ⟨RX7, "order", "(II)I"⟩
abbrev cX7_marks : ByteArray := prog_1_method_29_code
def yX7_marks : MethodName := ⟨RX7, "marks", "(II)I"⟩
abbrev cX7_sets : ByteArray := prog_1_method_30_code
def yX7_sets : MethodName := ⟨RX7, "sets", "(II)I"⟩
abbrev cX7_share : ByteArray := prog_1_method_31_code
def yX7_share : MethodName := ⟨RX7, "share", "(II)I"⟩
abbrev cX7_byTurns : ByteArray := prog_1_method_32_code
def yX7_byTurns : MethodName := ⟨RX7, "byTurns", "(II)I"⟩
abbrev cX7_who : ByteArray := prog_1_method_33_code
def yX7_who : MethodName := ⟨RX7, "who", "(IIIIII)I"⟩
abbrev cX7_colours : ByteArray := prog_1_method_34_code
def yX7_colours : MethodName := ⟨RX7, "colours", "(IIII)I"⟩
abbrev cX7_sleep : ByteArray := prog_1_method_35_code
def yX7_sleep : MethodName := ⟨RX7, "sleep", "(IIII)J"⟩
abbrev cX7_drawn : ByteArray := prog_1_method_36_code
def yX7_drawn : MethodName := ⟨RX7, "drawn", "(III)I"⟩
abbrev cX7_image : ByteArray := prog_1_method_37_code
def yX7_image : MethodName := ⟨RX7, "image", "(I)I"⟩
abbrev cX7_restore : ByteArray := prog_1_method_38_code
def yX7_restore : MethodName := ⟨RX7, "restore", "(I)I"⟩
abbrev cX7_isChoice : ByteArray := prog_1_method_39_code
def yX7_isChoice : MethodName := ⟨RX7, "isChoice", "(II)Z"⟩
abbrev cX7_isTold : ByteArray := prog_1_method_40_code
def yX7_isTold : MethodName := ⟨RX7, "isTold", "(II)Z"⟩
abbrev cX7_findingOfItems : ByteArray := prog_1_method_41_code
def yX7_findingOfItems : MethodName := ⟨RX7, "findingOfItems", "(III)I"⟩
abbrev cX7_kind : ByteArray := prog_1_method_42_code
def yX7_kind : MethodName := ⟨RX7, "kind", "(I)I"⟩
abbrev cX7_as : ByteArray := prog_1_method_43_code
def yX7_as : MethodName := ⟨RX7, "as", "(II)I"⟩
abbrev cX7_ask : ByteArray := prog_1_method_44_code
def yX7_ask : MethodName := ⟨RX7, "ask", "(II)I"⟩
abbrev cX7_trace : ByteArray := prog_1_method_45_code
def yX7_trace : MethodName := ⟨RX7, "trace", "(I)I"⟩
abbrev cX7_count : ByteArray := prog_1_method_46_code
def yX7_count : MethodName := ⟨RX7, "count", "(I)I"⟩
abbrev cX7_status : ByteArray := prog_1_method_47_code
def yX7_status : MethodName := ⟨RX7, "status", "()I"⟩
def RX8 : String := "LuggageBeltModel"
def TX8 : u_T := fun k => match k with
  | 0 => ("LuggageBeltModel", "row", "[I", true)
  | 1 => ("LuggageBeltModel", "undos", "I", false)
  | 2 => ("LuggageBeltModel", "isKept", "[Z", true)
  | 3 => ("LuggageBeltModel", "lanes", "[I", true)
  | 4 => ("LuggageBeltModel", "sizes", "[I", true)
  | 5 => ("LuggageBeltModel", "items", "[I", true)
  | 6 => ("LuggageBeltModel", "tape", "[I", true)
  | 7 => ("LuggageBeltModel", "length", "I", false)
  | 8 => ("LuggageBeltModel", "fault", "I", false)
  | 9 => ("LuggageBeltModel", "status", "I", false)
  | 10 => ("LuggageBeltModel", "trace", "[I", true)
  | 11 => ("LuggageBeltModel", "traced", "I", false)
  | 12 => ("LuggageBeltModel", "at", "I", false)
  | 13 => ("LuggageBeltModel", "wrong", "I", false)
  | 14 => ("LuggageBeltModel", "number", "I", false)
  | 15 => ("LuggageBeltModel", "ranks", "[I", true)
  | 16 => ("LuggageBeltModel", "asleep", "I", false)
  | 17 => ("LuggageBeltModel", "went", "I", false)
  | 18 => ("LuggageBeltModel", "wentWrong", "I", false)
  | 19 => ("LuggageBeltModel", "bestRanks", "[I", true)
  | _ => ("LuggageBeltModel", "comes", "[I", true)
def tyX8 : Nat → FieldType := fun k => match k with
  | 0 => .array .int
  | 1 => .int
  | 2 => .array .boolean
  | 3 => .array .int
  | 4 => .array .int
  | 5 => .array .int
  | 6 => .array .int
  | 7 => .int
  | 8 => .int
  | 9 => .int
  | 10 => .array .int
  | 11 => .int
  | 12 => .int
  | 13 => .int
  | 14 => .int
  | 15 => .array .int
  | 16 => .int
  | 17 => .int
  | 18 => .int
  | 19 => .array .int
  | _ => .array .int
theorem nmX8 : ∀ a, a < 21 → ∀ b, b < 21 → a ≠ b → (TX8 a).2.1 ≠ (TX8 b).2.1 := by decide +kernel
theorem tyX8_ok : ∀ k, k < 21 → parseFieldDescriptor (TX8 k).2.2.1 = some (tyX8 k) := by decide +kernel
abbrev cX8_init : ByteArray := prog_10_method_1_code
def yX8_init : MethodName := ⟨RX8, "<init>", "()V"⟩
abbrev cX8_in : ByteArray := prog_10_method_2_code
def yX8_in : MethodName := ⟨RX8, "in", "(JJJ)Z"⟩
abbrev cX8_has : ByteArray := prog_10_method_3_code
def yX8_has : MethodName := ⟨RX8, "has", "(II)Z"⟩
abbrev cX8_bits : ByteArray := prog_10_method_4_code
def yX8_bits : MethodName := ⟨RX8, "bits", "(I)I"⟩
abbrev cX8_find : ByteArray := prog_10_method_5_code
def yX8_find : MethodName := ⟨RX8, "find", "(I)I"⟩
abbrev cX8_well : ByteArray := prog_10_method_6_code
def yX8_well : MethodName := ⟨RX8, "well", "(I)I"⟩
abbrev cX8_isRow : ByteArray := prog_10_method_7_code
def yX8_isRow : MethodName := ⟨RX8, "isRow", "(I)Z"⟩
abbrev cX8_row : ByteArray := prog_10_method_8_code
def yX8_row : MethodName := ⟨RX8, "row", "(III)I"⟩
abbrev cX8_narrow : ByteArray := prog_10_method_9_code
def yX8_narrow : MethodName := ⟨RX8, "narrow", "(II)I"⟩
abbrev cX8_set : ByteArray := prog_10_method_10_code
def yX8_set : MethodName := ⟨RX8, "set", "(III)I"⟩
abbrev cX8_isSpan : ByteArray := prog_10_method_11_code
def yX8_isSpan : MethodName := ⟨RX8, "isSpan", "(III)Z"⟩
abbrev cX8_copy : ByteArray := prog_10_method_12_code
def yX8_copy : MethodName := ⟨RX8, "copy", "(IIIII)I"⟩
abbrev cX8_drop : ByteArray := prog_10_method_13_code
def yX8_drop : MethodName := ⟨RX8, "drop", "(I)I"⟩
abbrev cX8_feed : ByteArray := prog_10_method_14_code
def yX8_feed : MethodName := ⟨RX8, "feed", "(I)I"⟩
abbrev cX8_isLetter : ByteArray := prog_10_method_15_code
def yX8_isLetter : MethodName := ⟨RX8, "isLetter", "(I)Z"⟩
abbrev cX8_isFigure : ByteArray := prog_10_method_16_code
def yX8_isFigure : MethodName := ⟨RX8, "isFigure", "(I)Z"⟩
abbrev cX8_refuse : ByteArray := prog_10_method_17_code
def yX8_refuse : MethodName := ⟨RX8, "refuse", "(I)Z"⟩
abbrev cX8_sign : ByteArray := prog_10_method_18_code
def yX8_sign : MethodName := ⟨RX8, "sign", "(I)Z"⟩
abbrev cX8_readsNumber : ByteArray := prog_10_method_19_code
def yX8_readsNumber : MethodName := ⟨RX8, "readsNumber", "(II)Z"⟩
abbrev cX8_readsLaw : ByteArray := prog_10_method_20_code
def yX8_readsLaw : MethodName := ⟨RX8, "readsLaw", "()Z"⟩
abbrev cX8_kindOfLetter : ByteArray := prog_10_method_21_code
def yX8_kindOfLetter : MethodName := ⟨RX8, "kindOfLetter", "(I)I"⟩
abbrev cX8_readsTraveller : ByteArray := prog_10_method_22_code
def yX8_readsTraveller : MethodName := ⟨RX8, "readsTraveller", "()Z"⟩
abbrev cX8_reads : ByteArray := prog_10_method_23_code
def yX8_reads : MethodName := ⟨RX8, "reads", "()Z"⟩
abbrev cX8_hall : ByteArray := prog_10_method_24_code
def yX8_hall : MethodName := ⟨RX8, "hall", "()I"⟩
abbrev cX8_fault : ByteArray := prog_10_method_25_code
def yX8_fault : MethodName := ⟨RX8, "fault", "()I"⟩
abbrev cX8_copyHall : ByteArray := prog_10_method_26_code
def yX8_copyHall : MethodName := ⟨RX8, "copyHall", "(II)V"⟩
abbrev cX8_isHall : ByteArray := prog_10_method_27_code
def yX8_isHall : MethodName := ⟨RX8, "isHall", "()Z"⟩
abbrev cX8_isOne : ByteArray := prog_10_method_28_code
def yX8_isOne : MethodName := ⟨RX8, "isOne", "(I)Z"⟩
abbrev cX8_isPlace : ByteArray := prog_10_method_29_code
def yX8_isPlace : MethodName := ⟨RX8, "isPlace", "(I)Z"⟩
abbrev cX8_waits : ByteArray := prog_10_method_30_code
def yX8_waits : MethodName := ⟨RX8, "waits", "(II)Z"⟩
abbrev cX8_bagIn : ByteArray := prog_10_method_31_code
def yX8_bagIn : MethodName := ⟨RX8, "bagIn", "(II)I"⟩
abbrev cX8_turns : ByteArray := prog_10_method_32_code
def yX8_turns : MethodName := ⟨RX8, "turns", "(II)V"⟩
abbrev cX8_falls : ByteArray := prog_10_method_33_code
def yX8_falls : MethodName := ⟨RX8, "falls", "(I)V"⟩
abbrev cX8_isSeen : ByteArray := prog_10_method_34_code
def yX8_isSeen : MethodName := ⟨RX8, "isSeen", "(II)Z"⟩
abbrev cX8_takes : ByteArray := prog_10_method_35_code
def yX8_takes : MethodName := ⟨RX8, "takes", "(III)Z"⟩
abbrev cX8_looks : ByteArray := prog_10_method_36_code
def yX8_looks : MethodName := ⟨RX8, "looks", "(II)V"⟩
abbrev cX8_ticksOf : ByteArray := prog_10_method_37_code
def yX8_ticksOf : MethodName := ⟨RX8, "ticksOf", "(II)V"⟩
abbrev cX8_comesBack : ByteArray := prog_10_method_38_code
def yX8_comesBack : MethodName := ⟨RX8, "comesBack", "(II)V"⟩
abbrev cX8_goneOnes : ByteArray := prog_10_method_39_code
def yX8_goneOnes : MethodName := ⟨RX8, "goneOnes", "(I)I"⟩
abbrev cX8_isWrong : ByteArray := prog_10_method_40_code
def yX8_isWrong : MethodName := ⟨RX8, "isWrong", "(II)Z"⟩
abbrev cX8_isRobbed : ByteArray := prog_10_method_41_code
def yX8_isRobbed : MethodName := ⟨RX8, "isRobbed", "(II)Z"⟩
abbrev cX8_wrongOnes : ByteArray := prog_10_method_42_code
def yX8_wrongOnes : MethodName := ⟨RX8, "wrongOnes", "(I)I"⟩
abbrev cX8_robbedOnes : ByteArray := prog_10_method_43_code
def yX8_robbedOnes : MethodName := ⟨RX8, "robbedOnes", "(I)I"⟩
abbrev cX8_allSaw : ByteArray := prog_10_method_44_code
def yX8_allSaw : MethodName := ⟨RX8, "allSaw", "(I)I"⟩
abbrev cX8_keepPast : ByteArray := prog_10_method_45_code
def yX8_keepPast : MethodName := ⟨RX8, "keepPast", "()V"⟩
abbrev cX8_undo : ByteArray := prog_10_method_46_code
def yX8_undo : MethodName := ⟨RX8, "undo", "()I"⟩
abbrev cX8_ticks : ByteArray := prog_10_method_47_code
def yX8_ticks : MethodName := ⟨RX8, "ticks", "(I)I"⟩
abbrev cX8_move : ByteArray := prog_10_method_48_code
def yX8_move : MethodName := ⟨RX8, "move", "(II)I"⟩
abbrev cX8_paint : ByteArray := prog_10_method_49_code
def yX8_paint : MethodName := ⟨RX8, "paint", "(II)I"⟩
abbrev cX8_back : ByteArray := prog_10_method_50_code
def yX8_back : MethodName := ⟨RX8, "back", "(I)I"⟩
abbrev cX8_onBelt : ByteArray := prog_10_method_51_code
def yX8_onBelt : MethodName := ⟨RX8, "onBelt", "(I)I"⟩
abbrev cX8_turn : ByteArray := prog_10_method_52_code
def yX8_turn : MethodName := ⟨RX8, "turn", "()I"⟩
abbrev cX8_traveller : ByteArray := prog_10_method_53_code
def yX8_traveller : MethodName := ⟨RX8, "traveller", "(II)I"⟩
abbrev cX8_bag : ByteArray := prog_10_method_54_code
def yX8_bag : MethodName := ⟨RX8, "bag", "(II)I"⟩
abbrev cX8_takenOnes : ByteArray := prog_10_method_55_code
def yX8_takenOnes : MethodName := ⟨RX8, "takenOnes", "()I"⟩
abbrev cX8_stand : ByteArray := prog_10_method_56_code
def yX8_stand : MethodName := ⟨RX8, "stand", "(I)I"⟩
abbrev cX8_place : ByteArray := prog_10_method_57_code
def yX8_place : MethodName := ⟨RX8, "place", "(I)I"⟩
abbrev cX8_layTried : ByteArray := prog_10_method_58_code
def yX8_layTried : MethodName := ⟨RX8, "layTried", "()V"⟩
abbrev cX8_ahead : ByteArray := prog_10_method_59_code
def yX8_ahead : MethodName := ⟨RX8, "ahead", "(II)I"⟩
abbrev cX8_with : ByteArray := prog_10_method_60_code
def yX8_with : MethodName := ⟨RX8, "with", "(III)I"⟩
abbrev cX8_all : ByteArray := prog_10_method_61_code
def yX8_all : MethodName := ⟨RX8, "all", "(II)I"⟩
abbrev cX8_when : ByteArray := prog_10_method_62_code
def yX8_when : MethodName := ⟨RX8, "when", "(I)I"⟩
abbrev cX8_empty : ByteArray := prog_10_method_63_code
def yX8_empty : MethodName := ⟨RX8, "empty", "()I"⟩
abbrev cX8_goneFrom : ByteArray := prog_10_method_64_code
def yX8_goneFrom : MethodName := ⟨RX8, "goneFrom", "(III)I"⟩
abbrev cX8_best : ByteArray := prog_10_method_65_code
def yX8_best : MethodName := ⟨RX8, "best", "(III)I"⟩
abbrev cX8_swapRanks : ByteArray := prog_10_method_66_code
def yX8_swapRanks : MethodName := ⟨RX8, "swapRanks", "(II)V"⟩
abbrev cX8_nextRanks : ByteArray := prog_10_method_67_code
def yX8_nextRanks : MethodName := ⟨RX8, "nextRanks", "(I)Z"⟩
abbrev cX8_order : ByteArray := prog_10_method_68_code
def yX8_order : MethodName := ⟨RX8, "order", "(II)I"⟩
abbrev cX8_marks : ByteArray := prog_10_method_69_code
def yX8_marks : MethodName := ⟨RX8, "marks", "(II)I"⟩
abbrev cX8_sawOf : ByteArray := prog_10_method_70_code
def yX8_sawOf : MethodName := ⟨RX8, "sawOf", "(I)I"⟩
abbrev cX8_sets : ByteArray := prog_10_method_71_code
def yX8_sets : MethodName := ⟨RX8, "sets", "(II)I"⟩
abbrev cX8_share : ByteArray := prog_10_method_72_code
def yX8_share : MethodName := ⟨RX8, "share", "(II)I"⟩
abbrev cX8_byTurns : ByteArray := prog_10_method_73_code
def yX8_byTurns : MethodName := ⟨RX8, "byTurns", "(II)I"⟩
abbrev cX8_isSo : ByteArray := prog_10_method_74_code
def yX8_isSo : MethodName := ⟨RX8, "isSo", "(III)Z"⟩
abbrev cX8_refusal : ByteArray := prog_10_method_75_code
def yX8_refusal : MethodName := ⟨RX8, "refusal", "(III)I"⟩
abbrev cX8_who : ByteArray := prog_10_method_76_code
def yX8_who : MethodName := ⟨RX8, "who", "(IIIIII)I"⟩
abbrev cX8_colours : ByteArray := prog_10_method_77_code
def yX8_colours : MethodName := ⟨RX8, "colours", "(IIII)I"⟩
abbrev cX8_sleep : ByteArray := prog_10_method_78_code
def yX8_sleep : MethodName := ⟨RX8, "sleep", "(IIII)J"⟩
abbrev cX8_drawn : ByteArray := prog_10_method_79_code
def yX8_drawn : MethodName := ⟨RX8, "drawn", "(III)I"⟩
abbrev cX8_image : ByteArray := prog_10_method_80_code
def yX8_image : MethodName := ⟨RX8, "image", "(I)I"⟩
abbrev cX8_restore : ByteArray := prog_10_method_81_code
def yX8_restore : MethodName := ⟨RX8, "restore", "(I)I"⟩
abbrev cX8_kind : ByteArray := prog_10_method_82_code
def yX8_kind : MethodName := ⟨RX8, "kind", "(I)I"⟩
abbrev cX8_isOf : ByteArray := prog_10_method_83_code
def yX8_isOf : MethodName := ⟨RX8, "isOf", "(II)Z"⟩
abbrev cX8_as : ByteArray := prog_10_method_84_code
def yX8_as : MethodName := ⟨RX8, "as", "(II)I"⟩
abbrev cX8_begin : ByteArray := prog_10_method_85_code
def yX8_begin : MethodName := ⟨RX8, "begin", "(I)V"⟩
abbrev cX8_lentSize : ByteArray := prog_10_method_86_code
def yX8_lentSize : MethodName := ⟨RX8, "lentSize", "(I)I"⟩
abbrev cX8_calmSize : ByteArray := prog_10_method_87_code
def yX8_calmSize : MethodName := ⟨RX8, "calmSize", "(I)I"⟩
abbrev cX8_slowSize : ByteArray := prog_10_method_88_code
def yX8_slowSize : MethodName := ⟨RX8, "slowSize", "(I)I"⟩
abbrev cX8_sizeOf : ByteArray := prog_10_method_89_code
def yX8_sizeOf : MethodName := ⟨RX8, "sizeOf", "(I)I"⟩
abbrev cX8_lentMark : ByteArray := prog_10_method_90_code
def yX8_lentMark : MethodName := ⟨RX8, "lentMark", "(I)I"⟩
abbrev cX8_calmMark : ByteArray := prog_10_method_91_code
def yX8_calmMark : MethodName := ⟨RX8, "calmMark", "(I)I"⟩
abbrev cX8_calmerMark : ByteArray := prog_10_method_92_code
def yX8_calmerMark : MethodName := ⟨RX8, "calmerMark", "(I)I"⟩
abbrev cX8_slowMark : ByteArray := prog_10_method_93_code
def yX8_slowMark : MethodName := ⟨RX8, "slowMark", "(I)I"⟩
abbrev cX8_ask : ByteArray := prog_10_method_94_code
def yX8_ask : MethodName := ⟨RX8, "ask", "(II)I"⟩
abbrev cX8_trace : ByteArray := prog_10_method_95_code
def yX8_trace : MethodName := ⟨RX8, "trace", "(I)I"⟩
abbrev cX8_count : ByteArray := prog_10_method_96_code
def yX8_count : MethodName := ⟨RX8, "count", "(I)I"⟩
abbrev cX8_status : ByteArray := prog_10_method_97_code
def yX8_status : MethodName := ⟨RX8, "status", "()I"⟩
def RJ11 : String := "java/lang/Character"
def TJ11 : u_T := fun k => match k with
  | _ => ("", "", "", false)
def tyJ11 : Nat → FieldType := fun k => match k with
  | _ => .int
theorem nmJ11 : ∀ a, a < 0 → ∀ b, b < 0 → a ≠ b → (TJ11 a).2.1 ≠ (TJ11 b).2.1 := by decide +kernel
theorem tyJ11_ok : ∀ k, k < 0 → parseFieldDescriptor (TJ11 k).2.2.1 = some (tyJ11 k) := by decide +kernel
abbrev cJ11_isValidCodePoint_9a6ad : ByteArray := prog_11_method_11_code
def yJ11_isValidCodePoint_9a6ad : MethodName := ⟨RJ11, "isValidCodePoint", "(I)Z"⟩
abbrev cJ11_highSurrogate_5068e : ByteArray := prog_11_method_28_code
def yJ11_highSurrogate_5068e : MethodName := ⟨RJ11, "highSurrogate", "(I)C"⟩
abbrev cJ11_lowSurrogate_5068e : ByteArray := prog_11_method_29_code
def yJ11_lowSurrogate_5068e : MethodName := ⟨RJ11, "lowSurrogate", "(I)C"⟩
def RJ6 : String := "java/lang/Integer"
def TJ6 : u_T := fun k => match k with
  | _ => ("", "", "", false)
def tyJ6 : Nat → FieldType := fun k => match k with
  | _ => .int
theorem nmJ6 : ∀ a, a < 0 → ∀ b, b < 0 → a ≠ b → (TJ6 a).2.1 ≠ (TJ6 b).2.1 := by decide +kernel
theorem tyJ6_ok : ∀ k, k < 0 → parseFieldDescriptor (TJ6 k).2.2.1 = some (tyJ6 k) := by decide +kernel
abbrev cJ6_bitCount_0f7a4 : ByteArray := prog_12_method_49_code
def yJ6_bitCount_0f7a4 : MethodName := ⟨RJ6, "bitCount", "(I)I"⟩
def RJ9 : String := "java/lang/Math"
def TJ9 : u_T := fun k => match k with
  | _ => ("", "", "", false)
def tyJ9 : Nat → FieldType := fun k => match k with
  | _ => .int
theorem nmJ9 : ∀ a, a < 0 → ∀ b, b < 0 → a ≠ b → (TJ9 a).2.1 ≠ (TJ9 b).2.1 := by decide +kernel
theorem tyJ9_ok : ∀ k, k < 0 → parseFieldDescriptor (TJ9 k).2.2.1 = some (tyJ9 k) := by decide +kernel
abbrev cJ9_floorMod_7cf53 : ByteArray := prog_13_method_50_code
def yJ9_floorMod_7cf53 : MethodName := ⟨RJ9, "floorMod", "(II)I"⟩
abbrev cJ9_max_7cf53 : ByteArray := prog_13_method_65_code
def yJ9_max_7cf53 : MethodName := ⟨RJ9, "max", "(II)I"⟩
abbrev cJ9_min_7cf53 : ByteArray := prog_13_method_69_code
def yJ9_min_7cf53 : MethodName := ⟨RJ9, "min", "(II)I"⟩
def RJ0 : String := "java/lang/String"
def TJ0 : u_T := fun k => match k with
  | _ => ("", "", "", false)
def tyJ0 : Nat → FieldType := fun k => match k with
  | _ => .int
theorem nmJ0 : ∀ a, a < 0 → ∀ b, b < 0 → a ≠ b → (TJ0 a).2.1 ≠ (TJ0 b).2.1 := by decide +kernel
theorem tyJ0_ok : ∀ k, k < 0 → parseFieldDescriptor (TJ0 k).2.2.1 = some (tyJ0 k) := by decide +kernel
abbrev cJ0_length_8abf5 : ByteArray := prog_14_method_54_code
def yJ0_length_8abf5 : MethodName := ⟨RJ0, "length", "()I"⟩
abbrev cJ0_indexOf_0f7a4 : ByteArray := prog_14_method_79_code
def yJ0_indexOf_0f7a4 : MethodName := ⟨RJ0, "indexOf", "(I)I"⟩
abbrev cJ0_indexOf_7cf53 : ByteArray := prog_14_method_80_code
def yJ0_indexOf_7cf53 : MethodName := ⟨RJ0, "indexOf", "(II)I"⟩
abbrev cJ0_coder_7d493 : ByteArray := prog_14_method_152_code
def yJ0_coder_7d493 : MethodName := ⟨RJ0, "coder", "()B"⟩
abbrev cJ0_isLatin1_aae02 : ByteArray := prog_14_method_154_code
def yJ0_isLatin1_aae02 : MethodName := ⟨RJ0, "isLatin1", "()Z"⟩
abbrev cJ0_checkBoundsBeginEnd_23922 : ByteArray := prog_14_method_158_code
def yJ0_checkBoundsBeginEnd_23922 : MethodName := ⟨RJ0, "checkBoundsBeginEnd", "(III)V"⟩
def RJ1 : String := "java/lang/StringLatin1"
def TJ1 : u_T := fun k => match k with
  | _ => ("", "", "", false)
def tyJ1 : Nat → FieldType := fun k => match k with
  | _ => .int
theorem nmJ1 : ∀ a, a < 0 → ∀ b, b < 0 → a ≠ b → (TJ1 a).2.1 ≠ (TJ1 b).2.1 := by decide +kernel
theorem tyJ1_ok : ∀ k, k < 0 → parseFieldDescriptor (TJ1 k).2.2.1 = some (tyJ1 k) := by decide +kernel
abbrev cJ1_canEncode_9a6ad : ByteArray := prog_15_method_4_code
def yJ1_canEncode_9a6ad : MethodName := ⟨RJ1, "canEncode", "(I)Z"⟩
abbrev cJ1_indexOf_4cfef : ByteArray := prog_15_method_22_code
def yJ1_indexOf_4cfef : MethodName := ⟨RJ1, "indexOf", "([BIII)I"⟩
abbrev cJ1_indexOfChar_4cfef : ByteArray := prog_15_method_23_code
def yJ1_indexOfChar_4cfef : MethodName := ⟨RJ1, "indexOfChar", "([BIII)I"⟩
def RJ2 : String := "java/lang/StringUTF16"
def TJ2 : u_T := fun k => match k with
  | _ => ("", "", "", false)
def tyJ2 : Nat → FieldType := fun k => match k with
  | _ => .int
theorem nmJ2 : ∀ a, a < 0 → ∀ b, b < 0 → a ≠ b → (TJ2 a).2.1 ≠ (TJ2 b).2.1 := by decide +kernel
theorem tyJ2_ok : ∀ k, k < 0 → parseFieldDescriptor (TJ2 k).2.2.1 = some (tyJ2 k) := by decide +kernel
abbrev cJ2_getChar_3b067 : ByteArray := prog_16_method_5_code
def yJ2_getChar_3b067 : MethodName := ⟨RJ2, "getChar", "([BI)C"⟩
abbrev cJ2_length_9d52b : ByteArray := prog_16_method_6_code
def yJ2_length_9d52b : MethodName := ⟨RJ2, "length", "([B)I"⟩
abbrev cJ2_indexOf_4cfef : ByteArray := prog_16_method_40_code
def yJ2_indexOf_4cfef : MethodName := ⟨RJ2, "indexOf", "([BIII)I"⟩
abbrev cJ2_indexOfChar_4cfef : ByteArray := prog_16_method_47_code
def yJ2_indexOfChar_4cfef : MethodName := ⟨RJ2, "indexOfChar", "([BIII)I"⟩
abbrev cJ2_indexOfCharUnsafe_4cfef : ByteArray := prog_16_method_48_code
def yJ2_indexOfCharUnsafe_4cfef : MethodName := ⟨RJ2, "indexOfCharUnsafe", "([BIII)I"⟩
abbrev cJ2_indexOfSupplementary_4cfef : ByteArray := prog_16_method_49_code
def yJ2_indexOfSupplementary_4cfef : MethodName := ⟨RJ2, "indexOfSupplementary", "([BIII)I"⟩
abbrev cJ2_checkBoundsBeginEnd_d044e : ByteArray := prog_16_method_93_code
def yJ2_checkBoundsBeginEnd_d044e : MethodName := ⟨RJ2, "checkBoundsBeginEnd", "(II[B)V"⟩
def RJ10 : String := "java/lang/System"
def TJ10 : u_T := fun k => match k with
  | _ => ("", "", "", false)
def tyJ10 : Nat → FieldType := fun k => match k with
  | _ => .int
theorem nmJ10 : ∀ a, a < 0 → ∀ b, b < 0 → a ≠ b → (TJ10 a).2.1 ≠ (TJ10 b).2.1 := by decide +kernel
theorem tyJ10_ok : ∀ k, k < 0 → parseFieldDescriptor (TJ10 k).2.2.1 = some (tyJ10 k) := by decide +kernel
def RJ7 : String := "java/util/Arrays"
def TJ7 : u_T := fun k => match k with
  | _ => ("", "", "", false)
def tyJ7 : Nat → FieldType := fun k => match k with
  | _ => .int
theorem nmJ7 : ∀ a, a < 0 → ∀ b, b < 0 → a ≠ b → (TJ7 a).2.1 ≠ (TJ7 b).2.1 := by decide +kernel
theorem tyJ7_ok : ∀ k, k < 0 → parseFieldDescriptor (TJ7 k).2.2.1 = some (tyJ7 k) := by decide +kernel
abbrev cJ7_fill_53178 : ByteArray := prog_18_method_103_code
def yJ7_fill_53178 : MethodName := ⟨RJ7, "fill", "([II)V"⟩
def RJ3 : String := "jdk/internal/util/Preconditions"
def TJ3 : u_T := fun k => match k with
  | _ => ("", "", "", false)
def tyJ3 : Nat → FieldType := fun k => match k with
  | _ => .int
theorem nmJ3 : ∀ a, a < 0 → ∀ b, b < 0 → a ≠ b → (TJ3 a).2.1 ≠ (TJ3 b).2.1 := by decide +kernel
theorem tyJ3_ok : ∀ k, k < 0 → parseFieldDescriptor (TJ3 k).2.2.1 = some (tyJ3 k) := by decide +kernel
abbrev cJ3_checkFromToIndex_8c36e : ByteArray := prog_19_method_12_code
def yJ3_checkFromToIndex_8c36e : MethodName := ⟨RJ3, "checkFromToIndex", "(IIILjava/util/function/BiFunction;)I"⟩
abbrev vwCl : List vw_C := [(RX0, TX0, 3), (RX1, TX1, 3), (RX2, TX2, 2), (RX3, TX3, 13), (RX4, TX4, 10), (RX5, TX5, 3), (RX6, TX6, 6), (RX7, TX7, 12), (RX8, TX8, 21)]
end
section
theorem dX3_init_0 : decode cX3_init 0 = .ok (.aload_n 0, 1) := by decide +kernel
theorem dX3_init_1 : decode cX3_init 1 = .ok (.invokespecial 3, 3) := by decide +kernel
theorem dX3_init_4 : decode cX3_init 4 = .ok (.aload_n 0, 1) := by decide +kernel
theorem dX3_init_5 : decode cX3_init 5 = .ok (.bipush 6, 2) := by decide +kernel
theorem dX3_init_7 : decode cX3_init 7 = .ok (.newarray .int, 2) := by decide +kernel
theorem dX3_init_9 : decode cX3_init 9 = .ok (.putfield 9, 3) := by decide +kernel
theorem dX3_init_12 : decode cX3_init 12 = .ok (.aload_n 0, 1) := by decide +kernel
theorem dX3_init_13 : decode cX3_init 13 = .ok (.bipush 6, 2) := by decide +kernel
theorem dX3_init_15 : decode cX3_init 15 = .ok (.newarray .int, 2) := by decide +kernel
theorem dX3_init_17 : decode cX3_init 17 = .ok (.putfield 15, 3) := by decide +kernel
theorem dX3_init_20 : decode cX3_init 20 = .ok (.aload_n 0, 1) := by decide +kernel
theorem dX3_init_21 : decode cX3_init 21 = .ok (.bipush 6, 2) := by decide +kernel
theorem dX3_init_23 : decode cX3_init 23 = .ok (.newarray .int, 2) := by decide +kernel
theorem dX3_init_25 : decode cX3_init 25 = .ok (.putfield 18, 3) := by decide +kernel
theorem dX3_init_28 : decode cX3_init 28 = .ok (.aload_n 0, 1) := by decide +kernel
theorem dX3_init_29 : decode cX3_init 29 = .ok (.bipush 6, 2) := by decide +kernel
theorem dX3_init_31 : decode cX3_init 31 = .ok (.newarray .int, 2) := by decide +kernel
theorem dX3_init_33 : decode cX3_init 33 = .ok (.putfield 21, 3) := by decide +kernel
theorem dX3_init_36 : decode cX3_init 36 = .ok (.aload_n 0, 1) := by decide +kernel
theorem dX3_init_37 : decode cX3_init 37 = .ok (.bipush 6, 2) := by decide +kernel
theorem dX3_init_39 : decode cX3_init 39 = .ok (.newarray .int, 2) := by decide +kernel
theorem dX3_init_41 : decode cX3_init 41 = .ok (.putfield 24, 3) := by decide +kernel
theorem dX3_init_44 : decode cX3_init 44 = .ok (.aload_n 0, 1) := by decide +kernel
theorem dX3_init_45 : decode cX3_init 45 = .ok (.bipush 6, 2) := by decide +kernel
theorem dX3_init_47 : decode cX3_init 47 = .ok (.newarray .int, 2) := by decide +kernel
theorem dX3_init_49 : decode cX3_init 49 = .ok (.putfield 27, 3) := by decide +kernel
theorem dX3_init_52 : decode cX3_init 52 = .ok (.aload_n 0, 1) := by decide +kernel
theorem dX3_init_53 : decode cX3_init 53 = .ok (.bipush 12, 2) := by decide +kernel
theorem dX3_init_55 : decode cX3_init 55 = .ok (.newarray .int, 2) := by decide +kernel
theorem dX3_init_57 : decode cX3_init 57 = .ok (.putfield 30, 3) := by decide +kernel
theorem dX3_init_60 : decode cX3_init 60 = .ok (.return_, 1) := by decide +kernel
theorem dX3_begin_0 : decode cX3_begin 0 = .ok (.aload_n 0, 1) := by decide +kernel
theorem dX3_begin_1 : decode cX3_begin 1 = .ok (.iload_n 1, 1) := by decide +kernel
theorem dX3_begin_2 : decode cX3_begin 2 = .ok (.putfield 33, 3) := by decide +kernel
theorem dX3_begin_5 : decode cX3_begin 5 = .ok (.aload_n 0, 1) := by decide +kernel
theorem dX3_begin_6 : decode cX3_begin 6 = .ok (.iconst 0, 1) := by decide +kernel
theorem dX3_begin_7 : decode cX3_begin 7 = .ok (.putfield 37, 3) := by decide +kernel
theorem dX3_begin_10 : decode cX3_begin 10 = .ok (.aload_n 0, 1) := by decide +kernel
theorem dX3_begin_11 : decode cX3_begin 11 = .ok (.iconst 0, 1) := by decide +kernel
theorem dX3_begin_12 : decode cX3_begin 12 = .ok (.putfield 40, 3) := by decide +kernel
theorem dX3_begin_15 : decode cX3_begin 15 = .ok (.aload_n 0, 1) := by decide +kernel
theorem dX3_begin_16 : decode cX3_begin 16 = .ok (.iconst 0, 1) := by decide +kernel
theorem dX3_begin_17 : decode cX3_begin 17 = .ok (.putfield 43, 3) := by decide +kernel
theorem dX3_begin_20 : decode cX3_begin 20 = .ok (.aload_n 0, 1) := by decide +kernel
theorem dX3_begin_21 : decode cX3_begin 21 = .ok (.iconst 0, 1) := by decide +kernel
theorem dX3_begin_22 : decode cX3_begin 22 = .ok (.putfield 46, 3) := by decide +kernel
theorem dX3_begin_25 : decode cX3_begin 25 = .ok (.aload_n 0, 1) := by decide +kernel
theorem dX3_begin_26 : decode cX3_begin 26 = .ok (.iconst 0, 1) := by decide +kernel
theorem dX3_begin_27 : decode cX3_begin 27 = .ok (.putfield 49, 3) := by decide +kernel
theorem dX3_begin_30 : decode cX3_begin 30 = .ok (.aload_n 0, 1) := by decide +kernel
theorem dX3_begin_31 : decode cX3_begin 31 = .ok (.getfield 30, 3) := by decide +kernel
theorem dX3_begin_34 : decode cX3_begin 34 = .ok (.ldc 52, 2) := by decide +kernel
theorem dX3_begin_36 : decode cX3_begin 36 = .ok (.invokestatic 53, 3) := by decide +kernel
theorem dX3_begin_39 : decode cX3_begin 39 = .ok (.return_, 1) := by decide +kernel
theorem dX3_join_0 : decode cX3_join 0 = .ok (.aload_n 0, 1) := by decide +kernel
theorem dX3_join_1 : decode cX3_join 1 = .ok (.getfield 37, 3) := by decide +kernel
theorem dX3_join_4 : decode cX3_join 4 = .ok (.bipush 6, 2) := by decide +kernel
theorem dX3_join_6 : decode cX3_join 6 = .ok (.if_icmp .ge 85, 3) := by decide +kernel
theorem dX3_join_9 : decode cX3_join 9 = .ok (.aload_n 0, 1) := by decide +kernel
theorem dX3_join_10 : decode cX3_join 10 = .ok (.getfield 9, 3) := by decide +kernel
theorem dX3_join_13 : decode cX3_join 13 = .ok (.aload_n 0, 1) := by decide +kernel
theorem dX3_join_14 : decode cX3_join 14 = .ok (.getfield 37, 3) := by decide +kernel
theorem dX3_join_17 : decode cX3_join 17 = .ok (.iload_n 1, 1) := by decide +kernel
theorem dX3_join_18 : decode cX3_join 18 = .ok (.iastore, 1) := by decide +kernel
theorem dX3_join_19 : decode cX3_join 19 = .ok (.aload_n 0, 1) := by decide +kernel
theorem dX3_join_20 : decode cX3_join 20 = .ok (.getfield 15, 3) := by decide +kernel
theorem dX3_join_23 : decode cX3_join 23 = .ok (.aload_n 0, 1) := by decide +kernel
theorem dX3_join_24 : decode cX3_join 24 = .ok (.getfield 37, 3) := by decide +kernel
theorem dX3_join_27 : decode cX3_join 27 = .ok (.iload_n 2, 1) := by decide +kernel
theorem dX3_join_28 : decode cX3_join 28 = .ok (.iastore, 1) := by decide +kernel
theorem dX3_join_29 : decode cX3_join 29 = .ok (.aload_n 0, 1) := by decide +kernel
theorem dX3_join_30 : decode cX3_join 30 = .ok (.getfield 18, 3) := by decide +kernel
theorem dX3_join_33 : decode cX3_join 33 = .ok (.aload_n 0, 1) := by decide +kernel
theorem dX3_join_34 : decode cX3_join 34 = .ok (.getfield 37, 3) := by decide +kernel
theorem dX3_join_37 : decode cX3_join 37 = .ok (.iconst 0, 1) := by decide +kernel
theorem dX3_join_38 : decode cX3_join 38 = .ok (.iastore, 1) := by decide +kernel
theorem dX3_join_39 : decode cX3_join 39 = .ok (.aload_n 0, 1) := by decide +kernel
theorem dX3_join_40 : decode cX3_join 40 = .ok (.getfield 21, 3) := by decide +kernel
theorem dX3_join_43 : decode cX3_join 43 = .ok (.aload_n 0, 1) := by decide +kernel
theorem dX3_join_44 : decode cX3_join 44 = .ok (.getfield 37, 3) := by decide +kernel
theorem dX3_join_47 : decode cX3_join 47 = .ok (.ldc 52, 2) := by decide +kernel
theorem dX3_join_49 : decode cX3_join 49 = .ok (.iastore, 1) := by decide +kernel
theorem dX3_join_50 : decode cX3_join 50 = .ok (.aload_n 0, 1) := by decide +kernel
theorem dX3_join_51 : decode cX3_join 51 = .ok (.getfield 24, 3) := by decide +kernel
theorem dX3_join_54 : decode cX3_join 54 = .ok (.aload_n 0, 1) := by decide +kernel
theorem dX3_join_55 : decode cX3_join 55 = .ok (.getfield 37, 3) := by decide +kernel
theorem dX3_join_58 : decode cX3_join 58 = .ok (.iload_n 3, 1) := by decide +kernel
theorem dX3_join_59 : decode cX3_join 59 = .ok (.iastore, 1) := by decide +kernel
theorem dX3_join_60 : decode cX3_join 60 = .ok (.aload_n 0, 1) := by decide +kernel
theorem dX3_join_61 : decode cX3_join 61 = .ok (.getfield 27, 3) := by decide +kernel
theorem dX3_join_64 : decode cX3_join 64 = .ok (.aload_n 0, 1) := by decide +kernel
theorem dX3_join_65 : decode cX3_join 65 = .ok (.getfield 37, 3) := by decide +kernel
theorem dX3_join_68 : decode cX3_join 68 = .ok (.bipush 20, 2) := by decide +kernel
theorem dX3_join_70 : decode cX3_join 70 = .ok (.iastore, 1) := by decide +kernel
theorem dX3_join_71 : decode cX3_join 71 = .ok (.aload_n 0, 1) := by decide +kernel
theorem dX3_join_72 : decode cX3_join 72 = .ok (.dup, 1) := by decide +kernel
theorem dX3_join_73 : decode cX3_join 73 = .ok (.getfield 49, 3) := by decide +kernel
theorem dX3_join_76 : decode cX3_join 76 = .ok (.iconst 1, 1) := by decide +kernel
theorem dX3_join_77 : decode cX3_join 77 = .ok (.iadd, 1) := by decide +kernel
theorem dX3_join_78 : decode cX3_join 78 = .ok (.putfield 49, 3) := by decide +kernel
theorem dX3_join_81 : decode cX3_join 81 = .ok (.aload_n 0, 1) := by decide +kernel
theorem dX3_join_82 : decode cX3_join 82 = .ok (.dup, 1) := by decide +kernel
theorem dX3_join_83 : decode cX3_join 83 = .ok (.getfield 37, 3) := by decide +kernel
theorem dX3_join_86 : decode cX3_join 86 = .ok (.iconst 1, 1) := by decide +kernel
theorem dX3_join_87 : decode cX3_join 87 = .ok (.iadd, 1) := by decide +kernel
theorem dX3_join_88 : decode cX3_join 88 = .ok (.putfield 37, 3) := by decide +kernel
theorem dX3_join_91 : decode cX3_join 91 = .ok (.return_, 1) := by decide +kernel
theorem dX3_become_0 : decode cX3_become 0 = .ok (.aload_n 0, 1) := by decide +kernel
theorem dX3_become_1 : decode cX3_become 1 = .ok (.aload_n 1, 1) := by decide +kernel
theorem dX3_become_2 : decode cX3_become 2 = .ok (.getfield 33, 3) := by decide +kernel
theorem dX3_become_5 : decode cX3_become 5 = .ok (.putfield 33, 3) := by decide +kernel
theorem dX3_become_8 : decode cX3_become 8 = .ok (.aload_n 0, 1) := by decide +kernel
theorem dX3_become_9 : decode cX3_become 9 = .ok (.aload_n 1, 1) := by decide +kernel
theorem dX3_become_10 : decode cX3_become 10 = .ok (.getfield 37, 3) := by decide +kernel
theorem dX3_become_13 : decode cX3_become 13 = .ok (.putfield 37, 3) := by decide +kernel
theorem dX3_become_16 : decode cX3_become 16 = .ok (.aload_n 0, 1) := by decide +kernel
theorem dX3_become_17 : decode cX3_become 17 = .ok (.aload_n 1, 1) := by decide +kernel
theorem dX3_become_18 : decode cX3_become 18 = .ok (.getfield 40, 3) := by decide +kernel
theorem dX3_become_21 : decode cX3_become 21 = .ok (.putfield 40, 3) := by decide +kernel
theorem dX3_become_24 : decode cX3_become 24 = .ok (.aload_n 0, 1) := by decide +kernel
theorem dX3_become_25 : decode cX3_become 25 = .ok (.aload_n 1, 1) := by decide +kernel
theorem dX3_become_26 : decode cX3_become 26 = .ok (.getfield 43, 3) := by decide +kernel
theorem dX3_become_29 : decode cX3_become 29 = .ok (.putfield 43, 3) := by decide +kernel
theorem dX3_become_32 : decode cX3_become 32 = .ok (.aload_n 0, 1) := by decide +kernel
theorem dX3_become_33 : decode cX3_become 33 = .ok (.aload_n 1, 1) := by decide +kernel
theorem dX3_become_34 : decode cX3_become 34 = .ok (.getfield 46, 3) := by decide +kernel
theorem dX3_become_37 : decode cX3_become 37 = .ok (.putfield 46, 3) := by decide +kernel
theorem dX3_become_40 : decode cX3_become 40 = .ok (.aload_n 0, 1) := by decide +kernel
theorem dX3_become_41 : decode cX3_become 41 = .ok (.aload_n 1, 1) := by decide +kernel
theorem dX3_become_42 : decode cX3_become 42 = .ok (.getfield 49, 3) := by decide +kernel
theorem dX3_become_45 : decode cX3_become 45 = .ok (.putfield 49, 3) := by decide +kernel
theorem dX3_become_48 : decode cX3_become 48 = .ok (.aload_n 1, 1) := by decide +kernel
theorem dX3_become_49 : decode cX3_become 49 = .ok (.getfield 9, 3) := by decide +kernel
theorem dX3_become_52 : decode cX3_become 52 = .ok (.iconst 0, 1) := by decide +kernel
theorem dX3_become_53 : decode cX3_become 53 = .ok (.aload_n 0, 1) := by decide +kernel
theorem dX3_become_54 : decode cX3_become 54 = .ok (.getfield 9, 3) := by decide +kernel
theorem dX3_become_57 : decode cX3_become 57 = .ok (.iconst 0, 1) := by decide +kernel
theorem dX3_become_58 : decode cX3_become 58 = .ok (.bipush 6, 2) := by decide +kernel
theorem dX3_become_60 : decode cX3_become 60 = .ok (.invokestatic 59, 3) := by decide +kernel
theorem dX3_become_63 : decode cX3_become 63 = .ok (.aload_n 1, 1) := by decide +kernel
theorem dX3_become_64 : decode cX3_become 64 = .ok (.getfield 15, 3) := by decide +kernel
theorem dX3_become_67 : decode cX3_become 67 = .ok (.iconst 0, 1) := by decide +kernel
theorem dX3_become_68 : decode cX3_become 68 = .ok (.aload_n 0, 1) := by decide +kernel
theorem dX3_become_69 : decode cX3_become 69 = .ok (.getfield 15, 3) := by decide +kernel
theorem dX3_become_72 : decode cX3_become 72 = .ok (.iconst 0, 1) := by decide +kernel
theorem dX3_become_73 : decode cX3_become 73 = .ok (.bipush 6, 2) := by decide +kernel
theorem dX3_become_75 : decode cX3_become 75 = .ok (.invokestatic 59, 3) := by decide +kernel
theorem dX3_become_78 : decode cX3_become 78 = .ok (.aload_n 1, 1) := by decide +kernel
theorem dX3_become_79 : decode cX3_become 79 = .ok (.getfield 18, 3) := by decide +kernel
theorem dX3_become_82 : decode cX3_become 82 = .ok (.iconst 0, 1) := by decide +kernel
theorem dX3_become_83 : decode cX3_become 83 = .ok (.aload_n 0, 1) := by decide +kernel
theorem dX3_become_84 : decode cX3_become 84 = .ok (.getfield 18, 3) := by decide +kernel
theorem dX3_become_87 : decode cX3_become 87 = .ok (.iconst 0, 1) := by decide +kernel
theorem dX3_become_88 : decode cX3_become 88 = .ok (.bipush 6, 2) := by decide +kernel
theorem dX3_become_90 : decode cX3_become 90 = .ok (.invokestatic 59, 3) := by decide +kernel
theorem dX3_become_93 : decode cX3_become 93 = .ok (.aload_n 1, 1) := by decide +kernel
theorem dX3_become_94 : decode cX3_become 94 = .ok (.getfield 21, 3) := by decide +kernel
theorem dX3_become_97 : decode cX3_become 97 = .ok (.iconst 0, 1) := by decide +kernel
theorem dX3_become_98 : decode cX3_become 98 = .ok (.aload_n 0, 1) := by decide +kernel
theorem dX3_become_99 : decode cX3_become 99 = .ok (.getfield 21, 3) := by decide +kernel
theorem dX3_become_102 : decode cX3_become 102 = .ok (.iconst 0, 1) := by decide +kernel
theorem dX3_become_103 : decode cX3_become 103 = .ok (.bipush 6, 2) := by decide +kernel
theorem dX3_become_105 : decode cX3_become 105 = .ok (.invokestatic 59, 3) := by decide +kernel
theorem dX3_become_108 : decode cX3_become 108 = .ok (.aload_n 1, 1) := by decide +kernel
theorem dX3_become_109 : decode cX3_become 109 = .ok (.getfield 24, 3) := by decide +kernel
theorem dX3_become_112 : decode cX3_become 112 = .ok (.iconst 0, 1) := by decide +kernel
theorem dX3_become_113 : decode cX3_become 113 = .ok (.aload_n 0, 1) := by decide +kernel
theorem dX3_become_114 : decode cX3_become 114 = .ok (.getfield 24, 3) := by decide +kernel
theorem dX3_become_117 : decode cX3_become 117 = .ok (.iconst 0, 1) := by decide +kernel
theorem dX3_become_118 : decode cX3_become 118 = .ok (.bipush 6, 2) := by decide +kernel
theorem dX3_become_120 : decode cX3_become 120 = .ok (.invokestatic 59, 3) := by decide +kernel
theorem dX3_become_123 : decode cX3_become 123 = .ok (.aload_n 1, 1) := by decide +kernel
theorem dX3_become_124 : decode cX3_become 124 = .ok (.getfield 27, 3) := by decide +kernel
theorem dX3_become_127 : decode cX3_become 127 = .ok (.iconst 0, 1) := by decide +kernel
theorem dX3_become_128 : decode cX3_become 128 = .ok (.aload_n 0, 1) := by decide +kernel
theorem dX3_become_129 : decode cX3_become 129 = .ok (.getfield 27, 3) := by decide +kernel
theorem dX3_become_132 : decode cX3_become 132 = .ok (.iconst 0, 1) := by decide +kernel
theorem dX3_become_133 : decode cX3_become 133 = .ok (.bipush 6, 2) := by decide +kernel
theorem dX3_become_135 : decode cX3_become 135 = .ok (.invokestatic 59, 3) := by decide +kernel
theorem dX3_become_138 : decode cX3_become 138 = .ok (.aload_n 1, 1) := by decide +kernel
theorem dX3_become_139 : decode cX3_become 139 = .ok (.getfield 30, 3) := by decide +kernel
theorem dX3_become_142 : decode cX3_become 142 = .ok (.iconst 0, 1) := by decide +kernel
theorem dX3_become_143 : decode cX3_become 143 = .ok (.aload_n 0, 1) := by decide +kernel
theorem dX3_become_144 : decode cX3_become 144 = .ok (.getfield 30, 3) := by decide +kernel
theorem dX3_become_147 : decode cX3_become 147 = .ok (.iconst 0, 1) := by decide +kernel
theorem dX3_become_148 : decode cX3_become 148 = .ok (.bipush 12, 2) := by decide +kernel
theorem dX3_become_150 : decode cX3_become 150 = .ok (.invokestatic 59, 3) := by decide +kernel
theorem dX3_become_153 : decode cX3_become 153 = .ok (.return_, 1) := by decide +kernel
theorem dX3_saveTo_0 : decode cX3_saveTo 0 = .ok (.iload_n 2, 1) := by decide +kernel
theorem dX3_saveTo_1 : decode cX3_saveTo 1 = .ok (.ifCond .lt 12, 3) := by decide +kernel
theorem dX3_saveTo_4 : decode cX3_saveTo 4 = .ok (.iload_n 2, 1) := by decide +kernel
theorem dX3_saveTo_5 : decode cX3_saveTo 5 = .ok (.aload_n 1, 1) := by decide +kernel
theorem dX3_saveTo_6 : decode cX3_saveTo 6 = .ok (.arraylength, 1) := by decide +kernel
theorem dX3_saveTo_7 : decode cX3_saveTo 7 = .ok (.bipush 40, 2) := by decide +kernel
theorem dX3_saveTo_9 : decode cX3_saveTo 9 = .ok (.isub, 1) := by decide +kernel
theorem dX3_saveTo_10 : decode cX3_saveTo 10 = .ok (.if_icmp .le 4, 3) := by decide +kernel
theorem dX3_saveTo_13 : decode cX3_saveTo 13 = .ok (.return_, 1) := by decide +kernel
theorem dX3_saveTo_14 : decode cX3_saveTo 14 = .ok (.aload_n 1, 1) := by decide +kernel
theorem dX3_saveTo_15 : decode cX3_saveTo 15 = .ok (.iload_n 2, 1) := by decide +kernel
theorem dX3_saveTo_16 : decode cX3_saveTo 16 = .ok (.aload_n 0, 1) := by decide +kernel
theorem dX3_saveTo_17 : decode cX3_saveTo 17 = .ok (.getfield 33, 3) := by decide +kernel
theorem dX3_saveTo_20 : decode cX3_saveTo 20 = .ok (.iastore, 1) := by decide +kernel
theorem dX3_saveTo_21 : decode cX3_saveTo 21 = .ok (.aload_n 1, 1) := by decide +kernel
theorem dX3_saveTo_22 : decode cX3_saveTo 22 = .ok (.iload_n 2, 1) := by decide +kernel
theorem dX3_saveTo_23 : decode cX3_saveTo 23 = .ok (.iconst 1, 1) := by decide +kernel
theorem dX3_saveTo_24 : decode cX3_saveTo 24 = .ok (.iadd, 1) := by decide +kernel
theorem dX3_saveTo_25 : decode cX3_saveTo 25 = .ok (.aload_n 0, 1) := by decide +kernel
theorem dX3_saveTo_26 : decode cX3_saveTo 26 = .ok (.getfield 37, 3) := by decide +kernel
theorem dX3_saveTo_29 : decode cX3_saveTo 29 = .ok (.iastore, 1) := by decide +kernel
theorem dX3_saveTo_30 : decode cX3_saveTo 30 = .ok (.aload_n 1, 1) := by decide +kernel
theorem dX3_saveTo_31 : decode cX3_saveTo 31 = .ok (.iload_n 2, 1) := by decide +kernel
theorem dX3_saveTo_32 : decode cX3_saveTo 32 = .ok (.iconst 2, 1) := by decide +kernel
theorem dX3_saveTo_33 : decode cX3_saveTo 33 = .ok (.iadd, 1) := by decide +kernel
theorem dX3_saveTo_34 : decode cX3_saveTo 34 = .ok (.aload_n 0, 1) := by decide +kernel
theorem dX3_saveTo_35 : decode cX3_saveTo 35 = .ok (.getfield 40, 3) := by decide +kernel
theorem dX3_saveTo_38 : decode cX3_saveTo 38 = .ok (.iastore, 1) := by decide +kernel
theorem dX3_saveTo_39 : decode cX3_saveTo 39 = .ok (.aload_n 1, 1) := by decide +kernel
theorem dX3_saveTo_40 : decode cX3_saveTo 40 = .ok (.iload_n 2, 1) := by decide +kernel
theorem dX3_saveTo_41 : decode cX3_saveTo 41 = .ok (.iconst 3, 1) := by decide +kernel
theorem dX3_saveTo_42 : decode cX3_saveTo 42 = .ok (.iadd, 1) := by decide +kernel
theorem dX3_saveTo_43 : decode cX3_saveTo 43 = .ok (.aload_n 0, 1) := by decide +kernel
theorem dX3_saveTo_44 : decode cX3_saveTo 44 = .ok (.getfield 46, 3) := by decide +kernel
theorem dX3_saveTo_47 : decode cX3_saveTo 47 = .ok (.iastore, 1) := by decide +kernel
theorem dX3_saveTo_48 : decode cX3_saveTo 48 = .ok (.iload_n 2, 1) := by decide +kernel
theorem dX3_saveTo_49 : decode cX3_saveTo 49 = .ok (.iconst 4, 1) := by decide +kernel
theorem dX3_saveTo_50 : decode cX3_saveTo 50 = .ok (.iadd, 1) := by decide +kernel
theorem dX3_saveTo_51 : decode cX3_saveTo 51 = .ok (.istore_n 3, 1) := by decide +kernel
theorem dX3_saveTo_52 : decode cX3_saveTo 52 = .ok (.aload_n 0, 1) := by decide +kernel
theorem dX3_saveTo_53 : decode cX3_saveTo 53 = .ok (.getfield 9, 3) := by decide +kernel
theorem dX3_saveTo_56 : decode cX3_saveTo 56 = .ok (.iconst 0, 1) := by decide +kernel
theorem dX3_saveTo_57 : decode cX3_saveTo 57 = .ok (.aload_n 1, 1) := by decide +kernel
theorem dX3_saveTo_58 : decode cX3_saveTo 58 = .ok (.iload_n 3, 1) := by decide +kernel
theorem dX3_saveTo_59 : decode cX3_saveTo 59 = .ok (.bipush 6, 2) := by decide +kernel
theorem dX3_saveTo_61 : decode cX3_saveTo 61 = .ok (.invokestatic 59, 3) := by decide +kernel
theorem dX3_saveTo_64 : decode cX3_saveTo 64 = .ok (.aload_n 0, 1) := by decide +kernel
theorem dX3_saveTo_65 : decode cX3_saveTo 65 = .ok (.getfield 15, 3) := by decide +kernel
theorem dX3_saveTo_68 : decode cX3_saveTo 68 = .ok (.iconst 0, 1) := by decide +kernel
theorem dX3_saveTo_69 : decode cX3_saveTo 69 = .ok (.aload_n 1, 1) := by decide +kernel
theorem dX3_saveTo_70 : decode cX3_saveTo 70 = .ok (.iload_n 3, 1) := by decide +kernel
theorem dX3_saveTo_71 : decode cX3_saveTo 71 = .ok (.bipush 6, 2) := by decide +kernel
theorem dX3_saveTo_73 : decode cX3_saveTo 73 = .ok (.iadd, 1) := by decide +kernel
theorem dX3_saveTo_74 : decode cX3_saveTo 74 = .ok (.bipush 6, 2) := by decide +kernel
theorem dX3_saveTo_76 : decode cX3_saveTo 76 = .ok (.invokestatic 59, 3) := by decide +kernel
theorem dX3_saveTo_79 : decode cX3_saveTo 79 = .ok (.aload_n 0, 1) := by decide +kernel
theorem dX3_saveTo_80 : decode cX3_saveTo 80 = .ok (.getfield 18, 3) := by decide +kernel
theorem dX3_saveTo_83 : decode cX3_saveTo 83 = .ok (.iconst 0, 1) := by decide +kernel
theorem dX3_saveTo_84 : decode cX3_saveTo 84 = .ok (.aload_n 1, 1) := by decide +kernel
theorem dX3_saveTo_85 : decode cX3_saveTo 85 = .ok (.iload_n 3, 1) := by decide +kernel
theorem dX3_saveTo_86 : decode cX3_saveTo 86 = .ok (.bipush 12, 2) := by decide +kernel
theorem dX3_saveTo_88 : decode cX3_saveTo 88 = .ok (.iadd, 1) := by decide +kernel
theorem dX3_saveTo_89 : decode cX3_saveTo 89 = .ok (.bipush 6, 2) := by decide +kernel
theorem dX3_saveTo_91 : decode cX3_saveTo 91 = .ok (.invokestatic 59, 3) := by decide +kernel
theorem dX3_saveTo_94 : decode cX3_saveTo 94 = .ok (.aload_n 0, 1) := by decide +kernel
theorem dX3_saveTo_95 : decode cX3_saveTo 95 = .ok (.getfield 21, 3) := by decide +kernel
theorem dX3_saveTo_98 : decode cX3_saveTo 98 = .ok (.iconst 0, 1) := by decide +kernel
theorem dX3_saveTo_99 : decode cX3_saveTo 99 = .ok (.aload_n 1, 1) := by decide +kernel
theorem dX3_saveTo_100 : decode cX3_saveTo 100 = .ok (.iload_n 3, 1) := by decide +kernel
theorem dX3_saveTo_101 : decode cX3_saveTo 101 = .ok (.bipush 18, 2) := by decide +kernel
theorem dX3_saveTo_103 : decode cX3_saveTo 103 = .ok (.iadd, 1) := by decide +kernel
theorem dX3_saveTo_104 : decode cX3_saveTo 104 = .ok (.bipush 6, 2) := by decide +kernel
theorem dX3_saveTo_106 : decode cX3_saveTo 106 = .ok (.invokestatic 59, 3) := by decide +kernel
theorem dX3_saveTo_109 : decode cX3_saveTo 109 = .ok (.aload_n 0, 1) := by decide +kernel
theorem dX3_saveTo_110 : decode cX3_saveTo 110 = .ok (.getfield 24, 3) := by decide +kernel
theorem dX3_saveTo_113 : decode cX3_saveTo 113 = .ok (.iconst 0, 1) := by decide +kernel
theorem dX3_saveTo_114 : decode cX3_saveTo 114 = .ok (.aload_n 1, 1) := by decide +kernel
theorem dX3_saveTo_115 : decode cX3_saveTo 115 = .ok (.iload_n 3, 1) := by decide +kernel
theorem dX3_saveTo_116 : decode cX3_saveTo 116 = .ok (.bipush 24, 2) := by decide +kernel
theorem dX3_saveTo_118 : decode cX3_saveTo 118 = .ok (.iadd, 1) := by decide +kernel
theorem dX3_saveTo_119 : decode cX3_saveTo 119 = .ok (.bipush 6, 2) := by decide +kernel
theorem dX3_saveTo_121 : decode cX3_saveTo 121 = .ok (.invokestatic 59, 3) := by decide +kernel
theorem dX3_saveTo_124 : decode cX3_saveTo 124 = .ok (.aload_n 0, 1) := by decide +kernel
theorem dX3_saveTo_125 : decode cX3_saveTo 125 = .ok (.getfield 27, 3) := by decide +kernel
theorem dX3_saveTo_128 : decode cX3_saveTo 128 = .ok (.iconst 0, 1) := by decide +kernel
theorem dX3_saveTo_129 : decode cX3_saveTo 129 = .ok (.aload_n 1, 1) := by decide +kernel
theorem dX3_saveTo_130 : decode cX3_saveTo 130 = .ok (.iload_n 3, 1) := by decide +kernel
theorem dX3_saveTo_131 : decode cX3_saveTo 131 = .ok (.bipush 30, 2) := by decide +kernel
theorem dX3_saveTo_133 : decode cX3_saveTo 133 = .ok (.iadd, 1) := by decide +kernel
theorem dX3_saveTo_134 : decode cX3_saveTo 134 = .ok (.bipush 6, 2) := by decide +kernel
theorem dX3_saveTo_136 : decode cX3_saveTo 136 = .ok (.invokestatic 59, 3) := by decide +kernel
theorem dX3_saveTo_139 : decode cX3_saveTo 139 = .ok (.return_, 1) := by decide +kernel
theorem dX3_loadFrom_0 : decode cX3_loadFrom 0 = .ok (.iload_n 2, 1) := by decide +kernel
theorem dX3_loadFrom_1 : decode cX3_loadFrom 1 = .ok (.ifCond .lt 12, 3) := by decide +kernel
theorem dX3_loadFrom_4 : decode cX3_loadFrom 4 = .ok (.iload_n 2, 1) := by decide +kernel
theorem dX3_loadFrom_5 : decode cX3_loadFrom 5 = .ok (.aload_n 1, 1) := by decide +kernel
theorem dX3_loadFrom_6 : decode cX3_loadFrom 6 = .ok (.arraylength, 1) := by decide +kernel
theorem dX3_loadFrom_7 : decode cX3_loadFrom 7 = .ok (.bipush 40, 2) := by decide +kernel
theorem dX3_loadFrom_9 : decode cX3_loadFrom 9 = .ok (.isub, 1) := by decide +kernel
theorem dX3_loadFrom_10 : decode cX3_loadFrom 10 = .ok (.if_icmp .le 4, 3) := by decide +kernel
theorem dX3_loadFrom_13 : decode cX3_loadFrom 13 = .ok (.return_, 1) := by decide +kernel
theorem dX3_loadFrom_14 : decode cX3_loadFrom 14 = .ok (.aload_n 0, 1) := by decide +kernel
theorem dX3_loadFrom_15 : decode cX3_loadFrom 15 = .ok (.aload_n 1, 1) := by decide +kernel
theorem dX3_loadFrom_16 : decode cX3_loadFrom 16 = .ok (.iload_n 2, 1) := by decide +kernel
theorem dX3_loadFrom_17 : decode cX3_loadFrom 17 = .ok (.iaload, 1) := by decide +kernel
theorem dX3_loadFrom_18 : decode cX3_loadFrom 18 = .ok (.putfield 33, 3) := by decide +kernel
theorem dX3_loadFrom_21 : decode cX3_loadFrom 21 = .ok (.aload_n 0, 1) := by decide +kernel
theorem dX3_loadFrom_22 : decode cX3_loadFrom 22 = .ok (.aload_n 1, 1) := by decide +kernel
theorem dX3_loadFrom_23 : decode cX3_loadFrom 23 = .ok (.iload_n 2, 1) := by decide +kernel
theorem dX3_loadFrom_24 : decode cX3_loadFrom 24 = .ok (.iconst 1, 1) := by decide +kernel
theorem dX3_loadFrom_25 : decode cX3_loadFrom 25 = .ok (.iadd, 1) := by decide +kernel
theorem dX3_loadFrom_26 : decode cX3_loadFrom 26 = .ok (.iaload, 1) := by decide +kernel
theorem dX3_loadFrom_27 : decode cX3_loadFrom 27 = .ok (.putfield 37, 3) := by decide +kernel
theorem dX3_loadFrom_30 : decode cX3_loadFrom 30 = .ok (.aload_n 0, 1) := by decide +kernel
theorem dX3_loadFrom_31 : decode cX3_loadFrom 31 = .ok (.aload_n 1, 1) := by decide +kernel
theorem dX3_loadFrom_32 : decode cX3_loadFrom 32 = .ok (.iload_n 2, 1) := by decide +kernel
theorem dX3_loadFrom_33 : decode cX3_loadFrom 33 = .ok (.iconst 2, 1) := by decide +kernel
theorem dX3_loadFrom_34 : decode cX3_loadFrom 34 = .ok (.iadd, 1) := by decide +kernel
theorem dX3_loadFrom_35 : decode cX3_loadFrom 35 = .ok (.iaload, 1) := by decide +kernel
theorem dX3_loadFrom_36 : decode cX3_loadFrom 36 = .ok (.putfield 40, 3) := by decide +kernel
theorem dX3_loadFrom_39 : decode cX3_loadFrom 39 = .ok (.aload_n 0, 1) := by decide +kernel
theorem dX3_loadFrom_40 : decode cX3_loadFrom 40 = .ok (.aload_n 1, 1) := by decide +kernel
theorem dX3_loadFrom_41 : decode cX3_loadFrom 41 = .ok (.iload_n 2, 1) := by decide +kernel
theorem dX3_loadFrom_42 : decode cX3_loadFrom 42 = .ok (.iconst 3, 1) := by decide +kernel
theorem dX3_loadFrom_43 : decode cX3_loadFrom 43 = .ok (.iadd, 1) := by decide +kernel
theorem dX3_loadFrom_44 : decode cX3_loadFrom 44 = .ok (.iaload, 1) := by decide +kernel
theorem dX3_loadFrom_45 : decode cX3_loadFrom 45 = .ok (.putfield 46, 3) := by decide +kernel
theorem dX3_loadFrom_48 : decode cX3_loadFrom 48 = .ok (.iload_n 2, 1) := by decide +kernel
theorem dX3_loadFrom_49 : decode cX3_loadFrom 49 = .ok (.iconst 4, 1) := by decide +kernel
theorem dX3_loadFrom_50 : decode cX3_loadFrom 50 = .ok (.iadd, 1) := by decide +kernel
theorem dX3_loadFrom_51 : decode cX3_loadFrom 51 = .ok (.istore_n 3, 1) := by decide +kernel
theorem dX3_loadFrom_52 : decode cX3_loadFrom 52 = .ok (.aload_n 1, 1) := by decide +kernel
theorem dX3_loadFrom_53 : decode cX3_loadFrom 53 = .ok (.iload_n 3, 1) := by decide +kernel
theorem dX3_loadFrom_54 : decode cX3_loadFrom 54 = .ok (.aload_n 0, 1) := by decide +kernel
theorem dX3_loadFrom_55 : decode cX3_loadFrom 55 = .ok (.getfield 9, 3) := by decide +kernel
theorem dX3_loadFrom_58 : decode cX3_loadFrom 58 = .ok (.iconst 0, 1) := by decide +kernel
theorem dX3_loadFrom_59 : decode cX3_loadFrom 59 = .ok (.bipush 6, 2) := by decide +kernel
theorem dX3_loadFrom_61 : decode cX3_loadFrom 61 = .ok (.invokestatic 59, 3) := by decide +kernel
theorem dX3_loadFrom_64 : decode cX3_loadFrom 64 = .ok (.aload_n 1, 1) := by decide +kernel
theorem dX3_loadFrom_65 : decode cX3_loadFrom 65 = .ok (.iload_n 3, 1) := by decide +kernel
theorem dX3_loadFrom_66 : decode cX3_loadFrom 66 = .ok (.bipush 6, 2) := by decide +kernel
theorem dX3_loadFrom_68 : decode cX3_loadFrom 68 = .ok (.iadd, 1) := by decide +kernel
theorem dX3_loadFrom_69 : decode cX3_loadFrom 69 = .ok (.aload_n 0, 1) := by decide +kernel
theorem dX3_loadFrom_70 : decode cX3_loadFrom 70 = .ok (.getfield 15, 3) := by decide +kernel
theorem dX3_loadFrom_73 : decode cX3_loadFrom 73 = .ok (.iconst 0, 1) := by decide +kernel
theorem dX3_loadFrom_74 : decode cX3_loadFrom 74 = .ok (.bipush 6, 2) := by decide +kernel
theorem dX3_loadFrom_76 : decode cX3_loadFrom 76 = .ok (.invokestatic 59, 3) := by decide +kernel
theorem dX3_loadFrom_79 : decode cX3_loadFrom 79 = .ok (.aload_n 1, 1) := by decide +kernel
theorem dX3_loadFrom_80 : decode cX3_loadFrom 80 = .ok (.iload_n 3, 1) := by decide +kernel
theorem dX3_loadFrom_81 : decode cX3_loadFrom 81 = .ok (.bipush 12, 2) := by decide +kernel
theorem dX3_loadFrom_83 : decode cX3_loadFrom 83 = .ok (.iadd, 1) := by decide +kernel
theorem dX3_loadFrom_84 : decode cX3_loadFrom 84 = .ok (.aload_n 0, 1) := by decide +kernel
theorem dX3_loadFrom_85 : decode cX3_loadFrom 85 = .ok (.getfield 18, 3) := by decide +kernel
theorem dX3_loadFrom_88 : decode cX3_loadFrom 88 = .ok (.iconst 0, 1) := by decide +kernel
theorem dX3_loadFrom_89 : decode cX3_loadFrom 89 = .ok (.bipush 6, 2) := by decide +kernel
theorem dX3_loadFrom_91 : decode cX3_loadFrom 91 = .ok (.invokestatic 59, 3) := by decide +kernel
theorem dX3_loadFrom_94 : decode cX3_loadFrom 94 = .ok (.aload_n 1, 1) := by decide +kernel
theorem dX3_loadFrom_95 : decode cX3_loadFrom 95 = .ok (.iload_n 3, 1) := by decide +kernel
theorem dX3_loadFrom_96 : decode cX3_loadFrom 96 = .ok (.bipush 18, 2) := by decide +kernel
theorem dX3_loadFrom_98 : decode cX3_loadFrom 98 = .ok (.iadd, 1) := by decide +kernel
theorem dX3_loadFrom_99 : decode cX3_loadFrom 99 = .ok (.aload_n 0, 1) := by decide +kernel
theorem dX3_loadFrom_100 : decode cX3_loadFrom 100 = .ok (.getfield 21, 3) := by decide +kernel
theorem dX3_loadFrom_103 : decode cX3_loadFrom 103 = .ok (.iconst 0, 1) := by decide +kernel
theorem dX3_loadFrom_104 : decode cX3_loadFrom 104 = .ok (.bipush 6, 2) := by decide +kernel
theorem dX3_loadFrom_106 : decode cX3_loadFrom 106 = .ok (.invokestatic 59, 3) := by decide +kernel
theorem dX3_loadFrom_109 : decode cX3_loadFrom 109 = .ok (.aload_n 1, 1) := by decide +kernel
theorem dX3_loadFrom_110 : decode cX3_loadFrom 110 = .ok (.iload_n 3, 1) := by decide +kernel
theorem dX3_loadFrom_111 : decode cX3_loadFrom 111 = .ok (.bipush 24, 2) := by decide +kernel
theorem dX3_loadFrom_113 : decode cX3_loadFrom 113 = .ok (.iadd, 1) := by decide +kernel
theorem dX3_loadFrom_114 : decode cX3_loadFrom 114 = .ok (.aload_n 0, 1) := by decide +kernel
theorem dX3_loadFrom_115 : decode cX3_loadFrom 115 = .ok (.getfield 24, 3) := by decide +kernel
theorem dX3_loadFrom_118 : decode cX3_loadFrom 118 = .ok (.iconst 0, 1) := by decide +kernel
theorem dX3_loadFrom_119 : decode cX3_loadFrom 119 = .ok (.bipush 6, 2) := by decide +kernel
theorem dX3_loadFrom_121 : decode cX3_loadFrom 121 = .ok (.invokestatic 59, 3) := by decide +kernel
theorem dX3_loadFrom_124 : decode cX3_loadFrom 124 = .ok (.aload_n 1, 1) := by decide +kernel
theorem dX3_loadFrom_125 : decode cX3_loadFrom 125 = .ok (.iload_n 3, 1) := by decide +kernel
theorem dX3_loadFrom_126 : decode cX3_loadFrom 126 = .ok (.bipush 30, 2) := by decide +kernel
theorem dX3_loadFrom_128 : decode cX3_loadFrom 128 = .ok (.iadd, 1) := by decide +kernel
theorem dX3_loadFrom_129 : decode cX3_loadFrom 129 = .ok (.aload_n 0, 1) := by decide +kernel
theorem dX3_loadFrom_130 : decode cX3_loadFrom 130 = .ok (.getfield 27, 3) := by decide +kernel
theorem dX3_loadFrom_133 : decode cX3_loadFrom 133 = .ok (.iconst 0, 1) := by decide +kernel
theorem dX3_loadFrom_134 : decode cX3_loadFrom 134 = .ok (.bipush 6, 2) := by decide +kernel
theorem dX3_loadFrom_136 : decode cX3_loadFrom 136 = .ok (.invokestatic 59, 3) := by decide +kernel
theorem dX3_loadFrom_139 : decode cX3_loadFrom 139 = .ok (.aload_n 0, 1) := by decide +kernel
theorem dX3_loadFrom_140 : decode cX3_loadFrom 140 = .ok (.invokevirtual 65, 3) := by decide +kernel
theorem dX3_loadFrom_143 : decode cX3_loadFrom 143 = .ok (.return_, 1) := by decide +kernel
theorem dX3_followSpots_0 : decode cX3_followSpots 0 = .ok (.aload_n 0, 1) := by decide +kernel
theorem dX3_followSpots_1 : decode cX3_followSpots 1 = .ok (.iconst 0, 1) := by decide +kernel
theorem dX3_followSpots_2 : decode cX3_followSpots 2 = .ok (.putfield 49, 3) := by decide +kernel
theorem dX3_followSpots_5 : decode cX3_followSpots 5 = .ok (.aload_n 0, 1) := by decide +kernel
theorem dX3_followSpots_6 : decode cX3_followSpots 6 = .ok (.getfield 30, 3) := by decide +kernel
theorem dX3_followSpots_9 : decode cX3_followSpots 9 = .ok (.ldc 52, 2) := by decide +kernel
theorem dX3_followSpots_11 : decode cX3_followSpots 11 = .ok (.invokestatic 53, 3) := by decide +kernel
theorem dX3_followSpots_14 : decode cX3_followSpots 14 = .ok (.iconst 0, 1) := by decide +kernel
theorem dX3_followSpots_15 : decode cX3_followSpots 15 = .ok (.istore_n 1, 1) := by decide +kernel
theorem dX3_followSpots_16 : decode cX3_followSpots 16 = .ok (.iload_n 1, 1) := by decide +kernel
theorem dX3_followSpots_17 : decode cX3_followSpots 17 = .ok (.aload_n 0, 1) := by decide +kernel
theorem dX3_followSpots_18 : decode cX3_followSpots 18 = .ok (.getfield 37, 3) := by decide +kernel
theorem dX3_followSpots_21 : decode cX3_followSpots 21 = .ok (.if_icmp .ge 50, 3) := by decide +kernel
theorem dX3_followSpots_24 : decode cX3_followSpots 24 = .ok (.aload_n 0, 1) := by decide +kernel
theorem dX3_followSpots_25 : decode cX3_followSpots 25 = .ok (.iload_n 1, 1) := by decide +kernel
theorem dX3_followSpots_26 : decode cX3_followSpots 26 = .ok (.invokevirtual 68, 3) := by decide +kernel
theorem dX3_followSpots_29 : decode cX3_followSpots 29 = .ok (.ifCond .eq 18, 3) := by decide +kernel
theorem dX3_followSpots_32 : decode cX3_followSpots 32 = .ok (.aload_n 0, 1) := by decide +kernel
theorem dX3_followSpots_33 : decode cX3_followSpots 33 = .ok (.getfield 30, 3) := by decide +kernel
theorem dX3_followSpots_36 : decode cX3_followSpots 36 = .ok (.aload_n 0, 1) := by decide +kernel
theorem dX3_followSpots_37 : decode cX3_followSpots 37 = .ok (.getfield 27, 3) := by decide +kernel
theorem dX3_followSpots_40 : decode cX3_followSpots 40 = .ok (.iload_n 1, 1) := by decide +kernel
theorem dX3_followSpots_41 : decode cX3_followSpots 41 = .ok (.iaload, 1) := by decide +kernel
theorem dX3_followSpots_42 : decode cX3_followSpots 42 = .ok (.iload_n 1, 1) := by decide +kernel
theorem dX3_followSpots_43 : decode cX3_followSpots 43 = .ok (.iastore, 1) := by decide +kernel
theorem dX3_followSpots_44 : decode cX3_followSpots 44 = .ok (.goto 21, 3) := by decide +kernel
theorem dX3_followSpots_47 : decode cX3_followSpots 47 = .ok (.aload_n 0, 1) := by decide +kernel
theorem dX3_followSpots_48 : decode cX3_followSpots 48 = .ok (.iload_n 1, 1) := by decide +kernel
theorem dX3_followSpots_49 : decode cX3_followSpots 49 = .ok (.invokevirtual 72, 3) := by decide +kernel
theorem dX3_followSpots_52 : decode cX3_followSpots 52 = .ok (.ifCond .eq 13, 3) := by decide +kernel
theorem dX3_followSpots_55 : decode cX3_followSpots 55 = .ok (.aload_n 0, 1) := by decide +kernel
theorem dX3_followSpots_56 : decode cX3_followSpots 56 = .ok (.dup, 1) := by decide +kernel
theorem dX3_followSpots_57 : decode cX3_followSpots 57 = .ok (.getfield 49, 3) := by decide +kernel
theorem dX3_followSpots_60 : decode cX3_followSpots 60 = .ok (.iconst 1, 1) := by decide +kernel
theorem dX3_followSpots_61 : decode cX3_followSpots 61 = .ok (.iadd, 1) := by decide +kernel
theorem dX3_followSpots_62 : decode cX3_followSpots 62 = .ok (.putfield 49, 3) := by decide +kernel
theorem dX3_followSpots_65 : decode cX3_followSpots 65 = .ok (.iinc 1 1, 3) := by decide +kernel
theorem dX3_followSpots_68 : decode cX3_followSpots 68 = .ok (.goto (-52), 3) := by decide +kernel
theorem dX3_followSpots_71 : decode cX3_followSpots 71 = .ok (.return_, 1) := by decide +kernel
theorem dX3_has_0 : decode cX3_has 0 = .ok (.iload_n 1, 1) := by decide +kernel
theorem dX3_has_1 : decode cX3_has 1 = .ok (.ifCond .lt 15, 3) := by decide +kernel
theorem dX3_has_4 : decode cX3_has 4 = .ok (.iload_n 1, 1) := by decide +kernel
theorem dX3_has_5 : decode cX3_has 5 = .ok (.aload_n 0, 1) := by decide +kernel
theorem dX3_has_6 : decode cX3_has 6 = .ok (.getfield 37, 3) := by decide +kernel
theorem dX3_has_9 : decode cX3_has 9 = .ok (.if_icmp .ge 7, 3) := by decide +kernel
theorem dX3_has_12 : decode cX3_has 12 = .ok (.iconst 1, 1) := by decide +kernel
theorem dX3_has_13 : decode cX3_has 13 = .ok (.goto 4, 3) := by decide +kernel
theorem dX3_has_16 : decode cX3_has 16 = .ok (.iconst 0, 1) := by decide +kernel
theorem dX3_has_17 : decode cX3_has 17 = .ok (.ireturn, 1) := by decide +kernel
theorem dX3_hasPlace_0 : decode cX3_hasPlace 0 = .ok (.iload_n 1, 1) := by decide +kernel
theorem dX3_hasPlace_1 : decode cX3_hasPlace 1 = .ok (.ifCond .lt 15, 3) := by decide +kernel
theorem dX3_hasPlace_4 : decode cX3_hasPlace 4 = .ok (.iload_n 1, 1) := by decide +kernel
theorem dX3_hasPlace_5 : decode cX3_hasPlace 5 = .ok (.aload_n 0, 1) := by decide +kernel
theorem dX3_hasPlace_6 : decode cX3_hasPlace 6 = .ok (.getfield 33, 3) := by decide +kernel
theorem dX3_hasPlace_9 : decode cX3_hasPlace 9 = .ok (.if_icmp .ge 7, 3) := by decide +kernel
theorem dX3_hasPlace_12 : decode cX3_hasPlace 12 = .ok (.iconst 1, 1) := by decide +kernel
theorem dX3_hasPlace_13 : decode cX3_hasPlace 13 = .ok (.goto 4, 3) := by decide +kernel
theorem dX3_hasPlace_16 : decode cX3_hasPlace 16 = .ok (.iconst 0, 1) := by decide +kernel
theorem dX3_hasPlace_17 : decode cX3_hasPlace 17 = .ok (.ireturn, 1) := by decide +kernel
theorem dX3_waits_0 : decode cX3_waits 0 = .ok (.aload_n 0, 1) := by decide +kernel
theorem dX3_waits_1 : decode cX3_waits 1 = .ok (.getfield 21, 3) := by decide +kernel
theorem dX3_waits_4 : decode cX3_waits 4 = .ok (.iload_n 1, 1) := by decide +kernel
theorem dX3_waits_5 : decode cX3_waits 5 = .ok (.iaload, 1) := by decide +kernel
theorem dX3_waits_6 : decode cX3_waits 6 = .ok (.ldc 52, 2) := by decide +kernel
theorem dX3_waits_8 : decode cX3_waits 8 = .ok (.if_icmp .ne 7, 3) := by decide +kernel
theorem dX3_waits_11 : decode cX3_waits 11 = .ok (.iconst 1, 1) := by decide +kernel
theorem dX3_waits_12 : decode cX3_waits 12 = .ok (.goto 4, 3) := by decide +kernel
theorem dX3_waits_15 : decode cX3_waits 15 = .ok (.iconst 0, 1) := by decide +kernel
theorem dX3_waits_16 : decode cX3_waits 16 = .ok (.ireturn, 1) := by decide +kernel
theorem dX3_hasOwn_0 : decode cX3_hasOwn 0 = .ok (.aload_n 0, 1) := by decide +kernel
theorem dX3_hasOwn_1 : decode cX3_hasOwn 1 = .ok (.getfield 21, 3) := by decide +kernel
theorem dX3_hasOwn_4 : decode cX3_hasOwn 4 = .ok (.iload_n 1, 1) := by decide +kernel
theorem dX3_hasOwn_5 : decode cX3_hasOwn 5 = .ok (.iaload, 1) := by decide +kernel
theorem dX3_hasOwn_6 : decode cX3_hasOwn 6 = .ok (.iload_n 1, 1) := by decide +kernel
theorem dX3_hasOwn_7 : decode cX3_hasOwn 7 = .ok (.if_icmp .ne 7, 3) := by decide +kernel
theorem dX3_hasOwn_10 : decode cX3_hasOwn 10 = .ok (.iconst 1, 1) := by decide +kernel
theorem dX3_hasOwn_11 : decode cX3_hasOwn 11 = .ok (.goto 4, 3) := by decide +kernel
theorem dX3_hasOwn_14 : decode cX3_hasOwn 14 = .ok (.iconst 0, 1) := by decide +kernel
theorem dX3_hasOwn_15 : decode cX3_hasOwn 15 = .ok (.ireturn, 1) := by decide +kernel
theorem dX3_isWrong_0 : decode cX3_isWrong 0 = .ok (.aload_n 0, 1) := by decide +kernel
theorem dX3_isWrong_1 : decode cX3_isWrong 1 = .ok (.iload_n 1, 1) := by decide +kernel
theorem dX3_isWrong_2 : decode cX3_isWrong 2 = .ok (.invokevirtual 75, 3) := by decide +kernel
theorem dX3_isWrong_5 : decode cX3_isWrong 5 = .ok (.ifCond .ne 15, 3) := by decide +kernel
theorem dX3_isWrong_8 : decode cX3_isWrong 8 = .ok (.aload_n 0, 1) := by decide +kernel
theorem dX3_isWrong_9 : decode cX3_isWrong 9 = .ok (.iload_n 1, 1) := by decide +kernel
theorem dX3_isWrong_10 : decode cX3_isWrong 10 = .ok (.invokevirtual 78, 3) := by decide +kernel
theorem dX3_isWrong_13 : decode cX3_isWrong 13 = .ok (.ifCond .ne 7, 3) := by decide +kernel
theorem dX3_isWrong_16 : decode cX3_isWrong 16 = .ok (.iconst 1, 1) := by decide +kernel
theorem dX3_isWrong_17 : decode cX3_isWrong 17 = .ok (.goto 4, 3) := by decide +kernel
theorem dX3_isWrong_20 : decode cX3_isWrong 20 = .ok (.iconst 0, 1) := by decide +kernel
theorem dX3_isWrong_21 : decode cX3_isWrong 21 = .ok (.ireturn, 1) := by decide +kernel
theorem dX3_isRobbed_0 : decode cX3_isRobbed 0 = .ok (.aload_n 0, 1) := by decide +kernel
theorem dX3_isRobbed_1 : decode cX3_isRobbed 1 = .ok (.iload_n 1, 1) := by decide +kernel
theorem dX3_isRobbed_2 : decode cX3_isRobbed 2 = .ok (.invokevirtual 75, 3) := by decide +kernel
theorem dX3_isRobbed_5 : decode cX3_isRobbed 5 = .ok (.ifCond .eq 15, 3) := by decide +kernel
theorem dX3_isRobbed_8 : decode cX3_isRobbed 8 = .ok (.aload_n 0, 1) := by decide +kernel
theorem dX3_isRobbed_9 : decode cX3_isRobbed 9 = .ok (.iload_n 1, 1) := by decide +kernel
theorem dX3_isRobbed_10 : decode cX3_isRobbed 10 = .ok (.invokevirtual 81, 3) := by decide +kernel
theorem dX3_isRobbed_13 : decode cX3_isRobbed 13 = .ok (.ifCond .eq 7, 3) := by decide +kernel
theorem dX3_isRobbed_16 : decode cX3_isRobbed 16 = .ok (.iconst 1, 1) := by decide +kernel
theorem dX3_isRobbed_17 : decode cX3_isRobbed 17 = .ok (.goto 4, 3) := by decide +kernel
theorem dX3_isRobbed_20 : decode cX3_isRobbed 20 = .ok (.iconst 0, 1) := by decide +kernel
theorem dX3_isRobbed_21 : decode cX3_isRobbed 21 = .ok (.ireturn, 1) := by decide +kernel
theorem dX3_isTaken_0 : decode cX3_isTaken 0 = .ok (.aload_n 0, 1) := by decide +kernel
theorem dX3_isTaken_1 : decode cX3_isTaken 1 = .ok (.getfield 27, 3) := by decide +kernel
theorem dX3_isTaken_4 : decode cX3_isTaken 4 = .ok (.iload_n 1, 1) := by decide +kernel
theorem dX3_isTaken_5 : decode cX3_isTaken 5 = .ok (.iaload, 1) := by decide +kernel
theorem dX3_isTaken_6 : decode cX3_isTaken 6 = .ok (.bipush 30, 2) := by decide +kernel
theorem dX3_isTaken_8 : decode cX3_isTaken 8 = .ok (.if_icmp .lt 7, 3) := by decide +kernel
theorem dX3_isTaken_11 : decode cX3_isTaken 11 = .ok (.iconst 1, 1) := by decide +kernel
theorem dX3_isTaken_12 : decode cX3_isTaken 12 = .ok (.goto 4, 3) := by decide +kernel
theorem dX3_isTaken_15 : decode cX3_isTaken 15 = .ok (.iconst 0, 1) := by decide +kernel
theorem dX3_isTaken_16 : decode cX3_isTaken 16 = .ok (.ireturn, 1) := by decide +kernel
theorem dX3_isInCart_0 : decode cX3_isInCart 0 = .ok (.aload_n 0, 1) := by decide +kernel
theorem dX3_isInCart_1 : decode cX3_isInCart 1 = .ok (.getfield 27, 3) := by decide +kernel
theorem dX3_isInCart_4 : decode cX3_isInCart 4 = .ok (.iload_n 1, 1) := by decide +kernel
theorem dX3_isInCart_5 : decode cX3_isInCart 5 = .ok (.iaload, 1) := by decide +kernel
theorem dX3_isInCart_6 : decode cX3_isInCart 6 = .ok (.bipush 20, 2) := by decide +kernel
theorem dX3_isInCart_8 : decode cX3_isInCart 8 = .ok (.if_icmp .ne 7, 3) := by decide +kernel
theorem dX3_isInCart_11 : decode cX3_isInCart 11 = .ok (.iconst 1, 1) := by decide +kernel
theorem dX3_isInCart_12 : decode cX3_isInCart 12 = .ok (.goto 4, 3) := by decide +kernel
theorem dX3_isInCart_15 : decode cX3_isInCart 15 = .ok (.iconst 0, 1) := by decide +kernel
theorem dX3_isInCart_16 : decode cX3_isInCart 16 = .ok (.ireturn, 1) := by decide +kernel
theorem dX3_isOnBelt_0 : decode cX3_isOnBelt 0 = .ok (.aload_n 0, 1) := by decide +kernel
theorem dX3_isOnBelt_1 : decode cX3_isOnBelt 1 = .ok (.getfield 27, 3) := by decide +kernel
theorem dX3_isOnBelt_4 : decode cX3_isOnBelt 4 = .ok (.iload_n 1, 1) := by decide +kernel
theorem dX3_isOnBelt_5 : decode cX3_isOnBelt 5 = .ok (.iaload, 1) := by decide +kernel
theorem dX3_isOnBelt_6 : decode cX3_isOnBelt 6 = .ok (.ifCond .lt 18, 3) := by decide +kernel
theorem dX3_isOnBelt_9 : decode cX3_isOnBelt 9 = .ok (.aload_n 0, 1) := by decide +kernel
theorem dX3_isOnBelt_10 : decode cX3_isOnBelt 10 = .ok (.getfield 27, 3) := by decide +kernel
theorem dX3_isOnBelt_13 : decode cX3_isOnBelt 13 = .ok (.iload_n 1, 1) := by decide +kernel
theorem dX3_isOnBelt_14 : decode cX3_isOnBelt 14 = .ok (.iaload, 1) := by decide +kernel
theorem dX3_isOnBelt_15 : decode cX3_isOnBelt 15 = .ok (.bipush 12, 2) := by decide +kernel
theorem dX3_isOnBelt_17 : decode cX3_isOnBelt 17 = .ok (.if_icmp .ge 7, 3) := by decide +kernel
theorem dX3_isOnBelt_20 : decode cX3_isOnBelt 20 = .ok (.iconst 1, 1) := by decide +kernel
theorem dX3_isOnBelt_21 : decode cX3_isOnBelt 21 = .ok (.goto 4, 3) := by decide +kernel
theorem dX3_isOnBelt_24 : decode cX3_isOnBelt 24 = .ok (.iconst 0, 1) := by decide +kernel
theorem dX3_isOnBelt_25 : decode cX3_isOnBelt 25 = .ok (.ireturn, 1) := by decide +kernel
theorem dX3_whereIs_0 : decode cX3_whereIs 0 = .ok (.aload_n 0, 1) := by decide +kernel
theorem dX3_whereIs_1 : decode cX3_whereIs 1 = .ok (.iload_n 1, 1) := by decide +kernel
theorem dX3_whereIs_2 : decode cX3_whereIs 2 = .ok (.invokevirtual 68, 3) := by decide +kernel
theorem dX3_whereIs_5 : decode cX3_whereIs 5 = .ok (.ifCond .ne 10, 3) := by decide +kernel
theorem dX3_whereIs_8 : decode cX3_whereIs 8 = .ok (.aload_n 0, 1) := by decide +kernel
theorem dX3_whereIs_9 : decode cX3_whereIs 9 = .ok (.getfield 27, 3) := by decide +kernel
theorem dX3_whereIs_12 : decode cX3_whereIs 12 = .ok (.iload_n 1, 1) := by decide +kernel
theorem dX3_whereIs_13 : decode cX3_whereIs 13 = .ok (.iaload, 1) := by decide +kernel
theorem dX3_whereIs_14 : decode cX3_whereIs 14 = .ok (.ireturn, 1) := by decide +kernel
theorem dX3_whereIs_15 : decode cX3_whereIs 15 = .ok (.aload_n 0, 1) := by decide +kernel
theorem dX3_whereIs_16 : decode cX3_whereIs 16 = .ok (.getfield 27, 3) := by decide +kernel
theorem dX3_whereIs_19 : decode cX3_whereIs 19 = .ok (.iload_n 1, 1) := by decide +kernel
theorem dX3_whereIs_20 : decode cX3_whereIs 20 = .ok (.iaload, 1) := by decide +kernel
theorem dX3_whereIs_21 : decode cX3_whereIs 21 = .ok (.aload_n 0, 1) := by decide +kernel
theorem dX3_whereIs_22 : decode cX3_whereIs 22 = .ok (.getfield 46, 3) := by decide +kernel
theorem dX3_whereIs_25 : decode cX3_whereIs 25 = .ok (.iadd, 1) := by decide +kernel
theorem dX3_whereIs_26 : decode cX3_whereIs 26 = .ok (.istore_n 2, 1) := by decide +kernel
theorem dX3_whereIs_27 : decode cX3_whereIs 27 = .ok (.iload_n 2, 1) := by decide +kernel
theorem dX3_whereIs_28 : decode cX3_whereIs 28 = .ok (.aload_n 0, 1) := by decide +kernel
theorem dX3_whereIs_29 : decode cX3_whereIs 29 = .ok (.getfield 33, 3) := by decide +kernel
theorem dX3_whereIs_32 : decode cX3_whereIs 32 = .ok (.if_icmp .ge 7, 3) := by decide +kernel
theorem dX3_whereIs_35 : decode cX3_whereIs 35 = .ok (.iload_n 2, 1) := by decide +kernel
theorem dX3_whereIs_36 : decode cX3_whereIs 36 = .ok (.goto 9, 3) := by decide +kernel
theorem dX3_whereIs_39 : decode cX3_whereIs 39 = .ok (.iload_n 2, 1) := by decide +kernel
theorem dX3_whereIs_40 : decode cX3_whereIs 40 = .ok (.aload_n 0, 1) := by decide +kernel
theorem dX3_whereIs_41 : decode cX3_whereIs 41 = .ok (.getfield 33, 3) := by decide +kernel
theorem dX3_whereIs_44 : decode cX3_whereIs 44 = .ok (.isub, 1) := by decide +kernel
theorem dX3_whereIs_45 : decode cX3_whereIs 45 = .ok (.ireturn, 1) := by decide +kernel
theorem dX3_bagAt_0 : decode cX3_bagAt 0 = .ok (.iload_n 1, 1) := by decide +kernel
theorem dX3_bagAt_1 : decode cX3_bagAt 1 = .ok (.aload_n 0, 1) := by decide +kernel
theorem dX3_bagAt_2 : decode cX3_bagAt 2 = .ok (.getfield 46, 3) := by decide +kernel
theorem dX3_bagAt_5 : decode cX3_bagAt 5 = .ok (.if_icmp .ge 17, 3) := by decide +kernel
theorem dX3_bagAt_8 : decode cX3_bagAt 8 = .ok (.iload_n 1, 1) := by decide +kernel
theorem dX3_bagAt_9 : decode cX3_bagAt 9 = .ok (.aload_n 0, 1) := by decide +kernel
theorem dX3_bagAt_10 : decode cX3_bagAt 10 = .ok (.getfield 46, 3) := by decide +kernel
theorem dX3_bagAt_13 : decode cX3_bagAt 13 = .ok (.isub, 1) := by decide +kernel
theorem dX3_bagAt_14 : decode cX3_bagAt 14 = .ok (.aload_n 0, 1) := by decide +kernel
theorem dX3_bagAt_15 : decode cX3_bagAt 15 = .ok (.getfield 33, 3) := by decide +kernel
theorem dX3_bagAt_18 : decode cX3_bagAt 18 = .ok (.iadd, 1) := by decide +kernel
theorem dX3_bagAt_19 : decode cX3_bagAt 19 = .ok (.goto 9, 3) := by decide +kernel
theorem dX3_bagAt_22 : decode cX3_bagAt 22 = .ok (.iload_n 1, 1) := by decide +kernel
theorem dX3_bagAt_23 : decode cX3_bagAt 23 = .ok (.aload_n 0, 1) := by decide +kernel
theorem dX3_bagAt_24 : decode cX3_bagAt 24 = .ok (.getfield 46, 3) := by decide +kernel
theorem dX3_bagAt_27 : decode cX3_bagAt 27 = .ok (.isub, 1) := by decide +kernel
theorem dX3_bagAt_28 : decode cX3_bagAt 28 = .ok (.istore_n 2, 1) := by decide +kernel
theorem dX3_bagAt_29 : decode cX3_bagAt 29 = .ok (.iload_n 2, 1) := by decide +kernel
theorem dX3_bagAt_30 : decode cX3_bagAt 30 = .ok (.ifCond .lt 18, 3) := by decide +kernel
theorem dX3_bagAt_33 : decode cX3_bagAt 33 = .ok (.iload_n 2, 1) := by decide +kernel
theorem dX3_bagAt_34 : decode cX3_bagAt 34 = .ok (.bipush 12, 2) := by decide +kernel
theorem dX3_bagAt_36 : decode cX3_bagAt 36 = .ok (.if_icmp .ge 12, 3) := by decide +kernel
theorem dX3_bagAt_39 : decode cX3_bagAt 39 = .ok (.aload_n 0, 1) := by decide +kernel
theorem dX3_bagAt_40 : decode cX3_bagAt 40 = .ok (.getfield 30, 3) := by decide +kernel
theorem dX3_bagAt_43 : decode cX3_bagAt 43 = .ok (.iload_n 2, 1) := by decide +kernel
theorem dX3_bagAt_44 : decode cX3_bagAt 44 = .ok (.iaload, 1) := by decide +kernel
theorem dX3_bagAt_45 : decode cX3_bagAt 45 = .ok (.goto 5, 3) := by decide +kernel
theorem dX3_bagAt_48 : decode cX3_bagAt 48 = .ok (.ldc 52, 2) := by decide +kernel
theorem dX3_bagAt_50 : decode cX3_bagAt 50 = .ok (.ireturn, 1) := by decide +kernel
theorem dX3_setOf_0 : decode cX3_setOf 0 = .ok (.iconst 0, 1) := by decide +kernel
theorem dX3_setOf_1 : decode cX3_setOf 1 = .ok (.istore_n 2, 1) := by decide +kernel
theorem dX3_setOf_2 : decode cX3_setOf 2 = .ok (.iconst 0, 1) := by decide +kernel
theorem dX3_setOf_3 : decode cX3_setOf 3 = .ok (.istore_n 3, 1) := by decide +kernel
theorem dX3_setOf_4 : decode cX3_setOf 4 = .ok (.iload_n 3, 1) := by decide +kernel
theorem dX3_setOf_5 : decode cX3_setOf 5 = .ok (.aload_n 0, 1) := by decide +kernel
theorem dX3_setOf_6 : decode cX3_setOf 6 = .ok (.getfield 37, 3) := by decide +kernel
theorem dX3_setOf_9 : decode cX3_setOf 9 = .ok (.if_icmp .ge 28, 3) := by decide +kernel
theorem dX3_setOf_12 : decode cX3_setOf 12 = .ok (.iload_n 2, 1) := by decide +kernel
theorem dX3_setOf_13 : decode cX3_setOf 13 = .ok (.aload_n 0, 1) := by decide +kernel
theorem dX3_setOf_14 : decode cX3_setOf 14 = .ok (.iload_n 1, 1) := by decide +kernel
theorem dX3_setOf_15 : decode cX3_setOf 15 = .ok (.iload_n 3, 1) := by decide +kernel
theorem dX3_setOf_16 : decode cX3_setOf 16 = .ok (.invokevirtual 84, 3) := by decide +kernel
theorem dX3_setOf_19 : decode cX3_setOf 19 = .ok (.ifCond .eq 9, 3) := by decide +kernel
theorem dX3_setOf_22 : decode cX3_setOf 22 = .ok (.iconst 1, 1) := by decide +kernel
theorem dX3_setOf_23 : decode cX3_setOf 23 = .ok (.iload_n 3, 1) := by decide +kernel
theorem dX3_setOf_24 : decode cX3_setOf 24 = .ok (.ishl, 1) := by decide +kernel
theorem dX3_setOf_25 : decode cX3_setOf 25 = .ok (.goto 4, 3) := by decide +kernel
theorem dX3_setOf_28 : decode cX3_setOf 28 = .ok (.iconst 0, 1) := by decide +kernel
theorem dX3_setOf_29 : decode cX3_setOf 29 = .ok (.ior, 1) := by decide +kernel
theorem dX3_setOf_30 : decode cX3_setOf 30 = .ok (.istore_n 2, 1) := by decide +kernel
theorem dX3_setOf_31 : decode cX3_setOf 31 = .ok (.iinc 3 1, 3) := by decide +kernel
theorem dX3_setOf_34 : decode cX3_setOf 34 = .ok (.goto (-30), 3) := by decide +kernel
theorem dX3_setOf_37 : decode cX3_setOf 37 = .ok (.iload_n 2, 1) := by decide +kernel
theorem dX3_setOf_38 : decode cX3_setOf 38 = .ok (.ireturn, 1) := by decide +kernel
theorem dX3_isIn_0 : decode cX3_isIn 0 = .ok (.iload_n 1, 1) := by decide +kernel
theorem dX3_isIn_1 : decode cX3_isIn 1 = .ok (.tableswitch 93 1 7 #[43, 49, 55, 61, 67, 73, 79], 43) := by decide +kernel
theorem dX3_isIn_44 : decode cX3_isIn 44 = .ok (.aload_n 0, 1) := by decide +kernel
theorem dX3_isIn_45 : decode cX3_isIn 45 = .ok (.iload_n 2, 1) := by decide +kernel
theorem dX3_isIn_46 : decode cX3_isIn 46 = .ok (.invokevirtual 72, 3) := by decide +kernel
theorem dX3_isIn_49 : decode cX3_isIn 49 = .ok (.ireturn, 1) := by decide +kernel
theorem dX3_isIn_50 : decode cX3_isIn 50 = .ok (.aload_n 0, 1) := by decide +kernel
theorem dX3_isIn_51 : decode cX3_isIn 51 = .ok (.iload_n 2, 1) := by decide +kernel
theorem dX3_isIn_52 : decode cX3_isIn 52 = .ok (.invokevirtual 68, 3) := by decide +kernel
theorem dX3_isIn_55 : decode cX3_isIn 55 = .ok (.ireturn, 1) := by decide +kernel
theorem dX3_isIn_56 : decode cX3_isIn 56 = .ok (.aload_n 0, 1) := by decide +kernel
theorem dX3_isIn_57 : decode cX3_isIn 57 = .ok (.iload_n 2, 1) := by decide +kernel
theorem dX3_isIn_58 : decode cX3_isIn 58 = .ok (.invokevirtual 81, 3) := by decide +kernel
theorem dX3_isIn_61 : decode cX3_isIn 61 = .ok (.ireturn, 1) := by decide +kernel
theorem dX3_isIn_62 : decode cX3_isIn 62 = .ok (.aload_n 0, 1) := by decide +kernel
theorem dX3_isIn_63 : decode cX3_isIn 63 = .ok (.iload_n 2, 1) := by decide +kernel
theorem dX3_isIn_64 : decode cX3_isIn 64 = .ok (.invokevirtual 75, 3) := by decide +kernel
theorem dX3_isIn_67 : decode cX3_isIn 67 = .ok (.ireturn, 1) := by decide +kernel
theorem dX3_isIn_68 : decode cX3_isIn 68 = .ok (.aload_n 0, 1) := by decide +kernel
theorem dX3_isIn_69 : decode cX3_isIn 69 = .ok (.iload_n 2, 1) := by decide +kernel
theorem dX3_isIn_70 : decode cX3_isIn 70 = .ok (.invokevirtual 88, 3) := by decide +kernel
theorem dX3_isIn_73 : decode cX3_isIn 73 = .ok (.ireturn, 1) := by decide +kernel
theorem dX3_isIn_74 : decode cX3_isIn 74 = .ok (.aload_n 0, 1) := by decide +kernel
theorem dX3_isIn_75 : decode cX3_isIn 75 = .ok (.iload_n 2, 1) := by decide +kernel
theorem dX3_isIn_76 : decode cX3_isIn 76 = .ok (.invokevirtual 91, 3) := by decide +kernel
theorem dX3_isIn_79 : decode cX3_isIn 79 = .ok (.ireturn, 1) := by decide +kernel
theorem dX3_isIn_80 : decode cX3_isIn 80 = .ok (.aload_n 0, 1) := by decide +kernel
theorem dX3_isIn_81 : decode cX3_isIn 81 = .ok (.iload_n 2, 1) := by decide +kernel
theorem dX3_isIn_82 : decode cX3_isIn 82 = .ok (.invokevirtual 75, 3) := by decide +kernel
theorem dX3_isIn_85 : decode cX3_isIn 85 = .ok (.ifCond .ne 7, 3) := by decide +kernel
theorem dX3_isIn_88 : decode cX3_isIn 88 = .ok (.iconst 1, 1) := by decide +kernel
theorem dX3_isIn_89 : decode cX3_isIn 89 = .ok (.goto 4, 3) := by decide +kernel
theorem dX3_isIn_92 : decode cX3_isIn 92 = .ok (.iconst 0, 1) := by decide +kernel
theorem dX3_isIn_93 : decode cX3_isIn 93 = .ok (.ireturn, 1) := by decide +kernel
theorem dX3_isIn_94 : decode cX3_isIn 94 = .ok (.iconst 0, 1) := by decide +kernel
theorem dX3_isIn_95 : decode cX3_isIn 95 = .ok (.ireturn, 1) := by decide +kernel
theorem dX3_seenTogether_0 : decode cX3_seenTogether 0 = .ok (.iconst 0, 1) := by decide +kernel
theorem dX3_seenTogether_1 : decode cX3_seenTogether 1 = .ok (.istore_n 1, 1) := by decide +kernel
theorem dX3_seenTogether_2 : decode cX3_seenTogether 2 = .ok (.iconst 0, 1) := by decide +kernel
theorem dX3_seenTogether_3 : decode cX3_seenTogether 3 = .ok (.istore_n 2, 1) := by decide +kernel
theorem dX3_seenTogether_4 : decode cX3_seenTogether 4 = .ok (.iload_n 2, 1) := by decide +kernel
theorem dX3_seenTogether_5 : decode cX3_seenTogether 5 = .ok (.aload_n 0, 1) := by decide +kernel
theorem dX3_seenTogether_6 : decode cX3_seenTogether 6 = .ok (.getfield 37, 3) := by decide +kernel
theorem dX3_seenTogether_9 : decode cX3_seenTogether 9 = .ok (.if_icmp .ge 18, 3) := by decide +kernel
theorem dX3_seenTogether_12 : decode cX3_seenTogether 12 = .ok (.iload_n 1, 1) := by decide +kernel
theorem dX3_seenTogether_13 : decode cX3_seenTogether 13 = .ok (.aload_n 0, 1) := by decide +kernel
theorem dX3_seenTogether_14 : decode cX3_seenTogether 14 = .ok (.getfield 18, 3) := by decide +kernel
theorem dX3_seenTogether_17 : decode cX3_seenTogether 17 = .ok (.iload_n 2, 1) := by decide +kernel
theorem dX3_seenTogether_18 : decode cX3_seenTogether 18 = .ok (.iaload, 1) := by decide +kernel
theorem dX3_seenTogether_19 : decode cX3_seenTogether 19 = .ok (.iadd, 1) := by decide +kernel
theorem dX3_seenTogether_20 : decode cX3_seenTogether 20 = .ok (.istore_n 1, 1) := by decide +kernel
theorem dX3_seenTogether_21 : decode cX3_seenTogether 21 = .ok (.iinc 2 1, 3) := by decide +kernel
theorem dX3_seenTogether_24 : decode cX3_seenTogether 24 = .ok (.goto (-20), 3) := by decide +kernel
theorem dX3_seenTogether_27 : decode cX3_seenTogether 27 = .ok (.iload_n 1, 1) := by decide +kernel
theorem dX3_seenTogether_28 : decode cX3_seenTogether 28 = .ok (.ireturn, 1) := by decide +kernel
theorem dX3_shareOf_0 : decode cX3_shareOf 0 = .ok (.aload_n 0, 1) := by decide +kernel
theorem dX3_shareOf_1 : decode cX3_shareOf 1 = .ok (.invokevirtual 94, 3) := by decide +kernel
theorem dX3_shareOf_4 : decode cX3_shareOf 4 = .ok (.istore_n 3, 1) := by decide +kernel
theorem dX3_shareOf_5 : decode cX3_shareOf 5 = .ok (.iload_n 3, 1) := by decide +kernel
theorem dX3_shareOf_6 : decode cX3_shareOf 6 = .ok (.ifCond .eq 12, 3) := by decide +kernel
theorem dX3_shareOf_9 : decode cX3_shareOf 9 = .ok (.aload_n 0, 1) := by decide +kernel
theorem dX3_shareOf_10 : decode cX3_shareOf 10 = .ok (.getfield 18, 3) := by decide +kernel
theorem dX3_shareOf_13 : decode cX3_shareOf 13 = .ok (.iload_n 1, 1) := by decide +kernel
theorem dX3_shareOf_14 : decode cX3_shareOf 14 = .ok (.iaload, 1) := by decide +kernel
theorem dX3_shareOf_15 : decode cX3_shareOf 15 = .ok (.ifCond .ne 5, 3) := by decide +kernel
theorem dX3_shareOf_18 : decode cX3_shareOf 18 = .ok (.iconst 0, 1) := by decide +kernel
theorem dX3_shareOf_19 : decode cX3_shareOf 19 = .ok (.ireturn, 1) := by decide +kernel
theorem dX3_shareOf_20 : decode cX3_shareOf 20 = .ok (.iload_n 2, 1) := by decide +kernel
theorem dX3_shareOf_21 : decode cX3_shareOf 21 = .ok (.istore 4, 2) := by decide +kernel
theorem dX3_shareOf_23 : decode cX3_shareOf 23 = .ok (.iconst 0, 1) := by decide +kernel
theorem dX3_shareOf_24 : decode cX3_shareOf 24 = .ok (.istore 5, 2) := by decide +kernel
theorem dX3_shareOf_26 : decode cX3_shareOf 26 = .ok (.iconst 0, 1) := by decide +kernel
theorem dX3_shareOf_27 : decode cX3_shareOf 27 = .ok (.istore 6, 2) := by decide +kernel
theorem dX3_shareOf_29 : decode cX3_shareOf 29 = .ok (.iload 6, 2) := by decide +kernel
theorem dX3_shareOf_31 : decode cX3_shareOf 31 = .ok (.aload_n 0, 1) := by decide +kernel
theorem dX3_shareOf_32 : decode cX3_shareOf 32 = .ok (.getfield 37, 3) := by decide +kernel
theorem dX3_shareOf_35 : decode cX3_shareOf 35 = .ok (.if_icmp .ge 51, 3) := by decide +kernel
theorem dX3_shareOf_38 : decode cX3_shareOf 38 = .ok (.iload 4, 2) := by decide +kernel
theorem dX3_shareOf_40 : decode cX3_shareOf 40 = .ok (.iload_n 2, 1) := by decide +kernel
theorem dX3_shareOf_41 : decode cX3_shareOf 41 = .ok (.aload_n 0, 1) := by decide +kernel
theorem dX3_shareOf_42 : decode cX3_shareOf 42 = .ok (.getfield 18, 3) := by decide +kernel
theorem dX3_shareOf_45 : decode cX3_shareOf 45 = .ok (.iload 6, 2) := by decide +kernel
theorem dX3_shareOf_47 : decode cX3_shareOf 47 = .ok (.iaload, 1) := by decide +kernel
theorem dX3_shareOf_48 : decode cX3_shareOf 48 = .ok (.imul, 1) := by decide +kernel
theorem dX3_shareOf_49 : decode cX3_shareOf 49 = .ok (.iload_n 3, 1) := by decide +kernel
theorem dX3_shareOf_50 : decode cX3_shareOf 50 = .ok (.idiv, 1) := by decide +kernel
theorem dX3_shareOf_51 : decode cX3_shareOf 51 = .ok (.isub, 1) := by decide +kernel
theorem dX3_shareOf_52 : decode cX3_shareOf 52 = .ok (.istore 4, 2) := by decide +kernel
theorem dX3_shareOf_54 : decode cX3_shareOf 54 = .ok (.iload 5, 2) := by decide +kernel
theorem dX3_shareOf_56 : decode cX3_shareOf 56 = .ok (.iload 6, 2) := by decide +kernel
theorem dX3_shareOf_58 : decode cX3_shareOf 58 = .ok (.iload_n 1, 1) := by decide +kernel
theorem dX3_shareOf_59 : decode cX3_shareOf 59 = .ok (.if_icmp .ge 17, 3) := by decide +kernel
theorem dX3_shareOf_62 : decode cX3_shareOf 62 = .ok (.aload_n 0, 1) := by decide +kernel
theorem dX3_shareOf_63 : decode cX3_shareOf 63 = .ok (.getfield 18, 3) := by decide +kernel
theorem dX3_shareOf_66 : decode cX3_shareOf 66 = .ok (.iload 6, 2) := by decide +kernel
theorem dX3_shareOf_68 : decode cX3_shareOf 68 = .ok (.iaload, 1) := by decide +kernel
theorem dX3_shareOf_69 : decode cX3_shareOf 69 = .ok (.ifCond .le 7, 3) := by decide +kernel
theorem dX3_shareOf_72 : decode cX3_shareOf 72 = .ok (.iconst 1, 1) := by decide +kernel
theorem dX3_shareOf_73 : decode cX3_shareOf 73 = .ok (.goto 4, 3) := by decide +kernel
theorem dX3_shareOf_76 : decode cX3_shareOf 76 = .ok (.iconst 0, 1) := by decide +kernel
theorem dX3_shareOf_77 : decode cX3_shareOf 77 = .ok (.iadd, 1) := by decide +kernel
theorem dX3_shareOf_78 : decode cX3_shareOf 78 = .ok (.istore 5, 2) := by decide +kernel
theorem dX3_shareOf_80 : decode cX3_shareOf 80 = .ok (.iinc 6 1, 3) := by decide +kernel
theorem dX3_shareOf_83 : decode cX3_shareOf 83 = .ok (.goto (-54), 3) := by decide +kernel
theorem dX3_shareOf_86 : decode cX3_shareOf 86 = .ok (.iload_n 2, 1) := by decide +kernel
theorem dX3_shareOf_87 : decode cX3_shareOf 87 = .ok (.aload_n 0, 1) := by decide +kernel
theorem dX3_shareOf_88 : decode cX3_shareOf 88 = .ok (.getfield 18, 3) := by decide +kernel
theorem dX3_shareOf_91 : decode cX3_shareOf 91 = .ok (.iload_n 1, 1) := by decide +kernel
theorem dX3_shareOf_92 : decode cX3_shareOf 92 = .ok (.iaload, 1) := by decide +kernel
theorem dX3_shareOf_93 : decode cX3_shareOf 93 = .ok (.imul, 1) := by decide +kernel
theorem dX3_shareOf_94 : decode cX3_shareOf 94 = .ok (.iload_n 3, 1) := by decide +kernel
theorem dX3_shareOf_95 : decode cX3_shareOf 95 = .ok (.idiv, 1) := by decide +kernel
theorem dX3_shareOf_96 : decode cX3_shareOf 96 = .ok (.iload 5, 2) := by decide +kernel
theorem dX3_shareOf_98 : decode cX3_shareOf 98 = .ok (.iload 4, 2) := by decide +kernel
theorem dX3_shareOf_100 : decode cX3_shareOf 100 = .ok (.if_icmp .ge 7, 3) := by decide +kernel
theorem dX3_shareOf_103 : decode cX3_shareOf 103 = .ok (.iconst 1, 1) := by decide +kernel
theorem dX3_shareOf_104 : decode cX3_shareOf 104 = .ok (.goto 4, 3) := by decide +kernel
theorem dX3_shareOf_107 : decode cX3_shareOf 107 = .ok (.iconst 0, 1) := by decide +kernel
theorem dX3_shareOf_108 : decode cX3_shareOf 108 = .ok (.iadd, 1) := by decide +kernel
theorem dX3_shareOf_109 : decode cX3_shareOf 109 = .ok (.ireturn, 1) := by decide +kernel
theorem dX3_tickOnce_0 : decode cX3_tickOnce 0 = .ok (.aload_n 0, 1) := by decide +kernel
theorem dX3_tickOnce_1 : decode cX3_tickOnce 1 = .ok (.iconst 1, 1) := by decide +kernel
theorem dX3_tickOnce_2 : decode cX3_tickOnce 2 = .ok (.invokevirtual 98, 3) := by decide +kernel
theorem dX3_tickOnce_5 : decode cX3_tickOnce 5 = .ok (.aload_n 0, 1) := by decide +kernel
theorem dX3_tickOnce_6 : decode cX3_tickOnce 6 = .ok (.invokevirtual 102, 3) := by decide +kernel
theorem dX3_tickOnce_9 : decode cX3_tickOnce 9 = .ok (.ifCond .eq 7, 3) := by decide +kernel
theorem dX3_tickOnce_12 : decode cX3_tickOnce 12 = .ok (.aload_n 0, 1) := by decide +kernel
theorem dX3_tickOnce_13 : decode cX3_tickOnce 13 = .ok (.invokevirtual 106, 3) := by decide +kernel
theorem dX3_tickOnce_16 : decode cX3_tickOnce 16 = .ok (.aload_n 0, 1) := by decide +kernel
theorem dX3_tickOnce_17 : decode cX3_tickOnce 17 = .ok (.invokevirtual 109, 3) := by decide +kernel
theorem dX3_tickOnce_20 : decode cX3_tickOnce 20 = .ok (.return_, 1) := by decide +kernel
theorem dX3_turnBy_0 : decode cX3_turnBy 0 = .ok (.aload_n 0, 1) := by decide +kernel
theorem dX3_turnBy_1 : decode cX3_turnBy 1 = .ok (.getfield 33, 3) := by decide +kernel
theorem dX3_turnBy_4 : decode cX3_turnBy 4 = .ok (.ifCond .le 20, 3) := by decide +kernel
theorem dX3_turnBy_7 : decode cX3_turnBy 7 = .ok (.aload_n 0, 1) := by decide +kernel
theorem dX3_turnBy_8 : decode cX3_turnBy 8 = .ok (.aload_n 0, 1) := by decide +kernel
theorem dX3_turnBy_9 : decode cX3_turnBy 9 = .ok (.getfield 46, 3) := by decide +kernel
theorem dX3_turnBy_12 : decode cX3_turnBy 12 = .ok (.iload_n 1, 1) := by decide +kernel
theorem dX3_turnBy_13 : decode cX3_turnBy 13 = .ok (.iadd, 1) := by decide +kernel
theorem dX3_turnBy_14 : decode cX3_turnBy 14 = .ok (.aload_n 0, 1) := by decide +kernel
theorem dX3_turnBy_15 : decode cX3_turnBy 15 = .ok (.getfield 33, 3) := by decide +kernel
theorem dX3_turnBy_18 : decode cX3_turnBy 18 = .ok (.invokestatic 112, 3) := by decide +kernel
theorem dX3_turnBy_21 : decode cX3_turnBy 21 = .ok (.putfield 46, 3) := by decide +kernel
theorem dX3_turnBy_24 : decode cX3_turnBy 24 = .ok (.return_, 1) := by decide +kernel
theorem dX3_isFallDue_0 : decode cX3_isFallDue 0 = .ok (.aload_n 0, 1) := by decide +kernel
theorem dX3_isFallDue_1 : decode cX3_isFallDue 1 = .ok (.getfield 49, 3) := by decide +kernel
theorem dX3_isFallDue_4 : decode cX3_isFallDue 4 = .ok (.ifCond .le 17, 3) := by decide +kernel
theorem dX3_isFallDue_7 : decode cX3_isFallDue 7 = .ok (.aload_n 0, 1) := by decide +kernel
theorem dX3_isFallDue_8 : decode cX3_isFallDue 8 = .ok (.iconst 0, 1) := by decide +kernel
theorem dX3_isFallDue_9 : decode cX3_isFallDue 9 = .ok (.invokevirtual 118, 3) := by decide +kernel
theorem dX3_isFallDue_12 : decode cX3_isFallDue 12 = .ok (.ldc 52, 2) := by decide +kernel
theorem dX3_isFallDue_14 : decode cX3_isFallDue 14 = .ok (.if_icmp .ne 7, 3) := by decide +kernel
theorem dX3_isFallDue_17 : decode cX3_isFallDue 17 = .ok (.iconst 1, 1) := by decide +kernel
theorem dX3_isFallDue_18 : decode cX3_isFallDue 18 = .ok (.goto 4, 3) := by decide +kernel
theorem dX3_isFallDue_21 : decode cX3_isFallDue 21 = .ok (.iconst 0, 1) := by decide +kernel
theorem dX3_isFallDue_22 : decode cX3_isFallDue 22 = .ok (.ireturn, 1) := by decide +kernel
theorem dX3_dropFirst_0 : decode cX3_dropFirst 0 = .ok (.iconst 0, 1) := by decide +kernel
theorem dX3_dropFirst_1 : decode cX3_dropFirst 1 = .ok (.istore_n 1, 1) := by decide +kernel
theorem dX3_dropFirst_2 : decode cX3_dropFirst 2 = .ok (.iload_n 1, 1) := by decide +kernel
theorem dX3_dropFirst_3 : decode cX3_dropFirst 3 = .ok (.aload_n 0, 1) := by decide +kernel
theorem dX3_dropFirst_4 : decode cX3_dropFirst 4 = .ok (.getfield 37, 3) := by decide +kernel
theorem dX3_dropFirst_7 : decode cX3_dropFirst 7 = .ok (.if_icmp .ge 23, 3) := by decide +kernel
theorem dX3_dropFirst_10 : decode cX3_dropFirst 10 = .ok (.aload_n 0, 1) := by decide +kernel
theorem dX3_dropFirst_11 : decode cX3_dropFirst 11 = .ok (.iload_n 1, 1) := by decide +kernel
theorem dX3_dropFirst_12 : decode cX3_dropFirst 12 = .ok (.invokevirtual 72, 3) := by decide +kernel
theorem dX3_dropFirst_15 : decode cX3_dropFirst 15 = .ok (.ifCond .eq 9, 3) := by decide +kernel
theorem dX3_dropFirst_18 : decode cX3_dropFirst 18 = .ok (.aload_n 0, 1) := by decide +kernel
theorem dX3_dropFirst_19 : decode cX3_dropFirst 19 = .ok (.iload_n 1, 1) := by decide +kernel
theorem dX3_dropFirst_20 : decode cX3_dropFirst 20 = .ok (.invokevirtual 122, 3) := by decide +kernel
theorem dX3_dropFirst_23 : decode cX3_dropFirst 23 = .ok (.return_, 1) := by decide +kernel
theorem dX3_dropFirst_24 : decode cX3_dropFirst 24 = .ok (.iinc 1 1, 3) := by decide +kernel
theorem dX3_dropFirst_27 : decode cX3_dropFirst 27 = .ok (.goto (-25), 3) := by decide +kernel
theorem dX3_dropFirst_30 : decode cX3_dropFirst 30 = .ok (.return_, 1) := by decide +kernel
theorem dX3_fallDown_0 : decode cX3_fallDown 0 = .ok (.aload_n 0, 1) := by decide +kernel
theorem dX3_fallDown_1 : decode cX3_fallDown 1 = .ok (.getfield 46, 3) := by decide +kernel
theorem dX3_fallDown_4 : decode cX3_fallDown 4 = .ok (.ifCond .ne 7, 3) := by decide +kernel
theorem dX3_fallDown_7 : decode cX3_fallDown 7 = .ok (.iconst 0, 1) := by decide +kernel
theorem dX3_fallDown_8 : decode cX3_fallDown 8 = .ok (.goto 12, 3) := by decide +kernel
theorem dX3_fallDown_11 : decode cX3_fallDown 11 = .ok (.aload_n 0, 1) := by decide +kernel
theorem dX3_fallDown_12 : decode cX3_fallDown 12 = .ok (.getfield 33, 3) := by decide +kernel
theorem dX3_fallDown_15 : decode cX3_fallDown 15 = .ok (.aload_n 0, 1) := by decide +kernel
theorem dX3_fallDown_16 : decode cX3_fallDown 16 = .ok (.getfield 46, 3) := by decide +kernel
theorem dX3_fallDown_19 : decode cX3_fallDown 19 = .ok (.isub, 1) := by decide +kernel
theorem dX3_fallDown_20 : decode cX3_fallDown 20 = .ok (.istore_n 2, 1) := by decide +kernel
theorem dX3_fallDown_21 : decode cX3_fallDown 21 = .ok (.iload_n 2, 1) := by decide +kernel
theorem dX3_fallDown_22 : decode cX3_fallDown 22 = .ok (.ifCond .lt 33, 3) := by decide +kernel
theorem dX3_fallDown_25 : decode cX3_fallDown 25 = .ok (.iload_n 2, 1) := by decide +kernel
theorem dX3_fallDown_26 : decode cX3_fallDown 26 = .ok (.bipush 12, 2) := by decide +kernel
theorem dX3_fallDown_28 : decode cX3_fallDown 28 = .ok (.if_icmp .ge 27, 3) := by decide +kernel
theorem dX3_fallDown_31 : decode cX3_fallDown 31 = .ok (.aload_n 0, 1) := by decide +kernel
theorem dX3_fallDown_32 : decode cX3_fallDown 32 = .ok (.getfield 27, 3) := by decide +kernel
theorem dX3_fallDown_35 : decode cX3_fallDown 35 = .ok (.iload_n 1, 1) := by decide +kernel
theorem dX3_fallDown_36 : decode cX3_fallDown 36 = .ok (.iload_n 2, 1) := by decide +kernel
theorem dX3_fallDown_37 : decode cX3_fallDown 37 = .ok (.iastore, 1) := by decide +kernel
theorem dX3_fallDown_38 : decode cX3_fallDown 38 = .ok (.aload_n 0, 1) := by decide +kernel
theorem dX3_fallDown_39 : decode cX3_fallDown 39 = .ok (.getfield 30, 3) := by decide +kernel
theorem dX3_fallDown_42 : decode cX3_fallDown 42 = .ok (.iload_n 2, 1) := by decide +kernel
theorem dX3_fallDown_43 : decode cX3_fallDown 43 = .ok (.iload_n 1, 1) := by decide +kernel
theorem dX3_fallDown_44 : decode cX3_fallDown 44 = .ok (.iastore, 1) := by decide +kernel
theorem dX3_fallDown_45 : decode cX3_fallDown 45 = .ok (.aload_n 0, 1) := by decide +kernel
theorem dX3_fallDown_46 : decode cX3_fallDown 46 = .ok (.dup, 1) := by decide +kernel
theorem dX3_fallDown_47 : decode cX3_fallDown 47 = .ok (.getfield 49, 3) := by decide +kernel
theorem dX3_fallDown_50 : decode cX3_fallDown 50 = .ok (.iconst 1, 1) := by decide +kernel
theorem dX3_fallDown_51 : decode cX3_fallDown 51 = .ok (.isub, 1) := by decide +kernel
theorem dX3_fallDown_52 : decode cX3_fallDown 52 = .ok (.putfield 49, 3) := by decide +kernel
theorem dX3_fallDown_55 : decode cX3_fallDown 55 = .ok (.return_, 1) := by decide +kernel
theorem dX3_letTake_0 : decode cX3_letTake 0 = .ok (.iconst 0, 1) := by decide +kernel
theorem dX3_letTake_1 : decode cX3_letTake 1 = .ok (.istore_n 1, 1) := by decide +kernel
theorem dX3_letTake_2 : decode cX3_letTake 2 = .ok (.iload_n 1, 1) := by decide +kernel
theorem dX3_letTake_3 : decode cX3_letTake 3 = .ok (.aload_n 0, 1) := by decide +kernel
theorem dX3_letTake_4 : decode cX3_letTake 4 = .ok (.getfield 37, 3) := by decide +kernel
theorem dX3_letTake_7 : decode cX3_letTake 7 = .ok (.if_icmp .ge 46, 3) := by decide +kernel
theorem dX3_letTake_10 : decode cX3_letTake 10 = .ok (.aload_n 0, 1) := by decide +kernel
theorem dX3_letTake_11 : decode cX3_letTake 11 = .ok (.getfield 21, 3) := by decide +kernel
theorem dX3_letTake_14 : decode cX3_letTake 14 = .ok (.iload_n 1, 1) := by decide +kernel
theorem dX3_letTake_15 : decode cX3_letTake 15 = .ok (.iaload, 1) := by decide +kernel
theorem dX3_letTake_16 : decode cX3_letTake 16 = .ok (.ldc 52, 2) := by decide +kernel
theorem dX3_letTake_18 : decode cX3_letTake 18 = .ok (.if_icmp .ne 29, 3) := by decide +kernel
theorem dX3_letTake_21 : decode cX3_letTake 21 = .ok (.aload_n 0, 1) := by decide +kernel
theorem dX3_letTake_22 : decode cX3_letTake 22 = .ok (.getfield 43, 3) := by decide +kernel
theorem dX3_letTake_25 : decode cX3_letTake 25 = .ok (.iload_n 1, 1) := by decide +kernel
theorem dX3_letTake_26 : decode cX3_letTake 26 = .ok (.ishr, 1) := by decide +kernel
theorem dX3_letTake_27 : decode cX3_letTake 27 = .ok (.iconst 1, 1) := by decide +kernel
theorem dX3_letTake_28 : decode cX3_letTake 28 = .ok (.iand, 1) := by decide +kernel
theorem dX3_letTake_29 : decode cX3_letTake 29 = .ok (.ifCond .ne 18, 3) := by decide +kernel
theorem dX3_letTake_32 : decode cX3_letTake 32 = .ok (.aload_n 0, 1) := by decide +kernel
theorem dX3_letTake_33 : decode cX3_letTake 33 = .ok (.iload_n 1, 1) := by decide +kernel
theorem dX3_letTake_34 : decode cX3_letTake 34 = .ok (.aload_n 0, 1) := by decide +kernel
theorem dX3_letTake_35 : decode cX3_letTake 35 = .ok (.aload_n 0, 1) := by decide +kernel
theorem dX3_letTake_36 : decode cX3_letTake 36 = .ok (.getfield 15, 3) := by decide +kernel
theorem dX3_letTake_39 : decode cX3_letTake 39 = .ok (.iload_n 1, 1) := by decide +kernel
theorem dX3_letTake_40 : decode cX3_letTake 40 = .ok (.iaload, 1) := by decide +kernel
theorem dX3_letTake_41 : decode cX3_letTake 41 = .ok (.invokevirtual 118, 3) := by decide +kernel
theorem dX3_letTake_44 : decode cX3_letTake 44 = .ok (.invokevirtual 125, 3) := by decide +kernel
theorem dX3_letTake_47 : decode cX3_letTake 47 = .ok (.iinc 1 1, 3) := by decide +kernel
theorem dX3_letTake_50 : decode cX3_letTake 50 = .ok (.goto (-48), 3) := by decide +kernel
theorem dX3_letTake_53 : decode cX3_letTake 53 = .ok (.aload_n 0, 1) := by decide +kernel
theorem dX3_letTake_54 : decode cX3_letTake 54 = .ok (.dup, 1) := by decide +kernel
theorem dX3_letTake_55 : decode cX3_letTake 55 = .ok (.getfield 40, 3) := by decide +kernel
theorem dX3_letTake_58 : decode cX3_letTake 58 = .ok (.iconst 1, 1) := by decide +kernel
theorem dX3_letTake_59 : decode cX3_letTake 59 = .ok (.iadd, 1) := by decide +kernel
theorem dX3_letTake_60 : decode cX3_letTake 60 = .ok (.putfield 40, 3) := by decide +kernel
theorem dX3_letTake_63 : decode cX3_letTake 63 = .ok (.return_, 1) := by decide +kernel
theorem dX3_letLook_0 : decode cX3_letLook 0 = .ok (.iload_n 2, 1) := by decide +kernel
theorem dX3_letLook_1 : decode cX3_letLook 1 = .ok (.iload_n 1, 1) := by decide +kernel
theorem dX3_letLook_2 : decode cX3_letLook 2 = .ok (.if_icmp .ne 24, 3) := by decide +kernel
theorem dX3_letLook_5 : decode cX3_letLook 5 = .ok (.aload_n 0, 1) := by decide +kernel
theorem dX3_letLook_6 : decode cX3_letLook 6 = .ok (.getfield 18, 3) := by decide +kernel
theorem dX3_letLook_9 : decode cX3_letLook 9 = .ok (.iload_n 1, 1) := by decide +kernel
theorem dX3_letLook_10 : decode cX3_letLook 10 = .ok (.iaload, 1) := by decide +kernel
theorem dX3_letLook_11 : decode cX3_letLook 11 = .ok (.bipush 99, 2) := by decide +kernel
theorem dX3_letLook_13 : decode cX3_letLook 13 = .ok (.if_icmp .ge 13, 3) := by decide +kernel
theorem dX3_letLook_16 : decode cX3_letLook 16 = .ok (.aload_n 0, 1) := by decide +kernel
theorem dX3_letLook_17 : decode cX3_letLook 17 = .ok (.getfield 18, 3) := by decide +kernel
theorem dX3_letLook_20 : decode cX3_letLook 20 = .ok (.iload_n 1, 1) := by decide +kernel
theorem dX3_letLook_21 : decode cX3_letLook 21 = .ok (.dup2, 1) := by decide +kernel
theorem dX3_letLook_22 : decode cX3_letLook 22 = .ok (.iaload, 1) := by decide +kernel
theorem dX3_letLook_23 : decode cX3_letLook 23 = .ok (.iconst 1, 1) := by decide +kernel
theorem dX3_letLook_24 : decode cX3_letLook 24 = .ok (.iadd, 1) := by decide +kernel
theorem dX3_letLook_25 : decode cX3_letLook 25 = .ok (.iastore, 1) := by decide +kernel
theorem dX3_letLook_26 : decode cX3_letLook 26 = .ok (.iload_n 2, 1) := by decide +kernel
theorem dX3_letLook_27 : decode cX3_letLook 27 = .ok (.ldc 52, 2) := by decide +kernel
theorem dX3_letLook_29 : decode cX3_letLook 29 = .ok (.if_icmp .eq 18, 3) := by decide +kernel
theorem dX3_letLook_32 : decode cX3_letLook 32 = .ok (.aload_n 0, 1) := by decide +kernel
theorem dX3_letLook_33 : decode cX3_letLook 33 = .ok (.iload_n 1, 1) := by decide +kernel
theorem dX3_letLook_34 : decode cX3_letLook 34 = .ok (.iload_n 2, 1) := by decide +kernel
theorem dX3_letLook_35 : decode cX3_letLook 35 = .ok (.invokevirtual 129, 3) := by decide +kernel
theorem dX3_letLook_38 : decode cX3_letLook 38 = .ok (.ifCond .eq 9, 3) := by decide +kernel
theorem dX3_letLook_41 : decode cX3_letLook 41 = .ok (.aload_n 0, 1) := by decide +kernel
theorem dX3_letLook_42 : decode cX3_letLook 42 = .ok (.iload_n 1, 1) := by decide +kernel
theorem dX3_letLook_43 : decode cX3_letLook 43 = .ok (.iload_n 2, 1) := by decide +kernel
theorem dX3_letLook_44 : decode cX3_letLook 44 = .ok (.invokevirtual 132, 3) := by decide +kernel
theorem dX3_letLook_47 : decode cX3_letLook 47 = .ok (.return_, 1) := by decide +kernel
theorem dX3_wants_0 : decode cX3_wants 0 = .ok (.aload_n 0, 1) := by decide +kernel
theorem dX3_wants_1 : decode cX3_wants 1 = .ok (.getfield 9, 3) := by decide +kernel
theorem dX3_wants_4 : decode cX3_wants 4 = .ok (.iload_n 1, 1) := by decide +kernel
theorem dX3_wants_5 : decode cX3_wants 5 = .ok (.iaload, 1) := by decide +kernel
theorem dX3_wants_6 : decode cX3_wants 6 = .ok (.tableswitch 127 1 5 #[34, 45, 64, 85, 106], 34) := by decide +kernel
theorem dX3_wants_40 : decode cX3_wants 40 = .ok (.iload_n 2, 1) := by decide +kernel
theorem dX3_wants_41 : decode cX3_wants 41 = .ok (.iload_n 1, 1) := by decide +kernel
theorem dX3_wants_42 : decode cX3_wants 42 = .ok (.if_icmp .ne 7, 3) := by decide +kernel
theorem dX3_wants_45 : decode cX3_wants 45 = .ok (.iconst 1, 1) := by decide +kernel
theorem dX3_wants_46 : decode cX3_wants 46 = .ok (.goto 4, 3) := by decide +kernel
theorem dX3_wants_49 : decode cX3_wants 49 = .ok (.iconst 0, 1) := by decide +kernel
theorem dX3_wants_50 : decode cX3_wants 50 = .ok (.ireturn, 1) := by decide +kernel
theorem dX3_wants_51 : decode cX3_wants 51 = .ok (.iload_n 2, 1) := by decide +kernel
theorem dX3_wants_52 : decode cX3_wants 52 = .ok (.iload_n 1, 1) := by decide +kernel
theorem dX3_wants_53 : decode cX3_wants 53 = .ok (.if_icmp .ne 15, 3) := by decide +kernel
theorem dX3_wants_56 : decode cX3_wants 56 = .ok (.aload_n 0, 1) := by decide +kernel
theorem dX3_wants_57 : decode cX3_wants 57 = .ok (.iload_n 1, 1) := by decide +kernel
theorem dX3_wants_58 : decode cX3_wants 58 = .ok (.invokevirtual 135, 3) := by decide +kernel
theorem dX3_wants_61 : decode cX3_wants 61 = .ok (.ifCond .eq 7, 3) := by decide +kernel
theorem dX3_wants_64 : decode cX3_wants 64 = .ok (.iconst 1, 1) := by decide +kernel
theorem dX3_wants_65 : decode cX3_wants 65 = .ok (.goto 4, 3) := by decide +kernel
theorem dX3_wants_68 : decode cX3_wants 68 = .ok (.iconst 0, 1) := by decide +kernel
theorem dX3_wants_69 : decode cX3_wants 69 = .ok (.ireturn, 1) := by decide +kernel
theorem dX3_wants_70 : decode cX3_wants 70 = .ok (.aload_n 0, 1) := by decide +kernel
theorem dX3_wants_71 : decode cX3_wants 71 = .ok (.getfield 24, 3) := by decide +kernel
theorem dX3_wants_74 : decode cX3_wants 74 = .ok (.iload_n 2, 1) := by decide +kernel
theorem dX3_wants_75 : decode cX3_wants 75 = .ok (.iaload, 1) := by decide +kernel
theorem dX3_wants_76 : decode cX3_wants 76 = .ok (.aload_n 0, 1) := by decide +kernel
theorem dX3_wants_77 : decode cX3_wants 77 = .ok (.getfield 24, 3) := by decide +kernel
theorem dX3_wants_80 : decode cX3_wants 80 = .ok (.iload_n 1, 1) := by decide +kernel
theorem dX3_wants_81 : decode cX3_wants 81 = .ok (.iaload, 1) := by decide +kernel
theorem dX3_wants_82 : decode cX3_wants 82 = .ok (.if_icmp .ne 7, 3) := by decide +kernel
theorem dX3_wants_85 : decode cX3_wants 85 = .ok (.iconst 1, 1) := by decide +kernel
theorem dX3_wants_86 : decode cX3_wants 86 = .ok (.goto 4, 3) := by decide +kernel
theorem dX3_wants_89 : decode cX3_wants 89 = .ok (.iconst 0, 1) := by decide +kernel
theorem dX3_wants_90 : decode cX3_wants 90 = .ok (.ireturn, 1) := by decide +kernel
theorem dX3_wants_91 : decode cX3_wants 91 = .ok (.iload_n 2, 1) := by decide +kernel
theorem dX3_wants_92 : decode cX3_wants 92 = .ok (.iload_n 1, 1) := by decide +kernel
theorem dX3_wants_93 : decode cX3_wants 93 = .ok (.if_icmp .ne 17, 3) := by decide +kernel
theorem dX3_wants_96 : decode cX3_wants 96 = .ok (.aload_n 0, 1) := by decide +kernel
theorem dX3_wants_97 : decode cX3_wants 97 = .ok (.getfield 18, 3) := by decide +kernel
theorem dX3_wants_100 : decode cX3_wants 100 = .ok (.iload_n 1, 1) := by decide +kernel
theorem dX3_wants_101 : decode cX3_wants 101 = .ok (.iaload, 1) := by decide +kernel
theorem dX3_wants_102 : decode cX3_wants 102 = .ok (.iconst 2, 1) := by decide +kernel
theorem dX3_wants_103 : decode cX3_wants 103 = .ok (.if_icmp .lt 7, 3) := by decide +kernel
theorem dX3_wants_106 : decode cX3_wants 106 = .ok (.iconst 1, 1) := by decide +kernel
theorem dX3_wants_107 : decode cX3_wants 107 = .ok (.goto 4, 3) := by decide +kernel
theorem dX3_wants_110 : decode cX3_wants 110 = .ok (.iconst 0, 1) := by decide +kernel
theorem dX3_wants_111 : decode cX3_wants 111 = .ok (.ireturn, 1) := by decide +kernel
theorem dX3_wants_112 : decode cX3_wants 112 = .ok (.iload_n 2, 1) := by decide +kernel
theorem dX3_wants_113 : decode cX3_wants 113 = .ok (.iload_n 1, 1) := by decide +kernel
theorem dX3_wants_114 : decode cX3_wants 114 = .ok (.if_icmp .ne 17, 3) := by decide +kernel
theorem dX3_wants_117 : decode cX3_wants 117 = .ok (.aload_n 0, 1) := by decide +kernel
theorem dX3_wants_118 : decode cX3_wants 118 = .ok (.getfield 18, 3) := by decide +kernel
theorem dX3_wants_121 : decode cX3_wants 121 = .ok (.iload_n 1, 1) := by decide +kernel
theorem dX3_wants_122 : decode cX3_wants 122 = .ok (.iaload, 1) := by decide +kernel
theorem dX3_wants_123 : decode cX3_wants 123 = .ok (.iconst 3, 1) := by decide +kernel
theorem dX3_wants_124 : decode cX3_wants 124 = .ok (.if_icmp .lt 7, 3) := by decide +kernel
theorem dX3_wants_127 : decode cX3_wants 127 = .ok (.iconst 1, 1) := by decide +kernel
theorem dX3_wants_128 : decode cX3_wants 128 = .ok (.goto 4, 3) := by decide +kernel
theorem dX3_wants_131 : decode cX3_wants 131 = .ok (.iconst 0, 1) := by decide +kernel
theorem dX3_wants_132 : decode cX3_wants 132 = .ok (.ireturn, 1) := by decide +kernel
theorem dX3_wants_133 : decode cX3_wants 133 = .ok (.iconst 0, 1) := by decide +kernel
theorem dX3_wants_134 : decode cX3_wants 134 = .ok (.ireturn, 1) := by decide +kernel
theorem dX3_isAlone_0 : decode cX3_isAlone 0 = .ok (.iconst 0, 1) := by decide +kernel
theorem dX3_isAlone_1 : decode cX3_isAlone 1 = .ok (.istore_n 2, 1) := by decide +kernel
theorem dX3_isAlone_2 : decode cX3_isAlone 2 = .ok (.iload_n 2, 1) := by decide +kernel
theorem dX3_isAlone_3 : decode cX3_isAlone 3 = .ok (.aload_n 0, 1) := by decide +kernel
theorem dX3_isAlone_4 : decode cX3_isAlone 4 = .ok (.getfield 37, 3) := by decide +kernel
theorem dX3_isAlone_7 : decode cX3_isAlone 7 = .ok (.if_icmp .ge 87, 3) := by decide +kernel
theorem dX3_isAlone_10 : decode cX3_isAlone 10 = .ok (.aload_n 0, 1) := by decide +kernel
theorem dX3_isAlone_11 : decode cX3_isAlone 11 = .ok (.getfield 15, 3) := by decide +kernel
theorem dX3_isAlone_14 : decode cX3_isAlone 14 = .ok (.iload_n 2, 1) := by decide +kernel
theorem dX3_isAlone_15 : decode cX3_isAlone 15 = .ok (.iaload, 1) := by decide +kernel
theorem dX3_isAlone_16 : decode cX3_isAlone 16 = .ok (.aload_n 0, 1) := by decide +kernel
theorem dX3_isAlone_17 : decode cX3_isAlone 17 = .ok (.getfield 15, 3) := by decide +kernel
theorem dX3_isAlone_20 : decode cX3_isAlone 20 = .ok (.iload_n 1, 1) := by decide +kernel
theorem dX3_isAlone_21 : decode cX3_isAlone 21 = .ok (.iaload, 1) := by decide +kernel
theorem dX3_isAlone_22 : decode cX3_isAlone 22 = .ok (.if_icmp .le 19, 3) := by decide +kernel
theorem dX3_isAlone_25 : decode cX3_isAlone 25 = .ok (.aload_n 0, 1) := by decide +kernel
theorem dX3_isAlone_26 : decode cX3_isAlone 26 = .ok (.getfield 15, 3) := by decide +kernel
theorem dX3_isAlone_29 : decode cX3_isAlone 29 = .ok (.iload_n 2, 1) := by decide +kernel
theorem dX3_isAlone_30 : decode cX3_isAlone 30 = .ok (.iaload, 1) := by decide +kernel
theorem dX3_isAlone_31 : decode cX3_isAlone 31 = .ok (.aload_n 0, 1) := by decide +kernel
theorem dX3_isAlone_32 : decode cX3_isAlone 32 = .ok (.getfield 15, 3) := by decide +kernel
theorem dX3_isAlone_35 : decode cX3_isAlone 35 = .ok (.iload_n 1, 1) := by decide +kernel
theorem dX3_isAlone_36 : decode cX3_isAlone 36 = .ok (.iaload, 1) := by decide +kernel
theorem dX3_isAlone_37 : decode cX3_isAlone 37 = .ok (.isub, 1) := by decide +kernel
theorem dX3_isAlone_38 : decode cX3_isAlone 38 = .ok (.goto 16, 3) := by decide +kernel
theorem dX3_isAlone_41 : decode cX3_isAlone 41 = .ok (.aload_n 0, 1) := by decide +kernel
theorem dX3_isAlone_42 : decode cX3_isAlone 42 = .ok (.getfield 15, 3) := by decide +kernel
theorem dX3_isAlone_45 : decode cX3_isAlone 45 = .ok (.iload_n 1, 1) := by decide +kernel
theorem dX3_isAlone_46 : decode cX3_isAlone 46 = .ok (.iaload, 1) := by decide +kernel
theorem dX3_isAlone_47 : decode cX3_isAlone 47 = .ok (.aload_n 0, 1) := by decide +kernel
theorem dX3_isAlone_48 : decode cX3_isAlone 48 = .ok (.getfield 15, 3) := by decide +kernel
theorem dX3_isAlone_51 : decode cX3_isAlone 51 = .ok (.iload_n 2, 1) := by decide +kernel
theorem dX3_isAlone_52 : decode cX3_isAlone 52 = .ok (.iaload, 1) := by decide +kernel
theorem dX3_isAlone_53 : decode cX3_isAlone 53 = .ok (.isub, 1) := by decide +kernel
theorem dX3_isAlone_54 : decode cX3_isAlone 54 = .ok (.istore_n 3, 1) := by decide +kernel
theorem dX3_isAlone_55 : decode cX3_isAlone 55 = .ok (.iload_n 2, 1) := by decide +kernel
theorem dX3_isAlone_56 : decode cX3_isAlone 56 = .ok (.iload_n 1, 1) := by decide +kernel
theorem dX3_isAlone_57 : decode cX3_isAlone 57 = .ok (.if_icmp .eq 31, 3) := by decide +kernel
theorem dX3_isAlone_60 : decode cX3_isAlone 60 = .ok (.aload_n 0, 1) := by decide +kernel
theorem dX3_isAlone_61 : decode cX3_isAlone 61 = .ok (.getfield 21, 3) := by decide +kernel
theorem dX3_isAlone_64 : decode cX3_isAlone 64 = .ok (.iload_n 2, 1) := by decide +kernel
theorem dX3_isAlone_65 : decode cX3_isAlone 65 = .ok (.iaload, 1) := by decide +kernel
theorem dX3_isAlone_66 : decode cX3_isAlone 66 = .ok (.ldc 52, 2) := by decide +kernel
theorem dX3_isAlone_68 : decode cX3_isAlone 68 = .ok (.if_icmp .ne 20, 3) := by decide +kernel
theorem dX3_isAlone_71 : decode cX3_isAlone 71 = .ok (.iload_n 3, 1) := by decide +kernel
theorem dX3_isAlone_72 : decode cX3_isAlone 72 = .ok (.iconst 1, 1) := by decide +kernel
theorem dX3_isAlone_73 : decode cX3_isAlone 73 = .ok (.if_icmp .le 13, 3) := by decide +kernel
theorem dX3_isAlone_76 : decode cX3_isAlone 76 = .ok (.iload_n 3, 1) := by decide +kernel
theorem dX3_isAlone_77 : decode cX3_isAlone 77 = .ok (.aload_n 0, 1) := by decide +kernel
theorem dX3_isAlone_78 : decode cX3_isAlone 78 = .ok (.getfield 33, 3) := by decide +kernel
theorem dX3_isAlone_81 : decode cX3_isAlone 81 = .ok (.iconst 1, 1) := by decide +kernel
theorem dX3_isAlone_82 : decode cX3_isAlone 82 = .ok (.isub, 1) := by decide +kernel
theorem dX3_isAlone_83 : decode cX3_isAlone 83 = .ok (.if_icmp .ne 5, 3) := by decide +kernel
theorem dX3_isAlone_86 : decode cX3_isAlone 86 = .ok (.iconst 0, 1) := by decide +kernel
theorem dX3_isAlone_87 : decode cX3_isAlone 87 = .ok (.ireturn, 1) := by decide +kernel
theorem dX3_isAlone_88 : decode cX3_isAlone 88 = .ok (.iinc 2 1, 3) := by decide +kernel
theorem dX3_isAlone_91 : decode cX3_isAlone 91 = .ok (.goto (-89), 3) := by decide +kernel
theorem dX3_isAlone_94 : decode cX3_isAlone 94 = .ok (.iconst 1, 1) := by decide +kernel
theorem dX3_isAlone_95 : decode cX3_isAlone 95 = .ok (.ireturn, 1) := by decide +kernel
theorem dX3_take_0 : decode cX3_take 0 = .ok (.aload_n 0, 1) := by decide +kernel
theorem dX3_take_1 : decode cX3_take 1 = .ok (.iload_n 2, 1) := by decide +kernel
theorem dX3_take_2 : decode cX3_take 2 = .ok (.invokevirtual 68, 3) := by decide +kernel
theorem dX3_take_5 : decode cX3_take 5 = .ok (.ifCond .eq 33, 3) := by decide +kernel
theorem dX3_take_8 : decode cX3_take 8 = .ok (.aload_n 0, 1) := by decide +kernel
theorem dX3_take_9 : decode cX3_take 9 = .ok (.getfield 30, 3) := by decide +kernel
theorem dX3_take_12 : decode cX3_take 12 = .ok (.aload_n 0, 1) := by decide +kernel
theorem dX3_take_13 : decode cX3_take 13 = .ok (.getfield 27, 3) := by decide +kernel
theorem dX3_take_16 : decode cX3_take 16 = .ok (.iload_n 2, 1) := by decide +kernel
theorem dX3_take_17 : decode cX3_take 17 = .ok (.iaload, 1) := by decide +kernel
theorem dX3_take_18 : decode cX3_take 18 = .ok (.ldc 52, 2) := by decide +kernel
theorem dX3_take_20 : decode cX3_take 20 = .ok (.iastore, 1) := by decide +kernel
theorem dX3_take_21 : decode cX3_take 21 = .ok (.aload_n 0, 1) := by decide +kernel
theorem dX3_take_22 : decode cX3_take 22 = .ok (.getfield 27, 3) := by decide +kernel
theorem dX3_take_25 : decode cX3_take 25 = .ok (.iload_n 2, 1) := by decide +kernel
theorem dX3_take_26 : decode cX3_take 26 = .ok (.bipush 30, 2) := by decide +kernel
theorem dX3_take_28 : decode cX3_take 28 = .ok (.iload_n 1, 1) := by decide +kernel
theorem dX3_take_29 : decode cX3_take 29 = .ok (.iadd, 1) := by decide +kernel
theorem dX3_take_30 : decode cX3_take 30 = .ok (.iastore, 1) := by decide +kernel
theorem dX3_take_31 : decode cX3_take 31 = .ok (.aload_n 0, 1) := by decide +kernel
theorem dX3_take_32 : decode cX3_take 32 = .ok (.getfield 21, 3) := by decide +kernel
theorem dX3_take_35 : decode cX3_take 35 = .ok (.iload_n 1, 1) := by decide +kernel
theorem dX3_take_36 : decode cX3_take 36 = .ok (.iload_n 2, 1) := by decide +kernel
theorem dX3_take_37 : decode cX3_take 37 = .ok (.iastore, 1) := by decide +kernel
theorem dX3_take_38 : decode cX3_take 38 = .ok (.return_, 1) := by decide +kernel
theorem dX3_comeBack_0 : decode cX3_comeBack 0 = .ok (.aload_n 0, 1) := by decide +kernel
theorem dX3_comeBack_1 : decode cX3_comeBack 1 = .ok (.getfield 21, 3) := by decide +kernel
theorem dX3_comeBack_4 : decode cX3_comeBack 4 = .ok (.iload_n 1, 1) := by decide +kernel
theorem dX3_comeBack_5 : decode cX3_comeBack 5 = .ok (.iaload, 1) := by decide +kernel
theorem dX3_comeBack_6 : decode cX3_comeBack 6 = .ok (.istore_n 2, 1) := by decide +kernel
theorem dX3_comeBack_7 : decode cX3_comeBack 7 = .ok (.aload_n 0, 1) := by decide +kernel
theorem dX3_comeBack_8 : decode cX3_comeBack 8 = .ok (.iload_n 2, 1) := by decide +kernel
theorem dX3_comeBack_9 : decode cX3_comeBack 9 = .ok (.invokevirtual 138, 3) := by decide +kernel
theorem dX3_comeBack_12 : decode cX3_comeBack 12 = .ok (.ifCond .eq 36, 3) := by decide +kernel
theorem dX3_comeBack_15 : decode cX3_comeBack 15 = .ok (.aload_n 0, 1) := by decide +kernel
theorem dX3_comeBack_16 : decode cX3_comeBack 16 = .ok (.getfield 27, 3) := by decide +kernel
theorem dX3_comeBack_19 : decode cX3_comeBack 19 = .ok (.iload_n 2, 1) := by decide +kernel
theorem dX3_comeBack_20 : decode cX3_comeBack 20 = .ok (.bipush 20, 2) := by decide +kernel
theorem dX3_comeBack_22 : decode cX3_comeBack 22 = .ok (.iastore, 1) := by decide +kernel
theorem dX3_comeBack_23 : decode cX3_comeBack 23 = .ok (.aload_n 0, 1) := by decide +kernel
theorem dX3_comeBack_24 : decode cX3_comeBack 24 = .ok (.dup, 1) := by decide +kernel
theorem dX3_comeBack_25 : decode cX3_comeBack 25 = .ok (.getfield 49, 3) := by decide +kernel
theorem dX3_comeBack_28 : decode cX3_comeBack 28 = .ok (.iconst 1, 1) := by decide +kernel
theorem dX3_comeBack_29 : decode cX3_comeBack 29 = .ok (.iadd, 1) := by decide +kernel
theorem dX3_comeBack_30 : decode cX3_comeBack 30 = .ok (.putfield 49, 3) := by decide +kernel
theorem dX3_comeBack_33 : decode cX3_comeBack 33 = .ok (.aload_n 0, 1) := by decide +kernel
theorem dX3_comeBack_34 : decode cX3_comeBack 34 = .ok (.getfield 21, 3) := by decide +kernel
theorem dX3_comeBack_37 : decode cX3_comeBack 37 = .ok (.iload_n 1, 1) := by decide +kernel
theorem dX3_comeBack_38 : decode cX3_comeBack 38 = .ok (.ldc 52, 2) := by decide +kernel
theorem dX3_comeBack_40 : decode cX3_comeBack 40 = .ok (.iastore, 1) := by decide +kernel
theorem dX3_comeBack_41 : decode cX3_comeBack 41 = .ok (.aload_n 0, 1) := by decide +kernel
theorem dX3_comeBack_42 : decode cX3_comeBack 42 = .ok (.getfield 18, 3) := by decide +kernel
theorem dX3_comeBack_45 : decode cX3_comeBack 45 = .ok (.iload_n 1, 1) := by decide +kernel
theorem dX3_comeBack_46 : decode cX3_comeBack 46 = .ok (.iconst 0, 1) := by decide +kernel
theorem dX3_comeBack_47 : decode cX3_comeBack 47 = .ok (.iastore, 1) := by decide +kernel
theorem dX3_comeBack_48 : decode cX3_comeBack 48 = .ok (.return_, 1) := by decide +kernel
theorem dX0_init_0 : decode cX0_init 0 = .ok (.aload_n 0, 1) := by decide +kernel
theorem dX0_init_1 : decode cX0_init 1 = .ok (.invokespecial 1, 3) := by decide +kernel
theorem dX0_init_4 : decode cX0_init 4 = .ok (.aload_n 0, 1) := by decide +kernel
theorem dX0_init_5 : decode cX0_init 5 = .ok (.sipush 960, 3) := by decide +kernel
theorem dX0_init_8 : decode cX0_init 8 = .ok (.newarray .int, 2) := by decide +kernel
theorem dX0_init_10 : decode cX0_init 10 = .ok (.putfield 11, 3) := by decide +kernel
theorem dX0_init_13 : decode cX0_init 13 = .ok (.return_, 1) := by decide +kernel
theorem dX0_kept_0 : decode cX0_kept 0 = .ok (.aload_n 0, 1) := by decide +kernel
theorem dX0_kept_1 : decode cX0_kept 1 = .ok (.getfield 15, 3) := by decide +kernel
theorem dX0_kept_4 : decode cX0_kept 4 = .ok (.ireturn, 1) := by decide +kernel
theorem dX0_clear_0 : decode cX0_clear 0 = .ok (.aload_n 0, 1) := by decide +kernel
theorem dX0_clear_1 : decode cX0_clear 1 = .ok (.iconst 0, 1) := by decide +kernel
theorem dX0_clear_2 : decode cX0_clear 2 = .ok (.putfield 15, 3) := by decide +kernel
theorem dX0_clear_5 : decode cX0_clear 5 = .ok (.return_, 1) := by decide +kernel
theorem dX0_keep_0 : decode cX0_keep 0 = .ok (.aload_n 1, 1) := by decide +kernel
theorem dX0_keep_1 : decode cX0_keep 1 = .ok (.aload_n 0, 1) := by decide +kernel
theorem dX0_keep_2 : decode cX0_keep 2 = .ok (.getfield 11, 3) := by decide +kernel
theorem dX0_keep_5 : decode cX0_keep 5 = .ok (.aload_n 0, 1) := by decide +kernel
theorem dX0_keep_6 : decode cX0_keep 6 = .ok (.getfield 19, 3) := by decide +kernel
theorem dX0_keep_9 : decode cX0_keep 9 = .ok (.bipush 40, 2) := by decide +kernel
theorem dX0_keep_11 : decode cX0_keep 11 = .ok (.imul, 1) := by decide +kernel
theorem dX0_keep_12 : decode cX0_keep 12 = .ok (.invokevirtual 22, 3) := by decide +kernel
theorem dX0_keep_15 : decode cX0_keep 15 = .ok (.aload_n 0, 1) := by decide +kernel
theorem dX0_keep_16 : decode cX0_keep 16 = .ok (.aload_n 0, 1) := by decide +kernel
theorem dX0_keep_17 : decode cX0_keep 17 = .ok (.getfield 19, 3) := by decide +kernel
theorem dX0_keep_20 : decode cX0_keep 20 = .ok (.iconst 1, 1) := by decide +kernel
theorem dX0_keep_21 : decode cX0_keep 21 = .ok (.iadd, 1) := by decide +kernel
theorem dX0_keep_22 : decode cX0_keep 22 = .ok (.bipush 24, 2) := by decide +kernel
theorem dX0_keep_24 : decode cX0_keep 24 = .ok (.if_icmp .ge 12, 3) := by decide +kernel
theorem dX0_keep_27 : decode cX0_keep 27 = .ok (.aload_n 0, 1) := by decide +kernel
theorem dX0_keep_28 : decode cX0_keep 28 = .ok (.getfield 19, 3) := by decide +kernel
theorem dX0_keep_31 : decode cX0_keep 31 = .ok (.iconst 1, 1) := by decide +kernel
theorem dX0_keep_32 : decode cX0_keep 32 = .ok (.iadd, 1) := by decide +kernel
theorem dX0_keep_33 : decode cX0_keep 33 = .ok (.goto 4, 3) := by decide +kernel
theorem dX0_keep_36 : decode cX0_keep 36 = .ok (.iconst 0, 1) := by decide +kernel
theorem dX0_keep_37 : decode cX0_keep 37 = .ok (.putfield 19, 3) := by decide +kernel
theorem dX0_keep_40 : decode cX0_keep 40 = .ok (.aload_n 0, 1) := by decide +kernel
theorem dX0_keep_41 : decode cX0_keep 41 = .ok (.aload_n 0, 1) := by decide +kernel
theorem dX0_keep_42 : decode cX0_keep 42 = .ok (.getfield 15, 3) := by decide +kernel
theorem dX0_keep_45 : decode cX0_keep 45 = .ok (.iconst 1, 1) := by decide +kernel
theorem dX0_keep_46 : decode cX0_keep 46 = .ok (.iadd, 1) := by decide +kernel
theorem dX0_keep_47 : decode cX0_keep 47 = .ok (.bipush 24, 2) := by decide +kernel
theorem dX0_keep_49 : decode cX0_keep 49 = .ok (.invokestatic 26, 3) := by decide +kernel
theorem dX0_keep_52 : decode cX0_keep 52 = .ok (.putfield 15, 3) := by decide +kernel
theorem dX0_keep_55 : decode cX0_keep 55 = .ok (.return_, 1) := by decide +kernel
theorem dX0_undoIn_0 : decode cX0_undoIn 0 = .ok (.aload_n 0, 1) := by decide +kernel
theorem dX0_undoIn_1 : decode cX0_undoIn 1 = .ok (.getfield 15, 3) := by decide +kernel
theorem dX0_undoIn_4 : decode cX0_undoIn 4 = .ok (.ifCond .ne 5, 3) := by decide +kernel
theorem dX0_undoIn_7 : decode cX0_undoIn 7 = .ok (.iconst 0, 1) := by decide +kernel
theorem dX0_undoIn_8 : decode cX0_undoIn 8 = .ok (.ireturn, 1) := by decide +kernel
theorem dX0_undoIn_9 : decode cX0_undoIn 9 = .ok (.aload_n 0, 1) := by decide +kernel
theorem dX0_undoIn_10 : decode cX0_undoIn 10 = .ok (.dup, 1) := by decide +kernel
theorem dX0_undoIn_11 : decode cX0_undoIn 11 = .ok (.getfield 15, 3) := by decide +kernel
theorem dX0_undoIn_14 : decode cX0_undoIn 14 = .ok (.iconst 1, 1) := by decide +kernel
theorem dX0_undoIn_15 : decode cX0_undoIn 15 = .ok (.isub, 1) := by decide +kernel
theorem dX0_undoIn_16 : decode cX0_undoIn 16 = .ok (.putfield 15, 3) := by decide +kernel
theorem dX0_undoIn_19 : decode cX0_undoIn 19 = .ok (.aload_n 0, 1) := by decide +kernel
theorem dX0_undoIn_20 : decode cX0_undoIn 20 = .ok (.aload_n 0, 1) := by decide +kernel
theorem dX0_undoIn_21 : decode cX0_undoIn 21 = .ok (.getfield 19, 3) := by decide +kernel
theorem dX0_undoIn_24 : decode cX0_undoIn 24 = .ok (.ifCond .le 12, 3) := by decide +kernel
theorem dX0_undoIn_27 : decode cX0_undoIn 27 = .ok (.aload_n 0, 1) := by decide +kernel
theorem dX0_undoIn_28 : decode cX0_undoIn 28 = .ok (.getfield 19, 3) := by decide +kernel
theorem dX0_undoIn_31 : decode cX0_undoIn 31 = .ok (.iconst 1, 1) := by decide +kernel
theorem dX0_undoIn_32 : decode cX0_undoIn 32 = .ok (.isub, 1) := by decide +kernel
theorem dX0_undoIn_33 : decode cX0_undoIn 33 = .ok (.goto 5, 3) := by decide +kernel
theorem dX0_undoIn_36 : decode cX0_undoIn 36 = .ok (.bipush 23, 2) := by decide +kernel
theorem dX0_undoIn_38 : decode cX0_undoIn 38 = .ok (.putfield 19, 3) := by decide +kernel
theorem dX0_undoIn_41 : decode cX0_undoIn 41 = .ok (.aload_n 1, 1) := by decide +kernel
theorem dX0_undoIn_42 : decode cX0_undoIn 42 = .ok (.aload_n 0, 1) := by decide +kernel
theorem dX0_undoIn_43 : decode cX0_undoIn 43 = .ok (.getfield 11, 3) := by decide +kernel
theorem dX0_undoIn_46 : decode cX0_undoIn 46 = .ok (.aload_n 0, 1) := by decide +kernel
theorem dX0_undoIn_47 : decode cX0_undoIn 47 = .ok (.getfield 19, 3) := by decide +kernel
theorem dX0_undoIn_50 : decode cX0_undoIn 50 = .ok (.bipush 40, 2) := by decide +kernel
theorem dX0_undoIn_52 : decode cX0_undoIn 52 = .ok (.imul, 1) := by decide +kernel
theorem dX0_undoIn_53 : decode cX0_undoIn 53 = .ok (.invokevirtual 32, 3) := by decide +kernel
theorem dX0_undoIn_56 : decode cX0_undoIn 56 = .ok (.iconst 1, 1) := by decide +kernel
theorem dX0_undoIn_57 : decode cX0_undoIn 57 = .ok (.ireturn, 1) := by decide +kernel
theorem dX1_init_0 : decode cX1_init 0 = .ok (.aload_n 0, 1) := by decide +kernel
theorem dX1_init_1 : decode cX1_init 1 = .ok (.invokespecial 3, 3) := by decide +kernel
theorem dX1_init_4 : decode cX1_init 4 = .ok (.aload_n 0, 1) := by decide +kernel
theorem dX1_init_5 : decode cX1_init 5 = .ok (.bipush 16, 2) := by decide +kernel
theorem dX1_init_7 : decode cX1_init 7 = .ok (.newarray .int, 2) := by decide +kernel
theorem dX1_init_9 : decode cX1_init 9 = .ok (.putfield 11, 3) := by decide +kernel
theorem dX1_init_12 : decode cX1_init 12 = .ok (.aload_n 0, 1) := by decide +kernel
theorem dX1_init_13 : decode cX1_init 13 = .ok (.aload_n 1, 1) := by decide +kernel
theorem dX1_init_14 : decode cX1_init 14 = .ok (.putfield 15, 3) := by decide +kernel
theorem dX1_init_17 : decode cX1_init 17 = .ok (.return_, 1) := by decide +kernel
theorem dX1_isOfKind_0 : decode cX1_isOfKind 0 = .ok (.iload_n 0, 1) := by decide +kernel
theorem dX1_isOfKind_1 : decode cX1_isOfKind 1 = .ok (.istore_n 2, 1) := by decide +kernel
theorem dX1_isOfKind_2 : decode cX1_isOfKind 2 = .ok (.iconst 0, 1) := by decide +kernel
theorem dX1_isOfKind_3 : decode cX1_isOfKind 3 = .ok (.istore_n 3, 1) := by decide +kernel
theorem dX1_isOfKind_4 : decode cX1_isOfKind 4 = .ok (.iload_n 3, 1) := by decide +kernel
theorem dX1_isOfKind_5 : decode cX1_isOfKind 5 = .ok (.iconst 5, 1) := by decide +kernel
theorem dX1_isOfKind_6 : decode cX1_isOfKind 6 = .ok (.if_icmp .gt 19, 3) := by decide +kernel
theorem dX1_isOfKind_9 : decode cX1_isOfKind 9 = .ok (.iload_n 2, 1) := by decide +kernel
theorem dX1_isOfKind_10 : decode cX1_isOfKind 10 = .ok (.iload_n 1, 1) := by decide +kernel
theorem dX1_isOfKind_11 : decode cX1_isOfKind 11 = .ok (.if_icmp .eq 14, 3) := by decide +kernel
theorem dX1_isOfKind_14 : decode cX1_isOfKind 14 = .ok (.iload_n 2, 1) := by decide +kernel
theorem dX1_isOfKind_15 : decode cX1_isOfKind 15 = .ok (.invokestatic 19, 3) := by decide +kernel
theorem dX1_isOfKind_18 : decode cX1_isOfKind 18 = .ok (.istore_n 2, 1) := by decide +kernel
theorem dX1_isOfKind_19 : decode cX1_isOfKind 19 = .ok (.iinc 3 1, 3) := by decide +kernel
theorem dX1_isOfKind_22 : decode cX1_isOfKind 22 = .ok (.goto (-18), 3) := by decide +kernel
theorem dX1_isOfKind_25 : decode cX1_isOfKind 25 = .ok (.iload_n 2, 1) := by decide +kernel
theorem dX1_isOfKind_26 : decode cX1_isOfKind 26 = .ok (.iload_n 1, 1) := by decide +kernel
theorem dX1_isOfKind_27 : decode cX1_isOfKind 27 = .ok (.if_icmp .ne 7, 3) := by decide +kernel
theorem dX1_isOfKind_30 : decode cX1_isOfKind 30 = .ok (.iconst 1, 1) := by decide +kernel
theorem dX1_isOfKind_31 : decode cX1_isOfKind 31 = .ok (.goto 4, 3) := by decide +kernel
theorem dX1_isOfKind_34 : decode cX1_isOfKind 34 = .ok (.iconst 0, 1) := by decide +kernel
theorem dX1_isOfKind_35 : decode cX1_isOfKind 35 = .ok (.ireturn, 1) := by decide +kernel
theorem dX1_kindAbove_0 : decode cX1_kindAbove 0 = .ok (.iload_n 0, 1) := by decide +kernel
theorem dX1_kindAbove_1 : decode cX1_kindAbove 1 = .ok (.ifCond .lt 19, 3) := by decide +kernel
theorem dX1_kindAbove_4 : decode cX1_kindAbove 4 = .ok (.iload_n 0, 1) := by decide +kernel
theorem dX1_kindAbove_5 : decode cX1_kindAbove 5 = .ok (.getstatic 23, 3) := by decide +kernel
theorem dX1_kindAbove_8 : decode cX1_kindAbove 8 = .ok (.arraylength, 1) := by decide +kernel
theorem dX1_kindAbove_9 : decode cX1_kindAbove 9 = .ok (.if_icmp .ge 11, 3) := by decide +kernel
theorem dX1_kindAbove_12 : decode cX1_kindAbove 12 = .ok (.getstatic 23, 3) := by decide +kernel
theorem dX1_kindAbove_15 : decode cX1_kindAbove 15 = .ok (.iload_n 0, 1) := by decide +kernel
theorem dX1_kindAbove_16 : decode cX1_kindAbove 16 = .ok (.iaload, 1) := by decide +kernel
theorem dX1_kindAbove_17 : decode cX1_kindAbove 17 = .ok (.goto 4, 3) := by decide +kernel
theorem dX1_kindAbove_20 : decode cX1_kindAbove 20 = .ok (.iconst (-1), 1) := by decide +kernel
theorem dX1_kindAbove_21 : decode cX1_kindAbove 21 = .ok (.ireturn, 1) := by decide +kernel
theorem dX1_bodyInTrace_0 : decode cX1_bodyInTrace 0 = .ok (.iload_n 1, 1) := by decide +kernel
theorem dX1_bodyInTrace_1 : decode cX1_bodyInTrace 1 = .ok (.ifCond .lt 20, 3) := by decide +kernel
theorem dX1_bodyInTrace_4 : decode cX1_bodyInTrace 4 = .ok (.iload_n 1, 1) := by decide +kernel
theorem dX1_bodyInTrace_5 : decode cX1_bodyInTrace 5 = .ok (.aload_n 0, 1) := by decide +kernel
theorem dX1_bodyInTrace_6 : decode cX1_bodyInTrace 6 = .ok (.getfield 26, 3) := by decide +kernel
theorem dX1_bodyInTrace_9 : decode cX1_bodyInTrace 9 = .ok (.if_icmp .ge 12, 3) := by decide +kernel
theorem dX1_bodyInTrace_12 : decode cX1_bodyInTrace 12 = .ok (.aload_n 0, 1) := by decide +kernel
theorem dX1_bodyInTrace_13 : decode cX1_bodyInTrace 13 = .ok (.getfield 11, 3) := by decide +kernel
theorem dX1_bodyInTrace_16 : decode cX1_bodyInTrace 16 = .ok (.iload_n 1, 1) := by decide +kernel
theorem dX1_bodyInTrace_17 : decode cX1_bodyInTrace 17 = .ok (.iaload, 1) := by decide +kernel
theorem dX1_bodyInTrace_18 : decode cX1_bodyInTrace 18 = .ok (.goto 5, 3) := by decide +kernel
theorem dX1_bodyInTrace_21 : decode cX1_bodyInTrace 21 = .ok (.ldc 30, 2) := by decide +kernel
theorem dX1_bodyInTrace_23 : decode cX1_bodyInTrace 23 = .ok (.ireturn, 1) := by decide +kernel
theorem dX1_begin_0 : decode cX1_begin 0 = .ok (.aload_n 0, 1) := by decide +kernel
theorem dX1_begin_1 : decode cX1_begin 1 = .ok (.iconst 0, 1) := by decide +kernel
theorem dX1_begin_2 : decode cX1_begin 2 = .ok (.putfield 26, 3) := by decide +kernel
theorem dX1_begin_5 : decode cX1_begin 5 = .ok (.aload_n 0, 1) := by decide +kernel
theorem dX1_begin_6 : decode cX1_begin 6 = .ok (.iload_n 1, 1) := by decide +kernel
theorem dX1_begin_7 : decode cX1_begin 7 = .ok (.iload_n 2, 1) := by decide +kernel
theorem dX1_begin_8 : decode cX1_begin 8 = .ok (.iconst 0, 1) := by decide +kernel
theorem dX1_begin_9 : decode cX1_begin 9 = .ok (.invokevirtual 31, 3) := by decide +kernel
theorem dX1_begin_12 : decode cX1_begin 12 = .ok (.ireturn, 1) := by decide +kernel
theorem dX1_asked_0 : decode cX1_asked 0 = .ok (.iload_n 2, 1) := by decide +kernel
theorem dX1_asked_1 : decode cX1_asked 1 = .ok (.ifCond .ne 9, 3) := by decide +kernel
theorem dX1_asked_4 : decode cX1_asked 4 = .ok (.getstatic 35, 3) := by decide +kernel
theorem dX1_asked_7 : decode cX1_asked 7 = .ok (.goto 6, 3) := by decide +kernel
theorem dX1_asked_10 : decode cX1_asked 10 = .ok (.getstatic 38, 3) := by decide +kernel
theorem dX1_asked_13 : decode cX1_asked 13 = .ok (.astore 4, 2) := by decide +kernel
theorem dX1_asked_15 : decode cX1_asked 15 = .ok (.aload_n 0, 1) := by decide +kernel
theorem dX1_asked_16 : decode cX1_asked 16 = .ok (.getfield 15, 3) := by decide +kernel
theorem dX1_asked_19 : decode cX1_asked 19 = .ok (.getfield 41, 3) := by decide +kernel
theorem dX1_asked_22 : decode cX1_asked 22 = .ok (.iload_n 1, 1) := by decide +kernel
theorem dX1_asked_23 : decode cX1_asked 23 = .ok (.iaload, 1) := by decide +kernel
theorem dX1_asked_24 : decode cX1_asked 24 = .ok (.istore 5, 2) := by decide +kernel
theorem dX1_asked_26 : decode cX1_asked 26 = .ok (.iconst 0, 1) := by decide +kernel
theorem dX1_asked_27 : decode cX1_asked 27 = .ok (.istore 6, 2) := by decide +kernel
theorem dX1_asked_29 : decode cX1_asked 29 = .ok (.iload 6, 2) := by decide +kernel
theorem dX1_asked_31 : decode cX1_asked 31 = .ok (.iconst 5, 1) := by decide +kernel
theorem dX1_asked_32 : decode cX1_asked 32 = .ok (.if_icmp .gt 56, 3) := by decide +kernel
theorem dX1_asked_35 : decode cX1_asked 35 = .ok (.iload 5, 2) := by decide +kernel
theorem dX1_asked_37 : decode cX1_asked 37 = .ok (.ifCond .lt 11, 3) := by decide +kernel
theorem dX1_asked_40 : decode cX1_asked 40 = .ok (.iload 5, 2) := by decide +kernel
theorem dX1_asked_42 : decode cX1_asked 42 = .ok (.aload 4, 2) := by decide +kernel
theorem dX1_asked_44 : decode cX1_asked 44 = .ok (.arraylength, 1) := by decide +kernel
theorem dX1_asked_45 : decode cX1_asked 45 = .ok (.if_icmp .lt 6, 3) := by decide +kernel
theorem dX1_asked_48 : decode cX1_asked 48 = .ok (.ldc 30, 2) := by decide +kernel
theorem dX1_asked_50 : decode cX1_asked 50 = .ok (.ireturn, 1) := by decide +kernel
theorem dX1_asked_51 : decode cX1_asked 51 = .ok (.aload 4, 2) := by decide +kernel
theorem dX1_asked_53 : decode cX1_asked 53 = .ok (.iload 5, 2) := by decide +kernel
theorem dX1_asked_55 : decode cX1_asked 55 = .ok (.iaload, 1) := by decide +kernel
theorem dX1_asked_56 : decode cX1_asked 56 = .ok (.ldc 30, 2) := by decide +kernel
theorem dX1_asked_58 : decode cX1_asked 58 = .ok (.if_icmp .eq 17, 3) := by decide +kernel
theorem dX1_asked_61 : decode cX1_asked 61 = .ok (.aload_n 0, 1) := by decide +kernel
theorem dX1_asked_62 : decode cX1_asked 62 = .ok (.iload_n 1, 1) := by decide +kernel
theorem dX1_asked_63 : decode cX1_asked 63 = .ok (.aload 4, 2) := by decide +kernel
theorem dX1_asked_65 : decode cX1_asked 65 = .ok (.iload 5, 2) := by decide +kernel
theorem dX1_asked_67 : decode cX1_asked 67 = .ok (.iaload, 1) := by decide +kernel
theorem dX1_asked_68 : decode cX1_asked 68 = .ok (.iload_n 3, 1) := by decide +kernel
theorem dX1_asked_69 : decode cX1_asked 69 = .ok (.iconst 1, 1) := by decide +kernel
theorem dX1_asked_70 : decode cX1_asked 70 = .ok (.iadd, 1) := by decide +kernel
theorem dX1_asked_71 : decode cX1_asked 71 = .ok (.invokevirtual 46, 3) := by decide +kernel
theorem dX1_asked_74 : decode cX1_asked 74 = .ok (.ireturn, 1) := by decide +kernel
theorem dX1_asked_75 : decode cX1_asked 75 = .ok (.iload 5, 2) := by decide +kernel
theorem dX1_asked_77 : decode cX1_asked 77 = .ok (.invokestatic 19, 3) := by decide +kernel
theorem dX1_asked_80 : decode cX1_asked 80 = .ok (.istore 5, 2) := by decide +kernel
theorem dX1_asked_82 : decode cX1_asked 82 = .ok (.iinc 6 1, 3) := by decide +kernel
theorem dX1_asked_85 : decode cX1_asked 85 = .ok (.goto (-56), 3) := by decide +kernel
theorem dX1_asked_88 : decode cX1_asked 88 = .ok (.ldc 30, 2) := by decide +kernel
theorem dX1_asked_90 : decode cX1_asked 90 = .ok (.ireturn, 1) := by decide +kernel
theorem dX1_given_0 : decode cX1_given 0 = .ok (.iload_n 3, 1) := by decide +kernel
theorem dX1_given_1 : decode cX1_given 1 = .ok (.bipush 20, 2) := by decide +kernel
theorem dX1_given_3 : decode cX1_given 3 = .ok (.if_icmp .le 6, 3) := by decide +kernel
theorem dX1_given_6 : decode cX1_given 6 = .ok (.ldc 30, 2) := by decide +kernel
theorem dX1_given_8 : decode cX1_given 8 = .ok (.ireturn, 1) := by decide +kernel
theorem dX1_given_9 : decode cX1_given 9 = .ok (.aload_n 0, 1) := by decide +kernel
theorem dX1_given_10 : decode cX1_given 10 = .ok (.iload_n 2, 1) := by decide +kernel
theorem dX1_given_11 : decode cX1_given 11 = .ok (.invokevirtual 49, 3) := by decide +kernel
theorem dX1_given_14 : decode cX1_given 14 = .ok (.iload_n 3, 1) := by decide +kernel
theorem dX1_given_15 : decode cX1_given 15 = .ok (.iconst 1, 1) := by decide +kernel
theorem dX1_given_16 : decode cX1_given 16 = .ok (.iadd, 1) := by decide +kernel
theorem dX1_given_17 : decode cX1_given 17 = .ok (.istore 4, 2) := by decide +kernel
theorem dX1_given_19 : decode cX1_given 19 = .ok (.iload_n 2, 1) := by decide +kernel
theorem dX1_given_20 : decode cX1_given 20 = .ok (.tableswitch 208 10 24 #[76, 86, 105, 116, 129, 208, 208, 208, 208, 208, 141, 143, 163, 177, 196], 76) := by decide +kernel
theorem dX1_given_96 : decode cX1_given 96 = .ok (.aload_n 0, 1) := by decide +kernel
theorem dX1_given_97 : decode cX1_given 97 = .ok (.getfield 15, 3) := by decide +kernel
theorem dX1_given_100 : decode cX1_given 100 = .ok (.getfield 53, 3) := by decide +kernel
theorem dX1_given_103 : decode cX1_given 103 = .ok (.iload_n 1, 1) := by decide +kernel
theorem dX1_given_104 : decode cX1_given 104 = .ok (.iaload, 1) := by decide +kernel
theorem dX1_given_105 : decode cX1_given 105 = .ok (.ireturn, 1) := by decide +kernel
theorem dX1_given_106 : decode cX1_given 106 = .ok (.aload_n 0, 1) := by decide +kernel
theorem dX1_given_107 : decode cX1_given 107 = .ok (.iload_n 1, 1) := by decide +kernel
theorem dX1_given_108 : decode cX1_given 108 = .ok (.bipush 10, 2) := by decide +kernel
theorem dX1_given_110 : decode cX1_given 110 = .ok (.iload 4, 2) := by decide +kernel
theorem dX1_given_112 : decode cX1_given 112 = .ok (.invokevirtual 46, 3) := by decide +kernel
theorem dX1_given_115 : decode cX1_given 115 = .ok (.aload_n 0, 1) := by decide +kernel
theorem dX1_given_116 : decode cX1_given 116 = .ok (.iload_n 1, 1) := by decide +kernel
theorem dX1_given_117 : decode cX1_given 117 = .ok (.iconst 1, 1) := by decide +kernel
theorem dX1_given_118 : decode cX1_given 118 = .ok (.iload 4, 2) := by decide +kernel
theorem dX1_given_120 : decode cX1_given 120 = .ok (.invokevirtual 31, 3) := by decide +kernel
theorem dX1_given_123 : decode cX1_given 123 = .ok (.iadd, 1) := by decide +kernel
theorem dX1_given_124 : decode cX1_given 124 = .ok (.ireturn, 1) := by decide +kernel
theorem dX1_given_125 : decode cX1_given 125 = .ok (.aload_n 0, 1) := by decide +kernel
theorem dX1_given_126 : decode cX1_given 126 = .ok (.iload_n 1, 1) := by decide +kernel
theorem dX1_given_127 : decode cX1_given 127 = .ok (.bipush 11, 2) := by decide +kernel
theorem dX1_given_129 : decode cX1_given 129 = .ok (.iload 4, 2) := by decide +kernel
theorem dX1_given_131 : decode cX1_given 131 = .ok (.invokevirtual 46, 3) := by decide +kernel
theorem dX1_given_134 : decode cX1_given 134 = .ok (.ineg, 1) := by decide +kernel
theorem dX1_given_135 : decode cX1_given 135 = .ok (.ireturn, 1) := by decide +kernel
theorem dX1_given_136 : decode cX1_given 136 = .ok (.aload_n 0, 1) := by decide +kernel
theorem dX1_given_137 : decode cX1_given 137 = .ok (.iload_n 1, 1) := by decide +kernel
theorem dX1_given_138 : decode cX1_given 138 = .ok (.bipush 10, 2) := by decide +kernel
theorem dX1_given_140 : decode cX1_given 140 = .ok (.iload 4, 2) := by decide +kernel
theorem dX1_given_142 : decode cX1_given 142 = .ok (.invokevirtual 46, 3) := by decide +kernel
theorem dX1_given_145 : decode cX1_given 145 = .ok (.bipush 100, 2) := by decide +kernel
theorem dX1_given_147 : decode cX1_given 147 = .ok (.isub, 1) := by decide +kernel
theorem dX1_given_148 : decode cX1_given 148 = .ok (.ireturn, 1) := by decide +kernel
theorem dX1_given_149 : decode cX1_given 149 = .ok (.iconst 2, 1) := by decide +kernel
theorem dX1_given_150 : decode cX1_given 150 = .ok (.aload_n 0, 1) := by decide +kernel
theorem dX1_given_151 : decode cX1_given 151 = .ok (.iload_n 1, 1) := by decide +kernel
theorem dX1_given_152 : decode cX1_given 152 = .ok (.bipush 13, 2) := by decide +kernel
theorem dX1_given_154 : decode cX1_given 154 = .ok (.iload 4, 2) := by decide +kernel
theorem dX1_given_156 : decode cX1_given 156 = .ok (.invokevirtual 46, 3) := by decide +kernel
theorem dX1_given_159 : decode cX1_given 159 = .ok (.imul, 1) := by decide +kernel
theorem dX1_given_160 : decode cX1_given 160 = .ok (.ireturn, 1) := by decide +kernel
theorem dX1_given_161 : decode cX1_given 161 = .ok (.iload_n 1, 1) := by decide +kernel
theorem dX1_given_162 : decode cX1_given 162 = .ok (.ireturn, 1) := by decide +kernel
theorem dX1_given_163 : decode cX1_given 163 = .ok (.aload_n 0, 1) := by decide +kernel
theorem dX1_given_164 : decode cX1_given 164 = .ok (.iload_n 1, 1) := by decide +kernel
theorem dX1_given_165 : decode cX1_given 165 = .ok (.bipush 20, 2) := by decide +kernel
theorem dX1_given_167 : decode cX1_given 167 = .ok (.iload 4, 2) := by decide +kernel
theorem dX1_given_169 : decode cX1_given 169 = .ok (.invokevirtual 46, 3) := by decide +kernel
theorem dX1_given_172 : decode cX1_given 172 = .ok (.aload_n 0, 1) := by decide +kernel
theorem dX1_given_173 : decode cX1_given 173 = .ok (.getfield 15, 3) := by decide +kernel
theorem dX1_given_176 : decode cX1_given 176 = .ok (.getfield 56, 3) := by decide +kernel
theorem dX1_given_179 : decode cX1_given 179 = .ok (.iload_n 1, 1) := by decide +kernel
theorem dX1_given_180 : decode cX1_given 180 = .ok (.iaload, 1) := by decide +kernel
theorem dX1_given_181 : decode cX1_given 181 = .ok (.iadd, 1) := by decide +kernel
theorem dX1_given_182 : decode cX1_given 182 = .ok (.ireturn, 1) := by decide +kernel
theorem dX1_given_183 : decode cX1_given 183 = .ok (.aload_n 0, 1) := by decide +kernel
theorem dX1_given_184 : decode cX1_given 184 = .ok (.iload_n 1, 1) := by decide +kernel
theorem dX1_given_185 : decode cX1_given 185 = .ok (.bipush 21, 2) := by decide +kernel
theorem dX1_given_187 : decode cX1_given 187 = .ok (.iload 4, 2) := by decide +kernel
theorem dX1_given_189 : decode cX1_given 189 = .ok (.invokevirtual 46, 3) := by decide +kernel
theorem dX1_given_192 : decode cX1_given 192 = .ok (.sipush 1000, 3) := by decide +kernel
theorem dX1_given_195 : decode cX1_given 195 = .ok (.isub, 1) := by decide +kernel
theorem dX1_given_196 : decode cX1_given 196 = .ok (.ireturn, 1) := by decide +kernel
theorem dX1_given_197 : decode cX1_given 197 = .ok (.aload_n 0, 1) := by decide +kernel
theorem dX1_given_198 : decode cX1_given 198 = .ok (.iload_n 1, 1) := by decide +kernel
theorem dX1_given_199 : decode cX1_given 199 = .ok (.bipush 20, 2) := by decide +kernel
theorem dX1_given_201 : decode cX1_given 201 = .ok (.iload 4, 2) := by decide +kernel
theorem dX1_given_203 : decode cX1_given 203 = .ok (.invokevirtual 46, 3) := by decide +kernel
theorem dX1_given_206 : decode cX1_given 206 = .ok (.aload_n 0, 1) := by decide +kernel
theorem dX1_given_207 : decode cX1_given 207 = .ok (.iload_n 1, 1) := by decide +kernel
theorem dX1_given_208 : decode cX1_given 208 = .ok (.iconst 0, 1) := by decide +kernel
theorem dX1_given_209 : decode cX1_given 209 = .ok (.iload 4, 2) := by decide +kernel
theorem dX1_given_211 : decode cX1_given 211 = .ok (.invokevirtual 31, 3) := by decide +kernel
theorem dX1_given_214 : decode cX1_given 214 = .ok (.isub, 1) := by decide +kernel
theorem dX1_given_215 : decode cX1_given 215 = .ok (.ireturn, 1) := by decide +kernel
theorem dX1_given_216 : decode cX1_given 216 = .ok (.iconst 2, 1) := by decide +kernel
theorem dX1_given_217 : decode cX1_given 217 = .ok (.aload_n 0, 1) := by decide +kernel
theorem dX1_given_218 : decode cX1_given 218 = .ok (.iload_n 1, 1) := by decide +kernel
theorem dX1_given_219 : decode cX1_given 219 = .ok (.bipush 21, 2) := by decide +kernel
theorem dX1_given_221 : decode cX1_given 221 = .ok (.iload 4, 2) := by decide +kernel
theorem dX1_given_223 : decode cX1_given 223 = .ok (.invokevirtual 46, 3) := by decide +kernel
theorem dX1_given_226 : decode cX1_given 226 = .ok (.imul, 1) := by decide +kernel
theorem dX1_given_227 : decode cX1_given 227 = .ok (.ireturn, 1) := by decide +kernel
theorem dX1_given_228 : decode cX1_given 228 = .ok (.ldc 30, 2) := by decide +kernel
theorem dX1_given_230 : decode cX1_given 230 = .ok (.ireturn, 1) := by decide +kernel
theorem dX1_leave_0 : decode cX1_leave 0 = .ok (.aload_n 0, 1) := by decide +kernel
theorem dX1_leave_1 : decode cX1_leave 1 = .ok (.getfield 26, 3) := by decide +kernel
theorem dX1_leave_4 : decode cX1_leave 4 = .ok (.bipush 16, 2) := by decide +kernel
theorem dX1_leave_6 : decode cX1_leave 6 = .ok (.if_icmp .ge 23, 3) := by decide +kernel
theorem dX1_leave_9 : decode cX1_leave 9 = .ok (.aload_n 0, 1) := by decide +kernel
theorem dX1_leave_10 : decode cX1_leave 10 = .ok (.getfield 11, 3) := by decide +kernel
theorem dX1_leave_13 : decode cX1_leave 13 = .ok (.aload_n 0, 1) := by decide +kernel
theorem dX1_leave_14 : decode cX1_leave 14 = .ok (.getfield 26, 3) := by decide +kernel
theorem dX1_leave_17 : decode cX1_leave 17 = .ok (.iload_n 1, 1) := by decide +kernel
theorem dX1_leave_18 : decode cX1_leave 18 = .ok (.iastore, 1) := by decide +kernel
theorem dX1_leave_19 : decode cX1_leave 19 = .ok (.aload_n 0, 1) := by decide +kernel
theorem dX1_leave_20 : decode cX1_leave 20 = .ok (.dup, 1) := by decide +kernel
theorem dX1_leave_21 : decode cX1_leave 21 = .ok (.getfield 26, 3) := by decide +kernel
theorem dX1_leave_24 : decode cX1_leave 24 = .ok (.iconst 1, 1) := by decide +kernel
theorem dX1_leave_25 : decode cX1_leave 25 = .ok (.iadd, 1) := by decide +kernel
theorem dX1_leave_26 : decode cX1_leave 26 = .ok (.putfield 26, 3) := by decide +kernel
theorem dX1_leave_29 : decode cX1_leave 29 = .ok (.return_, 1) := by decide +kernel
theorem dX5_init_0 : decode cX5_init 0 = .ok (.aload_n 0, 1) := by decide +kernel
theorem dX5_init_1 : decode cX5_init 1 = .ok (.invokespecial 1, 3) := by decide +kernel
theorem dX5_init_4 : decode cX5_init 4 = .ok (.aload_n 0, 1) := by decide +kernel
theorem dX5_init_5 : decode cX5_init 5 = .ok (.bipush 8, 2) := by decide +kernel
theorem dX5_init_7 : decode cX5_init 7 = .ok (.newarray .int, 2) := by decide +kernel
theorem dX5_init_9 : decode cX5_init 9 = .ok (.putfield 9, 3) := by decide +kernel
theorem dX5_init_12 : decode cX5_init 12 = .ok (.aload_n 0, 1) := by decide +kernel
theorem dX5_init_13 : decode cX5_init 13 = .ok (.bipush 8, 2) := by decide +kernel
theorem dX5_init_15 : decode cX5_init 15 = .ok (.newarray .int, 2) := by decide +kernel
theorem dX5_init_17 : decode cX5_init 17 = .ok (.putfield 13, 3) := by decide +kernel
theorem dX5_init_20 : decode cX5_init 20 = .ok (.aload_n 0, 1) := by decide +kernel
theorem dX5_init_21 : decode cX5_init 21 = .ok (.bipush 8, 2) := by decide +kernel
theorem dX5_init_23 : decode cX5_init 23 = .ok (.bipush 40, 2) := by decide +kernel
theorem dX5_init_25 : decode cX5_init 25 = .ok (.multianewarray 16 2, 4) := by decide +kernel
theorem dX5_init_29 : decode cX5_init 29 = .ok (.putfield 18, 3) := by decide +kernel
theorem dX5_init_32 : decode cX5_init 32 = .ok (.aload_n 0, 1) := by decide +kernel
theorem dX5_init_33 : decode cX5_init 33 = .ok (.getfield 9, 3) := by decide +kernel
theorem dX5_init_36 : decode cX5_init 36 = .ok (.iconst (-1), 1) := by decide +kernel
theorem dX5_init_37 : decode cX5_init 37 = .ok (.invokestatic 21, 3) := by decide +kernel
theorem dX5_init_40 : decode cX5_init 40 = .ok (.return_, 1) := by decide +kernel
theorem dX5_isNumber_0 : decode cX5_isNumber 0 = .ok (.iload_n 1, 1) := by decide +kernel
theorem dX5_isNumber_1 : decode cX5_isNumber 1 = .ok (.ifCond .lt 13, 3) := by decide +kernel
theorem dX5_isNumber_4 : decode cX5_isNumber 4 = .ok (.iload_n 1, 1) := by decide +kernel
theorem dX5_isNumber_5 : decode cX5_isNumber 5 = .ok (.bipush 8, 2) := by decide +kernel
theorem dX5_isNumber_7 : decode cX5_isNumber 7 = .ok (.if_icmp .ge 7, 3) := by decide +kernel
theorem dX5_isNumber_10 : decode cX5_isNumber 10 = .ok (.iconst 1, 1) := by decide +kernel
theorem dX5_isNumber_11 : decode cX5_isNumber 11 = .ok (.goto 4, 3) := by decide +kernel
theorem dX5_isNumber_14 : decode cX5_isNumber 14 = .ok (.iconst 0, 1) := by decide +kernel
theorem dX5_isNumber_15 : decode cX5_isNumber 15 = .ok (.ireturn, 1) := by decide +kernel
theorem dX5_isMissing_0 : decode cX5_isMissing 0 = .ok (.aload_n 0, 1) := by decide +kernel
theorem dX5_isMissing_1 : decode cX5_isMissing 1 = .ok (.iload_n 1, 1) := by decide +kernel
theorem dX5_isMissing_2 : decode cX5_isMissing 2 = .ok (.invokevirtual 27, 3) := by decide +kernel
theorem dX5_isMissing_5 : decode cX5_isMissing 5 = .ok (.ifCond .eq 13, 3) := by decide +kernel
theorem dX5_isMissing_8 : decode cX5_isMissing 8 = .ok (.aload_n 0, 1) := by decide +kernel
theorem dX5_isMissing_9 : decode cX5_isMissing 9 = .ok (.getfield 9, 3) := by decide +kernel
theorem dX5_isMissing_12 : decode cX5_isMissing 12 = .ok (.iload_n 1, 1) := by decide +kernel
theorem dX5_isMissing_13 : decode cX5_isMissing 13 = .ok (.iaload, 1) := by decide +kernel
theorem dX5_isMissing_14 : decode cX5_isMissing 14 = .ok (.iconst (-1), 1) := by decide +kernel
theorem dX5_isMissing_15 : decode cX5_isMissing 15 = .ok (.if_icmp .ne 7, 3) := by decide +kernel
theorem dX5_isMissing_18 : decode cX5_isMissing 18 = .ok (.iconst 1, 1) := by decide +kernel
theorem dX5_isMissing_19 : decode cX5_isMissing 19 = .ok (.goto 4, 3) := by decide +kernel
theorem dX5_isMissing_22 : decode cX5_isMissing 22 = .ok (.iconst 0, 1) := by decide +kernel
theorem dX5_isMissing_23 : decode cX5_isMissing 23 = .ok (.ireturn, 1) := by decide +kernel
theorem dX5_laneOf_0 : decode cX5_laneOf 0 = .ok (.aload_n 0, 1) := by decide +kernel
theorem dX5_laneOf_1 : decode cX5_laneOf 1 = .ok (.iload_n 1, 1) := by decide +kernel
theorem dX5_laneOf_2 : decode cX5_laneOf 2 = .ok (.invokevirtual 27, 3) := by decide +kernel
theorem dX5_laneOf_5 : decode cX5_laneOf 5 = .ok (.ifCond .eq 12, 3) := by decide +kernel
theorem dX5_laneOf_8 : decode cX5_laneOf 8 = .ok (.aload_n 0, 1) := by decide +kernel
theorem dX5_laneOf_9 : decode cX5_laneOf 9 = .ok (.getfield 9, 3) := by decide +kernel
theorem dX5_laneOf_12 : decode cX5_laneOf 12 = .ok (.iload_n 1, 1) := by decide +kernel
theorem dX5_laneOf_13 : decode cX5_laneOf 13 = .ok (.iaload, 1) := by decide +kernel
theorem dX5_laneOf_14 : decode cX5_laneOf 14 = .ok (.goto 4, 3) := by decide +kernel
theorem dX5_laneOf_17 : decode cX5_laneOf 17 = .ok (.iconst (-1), 1) := by decide +kernel
theorem dX5_laneOf_18 : decode cX5_laneOf 18 = .ok (.ireturn, 1) := by decide +kernel
theorem dX5_itemsOf_0 : decode cX5_itemsOf 0 = .ok (.aload_n 0, 1) := by decide +kernel
theorem dX5_itemsOf_1 : decode cX5_itemsOf 1 = .ok (.getfield 18, 3) := by decide +kernel
theorem dX5_itemsOf_4 : decode cX5_itemsOf 4 = .ok (.aload_n 0, 1) := by decide +kernel
theorem dX5_itemsOf_5 : decode cX5_itemsOf 5 = .ok (.iload_n 1, 1) := by decide +kernel
theorem dX5_itemsOf_6 : decode cX5_itemsOf 6 = .ok (.invokevirtual 27, 3) := by decide +kernel
theorem dX5_itemsOf_9 : decode cX5_itemsOf 9 = .ok (.ifCond .eq 7, 3) := by decide +kernel
theorem dX5_itemsOf_12 : decode cX5_itemsOf 12 = .ok (.iload_n 1, 1) := by decide +kernel
theorem dX5_itemsOf_13 : decode cX5_itemsOf 13 = .ok (.goto 4, 3) := by decide +kernel
theorem dX5_itemsOf_16 : decode cX5_itemsOf 16 = .ok (.iconst 0, 1) := by decide +kernel
theorem dX5_itemsOf_17 : decode cX5_itemsOf 17 = .ok (.aaload, 1) := by decide +kernel
theorem dX5_itemsOf_18 : decode cX5_itemsOf 18 = .ok (.areturn, 1) := by decide +kernel
theorem dX5_reaches_0 : decode cX5_reaches 0 = .ok (.aload_n 0, 1) := by decide +kernel
theorem dX5_reaches_1 : decode cX5_reaches 1 = .ok (.iload_n 1, 1) := by decide +kernel
theorem dX5_reaches_2 : decode cX5_reaches 2 = .ok (.invokevirtual 31, 3) := by decide +kernel
theorem dX5_reaches_5 : decode cX5_reaches 5 = .ok (.ifCond .ne 37, 3) := by decide +kernel
theorem dX5_reaches_8 : decode cX5_reaches 8 = .ok (.iload_n 2, 1) := by decide +kernel
theorem dX5_reaches_9 : decode cX5_reaches 9 = .ok (.ifCond .lt 33, 3) := by decide +kernel
theorem dX5_reaches_12 : decode cX5_reaches 12 = .ok (.iload_n 3, 1) := by decide +kernel
theorem dX5_reaches_13 : decode cX5_reaches 13 = .ok (.ifCond .lt 29, 3) := by decide +kernel
theorem dX5_reaches_16 : decode cX5_reaches 16 = .ok (.iload_n 2, 1) := by decide +kernel
theorem dX5_reaches_17 : decode cX5_reaches 17 = .ok (.aload_n 0, 1) := by decide +kernel
theorem dX5_reaches_18 : decode cX5_reaches 18 = .ok (.getfield 13, 3) := by decide +kernel
theorem dX5_reaches_21 : decode cX5_reaches 21 = .ok (.iload_n 1, 1) := by decide +kernel
theorem dX5_reaches_22 : decode cX5_reaches 22 = .ok (.iaload, 1) := by decide +kernel
theorem dX5_reaches_23 : decode cX5_reaches 23 = .ok (.if_icmp .gt 19, 3) := by decide +kernel
theorem dX5_reaches_26 : decode cX5_reaches 26 = .ok (.iload_n 3, 1) := by decide +kernel
theorem dX5_reaches_27 : decode cX5_reaches 27 = .ok (.aload_n 0, 1) := by decide +kernel
theorem dX5_reaches_28 : decode cX5_reaches 28 = .ok (.getfield 13, 3) := by decide +kernel
theorem dX5_reaches_31 : decode cX5_reaches 31 = .ok (.iload_n 1, 1) := by decide +kernel
theorem dX5_reaches_32 : decode cX5_reaches 32 = .ok (.iaload, 1) := by decide +kernel
theorem dX5_reaches_33 : decode cX5_reaches 33 = .ok (.iload_n 2, 1) := by decide +kernel
theorem dX5_reaches_34 : decode cX5_reaches 34 = .ok (.isub, 1) := by decide +kernel
theorem dX5_reaches_35 : decode cX5_reaches 35 = .ok (.if_icmp .gt 7, 3) := by decide +kernel
theorem dX5_reaches_38 : decode cX5_reaches 38 = .ok (.iconst 1, 1) := by decide +kernel
theorem dX5_reaches_39 : decode cX5_reaches 39 = .ok (.goto 4, 3) := by decide +kernel
theorem dX5_reaches_42 : decode cX5_reaches 42 = .ok (.iconst 0, 1) := by decide +kernel
theorem dX5_reaches_43 : decode cX5_reaches 43 = .ok (.ireturn, 1) := by decide +kernel
theorem dX5_howMany_0 : decode cX5_howMany 0 = .ok (.iconst 0, 1) := by decide +kernel
theorem dX5_howMany_1 : decode cX5_howMany 1 = .ok (.istore_n 1, 1) := by decide +kernel
theorem dX5_howMany_2 : decode cX5_howMany 2 = .ok (.iconst 0, 1) := by decide +kernel
theorem dX5_howMany_3 : decode cX5_howMany 3 = .ok (.istore_n 2, 1) := by decide +kernel
theorem dX5_howMany_4 : decode cX5_howMany 4 = .ok (.iload_n 2, 1) := by decide +kernel
theorem dX5_howMany_5 : decode cX5_howMany 5 = .ok (.bipush 8, 2) := by decide +kernel
theorem dX5_howMany_7 : decode cX5_howMany 7 = .ok (.if_icmp .ge 25, 3) := by decide +kernel
theorem dX5_howMany_10 : decode cX5_howMany 10 = .ok (.iload_n 1, 1) := by decide +kernel
theorem dX5_howMany_11 : decode cX5_howMany 11 = .ok (.aload_n 0, 1) := by decide +kernel
theorem dX5_howMany_12 : decode cX5_howMany 12 = .ok (.iload_n 2, 1) := by decide +kernel
theorem dX5_howMany_13 : decode cX5_howMany 13 = .ok (.invokevirtual 31, 3) := by decide +kernel
theorem dX5_howMany_16 : decode cX5_howMany 16 = .ok (.ifCond .eq 7, 3) := by decide +kernel
theorem dX5_howMany_19 : decode cX5_howMany 19 = .ok (.iconst 0, 1) := by decide +kernel
theorem dX5_howMany_20 : decode cX5_howMany 20 = .ok (.goto 4, 3) := by decide +kernel
theorem dX5_howMany_23 : decode cX5_howMany 23 = .ok (.iconst 1, 1) := by decide +kernel
theorem dX5_howMany_24 : decode cX5_howMany 24 = .ok (.iadd, 1) := by decide +kernel
theorem dX5_howMany_25 : decode cX5_howMany 25 = .ok (.istore_n 1, 1) := by decide +kernel
theorem dX5_howMany_26 : decode cX5_howMany 26 = .ok (.iinc 2 1, 3) := by decide +kernel
theorem dX5_howMany_29 : decode cX5_howMany 29 = .ok (.goto (-25), 3) := by decide +kernel
theorem dX5_howMany_32 : decode cX5_howMany 32 = .ok (.iload_n 1, 1) := by decide +kernel
theorem dX5_howMany_33 : decode cX5_howMany 33 = .ok (.ireturn, 1) := by decide +kernel
theorem dX5_lay_0 : decode cX5_lay 0 = .ok (.aload_n 0, 1) := by decide +kernel
theorem dX5_lay_1 : decode cX5_lay 1 = .ok (.iload_n 1, 1) := by decide +kernel
theorem dX5_lay_2 : decode cX5_lay 2 = .ok (.invokevirtual 27, 3) := by decide +kernel
theorem dX5_lay_5 : decode cX5_lay 5 = .ok (.ifCond .eq 37, 3) := by decide +kernel
theorem dX5_lay_8 : decode cX5_lay 8 = .ok (.iload_n 3, 1) := by decide +kernel
theorem dX5_lay_9 : decode cX5_lay 9 = .ok (.ifCond .lt 33, 3) := by decide +kernel
theorem dX5_lay_12 : decode cX5_lay 12 = .ok (.iload_n 3, 1) := by decide +kernel
theorem dX5_lay_13 : decode cX5_lay 13 = .ok (.bipush 40, 2) := by decide +kernel
theorem dX5_lay_15 : decode cX5_lay 15 = .ok (.if_icmp .gt 27, 3) := by decide +kernel
theorem dX5_lay_18 : decode cX5_lay 18 = .ok (.aload_n 0, 1) := by decide +kernel
theorem dX5_lay_19 : decode cX5_lay 19 = .ok (.getfield 9, 3) := by decide +kernel
theorem dX5_lay_22 : decode cX5_lay 22 = .ok (.iload_n 1, 1) := by decide +kernel
theorem dX5_lay_23 : decode cX5_lay 23 = .ok (.iload_n 2, 1) := by decide +kernel
theorem dX5_lay_24 : decode cX5_lay 24 = .ok (.iastore, 1) := by decide +kernel
theorem dX5_lay_25 : decode cX5_lay 25 = .ok (.aload_n 0, 1) := by decide +kernel
theorem dX5_lay_26 : decode cX5_lay 26 = .ok (.getfield 13, 3) := by decide +kernel
theorem dX5_lay_29 : decode cX5_lay 29 = .ok (.iload_n 1, 1) := by decide +kernel
theorem dX5_lay_30 : decode cX5_lay 30 = .ok (.iload_n 3, 1) := by decide +kernel
theorem dX5_lay_31 : decode cX5_lay 31 = .ok (.iastore, 1) := by decide +kernel
theorem dX5_lay_32 : decode cX5_lay 32 = .ok (.aload_n 0, 1) := by decide +kernel
theorem dX5_lay_33 : decode cX5_lay 33 = .ok (.getfield 18, 3) := by decide +kernel
theorem dX5_lay_36 : decode cX5_lay 36 = .ok (.iload_n 1, 1) := by decide +kernel
theorem dX5_lay_37 : decode cX5_lay 37 = .ok (.aaload, 1) := by decide +kernel
theorem dX5_lay_38 : decode cX5_lay 38 = .ok (.iconst 0, 1) := by decide +kernel
theorem dX5_lay_39 : decode cX5_lay 39 = .ok (.invokestatic 21, 3) := by decide +kernel
theorem dX5_lay_42 : decode cX5_lay 42 = .ok (.return_, 1) := by decide +kernel
theorem dX5_put_0 : decode cX5_put 0 = .ok (.aload_n 0, 1) := by decide +kernel
theorem dX5_put_1 : decode cX5_put 1 = .ok (.iload_n 1, 1) := by decide +kernel
theorem dX5_put_2 : decode cX5_put 2 = .ok (.iload_n 2, 1) := by decide +kernel
theorem dX5_put_3 : decode cX5_put 3 = .ok (.iconst 1, 1) := by decide +kernel
theorem dX5_put_4 : decode cX5_put 4 = .ok (.invokevirtual 34, 3) := by decide +kernel
theorem dX5_put_7 : decode cX5_put 7 = .ok (.ifCond .ne 5, 3) := by decide +kernel
theorem dX5_put_10 : decode cX5_put 10 = .ok (.iconst 0, 1) := by decide +kernel
theorem dX5_put_11 : decode cX5_put 11 = .ok (.ireturn, 1) := by decide +kernel
theorem dX5_put_12 : decode cX5_put 12 = .ok (.aload_n 0, 1) := by decide +kernel
theorem dX5_put_13 : decode cX5_put 13 = .ok (.getfield 18, 3) := by decide +kernel
theorem dX5_put_16 : decode cX5_put 16 = .ok (.iload_n 1, 1) := by decide +kernel
theorem dX5_put_17 : decode cX5_put 17 = .ok (.aaload, 1) := by decide +kernel
theorem dX5_put_18 : decode cX5_put 18 = .ok (.iload_n 2, 1) := by decide +kernel
theorem dX5_put_19 : decode cX5_put 19 = .ok (.aload_n 0, 1) := by decide +kernel
theorem dX5_put_20 : decode cX5_put 20 = .ok (.getfield 9, 3) := by decide +kernel
theorem dX5_put_23 : decode cX5_put 23 = .ok (.iload_n 1, 1) := by decide +kernel
theorem dX5_put_24 : decode cX5_put 24 = .ok (.iaload, 1) := by decide +kernel
theorem dX5_put_25 : decode cX5_put 25 = .ok (.iload_n 3, 1) := by decide +kernel
theorem dX5_put_26 : decode cX5_put 26 = .ok (.invokestatic 38, 3) := by decide +kernel
theorem dX5_put_29 : decode cX5_put 29 = .ok (.iastore, 1) := by decide +kernel
theorem dX5_put_30 : decode cX5_put 30 = .ok (.aload_n 0, 1) := by decide +kernel
theorem dX5_put_31 : decode cX5_put 31 = .ok (.getfield 18, 3) := by decide +kernel
theorem dX5_put_34 : decode cX5_put 34 = .ok (.iload_n 1, 1) := by decide +kernel
theorem dX5_put_35 : decode cX5_put 35 = .ok (.aaload, 1) := by decide +kernel
theorem dX5_put_36 : decode cX5_put 36 = .ok (.iload_n 2, 1) := by decide +kernel
theorem dX5_put_37 : decode cX5_put 37 = .ok (.iaload, 1) := by decide +kernel
theorem dX5_put_38 : decode cX5_put 38 = .ok (.ireturn, 1) := by decide +kernel
theorem dX5_cutTo_0 : decode cX5_cutTo 0 = .ok (.iload_n 0, 1) := by decide +kernel
theorem dX5_cutTo_1 : decode cX5_cutTo 1 = .ok (.ifCond .ne 6, 3) := by decide +kernel
theorem dX5_cutTo_4 : decode cX5_cutTo 4 = .ok (.iload_n 1, 1) := by decide +kernel
theorem dX5_cutTo_5 : decode cX5_cutTo 5 = .ok (.i2b, 1) := by decide +kernel
theorem dX5_cutTo_6 : decode cX5_cutTo 6 = .ok (.ireturn, 1) := by decide +kernel
theorem dX5_cutTo_7 : decode cX5_cutTo 7 = .ok (.iload_n 0, 1) := by decide +kernel
theorem dX5_cutTo_8 : decode cX5_cutTo 8 = .ok (.iconst 1, 1) := by decide +kernel
theorem dX5_cutTo_9 : decode cX5_cutTo 9 = .ok (.if_icmp .ne 8, 3) := by decide +kernel
theorem dX5_cutTo_12 : decode cX5_cutTo 12 = .ok (.iload_n 1, 1) := by decide +kernel
theorem dX5_cutTo_13 : decode cX5_cutTo 13 = .ok (.i2s, 1) := by decide +kernel
theorem dX5_cutTo_14 : decode cX5_cutTo 14 = .ok (.goto 4, 3) := by decide +kernel
theorem dX5_cutTo_17 : decode cX5_cutTo 17 = .ok (.iload_n 1, 1) := by decide +kernel
theorem dX5_cutTo_18 : decode cX5_cutTo 18 = .ok (.ireturn, 1) := by decide +kernel
theorem dX5_carry_0 : decode cX5_carry 0 = .ok (.aload_n 0, 1) := by decide +kernel
theorem dX5_carry_1 : decode cX5_carry 1 = .ok (.iload_n 1, 1) := by decide +kernel
theorem dX5_carry_2 : decode cX5_carry 2 = .ok (.iload_n 2, 1) := by decide +kernel
theorem dX5_carry_3 : decode cX5_carry 3 = .ok (.iload 5, 2) := by decide +kernel
theorem dX5_carry_5 : decode cX5_carry 5 = .ok (.invokevirtual 34, 3) := by decide +kernel
theorem dX5_carry_8 : decode cX5_carry 8 = .ok (.ifCond .eq 35, 3) := by decide +kernel
theorem dX5_carry_11 : decode cX5_carry 11 = .ok (.aload_n 0, 1) := by decide +kernel
theorem dX5_carry_12 : decode cX5_carry 12 = .ok (.iload_n 3, 1) := by decide +kernel
theorem dX5_carry_13 : decode cX5_carry 13 = .ok (.iload 4, 2) := by decide +kernel
theorem dX5_carry_15 : decode cX5_carry 15 = .ok (.iload 5, 2) := by decide +kernel
theorem dX5_carry_17 : decode cX5_carry 17 = .ok (.invokevirtual 34, 3) := by decide +kernel
theorem dX5_carry_20 : decode cX5_carry 20 = .ok (.ifCond .eq 23, 3) := by decide +kernel
theorem dX5_carry_23 : decode cX5_carry 23 = .ok (.aload_n 0, 1) := by decide +kernel
theorem dX5_carry_24 : decode cX5_carry 24 = .ok (.getfield 18, 3) := by decide +kernel
theorem dX5_carry_27 : decode cX5_carry 27 = .ok (.iload_n 1, 1) := by decide +kernel
theorem dX5_carry_28 : decode cX5_carry 28 = .ok (.aaload, 1) := by decide +kernel
theorem dX5_carry_29 : decode cX5_carry 29 = .ok (.iload_n 2, 1) := by decide +kernel
theorem dX5_carry_30 : decode cX5_carry 30 = .ok (.aload_n 0, 1) := by decide +kernel
theorem dX5_carry_31 : decode cX5_carry 31 = .ok (.getfield 18, 3) := by decide +kernel
theorem dX5_carry_34 : decode cX5_carry 34 = .ok (.iload_n 3, 1) := by decide +kernel
theorem dX5_carry_35 : decode cX5_carry 35 = .ok (.aaload, 1) := by decide +kernel
theorem dX5_carry_36 : decode cX5_carry 36 = .ok (.iload 4, 2) := by decide +kernel
theorem dX5_carry_38 : decode cX5_carry 38 = .ok (.iload 5, 2) := by decide +kernel
theorem dX5_carry_40 : decode cX5_carry 40 = .ok (.invokestatic 42, 3) := by decide +kernel
theorem dX5_carry_43 : decode cX5_carry 43 = .ok (.return_, 1) := by decide +kernel
theorem dX5_remove_0 : decode cX5_remove 0 = .ok (.aload_n 0, 1) := by decide +kernel
theorem dX5_remove_1 : decode cX5_remove 1 = .ok (.iload_n 1, 1) := by decide +kernel
theorem dX5_remove_2 : decode cX5_remove 2 = .ok (.invokevirtual 31, 3) := by decide +kernel
theorem dX5_remove_5 : decode cX5_remove 5 = .ok (.ifCond .eq 5, 3) := by decide +kernel
theorem dX5_remove_8 : decode cX5_remove 8 = .ok (.iconst 0, 1) := by decide +kernel
theorem dX5_remove_9 : decode cX5_remove 9 = .ok (.ireturn, 1) := by decide +kernel
theorem dX5_remove_10 : decode cX5_remove 10 = .ok (.aload_n 0, 1) := by decide +kernel
theorem dX5_remove_11 : decode cX5_remove 11 = .ok (.getfield 9, 3) := by decide +kernel
theorem dX5_remove_14 : decode cX5_remove 14 = .ok (.iload_n 1, 1) := by decide +kernel
theorem dX5_remove_15 : decode cX5_remove 15 = .ok (.iconst (-1), 1) := by decide +kernel
theorem dX5_remove_16 : decode cX5_remove 16 = .ok (.iastore, 1) := by decide +kernel
theorem dX5_remove_17 : decode cX5_remove 17 = .ok (.aload_n 0, 1) := by decide +kernel
theorem dX5_remove_18 : decode cX5_remove 18 = .ok (.getfield 13, 3) := by decide +kernel
theorem dX5_remove_21 : decode cX5_remove 21 = .ok (.iload_n 1, 1) := by decide +kernel
theorem dX5_remove_22 : decode cX5_remove 22 = .ok (.iaload, 1) := by decide +kernel
theorem dX5_remove_23 : decode cX5_remove 23 = .ok (.ireturn, 1) := by decide +kernel
theorem dX6_init_0 : decode cX6_init 0 = .ok (.aload_n 0, 1) := by decide +kernel
theorem dX6_init_1 : decode cX6_init 1 = .ok (.invokespecial 3, 3) := by decide +kernel
theorem dX6_init_4 : decode cX6_init 4 = .ok (.aload_n 0, 1) := by decide +kernel
theorem dX6_init_5 : decode cX6_init 5 = .ok (.bipush 110, 2) := by decide +kernel
theorem dX6_init_7 : decode cX6_init 7 = .ok (.newarray .int, 2) := by decide +kernel
theorem dX6_init_9 : decode cX6_init 9 = .ok (.putfield 11, 3) := by decide +kernel
theorem dX6_init_12 : decode cX6_init 12 = .ok (.return_, 1) := by decide +kernel
theorem dX6_size_0 : decode cX6_size 0 = .ok (.aload_n 0, 1) := by decide +kernel
theorem dX6_size_1 : decode cX6_size 1 = .ok (.getfield 15, 3) := by decide +kernel
theorem dX6_size_4 : decode cX6_size 4 = .ok (.ireturn, 1) := by decide +kernel
theorem dX6_isFull_0 : decode cX6_isFull 0 = .ok (.aload_n 0, 1) := by decide +kernel
theorem dX6_isFull_1 : decode cX6_isFull 1 = .ok (.getfield 15, 3) := by decide +kernel
theorem dX6_isFull_4 : decode cX6_isFull 4 = .ok (.bipush 110, 2) := by decide +kernel
theorem dX6_isFull_6 : decode cX6_isFull 6 = .ok (.if_icmp .lt 7, 3) := by decide +kernel
theorem dX6_isFull_9 : decode cX6_isFull 9 = .ok (.iconst 1, 1) := by decide +kernel
theorem dX6_isFull_10 : decode cX6_isFull 10 = .ok (.goto 4, 3) := by decide +kernel
theorem dX6_isFull_13 : decode cX6_isFull 13 = .ok (.iconst 0, 1) := by decide +kernel
theorem dX6_isFull_14 : decode cX6_isFull 14 = .ok (.ireturn, 1) := by decide +kernel
theorem dX6_add_0 : decode cX6_add 0 = .ok (.aload_n 0, 1) := by decide +kernel
theorem dX6_add_1 : decode cX6_add 1 = .ok (.invokevirtual 19, 3) := by decide +kernel
theorem dX6_add_4 : decode cX6_add 4 = .ok (.ifCond .ne 23, 3) := by decide +kernel
theorem dX6_add_7 : decode cX6_add 7 = .ok (.aload_n 0, 1) := by decide +kernel
theorem dX6_add_8 : decode cX6_add 8 = .ok (.getfield 11, 3) := by decide +kernel
theorem dX6_add_11 : decode cX6_add 11 = .ok (.aload_n 0, 1) := by decide +kernel
theorem dX6_add_12 : decode cX6_add 12 = .ok (.getfield 15, 3) := by decide +kernel
theorem dX6_add_15 : decode cX6_add 15 = .ok (.iload_n 1, 1) := by decide +kernel
theorem dX6_add_16 : decode cX6_add 16 = .ok (.iastore, 1) := by decide +kernel
theorem dX6_add_17 : decode cX6_add 17 = .ok (.aload_n 0, 1) := by decide +kernel
theorem dX6_add_18 : decode cX6_add 18 = .ok (.dup, 1) := by decide +kernel
theorem dX6_add_19 : decode cX6_add 19 = .ok (.getfield 15, 3) := by decide +kernel
theorem dX6_add_22 : decode cX6_add 22 = .ok (.iconst 1, 1) := by decide +kernel
theorem dX6_add_23 : decode cX6_add 23 = .ok (.iadd, 1) := by decide +kernel
theorem dX6_add_24 : decode cX6_add 24 = .ok (.putfield 15, 3) := by decide +kernel
theorem dX6_add_27 : decode cX6_add 27 = .ok (.aload_n 0, 1) := by decide +kernel
theorem dX6_add_28 : decode cX6_add 28 = .ok (.getfield 15, 3) := by decide +kernel
theorem dX6_add_31 : decode cX6_add 31 = .ok (.ireturn, 1) := by decide +kernel
theorem dX6_clear_0 : decode cX6_clear 0 = .ok (.aload_n 0, 1) := by decide +kernel
theorem dX6_clear_1 : decode cX6_clear 1 = .ok (.iconst 0, 1) := by decide +kernel
theorem dX6_clear_2 : decode cX6_clear 2 = .ok (.putfield 15, 3) := by decide +kernel
theorem dX6_clear_5 : decode cX6_clear 5 = .ok (.return_, 1) := by decide +kernel
theorem dX6_faultPlace_0 : decode cX6_faultPlace 0 = .ok (.aload_n 0, 1) := by decide +kernel
theorem dX6_faultPlace_1 : decode cX6_faultPlace 1 = .ok (.getfield 23, 3) := by decide +kernel
theorem dX6_faultPlace_4 : decode cX6_faultPlace 4 = .ok (.ireturn, 1) := by decide +kernel
theorem dX6_readInto_0 : decode cX6_readInto 0 = .ok (.aload_n 0, 1) := by decide +kernel
theorem dX6_readInto_1 : decode cX6_readInto 1 = .ok (.iconst 0, 1) := by decide +kernel
theorem dX6_readInto_2 : decode cX6_readInto 2 = .ok (.putfield 26, 3) := by decide +kernel
theorem dX6_readInto_5 : decode cX6_readInto 5 = .ok (.aload_n 0, 1) := by decide +kernel
theorem dX6_readInto_6 : decode cX6_readInto 6 = .ok (.invokevirtual 29, 3) := by decide +kernel
theorem dX6_readInto_9 : decode cX6_readInto 9 = .ok (.aload_n 0, 1) := by decide +kernel
theorem dX6_readInto_10 : decode cX6_readInto 10 = .ok (.aload_n 1, 1) := by decide +kernel
theorem dX6_readInto_11 : decode cX6_readInto 11 = .ok (.invokevirtual 32, 3) := by decide +kernel
theorem dX6_readInto_14 : decode cX6_readInto 14 = .ok (.istore_n 2, 1) := by decide +kernel
theorem dX6_readInto_15 : decode cX6_readInto 15 = .ok (.iconst 0, 1) := by decide +kernel
theorem dX6_readInto_16 : decode cX6_readInto 16 = .ok (.istore_n 3, 1) := by decide +kernel
theorem dX6_readInto_17 : decode cX6_readInto 17 = .ok (.iload_n 3, 1) := by decide +kernel
theorem dX6_readInto_18 : decode cX6_readInto 18 = .ok (.bipush 6, 2) := by decide +kernel
theorem dX6_readInto_20 : decode cX6_readInto 20 = .ok (.if_icmp .gt 32, 3) := by decide +kernel
theorem dX6_readInto_23 : decode cX6_readInto 23 = .ok (.iload_n 2, 1) := by decide +kernel
theorem dX6_readInto_24 : decode cX6_readInto 24 = .ok (.ifCond .ne 28, 3) := by decide +kernel
theorem dX6_readInto_27 : decode cX6_readInto 27 = .ok (.iload_n 3, 1) := by decide +kernel
theorem dX6_readInto_28 : decode cX6_readInto 28 = .ok (.ifCond .le 12, 3) := by decide +kernel
theorem dX6_readInto_31 : decode cX6_readInto 31 = .ok (.aload_n 0, 1) := by decide +kernel
theorem dX6_readInto_32 : decode cX6_readInto 32 = .ok (.getfield 36, 3) := by decide +kernel
theorem dX6_readInto_35 : decode cX6_readInto 35 = .ok (.ifCond .ne 5, 3) := by decide +kernel
theorem dX6_readInto_38 : decode cX6_readInto 38 = .ok (.iconst 0, 1) := by decide +kernel
theorem dX6_readInto_39 : decode cX6_readInto 39 = .ok (.ireturn, 1) := by decide +kernel
theorem dX6_readInto_40 : decode cX6_readInto 40 = .ok (.aload_n 0, 1) := by decide +kernel
theorem dX6_readInto_41 : decode cX6_readInto 41 = .ok (.aload_n 1, 1) := by decide +kernel
theorem dX6_readInto_42 : decode cX6_readInto 42 = .ok (.invokevirtual 39, 3) := by decide +kernel
theorem dX6_readInto_45 : decode cX6_readInto 45 = .ok (.istore_n 2, 1) := by decide +kernel
theorem dX6_readInto_46 : decode cX6_readInto 46 = .ok (.iinc 3 1, 3) := by decide +kernel
theorem dX6_readInto_49 : decode cX6_readInto 49 = .ok (.goto (-32), 3) := by decide +kernel
theorem dX6_readInto_52 : decode cX6_readInto 52 = .ok (.iload_n 2, 1) := by decide +kernel
theorem dX6_readInto_53 : decode cX6_readInto 53 = .ok (.ireturn, 1) := by decide +kernel
theorem dX6_readLaw_0 : decode cX6_readLaw 0 = .ok (.aload_n 0, 1) := by decide +kernel
theorem dX6_readLaw_1 : decode cX6_readLaw 1 = .ok (.bipush 98, 2) := by decide +kernel
theorem dX6_readLaw_3 : decode cX6_readLaw 3 = .ok (.invokevirtual 42, 3) := by decide +kernel
theorem dX6_readLaw_6 : decode cX6_readLaw 6 = .ok (.istore_n 2, 1) := by decide +kernel
theorem dX6_readLaw_7 : decode cX6_readLaw 7 = .ok (.iload_n 2, 1) := by decide +kernel
theorem dX6_readLaw_8 : decode cX6_readLaw 8 = .ok (.ifCond .ne 11, 3) := by decide +kernel
theorem dX6_readLaw_11 : decode cX6_readLaw 11 = .ok (.aload_n 0, 1) := by decide +kernel
theorem dX6_readLaw_12 : decode cX6_readLaw 12 = .ok (.iconst 4, 1) := by decide +kernel
theorem dX6_readLaw_13 : decode cX6_readLaw 13 = .ok (.bipush 12, 2) := by decide +kernel
theorem dX6_readLaw_15 : decode cX6_readLaw 15 = .ok (.invokevirtual 46, 3) := by decide +kernel
theorem dX6_readLaw_18 : decode cX6_readLaw 18 = .ok (.istore_n 2, 1) := by decide +kernel
theorem dX6_readLaw_19 : decode cX6_readLaw 19 = .ok (.iload_n 2, 1) := by decide +kernel
theorem dX6_readLaw_20 : decode cX6_readLaw 20 = .ok (.ifCond .ne 18, 3) := by decide +kernel
theorem dX6_readLaw_23 : decode cX6_readLaw 23 = .ok (.aload_n 1, 1) := by decide +kernel
theorem dX6_readLaw_24 : decode cX6_readLaw 24 = .ok (.aload_n 0, 1) := by decide +kernel
theorem dX6_readLaw_25 : decode cX6_readLaw 25 = .ok (.getfield 50, 3) := by decide +kernel
theorem dX6_readLaw_28 : decode cX6_readLaw 28 = .ok (.invokevirtual 53, 3) := by decide +kernel
theorem dX6_readLaw_31 : decode cX6_readLaw 31 = .ok (.aload_n 0, 1) := by decide +kernel
theorem dX6_readLaw_32 : decode cX6_readLaw 32 = .ok (.bipush 59, 2) := by decide +kernel
theorem dX6_readLaw_34 : decode cX6_readLaw 34 = .ok (.invokevirtual 42, 3) := by decide +kernel
theorem dX6_readLaw_37 : decode cX6_readLaw 37 = .ok (.istore_n 2, 1) := by decide +kernel
theorem dX6_readLaw_38 : decode cX6_readLaw 38 = .ok (.iload_n 2, 1) := by decide +kernel
theorem dX6_readLaw_39 : decode cX6_readLaw 39 = .ok (.ireturn, 1) := by decide +kernel
theorem dX6_readTraveller_0 : decode cX6_readTraveller 0 = .ok (.aload_n 0, 1) := by decide +kernel
theorem dX6_readTraveller_1 : decode cX6_readTraveller 1 = .ok (.getfield 36, 3) := by decide +kernel
theorem dX6_readTraveller_4 : decode cX6_readTraveller 4 = .ok (.iconst 2, 1) := by decide +kernel
theorem dX6_readTraveller_5 : decode cX6_readTraveller 5 = .ok (.if_icmp .le 16, 3) := by decide +kernel
theorem dX6_readTraveller_8 : decode cX6_readTraveller 8 = .ok (.ldc 59, 2) := by decide +kernel
theorem dX6_readTraveller_10 : decode cX6_readTraveller 10 = .ok (.aload_n 0, 1) := by decide +kernel
theorem dX6_readTraveller_11 : decode cX6_readTraveller 11 = .ok (.getfield 36, 3) := by decide +kernel
theorem dX6_readTraveller_14 : decode cX6_readTraveller 14 = .ok (.i2c, 1) := by decide +kernel
theorem dX6_readTraveller_15 : decode cX6_readTraveller 15 = .ok (.invokevirtual 61, 3) := by decide +kernel
theorem dX6_readTraveller_18 : decode cX6_readTraveller 18 = .ok (.goto 4, 3) := by decide +kernel
theorem dX6_readTraveller_21 : decode cX6_readTraveller 21 = .ok (.iconst (-1), 1) := by decide +kernel
theorem dX6_readTraveller_22 : decode cX6_readTraveller 22 = .ok (.istore_n 2, 1) := by decide +kernel
theorem dX6_readTraveller_23 : decode cX6_readTraveller 23 = .ok (.iload_n 2, 1) := by decide +kernel
theorem dX6_readTraveller_24 : decode cX6_readTraveller 24 = .ok (.ifCond .ge 5, 3) := by decide +kernel
theorem dX6_readTraveller_27 : decode cX6_readTraveller 27 = .ok (.iconst 1, 1) := by decide +kernel
theorem dX6_readTraveller_28 : decode cX6_readTraveller 28 = .ok (.ireturn, 1) := by decide +kernel
theorem dX6_readTraveller_29 : decode cX6_readTraveller 29 = .ok (.aload_n 1, 1) := by decide +kernel
theorem dX6_readTraveller_30 : decode cX6_readTraveller 30 = .ok (.getfield 66, 3) := by decide +kernel
theorem dX6_readTraveller_33 : decode cX6_readTraveller 33 = .ok (.bipush 6, 2) := by decide +kernel
theorem dX6_readTraveller_35 : decode cX6_readTraveller 35 = .ok (.if_icmp .lt 5, 3) := by decide +kernel
theorem dX6_readTraveller_38 : decode cX6_readTraveller 38 = .ok (.iconst 3, 1) := by decide +kernel
theorem dX6_readTraveller_39 : decode cX6_readTraveller 39 = .ok (.ireturn, 1) := by decide +kernel
theorem dX6_readTraveller_40 : decode cX6_readTraveller 40 = .ok (.aload_n 0, 1) := by decide +kernel
theorem dX6_readTraveller_41 : decode cX6_readTraveller 41 = .ok (.invokevirtual 29, 3) := by decide +kernel
theorem dX6_readTraveller_44 : decode cX6_readTraveller 44 = .ok (.aload_n 0, 1) := by decide +kernel
theorem dX6_readTraveller_45 : decode cX6_readTraveller 45 = .ok (.iconst 0, 1) := by decide +kernel
theorem dX6_readTraveller_46 : decode cX6_readTraveller 46 = .ok (.aload_n 1, 1) := by decide +kernel
theorem dX6_readTraveller_47 : decode cX6_readTraveller 47 = .ok (.getfield 69, 3) := by decide +kernel
theorem dX6_readTraveller_50 : decode cX6_readTraveller 50 = .ok (.iconst 1, 1) := by decide +kernel
theorem dX6_readTraveller_51 : decode cX6_readTraveller 51 = .ok (.isub, 1) := by decide +kernel
theorem dX6_readTraveller_52 : decode cX6_readTraveller 52 = .ok (.invokevirtual 46, 3) := by decide +kernel
theorem dX6_readTraveller_55 : decode cX6_readTraveller 55 = .ok (.istore_n 3, 1) := by decide +kernel
theorem dX6_readTraveller_56 : decode cX6_readTraveller 56 = .ok (.aload_n 0, 1) := by decide +kernel
theorem dX6_readTraveller_57 : decode cX6_readTraveller 57 = .ok (.getfield 50, 3) := by decide +kernel
theorem dX6_readTraveller_60 : decode cX6_readTraveller 60 = .ok (.istore 4, 2) := by decide +kernel
theorem dX6_readTraveller_62 : decode cX6_readTraveller 62 = .ok (.iload_n 3, 1) := by decide +kernel
theorem dX6_readTraveller_63 : decode cX6_readTraveller 63 = .ok (.ifCond .ne 10, 3) := by decide +kernel
theorem dX6_readTraveller_66 : decode cX6_readTraveller 66 = .ok (.aload_n 0, 1) := by decide +kernel
theorem dX6_readTraveller_67 : decode cX6_readTraveller 67 = .ok (.bipush 44, 2) := by decide +kernel
theorem dX6_readTraveller_69 : decode cX6_readTraveller 69 = .ok (.invokevirtual 42, 3) := by decide +kernel
theorem dX6_readTraveller_72 : decode cX6_readTraveller 72 = .ok (.istore_n 3, 1) := by decide +kernel
theorem dX6_readTraveller_73 : decode cX6_readTraveller 73 = .ok (.iload_n 3, 1) := by decide +kernel
theorem dX6_readTraveller_74 : decode cX6_readTraveller 74 = .ok (.ifCond .ne 10, 3) := by decide +kernel
theorem dX6_readTraveller_77 : decode cX6_readTraveller 77 = .ok (.aload_n 0, 1) := by decide +kernel
theorem dX6_readTraveller_78 : decode cX6_readTraveller 78 = .ok (.iconst 0, 1) := by decide +kernel
theorem dX6_readTraveller_79 : decode cX6_readTraveller 79 = .ok (.iconst 3, 1) := by decide +kernel
theorem dX6_readTraveller_80 : decode cX6_readTraveller 80 = .ok (.invokevirtual 46, 3) := by decide +kernel
theorem dX6_readTraveller_83 : decode cX6_readTraveller 83 = .ok (.istore_n 3, 1) := by decide +kernel
theorem dX6_readTraveller_84 : decode cX6_readTraveller 84 = .ok (.aload_n 0, 1) := by decide +kernel
theorem dX6_readTraveller_85 : decode cX6_readTraveller 85 = .ok (.getfield 50, 3) := by decide +kernel
theorem dX6_readTraveller_88 : decode cX6_readTraveller 88 = .ok (.istore 5, 2) := by decide +kernel
theorem dX6_readTraveller_90 : decode cX6_readTraveller 90 = .ok (.iload_n 3, 1) := by decide +kernel
theorem dX6_readTraveller_91 : decode cX6_readTraveller 91 = .ok (.ifCond .ne 10, 3) := by decide +kernel
theorem dX6_readTraveller_94 : decode cX6_readTraveller 94 = .ok (.aload_n 0, 1) := by decide +kernel
theorem dX6_readTraveller_95 : decode cX6_readTraveller 95 = .ok (.bipush 59, 2) := by decide +kernel
theorem dX6_readTraveller_97 : decode cX6_readTraveller 97 = .ok (.invokevirtual 42, 3) := by decide +kernel
theorem dX6_readTraveller_100 : decode cX6_readTraveller 100 = .ok (.istore_n 3, 1) := by decide +kernel
theorem dX6_readTraveller_101 : decode cX6_readTraveller 101 = .ok (.iload_n 3, 1) := by decide +kernel
theorem dX6_readTraveller_102 : decode cX6_readTraveller 102 = .ok (.ifCond .ne 14, 3) := by decide +kernel
theorem dX6_readTraveller_105 : decode cX6_readTraveller 105 = .ok (.aload_n 1, 1) := by decide +kernel
theorem dX6_readTraveller_106 : decode cX6_readTraveller 106 = .ok (.iload_n 2, 1) := by decide +kernel
theorem dX6_readTraveller_107 : decode cX6_readTraveller 107 = .ok (.iconst 1, 1) := by decide +kernel
theorem dX6_readTraveller_108 : decode cX6_readTraveller 108 = .ok (.iadd, 1) := by decide +kernel
theorem dX6_readTraveller_109 : decode cX6_readTraveller 109 = .ok (.iload 4, 2) := by decide +kernel
theorem dX6_readTraveller_111 : decode cX6_readTraveller 111 = .ok (.iload 5, 2) := by decide +kernel
theorem dX6_readTraveller_113 : decode cX6_readTraveller 113 = .ok (.invokevirtual 72, 3) := by decide +kernel
theorem dX6_readTraveller_116 : decode cX6_readTraveller 116 = .ok (.iload_n 3, 1) := by decide +kernel
theorem dX6_readTraveller_117 : decode cX6_readTraveller 117 = .ok (.ireturn, 1) := by decide +kernel
theorem dX6_readSign_0 : decode cX6_readSign 0 = .ok (.aload_n 0, 1) := by decide +kernel
theorem dX6_readSign_1 : decode cX6_readSign 1 = .ok (.getfield 36, 3) := by decide +kernel
theorem dX6_readSign_4 : decode cX6_readSign 4 = .ok (.iload_n 1, 1) := by decide +kernel
theorem dX6_readSign_5 : decode cX6_readSign 5 = .ok (.if_icmp .eq 5, 3) := by decide +kernel
theorem dX6_readSign_8 : decode cX6_readSign 8 = .ok (.iconst 1, 1) := by decide +kernel
theorem dX6_readSign_9 : decode cX6_readSign 9 = .ok (.ireturn, 1) := by decide +kernel
theorem dX6_readSign_10 : decode cX6_readSign 10 = .ok (.aload_n 0, 1) := by decide +kernel
theorem dX6_readSign_11 : decode cX6_readSign 11 = .ok (.invokevirtual 29, 3) := by decide +kernel
theorem dX6_readSign_14 : decode cX6_readSign 14 = .ok (.iconst 0, 1) := by decide +kernel
theorem dX6_readSign_15 : decode cX6_readSign 15 = .ok (.ireturn, 1) := by decide +kernel
theorem dX6_readNumber_0 : decode cX6_readNumber 0 = .ok (.aload_n 0, 1) := by decide +kernel
theorem dX6_readNumber_1 : decode cX6_readNumber 1 = .ok (.getfield 36, 3) := by decide +kernel
theorem dX6_readNumber_4 : decode cX6_readNumber 4 = .ok (.iconst 1, 1) := by decide +kernel
theorem dX6_readNumber_5 : decode cX6_readNumber 5 = .ok (.if_icmp .eq 5, 3) := by decide +kernel
theorem dX6_readNumber_8 : decode cX6_readNumber 8 = .ok (.iconst 1, 1) := by decide +kernel
theorem dX6_readNumber_9 : decode cX6_readNumber 9 = .ok (.ireturn, 1) := by decide +kernel
theorem dX6_readNumber_10 : decode cX6_readNumber 10 = .ok (.aload_n 0, 1) := by decide +kernel
theorem dX6_readNumber_11 : decode cX6_readNumber 11 = .ok (.getfield 50, 3) := by decide +kernel
theorem dX6_readNumber_14 : decode cX6_readNumber 14 = .ok (.istore_n 3, 1) := by decide +kernel
theorem dX6_readNumber_15 : decode cX6_readNumber 15 = .ok (.iload_n 3, 1) := by decide +kernel
theorem dX6_readNumber_16 : decode cX6_readNumber 16 = .ok (.iload_n 1, 1) := by decide +kernel
theorem dX6_readNumber_17 : decode cX6_readNumber 17 = .ok (.if_icmp .lt 8, 3) := by decide +kernel
theorem dX6_readNumber_20 : decode cX6_readNumber 20 = .ok (.iload_n 3, 1) := by decide +kernel
theorem dX6_readNumber_21 : decode cX6_readNumber 21 = .ok (.iload_n 2, 1) := by decide +kernel
theorem dX6_readNumber_22 : decode cX6_readNumber 22 = .ok (.if_icmp .le 5, 3) := by decide +kernel
theorem dX6_readNumber_25 : decode cX6_readNumber 25 = .ok (.iconst 2, 1) := by decide +kernel
theorem dX6_readNumber_26 : decode cX6_readNumber 26 = .ok (.ireturn, 1) := by decide +kernel
theorem dX6_readNumber_27 : decode cX6_readNumber 27 = .ok (.aload_n 0, 1) := by decide +kernel
theorem dX6_readNumber_28 : decode cX6_readNumber 28 = .ok (.invokevirtual 29, 3) := by decide +kernel
theorem dX6_readNumber_31 : decode cX6_readNumber 31 = .ok (.aload_n 0, 1) := by decide +kernel
theorem dX6_readNumber_32 : decode cX6_readNumber 32 = .ok (.iload_n 3, 1) := by decide +kernel
theorem dX6_readNumber_33 : decode cX6_readNumber 33 = .ok (.putfield 50, 3) := by decide +kernel
theorem dX6_readNumber_36 : decode cX6_readNumber 36 = .ok (.iconst 0, 1) := by decide +kernel
theorem dX6_readNumber_37 : decode cX6_readNumber 37 = .ok (.ireturn, 1) := by decide +kernel
theorem dX6_nextToken_0 : decode cX6_nextToken 0 = .ok (.aload_n 0, 1) := by decide +kernel
theorem dX6_nextToken_1 : decode cX6_nextToken 1 = .ok (.aload_n 0, 1) := by decide +kernel
theorem dX6_nextToken_2 : decode cX6_nextToken 2 = .ok (.getfield 26, 3) := by decide +kernel
theorem dX6_nextToken_5 : decode cX6_nextToken 5 = .ok (.putfield 23, 3) := by decide +kernel
theorem dX6_nextToken_8 : decode cX6_nextToken 8 = .ok (.aload_n 0, 1) := by decide +kernel
theorem dX6_nextToken_9 : decode cX6_nextToken 9 = .ok (.aload_n 0, 1) := by decide +kernel
theorem dX6_nextToken_10 : decode cX6_nextToken 10 = .ok (.getfield 23, 3) := by decide +kernel
theorem dX6_nextToken_13 : decode cX6_nextToken 13 = .ok (.invokevirtual 76, 3) := by decide +kernel
theorem dX6_nextToken_16 : decode cX6_nextToken 16 = .ok (.istore_n 1, 1) := by decide +kernel
theorem dX6_nextToken_17 : decode cX6_nextToken 17 = .ok (.aload_n 0, 1) := by decide +kernel
theorem dX6_nextToken_18 : decode cX6_nextToken 18 = .ok (.getfield 23, 3) := by decide +kernel
theorem dX6_nextToken_21 : decode cX6_nextToken 21 = .ok (.aload_n 0, 1) := by decide +kernel
theorem dX6_nextToken_22 : decode cX6_nextToken 22 = .ok (.getfield 15, 3) := by decide +kernel
theorem dX6_nextToken_25 : decode cX6_nextToken 25 = .ok (.if_icmp .lt 11, 3) := by decide +kernel
theorem dX6_nextToken_28 : decode cX6_nextToken 28 = .ok (.aload_n 0, 1) := by decide +kernel
theorem dX6_nextToken_29 : decode cX6_nextToken 29 = .ok (.iconst 0, 1) := by decide +kernel
theorem dX6_nextToken_30 : decode cX6_nextToken 30 = .ok (.putfield 36, 3) := by decide +kernel
theorem dX6_nextToken_33 : decode cX6_nextToken 33 = .ok (.goto 70, 3) := by decide +kernel
theorem dX6_nextToken_36 : decode cX6_nextToken 36 = .ok (.iload_n 1, 1) := by decide +kernel
theorem dX6_nextToken_37 : decode cX6_nextToken 37 = .ok (.invokestatic 79, 3) := by decide +kernel
theorem dX6_nextToken_40 : decode cX6_nextToken 40 = .ok (.ifCond .eq 10, 3) := by decide +kernel
theorem dX6_nextToken_43 : decode cX6_nextToken 43 = .ok (.aload_n 0, 1) := by decide +kernel
theorem dX6_nextToken_44 : decode cX6_nextToken 44 = .ok (.invokevirtual 83, 3) := by decide +kernel
theorem dX6_nextToken_47 : decode cX6_nextToken 47 = .ok (.goto 56, 3) := by decide +kernel
theorem dX6_nextToken_50 : decode cX6_nextToken 50 = .ok (.iload_n 1, 1) := by decide +kernel
theorem dX6_nextToken_51 : decode cX6_nextToken 51 = .ok (.bipush 97, 2) := by decide +kernel
theorem dX6_nextToken_53 : decode cX6_nextToken 53 = .ok (.if_icmp .lt 9, 3) := by decide +kernel
theorem dX6_nextToken_56 : decode cX6_nextToken 56 = .ok (.iload_n 1, 1) := by decide +kernel
theorem dX6_nextToken_57 : decode cX6_nextToken 57 = .ok (.bipush 122, 2) := by decide +kernel
theorem dX6_nextToken_59 : decode cX6_nextToken 59 = .ok (.if_icmp .le 15, 3) := by decide +kernel
theorem dX6_nextToken_62 : decode cX6_nextToken 62 = .ok (.iload_n 1, 1) := by decide +kernel
theorem dX6_nextToken_63 : decode cX6_nextToken 63 = .ok (.bipush 44, 2) := by decide +kernel
theorem dX6_nextToken_65 : decode cX6_nextToken 65 = .ok (.if_icmp .eq 9, 3) := by decide +kernel
theorem dX6_nextToken_68 : decode cX6_nextToken 68 = .ok (.iload_n 1, 1) := by decide +kernel
theorem dX6_nextToken_69 : decode cX6_nextToken 69 = .ok (.bipush 59, 2) := by decide +kernel
theorem dX6_nextToken_71 : decode cX6_nextToken 71 = .ok (.if_icmp .ne 7, 3) := by decide +kernel
theorem dX6_nextToken_74 : decode cX6_nextToken 74 = .ok (.iconst 1, 1) := by decide +kernel
theorem dX6_nextToken_75 : decode cX6_nextToken 75 = .ok (.goto 4, 3) := by decide +kernel
theorem dX6_nextToken_78 : decode cX6_nextToken 78 = .ok (.iconst 0, 1) := by decide +kernel
theorem dX6_nextToken_79 : decode cX6_nextToken 79 = .ok (.istore_n 2, 1) := by decide +kernel
theorem dX6_nextToken_80 : decode cX6_nextToken 80 = .ok (.aload_n 0, 1) := by decide +kernel
theorem dX6_nextToken_81 : decode cX6_nextToken 81 = .ok (.iload_n 2, 1) := by decide +kernel
theorem dX6_nextToken_82 : decode cX6_nextToken 82 = .ok (.ifCond .eq 7, 3) := by decide +kernel
theorem dX6_nextToken_85 : decode cX6_nextToken 85 = .ok (.iload_n 1, 1) := by decide +kernel
theorem dX6_nextToken_86 : decode cX6_nextToken 86 = .ok (.goto 4, 3) := by decide +kernel
theorem dX6_nextToken_89 : decode cX6_nextToken 89 = .ok (.iconst 2, 1) := by decide +kernel
theorem dX6_nextToken_90 : decode cX6_nextToken 90 = .ok (.putfield 36, 3) := by decide +kernel
theorem dX6_nextToken_93 : decode cX6_nextToken 93 = .ok (.aload_n 0, 1) := by decide +kernel
theorem dX6_nextToken_94 : decode cX6_nextToken 94 = .ok (.aload_n 0, 1) := by decide +kernel
theorem dX6_nextToken_95 : decode cX6_nextToken 95 = .ok (.getfield 23, 3) := by decide +kernel
theorem dX6_nextToken_98 : decode cX6_nextToken 98 = .ok (.iconst 1, 1) := by decide +kernel
theorem dX6_nextToken_99 : decode cX6_nextToken 99 = .ok (.iadd, 1) := by decide +kernel
theorem dX6_nextToken_100 : decode cX6_nextToken 100 = .ok (.putfield 26, 3) := by decide +kernel
theorem dX6_nextToken_103 : decode cX6_nextToken 103 = .ok (.return_, 1) := by decide +kernel
theorem dX6_readFigures_0 : decode cX6_readFigures 0 = .ok (.aload_n 0, 1) := by decide +kernel
theorem dX6_readFigures_1 : decode cX6_readFigures 1 = .ok (.getfield 23, 3) := by decide +kernel
theorem dX6_readFigures_4 : decode cX6_readFigures 4 = .ok (.istore_n 1, 1) := by decide +kernel
theorem dX6_readFigures_5 : decode cX6_readFigures 5 = .ok (.aload_n 0, 1) := by decide +kernel
theorem dX6_readFigures_6 : decode cX6_readFigures 6 = .ok (.iconst 0, 1) := by decide +kernel
theorem dX6_readFigures_7 : decode cX6_readFigures 7 = .ok (.putfield 50, 3) := by decide +kernel
theorem dX6_readFigures_10 : decode cX6_readFigures 10 = .ok (.iload_n 1, 1) := by decide +kernel
theorem dX6_readFigures_11 : decode cX6_readFigures 11 = .ok (.aload_n 0, 1) := by decide +kernel
theorem dX6_readFigures_12 : decode cX6_readFigures 12 = .ok (.getfield 23, 3) := by decide +kernel
theorem dX6_readFigures_15 : decode cX6_readFigures 15 = .ok (.iconst 3, 1) := by decide +kernel
theorem dX6_readFigures_16 : decode cX6_readFigures 16 = .ok (.iadd, 1) := by decide +kernel
theorem dX6_readFigures_17 : decode cX6_readFigures 17 = .ok (.if_icmp .ge 40, 3) := by decide +kernel
theorem dX6_readFigures_20 : decode cX6_readFigures 20 = .ok (.aload_n 0, 1) := by decide +kernel
theorem dX6_readFigures_21 : decode cX6_readFigures 21 = .ok (.iload_n 1, 1) := by decide +kernel
theorem dX6_readFigures_22 : decode cX6_readFigures 22 = .ok (.invokevirtual 76, 3) := by decide +kernel
theorem dX6_readFigures_25 : decode cX6_readFigures 25 = .ok (.invokestatic 79, 3) := by decide +kernel
theorem dX6_readFigures_28 : decode cX6_readFigures 28 = .ok (.ifCond .eq 29, 3) := by decide +kernel
theorem dX6_readFigures_31 : decode cX6_readFigures 31 = .ok (.aload_n 0, 1) := by decide +kernel
theorem dX6_readFigures_32 : decode cX6_readFigures 32 = .ok (.aload_n 0, 1) := by decide +kernel
theorem dX6_readFigures_33 : decode cX6_readFigures 33 = .ok (.getfield 50, 3) := by decide +kernel
theorem dX6_readFigures_36 : decode cX6_readFigures 36 = .ok (.bipush 10, 2) := by decide +kernel
theorem dX6_readFigures_38 : decode cX6_readFigures 38 = .ok (.imul, 1) := by decide +kernel
theorem dX6_readFigures_39 : decode cX6_readFigures 39 = .ok (.aload_n 0, 1) := by decide +kernel
theorem dX6_readFigures_40 : decode cX6_readFigures 40 = .ok (.iload_n 1, 1) := by decide +kernel
theorem dX6_readFigures_41 : decode cX6_readFigures 41 = .ok (.invokevirtual 76, 3) := by decide +kernel
theorem dX6_readFigures_44 : decode cX6_readFigures 44 = .ok (.iadd, 1) := by decide +kernel
theorem dX6_readFigures_45 : decode cX6_readFigures 45 = .ok (.bipush 48, 2) := by decide +kernel
theorem dX6_readFigures_47 : decode cX6_readFigures 47 = .ok (.isub, 1) := by decide +kernel
theorem dX6_readFigures_48 : decode cX6_readFigures 48 = .ok (.putfield 50, 3) := by decide +kernel
theorem dX6_readFigures_51 : decode cX6_readFigures 51 = .ok (.iinc 1 1, 3) := by decide +kernel
theorem dX6_readFigures_54 : decode cX6_readFigures 54 = .ok (.goto (-44), 3) := by decide +kernel
theorem dX6_readFigures_57 : decode cX6_readFigures 57 = .ok (.aload_n 0, 1) := by decide +kernel
theorem dX6_readFigures_58 : decode cX6_readFigures 58 = .ok (.iload_n 1, 1) := by decide +kernel
theorem dX6_readFigures_59 : decode cX6_readFigures 59 = .ok (.aload_n 0, 1) := by decide +kernel
theorem dX6_readFigures_60 : decode cX6_readFigures 60 = .ok (.getfield 23, 3) := by decide +kernel
theorem dX6_readFigures_63 : decode cX6_readFigures 63 = .ok (.isub, 1) := by decide +kernel
theorem dX6_readFigures_64 : decode cX6_readFigures 64 = .ok (.iconst 2, 1) := by decide +kernel
theorem dX6_readFigures_65 : decode cX6_readFigures 65 = .ok (.if_icmp .le 7, 3) := by decide +kernel
theorem dX6_readFigures_68 : decode cX6_readFigures 68 = .ok (.iconst 2, 1) := by decide +kernel
theorem dX6_readFigures_69 : decode cX6_readFigures 69 = .ok (.goto 4, 3) := by decide +kernel
theorem dX6_readFigures_72 : decode cX6_readFigures 72 = .ok (.iconst 1, 1) := by decide +kernel
theorem dX6_readFigures_73 : decode cX6_readFigures 73 = .ok (.putfield 36, 3) := by decide +kernel
theorem dX6_readFigures_76 : decode cX6_readFigures 76 = .ok (.aload_n 0, 1) := by decide +kernel
theorem dX6_readFigures_77 : decode cX6_readFigures 77 = .ok (.iload_n 1, 1) := by decide +kernel
theorem dX6_readFigures_78 : decode cX6_readFigures 78 = .ok (.putfield 26, 3) := by decide +kernel
theorem dX6_readFigures_81 : decode cX6_readFigures 81 = .ok (.return_, 1) := by decide +kernel
theorem dX6_byteAt_0 : decode cX6_byteAt 0 = .ok (.iload_n 1, 1) := by decide +kernel
theorem dX6_byteAt_1 : decode cX6_byteAt 1 = .ok (.ifCond .lt 20, 3) := by decide +kernel
theorem dX6_byteAt_4 : decode cX6_byteAt 4 = .ok (.iload_n 1, 1) := by decide +kernel
theorem dX6_byteAt_5 : decode cX6_byteAt 5 = .ok (.aload_n 0, 1) := by decide +kernel
theorem dX6_byteAt_6 : decode cX6_byteAt 6 = .ok (.getfield 15, 3) := by decide +kernel
theorem dX6_byteAt_9 : decode cX6_byteAt 9 = .ok (.if_icmp .ge 12, 3) := by decide +kernel
theorem dX6_byteAt_12 : decode cX6_byteAt 12 = .ok (.aload_n 0, 1) := by decide +kernel
theorem dX6_byteAt_13 : decode cX6_byteAt 13 = .ok (.getfield 11, 3) := by decide +kernel
theorem dX6_byteAt_16 : decode cX6_byteAt 16 = .ok (.iload_n 1, 1) := by decide +kernel
theorem dX6_byteAt_17 : decode cX6_byteAt 17 = .ok (.iaload, 1) := by decide +kernel
theorem dX6_byteAt_18 : decode cX6_byteAt 18 = .ok (.goto 4, 3) := by decide +kernel
theorem dX6_byteAt_21 : decode cX6_byteAt 21 = .ok (.iconst (-1), 1) := by decide +kernel
theorem dX6_byteAt_22 : decode cX6_byteAt 22 = .ok (.ireturn, 1) := by decide +kernel
theorem dX6_isFigure_0 : decode cX6_isFigure 0 = .ok (.iload_n 0, 1) := by decide +kernel
theorem dX6_isFigure_1 : decode cX6_isFigure 1 = .ok (.bipush 48, 2) := by decide +kernel
theorem dX6_isFigure_3 : decode cX6_isFigure 3 = .ok (.if_icmp .lt 13, 3) := by decide +kernel
theorem dX6_isFigure_6 : decode cX6_isFigure 6 = .ok (.iload_n 0, 1) := by decide +kernel
theorem dX6_isFigure_7 : decode cX6_isFigure 7 = .ok (.bipush 57, 2) := by decide +kernel
theorem dX6_isFigure_9 : decode cX6_isFigure 9 = .ok (.if_icmp .gt 7, 3) := by decide +kernel
theorem dX6_isFigure_12 : decode cX6_isFigure 12 = .ok (.iconst 1, 1) := by decide +kernel
theorem dX6_isFigure_13 : decode cX6_isFigure 13 = .ok (.goto 4, 3) := by decide +kernel
theorem dX6_isFigure_16 : decode cX6_isFigure 16 = .ok (.iconst 0, 1) := by decide +kernel
theorem dX6_isFigure_17 : decode cX6_isFigure 17 = .ok (.ireturn, 1) := by decide +kernel
end
section
theorem dX2_init_0 : decode cX2_init 0 = .ok (.aload_n 0, 1) := by decide +kernel
theorem dX2_init_1 : decode cX2_init 1 = .ok (.invokespecial 3, 3) := by decide +kernel
theorem dX2_init_4 : decode cX2_init 4 = .ok (.aload_n 0, 1) := by decide +kernel
theorem dX2_init_5 : decode cX2_init 5 = .ok (.aload_n 1, 1) := by decide +kernel
theorem dX2_init_6 : decode cX2_init 6 = .ok (.putfield 9, 3) := by decide +kernel
theorem dX2_init_9 : decode cX2_init 9 = .ok (.aload_n 0, 1) := by decide +kernel
theorem dX2_init_10 : decode cX2_init 10 = .ok (.aload_n 2, 1) := by decide +kernel
theorem dX2_init_11 : decode cX2_init 11 = .ok (.putfield 15, 3) := by decide +kernel
theorem dX2_init_14 : decode cX2_init 14 = .ok (.return_, 1) := by decide +kernel
theorem dX2_behind_0 : decode cX2_behind 0 = .ok (.aload_n 0, 1) := by decide +kernel
theorem dX2_behind_1 : decode cX2_behind 1 = .ok (.getfield 15, 3) := by decide +kernel
theorem dX2_behind_4 : decode cX2_behind 4 = .ok (.aload_n 0, 1) := by decide +kernel
theorem dX2_behind_5 : decode cX2_behind 5 = .ok (.getfield 9, 3) := by decide +kernel
theorem dX2_behind_8 : decode cX2_behind 8 = .ok (.invokevirtual 18, 3) := by decide +kernel
theorem dX2_behind_11 : decode cX2_behind 11 = .ok (.aload_n 0, 1) := by decide +kernel
theorem dX2_behind_12 : decode cX2_behind 12 = .ok (.iload_n 1, 1) := by decide +kernel
theorem dX2_behind_13 : decode cX2_behind 13 = .ok (.invokevirtual 24, 3) := by decide +kernel
theorem dX2_behind_16 : decode cX2_behind 16 = .ok (.areturn, 1) := by decide +kernel
theorem dX2_goOn_0 : decode cX2_goOn 0 = .ok (.iconst 0, 1) := by decide +kernel
theorem dX2_goOn_1 : decode cX2_goOn 1 = .ok (.istore_n 2, 1) := by decide +kernel
theorem dX2_goOn_2 : decode cX2_goOn 2 = .ok (.iload_n 2, 1) := by decide +kernel
theorem dX2_goOn_3 : decode cX2_goOn 3 = .ok (.iload_n 1, 1) := by decide +kernel
theorem dX2_goOn_4 : decode cX2_goOn 4 = .ok (.if_icmp .ge 16, 3) := by decide +kernel
theorem dX2_goOn_7 : decode cX2_goOn 7 = .ok (.aload_n 0, 1) := by decide +kernel
theorem dX2_goOn_8 : decode cX2_goOn 8 = .ok (.getfield 15, 3) := by decide +kernel
theorem dX2_goOn_11 : decode cX2_goOn 11 = .ok (.invokevirtual 28, 3) := by decide +kernel
theorem dX2_goOn_14 : decode cX2_goOn 14 = .ok (.iinc 2 1, 3) := by decide +kernel
theorem dX2_goOn_17 : decode cX2_goOn 17 = .ok (.goto (-15), 3) := by decide +kernel
theorem dX2_goOn_20 : decode cX2_goOn 20 = .ok (.aload_n 0, 1) := by decide +kernel
theorem dX2_goOn_21 : decode cX2_goOn 21 = .ok (.getfield 15, 3) := by decide +kernel
theorem dX2_goOn_24 : decode cX2_goOn 24 = .ok (.areturn, 1) := by decide +kernel
theorem dX2_whenGone_0 : decode cX2_whenGone 0 = .ok (.aload_n 0, 1) := by decide +kernel
theorem dX2_whenGone_1 : decode cX2_whenGone 1 = .ok (.getfield 15, 3) := by decide +kernel
theorem dX2_whenGone_4 : decode cX2_whenGone 4 = .ok (.aload_n 0, 1) := by decide +kernel
theorem dX2_whenGone_5 : decode cX2_whenGone 5 = .ok (.getfield 9, 3) := by decide +kernel
theorem dX2_whenGone_8 : decode cX2_whenGone 8 = .ok (.invokevirtual 18, 3) := by decide +kernel
theorem dX2_whenGone_11 : decode cX2_whenGone 11 = .ok (.iconst 0, 1) := by decide +kernel
theorem dX2_whenGone_12 : decode cX2_whenGone 12 = .ok (.istore_n 2, 1) := by decide +kernel
theorem dX2_whenGone_13 : decode cX2_whenGone 13 = .ok (.iload_n 2, 1) := by decide +kernel
theorem dX2_whenGone_14 : decode cX2_whenGone 14 = .ok (.bipush 60, 2) := by decide +kernel
theorem dX2_whenGone_16 : decode cX2_whenGone 16 = .ok (.if_icmp .gt 29, 3) := by decide +kernel
theorem dX2_whenGone_19 : decode cX2_whenGone 19 = .ok (.aload_n 0, 1) := by decide +kernel
theorem dX2_whenGone_20 : decode cX2_whenGone 20 = .ok (.getfield 15, 3) := by decide +kernel
theorem dX2_whenGone_23 : decode cX2_whenGone 23 = .ok (.iload_n 1, 1) := by decide +kernel
theorem dX2_whenGone_24 : decode cX2_whenGone 24 = .ok (.invokevirtual 31, 3) := by decide +kernel
theorem dX2_whenGone_27 : decode cX2_whenGone 27 = .ok (.ifCond .ne 5, 3) := by decide +kernel
theorem dX2_whenGone_30 : decode cX2_whenGone 30 = .ok (.iload_n 2, 1) := by decide +kernel
theorem dX2_whenGone_31 : decode cX2_whenGone 31 = .ok (.ireturn, 1) := by decide +kernel
theorem dX2_whenGone_32 : decode cX2_whenGone 32 = .ok (.aload_n 0, 1) := by decide +kernel
theorem dX2_whenGone_33 : decode cX2_whenGone 33 = .ok (.getfield 15, 3) := by decide +kernel
theorem dX2_whenGone_36 : decode cX2_whenGone 36 = .ok (.invokevirtual 28, 3) := by decide +kernel
theorem dX2_whenGone_39 : decode cX2_whenGone 39 = .ok (.iinc 2 1, 3) := by decide +kernel
theorem dX2_whenGone_42 : decode cX2_whenGone 42 = .ok (.goto (-29), 3) := by decide +kernel
theorem dX2_whenGone_45 : decode cX2_whenGone 45 = .ok (.ldc 35, 2) := by decide +kernel
theorem dX2_whenGone_47 : decode cX2_whenGone 47 = .ok (.ireturn, 1) := by decide +kernel
theorem dX2_whenEmpty_0 : decode cX2_whenEmpty 0 = .ok (.iconst 1, 1) := by decide +kernel
theorem dX2_whenEmpty_1 : decode cX2_whenEmpty 1 = .ok (.aload_n 0, 1) := by decide +kernel
theorem dX2_whenEmpty_2 : decode cX2_whenEmpty 2 = .ok (.getfield 9, 3) := by decide +kernel
theorem dX2_whenEmpty_5 : decode cX2_whenEmpty 5 = .ok (.getfield 36, 3) := by decide +kernel
theorem dX2_whenEmpty_8 : decode cX2_whenEmpty 8 = .ok (.ishl, 1) := by decide +kernel
theorem dX2_whenEmpty_9 : decode cX2_whenEmpty 9 = .ok (.iconst 1, 1) := by decide +kernel
theorem dX2_whenEmpty_10 : decode cX2_whenEmpty 10 = .ok (.isub, 1) := by decide +kernel
theorem dX2_whenEmpty_11 : decode cX2_whenEmpty 11 = .ok (.istore_n 1, 1) := by decide +kernel
theorem dX2_whenEmpty_12 : decode cX2_whenEmpty 12 = .ok (.aload_n 0, 1) := by decide +kernel
theorem dX2_whenEmpty_13 : decode cX2_whenEmpty 13 = .ok (.getfield 15, 3) := by decide +kernel
theorem dX2_whenEmpty_16 : decode cX2_whenEmpty 16 = .ok (.aload_n 0, 1) := by decide +kernel
theorem dX2_whenEmpty_17 : decode cX2_whenEmpty 17 = .ok (.getfield 9, 3) := by decide +kernel
theorem dX2_whenEmpty_20 : decode cX2_whenEmpty 20 = .ok (.invokevirtual 18, 3) := by decide +kernel
theorem dX2_whenEmpty_23 : decode cX2_whenEmpty 23 = .ok (.iconst 0, 1) := by decide +kernel
theorem dX2_whenEmpty_24 : decode cX2_whenEmpty 24 = .ok (.istore_n 2, 1) := by decide +kernel
theorem dX2_whenEmpty_25 : decode cX2_whenEmpty 25 = .ok (.iload_n 2, 1) := by decide +kernel
theorem dX2_whenEmpty_26 : decode cX2_whenEmpty 26 = .ok (.bipush 60, 2) := by decide +kernel
theorem dX2_whenEmpty_28 : decode cX2_whenEmpty 28 = .ok (.if_icmp .gt 30, 3) := by decide +kernel
theorem dX2_whenEmpty_31 : decode cX2_whenEmpty 31 = .ok (.aload_n 0, 1) := by decide +kernel
theorem dX2_whenEmpty_32 : decode cX2_whenEmpty 32 = .ok (.getfield 15, 3) := by decide +kernel
theorem dX2_whenEmpty_35 : decode cX2_whenEmpty 35 = .ok (.iconst 3, 1) := by decide +kernel
theorem dX2_whenEmpty_36 : decode cX2_whenEmpty 36 = .ok (.invokevirtual 40, 3) := by decide +kernel
theorem dX2_whenEmpty_39 : decode cX2_whenEmpty 39 = .ok (.iload_n 1, 1) := by decide +kernel
theorem dX2_whenEmpty_40 : decode cX2_whenEmpty 40 = .ok (.if_icmp .ne 5, 3) := by decide +kernel
theorem dX2_whenEmpty_43 : decode cX2_whenEmpty 43 = .ok (.iload_n 2, 1) := by decide +kernel
theorem dX2_whenEmpty_44 : decode cX2_whenEmpty 44 = .ok (.ireturn, 1) := by decide +kernel
theorem dX2_whenEmpty_45 : decode cX2_whenEmpty 45 = .ok (.aload_n 0, 1) := by decide +kernel
theorem dX2_whenEmpty_46 : decode cX2_whenEmpty 46 = .ok (.getfield 15, 3) := by decide +kernel
theorem dX2_whenEmpty_49 : decode cX2_whenEmpty 49 = .ok (.invokevirtual 28, 3) := by decide +kernel
theorem dX2_whenEmpty_52 : decode cX2_whenEmpty 52 = .ok (.iinc 2 1, 3) := by decide +kernel
theorem dX2_whenEmpty_55 : decode cX2_whenEmpty 55 = .ok (.goto (-30), 3) := by decide +kernel
theorem dX2_whenEmpty_58 : decode cX2_whenEmpty 58 = .ok (.ldc 35, 2) := by decide +kernel
theorem dX2_whenEmpty_60 : decode cX2_whenEmpty 60 = .ok (.ireturn, 1) := by decide +kernel
theorem dX2_bestStand_0 : decode cX2_bestStand 0 = .ok (.ldc 35, 2) := by decide +kernel
theorem dX2_bestStand_2 : decode cX2_bestStand 2 = .ok (.istore 4, 2) := by decide +kernel
theorem dX2_bestStand_4 : decode cX2_bestStand 4 = .ok (.ldc 35, 2) := by decide +kernel
theorem dX2_bestStand_6 : decode cX2_bestStand 6 = .ok (.istore 5, 2) := by decide +kernel
theorem dX2_bestStand_8 : decode cX2_bestStand 8 = .ok (.iconst 0, 1) := by decide +kernel
theorem dX2_bestStand_9 : decode cX2_bestStand 9 = .ok (.istore 6, 2) := by decide +kernel
theorem dX2_bestStand_11 : decode cX2_bestStand 11 = .ok (.iload 6, 2) := by decide +kernel
theorem dX2_bestStand_13 : decode cX2_bestStand 13 = .ok (.aload_n 0, 1) := by decide +kernel
theorem dX2_bestStand_14 : decode cX2_bestStand 14 = .ok (.getfield 9, 3) := by decide +kernel
theorem dX2_bestStand_17 : decode cX2_bestStand 17 = .ok (.getfield 44, 3) := by decide +kernel
theorem dX2_bestStand_20 : decode cX2_bestStand 20 = .ok (.if_icmp .ge 52, 3) := by decide +kernel
theorem dX2_bestStand_23 : decode cX2_bestStand 23 = .ok (.iload 5, 2) := by decide +kernel
theorem dX2_bestStand_25 : decode cX2_bestStand 25 = .ok (.ldc 35, 2) := by decide +kernel
theorem dX2_bestStand_27 : decode cX2_bestStand 27 = .ok (.if_icmp .ne 7, 3) := by decide +kernel
theorem dX2_bestStand_30 : decode cX2_bestStand 30 = .ok (.iload_n 2, 1) := by decide +kernel
theorem dX2_bestStand_31 : decode cX2_bestStand 31 = .ok (.goto 7, 3) := by decide +kernel
theorem dX2_bestStand_34 : decode cX2_bestStand 34 = .ok (.iload 5, 2) := by decide +kernel
theorem dX2_bestStand_36 : decode cX2_bestStand 36 = .ok (.iconst 1, 1) := by decide +kernel
theorem dX2_bestStand_37 : decode cX2_bestStand 37 = .ok (.isub, 1) := by decide +kernel
theorem dX2_bestStand_38 : decode cX2_bestStand 38 = .ok (.istore 7, 2) := by decide +kernel
theorem dX2_bestStand_40 : decode cX2_bestStand 40 = .ok (.aload_n 0, 1) := by decide +kernel
theorem dX2_bestStand_41 : decode cX2_bestStand 41 = .ok (.iload_n 1, 1) := by decide +kernel
theorem dX2_bestStand_42 : decode cX2_bestStand 42 = .ok (.iload 6, 2) := by decide +kernel
theorem dX2_bestStand_44 : decode cX2_bestStand 44 = .ok (.iload 7, 2) := by decide +kernel
theorem dX2_bestStand_46 : decode cX2_bestStand 46 = .ok (.invokevirtual 47, 3) := by decide +kernel
theorem dX2_bestStand_49 : decode cX2_bestStand 49 = .ok (.istore 8, 2) := by decide +kernel
theorem dX2_bestStand_51 : decode cX2_bestStand 51 = .ok (.iload 8, 2) := by decide +kernel
theorem dX2_bestStand_53 : decode cX2_bestStand 53 = .ok (.ldc 35, 2) := by decide +kernel
theorem dX2_bestStand_55 : decode cX2_bestStand 55 = .ok (.if_icmp .eq 11, 3) := by decide +kernel
theorem dX2_bestStand_58 : decode cX2_bestStand 58 = .ok (.iload 6, 2) := by decide +kernel
theorem dX2_bestStand_60 : decode cX2_bestStand 60 = .ok (.istore 4, 2) := by decide +kernel
theorem dX2_bestStand_62 : decode cX2_bestStand 62 = .ok (.iload 8, 2) := by decide +kernel
theorem dX2_bestStand_64 : decode cX2_bestStand 64 = .ok (.istore 5, 2) := by decide +kernel
theorem dX2_bestStand_66 : decode cX2_bestStand 66 = .ok (.iinc 6 1, 3) := by decide +kernel
theorem dX2_bestStand_69 : decode cX2_bestStand 69 = .ok (.goto (-58), 3) := by decide +kernel
theorem dX2_bestStand_72 : decode cX2_bestStand 72 = .ok (.iload_n 3, 1) := by decide +kernel
theorem dX2_bestStand_73 : decode cX2_bestStand 73 = .ok (.ifCond .ne 8, 3) := by decide +kernel
theorem dX2_bestStand_76 : decode cX2_bestStand 76 = .ok (.iload 4, 2) := by decide +kernel
theorem dX2_bestStand_78 : decode cX2_bestStand 78 = .ok (.goto 5, 3) := by decide +kernel
theorem dX2_bestStand_81 : decode cX2_bestStand 81 = .ok (.iload 5, 2) := by decide +kernel
theorem dX2_bestStand_83 : decode cX2_bestStand 83 = .ok (.ireturn, 1) := by decide +kernel
theorem dX2_whenGoneWithOwn_0 : decode cX2_whenGoneWithOwn 0 = .ok (.aload_n 0, 1) := by decide +kernel
theorem dX2_whenGoneWithOwn_1 : decode cX2_whenGoneWithOwn 1 = .ok (.getfield 15, 3) := by decide +kernel
theorem dX2_whenGoneWithOwn_4 : decode cX2_whenGoneWithOwn 4 = .ok (.aload_n 0, 1) := by decide +kernel
theorem dX2_whenGoneWithOwn_5 : decode cX2_whenGoneWithOwn 5 = .ok (.getfield 9, 3) := by decide +kernel
theorem dX2_whenGoneWithOwn_8 : decode cX2_whenGoneWithOwn 8 = .ok (.invokevirtual 18, 3) := by decide +kernel
theorem dX2_whenGoneWithOwn_11 : decode cX2_whenGoneWithOwn 11 = .ok (.aload_n 0, 1) := by decide +kernel
theorem dX2_whenGoneWithOwn_12 : decode cX2_whenGoneWithOwn 12 = .ok (.getfield 15, 3) := by decide +kernel
theorem dX2_whenGoneWithOwn_15 : decode cX2_whenGoneWithOwn 15 = .ok (.getfield 51, 3) := by decide +kernel
theorem dX2_whenGoneWithOwn_18 : decode cX2_whenGoneWithOwn 18 = .ok (.iload_n 1, 1) := by decide +kernel
theorem dX2_whenGoneWithOwn_19 : decode cX2_whenGoneWithOwn 19 = .ok (.iload_n 2, 1) := by decide +kernel
theorem dX2_whenGoneWithOwn_20 : decode cX2_whenGoneWithOwn 20 = .ok (.iastore, 1) := by decide +kernel
theorem dX2_whenGoneWithOwn_21 : decode cX2_whenGoneWithOwn 21 = .ok (.iconst 1, 1) := by decide +kernel
theorem dX2_whenGoneWithOwn_22 : decode cX2_whenGoneWithOwn 22 = .ok (.istore 4, 2) := by decide +kernel
theorem dX2_whenGoneWithOwn_24 : decode cX2_whenGoneWithOwn 24 = .ok (.iload 4, 2) := by decide +kernel
theorem dX2_whenGoneWithOwn_26 : decode cX2_whenGoneWithOwn 26 = .ok (.iload_n 3, 1) := by decide +kernel
theorem dX2_whenGoneWithOwn_27 : decode cX2_whenGoneWithOwn 27 = .ok (.if_icmp .gt 46, 3) := by decide +kernel
theorem dX2_whenGoneWithOwn_30 : decode cX2_whenGoneWithOwn 30 = .ok (.aload_n 0, 1) := by decide +kernel
theorem dX2_whenGoneWithOwn_31 : decode cX2_whenGoneWithOwn 31 = .ok (.getfield 15, 3) := by decide +kernel
theorem dX2_whenGoneWithOwn_34 : decode cX2_whenGoneWithOwn 34 = .ok (.invokevirtual 28, 3) := by decide +kernel
theorem dX2_whenGoneWithOwn_37 : decode cX2_whenGoneWithOwn 37 = .ok (.aload_n 0, 1) := by decide +kernel
theorem dX2_whenGoneWithOwn_38 : decode cX2_whenGoneWithOwn 38 = .ok (.getfield 15, 3) := by decide +kernel
theorem dX2_whenGoneWithOwn_41 : decode cX2_whenGoneWithOwn 41 = .ok (.iload_n 1, 1) := by decide +kernel
theorem dX2_whenGoneWithOwn_42 : decode cX2_whenGoneWithOwn 42 = .ok (.invokevirtual 31, 3) := by decide +kernel
theorem dX2_whenGoneWithOwn_45 : decode cX2_whenGoneWithOwn 45 = .ok (.ifCond .ne 22, 3) := by decide +kernel
theorem dX2_whenGoneWithOwn_48 : decode cX2_whenGoneWithOwn 48 = .ok (.aload_n 0, 1) := by decide +kernel
theorem dX2_whenGoneWithOwn_49 : decode cX2_whenGoneWithOwn 49 = .ok (.getfield 15, 3) := by decide +kernel
theorem dX2_whenGoneWithOwn_52 : decode cX2_whenGoneWithOwn 52 = .ok (.iload_n 1, 1) := by decide +kernel
theorem dX2_whenGoneWithOwn_53 : decode cX2_whenGoneWithOwn 53 = .ok (.invokevirtual 55, 3) := by decide +kernel
theorem dX2_whenGoneWithOwn_56 : decode cX2_whenGoneWithOwn 56 = .ok (.ifCond .eq 8, 3) := by decide +kernel
theorem dX2_whenGoneWithOwn_59 : decode cX2_whenGoneWithOwn 59 = .ok (.ldc 35, 2) := by decide +kernel
theorem dX2_whenGoneWithOwn_61 : decode cX2_whenGoneWithOwn 61 = .ok (.goto 5, 3) := by decide +kernel
theorem dX2_whenGoneWithOwn_64 : decode cX2_whenGoneWithOwn 64 = .ok (.iload 4, 2) := by decide +kernel
theorem dX2_whenGoneWithOwn_66 : decode cX2_whenGoneWithOwn 66 = .ok (.ireturn, 1) := by decide +kernel
theorem dX2_whenGoneWithOwn_67 : decode cX2_whenGoneWithOwn 67 = .ok (.iinc 4 1, 3) := by decide +kernel
theorem dX2_whenGoneWithOwn_70 : decode cX2_whenGoneWithOwn 70 = .ok (.goto (-46), 3) := by decide +kernel
theorem dX2_whenGoneWithOwn_73 : decode cX2_whenGoneWithOwn 73 = .ok (.ldc 35, 2) := by decide +kernel
theorem dX2_whenGoneWithOwn_75 : decode cX2_whenGoneWithOwn 75 = .ok (.ireturn, 1) := by decide +kernel
theorem dX2_fewestMarks_0 : decode cX2_fewestMarks 0 = .ok (.aload_n 0, 1) := by decide +kernel
theorem dX2_fewestMarks_1 : decode cX2_fewestMarks 1 = .ok (.getfield 9, 3) := by decide +kernel
theorem dX2_fewestMarks_4 : decode cX2_fewestMarks 4 = .ok (.iconst 5, 1) := by decide +kernel
theorem dX2_fewestMarks_5 : decode cX2_fewestMarks 5 = .ok (.invokevirtual 40, 3) := by decide +kernel
theorem dX2_fewestMarks_8 : decode cX2_fewestMarks 8 = .ok (.istore_n 2, 1) := by decide +kernel
theorem dX2_fewestMarks_9 : decode cX2_fewestMarks 9 = .ok (.iconst 1, 1) := by decide +kernel
theorem dX2_fewestMarks_10 : decode cX2_fewestMarks 10 = .ok (.aload_n 0, 1) := by decide +kernel
theorem dX2_fewestMarks_11 : decode cX2_fewestMarks 11 = .ok (.getfield 9, 3) := by decide +kernel
theorem dX2_fewestMarks_14 : decode cX2_fewestMarks 14 = .ok (.getfield 36, 3) := by decide +kernel
theorem dX2_fewestMarks_17 : decode cX2_fewestMarks 17 = .ok (.ishl, 1) := by decide +kernel
theorem dX2_fewestMarks_18 : decode cX2_fewestMarks 18 = .ok (.iconst 1, 1) := by decide +kernel
theorem dX2_fewestMarks_19 : decode cX2_fewestMarks 19 = .ok (.isub, 1) := by decide +kernel
theorem dX2_fewestMarks_20 : decode cX2_fewestMarks 20 = .ok (.istore_n 3, 1) := by decide +kernel
theorem dX2_fewestMarks_21 : decode cX2_fewestMarks 21 = .ok (.iconst 0, 1) := by decide +kernel
theorem dX2_fewestMarks_22 : decode cX2_fewestMarks 22 = .ok (.istore 4, 2) := by decide +kernel
theorem dX2_fewestMarks_24 : decode cX2_fewestMarks 24 = .ok (.iload 4, 2) := by decide +kernel
theorem dX2_fewestMarks_26 : decode cX2_fewestMarks 26 = .ok (.iconst 1, 1) := by decide +kernel
theorem dX2_fewestMarks_27 : decode cX2_fewestMarks 27 = .ok (.aload_n 0, 1) := by decide +kernel
theorem dX2_fewestMarks_28 : decode cX2_fewestMarks 28 = .ok (.getfield 9, 3) := by decide +kernel
theorem dX2_fewestMarks_31 : decode cX2_fewestMarks 31 = .ok (.getfield 36, 3) := by decide +kernel
theorem dX2_fewestMarks_34 : decode cX2_fewestMarks 34 = .ok (.ishl, 1) := by decide +kernel
theorem dX2_fewestMarks_35 : decode cX2_fewestMarks 35 = .ok (.if_icmp .ge 61, 3) := by decide +kernel
theorem dX2_fewestMarks_38 : decode cX2_fewestMarks 38 = .ok (.iload 4, 2) := by decide +kernel
theorem dX2_fewestMarks_40 : decode cX2_fewestMarks 40 = .ok (.invokestatic 58, 3) := by decide +kernel
theorem dX2_fewestMarks_43 : decode cX2_fewestMarks 43 = .ok (.iload_n 3, 1) := by decide +kernel
theorem dX2_fewestMarks_44 : decode cX2_fewestMarks 44 = .ok (.invokestatic 58, 3) := by decide +kernel
theorem dX2_fewestMarks_47 : decode cX2_fewestMarks 47 = .ok (.if_icmp .ge 43, 3) := by decide +kernel
theorem dX2_fewestMarks_50 : decode cX2_fewestMarks 50 = .ok (.aload_n 0, 1) := by decide +kernel
theorem dX2_fewestMarks_51 : decode cX2_fewestMarks 51 = .ok (.getfield 15, 3) := by decide +kernel
theorem dX2_fewestMarks_54 : decode cX2_fewestMarks 54 = .ok (.aload_n 0, 1) := by decide +kernel
theorem dX2_fewestMarks_55 : decode cX2_fewestMarks 55 = .ok (.getfield 9, 3) := by decide +kernel
theorem dX2_fewestMarks_58 : decode cX2_fewestMarks 58 = .ok (.invokevirtual 18, 3) := by decide +kernel
theorem dX2_fewestMarks_61 : decode cX2_fewestMarks 61 = .ok (.aload_n 0, 1) := by decide +kernel
theorem dX2_fewestMarks_62 : decode cX2_fewestMarks 62 = .ok (.iload 4, 2) := by decide +kernel
theorem dX2_fewestMarks_64 : decode cX2_fewestMarks 64 = .ok (.invokevirtual 63, 3) := by decide +kernel
theorem dX2_fewestMarks_67 : decode cX2_fewestMarks 67 = .ok (.aload_n 0, 1) := by decide +kernel
theorem dX2_fewestMarks_68 : decode cX2_fewestMarks 68 = .ok (.iload_n 1, 1) := by decide +kernel
theorem dX2_fewestMarks_69 : decode cX2_fewestMarks 69 = .ok (.invokevirtual 24, 3) := by decide +kernel
theorem dX2_fewestMarks_72 : decode cX2_fewestMarks 72 = .ok (.iconst 5, 1) := by decide +kernel
theorem dX2_fewestMarks_73 : decode cX2_fewestMarks 73 = .ok (.invokevirtual 40, 3) := by decide +kernel
theorem dX2_fewestMarks_76 : decode cX2_fewestMarks 76 = .ok (.iload_n 2, 1) := by decide +kernel
theorem dX2_fewestMarks_77 : decode cX2_fewestMarks 77 = .ok (.iconst (-1), 1) := by decide +kernel
theorem dX2_fewestMarks_78 : decode cX2_fewestMarks 78 = .ok (.ixor, 1) := by decide +kernel
theorem dX2_fewestMarks_79 : decode cX2_fewestMarks 79 = .ok (.iand, 1) := by decide +kernel
theorem dX2_fewestMarks_80 : decode cX2_fewestMarks 80 = .ok (.ifCond .ne 8, 3) := by decide +kernel
theorem dX2_fewestMarks_83 : decode cX2_fewestMarks 83 = .ok (.iload 4, 2) := by decide +kernel
theorem dX2_fewestMarks_85 : decode cX2_fewestMarks 85 = .ok (.goto 4, 3) := by decide +kernel
theorem dX2_fewestMarks_88 : decode cX2_fewestMarks 88 = .ok (.iload_n 3, 1) := by decide +kernel
theorem dX2_fewestMarks_89 : decode cX2_fewestMarks 89 = .ok (.istore_n 3, 1) := by decide +kernel
theorem dX2_fewestMarks_90 : decode cX2_fewestMarks 90 = .ok (.iinc 4 1, 3) := by decide +kernel
theorem dX2_fewestMarks_93 : decode cX2_fewestMarks 93 = .ok (.goto (-69), 3) := by decide +kernel
theorem dX2_fewestMarks_96 : decode cX2_fewestMarks 96 = .ok (.iload_n 3, 1) := by decide +kernel
theorem dX2_fewestMarks_97 : decode cX2_fewestMarks 97 = .ok (.ireturn, 1) := by decide +kernel
theorem dX2_markEach_0 : decode cX2_markEach 0 = .ok (.iconst 0, 1) := by decide +kernel
theorem dX2_markEach_1 : decode cX2_markEach 1 = .ok (.istore_n 2, 1) := by decide +kernel
theorem dX2_markEach_2 : decode cX2_markEach 2 = .ok (.iload_n 2, 1) := by decide +kernel
theorem dX2_markEach_3 : decode cX2_markEach 3 = .ok (.aload_n 0, 1) := by decide +kernel
theorem dX2_markEach_4 : decode cX2_markEach 4 = .ok (.getfield 15, 3) := by decide +kernel
theorem dX2_markEach_7 : decode cX2_markEach 7 = .ok (.getfield 36, 3) := by decide +kernel
theorem dX2_markEach_10 : decode cX2_markEach 10 = .ok (.if_icmp .ge 31, 3) := by decide +kernel
theorem dX2_markEach_13 : decode cX2_markEach 13 = .ok (.iload_n 1, 1) := by decide +kernel
theorem dX2_markEach_14 : decode cX2_markEach 14 = .ok (.iload_n 2, 1) := by decide +kernel
theorem dX2_markEach_15 : decode cX2_markEach 15 = .ok (.ishr, 1) := by decide +kernel
theorem dX2_markEach_16 : decode cX2_markEach 16 = .ok (.iconst 1, 1) := by decide +kernel
theorem dX2_markEach_17 : decode cX2_markEach 17 = .ok (.iand, 1) := by decide +kernel
theorem dX2_markEach_18 : decode cX2_markEach 18 = .ok (.iconst 1, 1) := by decide +kernel
theorem dX2_markEach_19 : decode cX2_markEach 19 = .ok (.if_icmp .ne 16, 3) := by decide +kernel
theorem dX2_markEach_22 : decode cX2_markEach 22 = .ok (.aload_n 0, 1) := by decide +kernel
theorem dX2_markEach_23 : decode cX2_markEach 23 = .ok (.getfield 15, 3) := by decide +kernel
theorem dX2_markEach_26 : decode cX2_markEach 26 = .ok (.getfield 67, 3) := by decide +kernel
theorem dX2_markEach_29 : decode cX2_markEach 29 = .ok (.iload_n 2, 1) := by decide +kernel
theorem dX2_markEach_30 : decode cX2_markEach 30 = .ok (.bipush 10, 2) := by decide +kernel
theorem dX2_markEach_32 : decode cX2_markEach 32 = .ok (.iload_n 2, 1) := by decide +kernel
theorem dX2_markEach_33 : decode cX2_markEach 33 = .ok (.iadd, 1) := by decide +kernel
theorem dX2_markEach_34 : decode cX2_markEach 34 = .ok (.iastore, 1) := by decide +kernel
theorem dX2_markEach_35 : decode cX2_markEach 35 = .ok (.iinc 2 1, 3) := by decide +kernel
theorem dX2_markEach_38 : decode cX2_markEach 38 = .ok (.goto (-36), 3) := by decide +kernel
theorem dX2_markEach_41 : decode cX2_markEach 41 = .ok (.return_, 1) := by decide +kernel
theorem dX2_setsThatSaw_0 : decode cX2_setsThatSaw 0 = .ok (.aload_n 0, 1) := by decide +kernel
theorem dX2_setsThatSaw_1 : decode cX2_setsThatSaw 1 = .ok (.getfield 9, 3) := by decide +kernel
theorem dX2_setsThatSaw_4 : decode cX2_setsThatSaw 4 = .ok (.iconst 4, 1) := by decide +kernel
theorem dX2_setsThatSaw_5 : decode cX2_setsThatSaw 5 = .ok (.invokevirtual 40, 3) := by decide +kernel
theorem dX2_setsThatSaw_8 : decode cX2_setsThatSaw 8 = .ok (.istore_n 3, 1) := by decide +kernel
theorem dX2_setsThatSaw_9 : decode cX2_setsThatSaw 9 = .ok (.iconst 0, 1) := by decide +kernel
theorem dX2_setsThatSaw_10 : decode cX2_setsThatSaw 10 = .ok (.istore 4, 2) := by decide +kernel
theorem dX2_setsThatSaw_12 : decode cX2_setsThatSaw 12 = .ok (.iload_n 3, 1) := by decide +kernel
theorem dX2_setsThatSaw_13 : decode cX2_setsThatSaw 13 = .ok (.istore 5, 2) := by decide +kernel
theorem dX2_setsThatSaw_15 : decode cX2_setsThatSaw 15 = .ok (.iconst 0, 1) := by decide +kernel
theorem dX2_setsThatSaw_16 : decode cX2_setsThatSaw 16 = .ok (.istore 6, 2) := by decide +kernel
theorem dX2_setsThatSaw_18 : decode cX2_setsThatSaw 18 = .ok (.iconst 0, 1) := by decide +kernel
theorem dX2_setsThatSaw_19 : decode cX2_setsThatSaw 19 = .ok (.istore 7, 2) := by decide +kernel
theorem dX2_setsThatSaw_21 : decode cX2_setsThatSaw 21 = .ok (.iload 7, 2) := by decide +kernel
theorem dX2_setsThatSaw_23 : decode cX2_setsThatSaw 23 = .ok (.iload_n 3, 1) := by decide +kernel
theorem dX2_setsThatSaw_24 : decode cX2_setsThatSaw 24 = .ok (.if_icmp .gt 45, 3) := by decide +kernel
theorem dX2_setsThatSaw_27 : decode cX2_setsThatSaw 27 = .ok (.iload 7, 2) := by decide +kernel
theorem dX2_setsThatSaw_29 : decode cX2_setsThatSaw 29 = .ok (.iload_n 3, 1) := by decide +kernel
theorem dX2_setsThatSaw_30 : decode cX2_setsThatSaw 30 = .ok (.iconst (-1), 1) := by decide +kernel
theorem dX2_setsThatSaw_31 : decode cX2_setsThatSaw 31 = .ok (.ixor, 1) := by decide +kernel
theorem dX2_setsThatSaw_32 : decode cX2_setsThatSaw 32 = .ok (.iand, 1) := by decide +kernel
theorem dX2_setsThatSaw_33 : decode cX2_setsThatSaw 33 = .ok (.ifCond .ne 30, 3) := by decide +kernel
theorem dX2_setsThatSaw_36 : decode cX2_setsThatSaw 36 = .ok (.aload_n 0, 1) := by decide +kernel
theorem dX2_setsThatSaw_37 : decode cX2_setsThatSaw 37 = .ok (.iload 7, 2) := by decide +kernel
theorem dX2_setsThatSaw_39 : decode cX2_setsThatSaw 39 = .ok (.invokevirtual 70, 3) := by decide +kernel
theorem dX2_setsThatSaw_42 : decode cX2_setsThatSaw 42 = .ok (.iload_n 1, 1) := by decide +kernel
theorem dX2_setsThatSaw_43 : decode cX2_setsThatSaw 43 = .ok (.if_icmp .ne 20, 3) := by decide +kernel
theorem dX2_setsThatSaw_46 : decode cX2_setsThatSaw 46 = .ok (.iinc 4 1, 3) := by decide +kernel
theorem dX2_setsThatSaw_49 : decode cX2_setsThatSaw 49 = .ok (.iload 5, 2) := by decide +kernel
theorem dX2_setsThatSaw_51 : decode cX2_setsThatSaw 51 = .ok (.iload 7, 2) := by decide +kernel
theorem dX2_setsThatSaw_53 : decode cX2_setsThatSaw 53 = .ok (.iand, 1) := by decide +kernel
theorem dX2_setsThatSaw_54 : decode cX2_setsThatSaw 54 = .ok (.istore 5, 2) := by decide +kernel
theorem dX2_setsThatSaw_56 : decode cX2_setsThatSaw 56 = .ok (.iload 6, 2) := by decide +kernel
theorem dX2_setsThatSaw_58 : decode cX2_setsThatSaw 58 = .ok (.iload 7, 2) := by decide +kernel
theorem dX2_setsThatSaw_60 : decode cX2_setsThatSaw 60 = .ok (.ior, 1) := by decide +kernel
theorem dX2_setsThatSaw_61 : decode cX2_setsThatSaw 61 = .ok (.istore 6, 2) := by decide +kernel
theorem dX2_setsThatSaw_63 : decode cX2_setsThatSaw 63 = .ok (.iinc 7 1, 3) := by decide +kernel
theorem dX2_setsThatSaw_66 : decode cX2_setsThatSaw 66 = .ok (.goto (-45), 3) := by decide +kernel
theorem dX2_setsThatSaw_69 : decode cX2_setsThatSaw 69 = .ok (.iload_n 2, 1) := by decide +kernel
theorem dX2_setsThatSaw_70 : decode cX2_setsThatSaw 70 = .ok (.ifCond .ne 6, 3) := by decide +kernel
theorem dX2_setsThatSaw_73 : decode cX2_setsThatSaw 73 = .ok (.iload 4, 2) := by decide +kernel
theorem dX2_setsThatSaw_75 : decode cX2_setsThatSaw 75 = .ok (.ireturn, 1) := by decide +kernel
theorem dX2_setsThatSaw_76 : decode cX2_setsThatSaw 76 = .ok (.iload 4, 2) := by decide +kernel
theorem dX2_setsThatSaw_78 : decode cX2_setsThatSaw 78 = .ok (.ifCond .ne 7, 3) := by decide +kernel
theorem dX2_setsThatSaw_81 : decode cX2_setsThatSaw 81 = .ok (.iconst 0, 1) := by decide +kernel
theorem dX2_setsThatSaw_82 : decode cX2_setsThatSaw 82 = .ok (.goto 15, 3) := by decide +kernel
theorem dX2_setsThatSaw_85 : decode cX2_setsThatSaw 85 = .ok (.iload_n 2, 1) := by decide +kernel
theorem dX2_setsThatSaw_86 : decode cX2_setsThatSaw 86 = .ok (.iconst 1, 1) := by decide +kernel
theorem dX2_setsThatSaw_87 : decode cX2_setsThatSaw 87 = .ok (.if_icmp .ne 8, 3) := by decide +kernel
theorem dX2_setsThatSaw_90 : decode cX2_setsThatSaw 90 = .ok (.iload 5, 2) := by decide +kernel
theorem dX2_setsThatSaw_92 : decode cX2_setsThatSaw 92 = .ok (.goto 5, 3) := by decide +kernel
theorem dX2_setsThatSaw_95 : decode cX2_setsThatSaw 95 = .ok (.iload 6, 2) := by decide +kernel
theorem dX2_setsThatSaw_97 : decode cX2_setsThatSaw 97 = .ok (.ireturn, 1) := by decide +kernel
theorem dX2_seenBy_0 : decode cX2_seenBy 0 = .ok (.iconst 0, 1) := by decide +kernel
theorem dX2_seenBy_1 : decode cX2_seenBy 1 = .ok (.istore_n 2, 1) := by decide +kernel
theorem dX2_seenBy_2 : decode cX2_seenBy 2 = .ok (.iconst 0, 1) := by decide +kernel
theorem dX2_seenBy_3 : decode cX2_seenBy 3 = .ok (.istore_n 3, 1) := by decide +kernel
theorem dX2_seenBy_4 : decode cX2_seenBy 4 = .ok (.iload_n 3, 1) := by decide +kernel
theorem dX2_seenBy_5 : decode cX2_seenBy 5 = .ok (.aload_n 0, 1) := by decide +kernel
theorem dX2_seenBy_6 : decode cX2_seenBy 6 = .ok (.getfield 9, 3) := by decide +kernel
theorem dX2_seenBy_9 : decode cX2_seenBy 9 = .ok (.getfield 36, 3) := by decide +kernel
theorem dX2_seenBy_12 : decode cX2_seenBy 12 = .ok (.if_icmp .ge 34, 3) := by decide +kernel
theorem dX2_seenBy_15 : decode cX2_seenBy 15 = .ok (.iload_n 2, 1) := by decide +kernel
theorem dX2_seenBy_16 : decode cX2_seenBy 16 = .ok (.iload_n 1, 1) := by decide +kernel
theorem dX2_seenBy_17 : decode cX2_seenBy 17 = .ok (.iload_n 3, 1) := by decide +kernel
theorem dX2_seenBy_18 : decode cX2_seenBy 18 = .ok (.ishr, 1) := by decide +kernel
theorem dX2_seenBy_19 : decode cX2_seenBy 19 = .ok (.iconst 1, 1) := by decide +kernel
theorem dX2_seenBy_20 : decode cX2_seenBy 20 = .ok (.iand, 1) := by decide +kernel
theorem dX2_seenBy_21 : decode cX2_seenBy 21 = .ok (.iconst 1, 1) := by decide +kernel
theorem dX2_seenBy_22 : decode cX2_seenBy 22 = .ok (.if_icmp .ne 15, 3) := by decide +kernel
theorem dX2_seenBy_25 : decode cX2_seenBy 25 = .ok (.aload_n 0, 1) := by decide +kernel
theorem dX2_seenBy_26 : decode cX2_seenBy 26 = .ok (.getfield 9, 3) := by decide +kernel
theorem dX2_seenBy_29 : decode cX2_seenBy 29 = .ok (.getfield 73, 3) := by decide +kernel
theorem dX2_seenBy_32 : decode cX2_seenBy 32 = .ok (.iload_n 3, 1) := by decide +kernel
theorem dX2_seenBy_33 : decode cX2_seenBy 33 = .ok (.iaload, 1) := by decide +kernel
theorem dX2_seenBy_34 : decode cX2_seenBy 34 = .ok (.goto 4, 3) := by decide +kernel
theorem dX2_seenBy_37 : decode cX2_seenBy 37 = .ok (.iconst 0, 1) := by decide +kernel
theorem dX2_seenBy_38 : decode cX2_seenBy 38 = .ok (.iadd, 1) := by decide +kernel
theorem dX2_seenBy_39 : decode cX2_seenBy 39 = .ok (.istore_n 2, 1) := by decide +kernel
theorem dX2_seenBy_40 : decode cX2_seenBy 40 = .ok (.iinc 3 1, 3) := by decide +kernel
theorem dX2_seenBy_43 : decode cX2_seenBy 43 = .ok (.goto (-39), 3) := by decide +kernel
theorem dX2_seenBy_46 : decode cX2_seenBy 46 = .ok (.iload_n 2, 1) := by decide +kernel
theorem dX2_seenBy_47 : decode cX2_seenBy 47 = .ok (.ireturn, 1) := by decide +kernel
theorem dX2_outcomeOfTurns_0 : decode cX2_outcomeOfTurns 0 = .ok (.iload_n 3, 1) := by decide +kernel
theorem dX2_outcomeOfTurns_1 : decode cX2_outcomeOfTurns 1 = .ok (.iload_n 1, 1) := by decide +kernel
theorem dX2_outcomeOfTurns_2 : decode cX2_outcomeOfTurns 2 = .ok (.if_icmp .lt 37, 3) := by decide +kernel
theorem dX2_outcomeOfTurns_5 : decode cX2_outcomeOfTurns 5 = .ok (.aload_n 0, 1) := by decide +kernel
theorem dX2_outcomeOfTurns_6 : decode cX2_outcomeOfTurns 6 = .ok (.getfield 15, 3) := by decide +kernel
theorem dX2_outcomeOfTurns_9 : decode cX2_outcomeOfTurns 9 = .ok (.aload_n 0, 1) := by decide +kernel
theorem dX2_outcomeOfTurns_10 : decode cX2_outcomeOfTurns 10 = .ok (.getfield 9, 3) := by decide +kernel
theorem dX2_outcomeOfTurns_13 : decode cX2_outcomeOfTurns 13 = .ok (.invokevirtual 18, 3) := by decide +kernel
theorem dX2_outcomeOfTurns_16 : decode cX2_outcomeOfTurns 16 = .ok (.aload_n 0, 1) := by decide +kernel
theorem dX2_outcomeOfTurns_17 : decode cX2_outcomeOfTurns 17 = .ok (.getfield 15, 3) := by decide +kernel
theorem dX2_outcomeOfTurns_20 : decode cX2_outcomeOfTurns 20 = .ok (.iload 4, 2) := by decide +kernel
theorem dX2_outcomeOfTurns_22 : decode cX2_outcomeOfTurns 22 = .ok (.invokevirtual 76, 3) := by decide +kernel
theorem dX2_outcomeOfTurns_25 : decode cX2_outcomeOfTurns 25 = .ok (.aload_n 0, 1) := by decide +kernel
theorem dX2_outcomeOfTurns_26 : decode cX2_outcomeOfTurns 26 = .ok (.iload_n 2, 1) := by decide +kernel
theorem dX2_outcomeOfTurns_27 : decode cX2_outcomeOfTurns 27 = .ok (.invokevirtual 24, 3) := by decide +kernel
theorem dX2_outcomeOfTurns_30 : decode cX2_outcomeOfTurns 30 = .ok (.bipush 7, 2) := by decide +kernel
theorem dX2_outcomeOfTurns_32 : decode cX2_outcomeOfTurns 32 = .ok (.invokevirtual 40, 3) := by decide +kernel
theorem dX2_outcomeOfTurns_35 : decode cX2_outcomeOfTurns 35 = .ok (.invokestatic 58, 3) := by decide +kernel
theorem dX2_outcomeOfTurns_38 : decode cX2_outcomeOfTurns 38 = .ok (.ireturn, 1) := by decide +kernel
theorem dX2_outcomeOfTurns_39 : decode cX2_outcomeOfTurns 39 = .ok (.iload_n 3, 1) := by decide +kernel
theorem dX2_outcomeOfTurns_40 : decode cX2_outcomeOfTurns 40 = .ok (.iconst 1, 1) := by decide +kernel
theorem dX2_outcomeOfTurns_41 : decode cX2_outcomeOfTurns 41 = .ok (.iand, 1) := by decide +kernel
theorem dX2_outcomeOfTurns_42 : decode cX2_outcomeOfTurns 42 = .ok (.ifCond .ne 7, 3) := by decide +kernel
theorem dX2_outcomeOfTurns_45 : decode cX2_outcomeOfTurns 45 = .ok (.iconst 1, 1) := by decide +kernel
theorem dX2_outcomeOfTurns_46 : decode cX2_outcomeOfTurns 46 = .ok (.goto 4, 3) := by decide +kernel
theorem dX2_outcomeOfTurns_49 : decode cX2_outcomeOfTurns 49 = .ok (.iconst 0, 1) := by decide +kernel
theorem dX2_outcomeOfTurns_50 : decode cX2_outcomeOfTurns 50 = .ok (.istore 5, 2) := by decide +kernel
theorem dX2_outcomeOfTurns_52 : decode cX2_outcomeOfTurns 52 = .ok (.aload_n 0, 1) := by decide +kernel
theorem dX2_outcomeOfTurns_53 : decode cX2_outcomeOfTurns 53 = .ok (.iload_n 1, 1) := by decide +kernel
theorem dX2_outcomeOfTurns_54 : decode cX2_outcomeOfTurns 54 = .ok (.iload_n 2, 1) := by decide +kernel
theorem dX2_outcomeOfTurns_55 : decode cX2_outcomeOfTurns 55 = .ok (.iload_n 3, 1) := by decide +kernel
theorem dX2_outcomeOfTurns_56 : decode cX2_outcomeOfTurns 56 = .ok (.iconst 1, 1) := by decide +kernel
theorem dX2_outcomeOfTurns_57 : decode cX2_outcomeOfTurns 57 = .ok (.iadd, 1) := by decide +kernel
theorem dX2_outcomeOfTurns_58 : decode cX2_outcomeOfTurns 58 = .ok (.iload 4, 2) := by decide +kernel
theorem dX2_outcomeOfTurns_60 : decode cX2_outcomeOfTurns 60 = .ok (.invokevirtual 79, 3) := by decide +kernel
theorem dX2_outcomeOfTurns_63 : decode cX2_outcomeOfTurns 63 = .ok (.istore 6, 2) := by decide +kernel
theorem dX2_outcomeOfTurns_65 : decode cX2_outcomeOfTurns 65 = .ok (.aload_n 0, 1) := by decide +kernel
theorem dX2_outcomeOfTurns_66 : decode cX2_outcomeOfTurns 66 = .ok (.iload_n 1, 1) := by decide +kernel
theorem dX2_outcomeOfTurns_67 : decode cX2_outcomeOfTurns 67 = .ok (.iload_n 2, 1) := by decide +kernel
theorem dX2_outcomeOfTurns_68 : decode cX2_outcomeOfTurns 68 = .ok (.iload_n 3, 1) := by decide +kernel
theorem dX2_outcomeOfTurns_69 : decode cX2_outcomeOfTurns 69 = .ok (.iconst 1, 1) := by decide +kernel
theorem dX2_outcomeOfTurns_70 : decode cX2_outcomeOfTurns 70 = .ok (.iadd, 1) := by decide +kernel
theorem dX2_outcomeOfTurns_71 : decode cX2_outcomeOfTurns 71 = .ok (.iload 5, 2) := by decide +kernel
theorem dX2_outcomeOfTurns_73 : decode cX2_outcomeOfTurns 73 = .ok (.ifCond .eq 10, 3) := by decide +kernel
theorem dX2_outcomeOfTurns_76 : decode cX2_outcomeOfTurns 76 = .ok (.iload 4, 2) := by decide +kernel
theorem dX2_outcomeOfTurns_78 : decode cX2_outcomeOfTurns 78 = .ok (.iconst 1, 1) := by decide +kernel
theorem dX2_outcomeOfTurns_79 : decode cX2_outcomeOfTurns 79 = .ok (.iadd, 1) := by decide +kernel
theorem dX2_outcomeOfTurns_80 : decode cX2_outcomeOfTurns 80 = .ok (.goto 7, 3) := by decide +kernel
theorem dX2_outcomeOfTurns_83 : decode cX2_outcomeOfTurns 83 = .ok (.iload 4, 2) := by decide +kernel
theorem dX2_outcomeOfTurns_85 : decode cX2_outcomeOfTurns 85 = .ok (.iconst 1, 1) := by decide +kernel
theorem dX2_outcomeOfTurns_86 : decode cX2_outcomeOfTurns 86 = .ok (.isub, 1) := by decide +kernel
theorem dX2_outcomeOfTurns_87 : decode cX2_outcomeOfTurns 87 = .ok (.invokevirtual 79, 3) := by decide +kernel
theorem dX2_outcomeOfTurns_90 : decode cX2_outcomeOfTurns 90 = .ok (.istore 7, 2) := by decide +kernel
theorem dX2_outcomeOfTurns_92 : decode cX2_outcomeOfTurns 92 = .ok (.iload 5, 2) := by decide +kernel
theorem dX2_outcomeOfTurns_94 : decode cX2_outcomeOfTurns 94 = .ok (.ifCond .eq 13, 3) := by decide +kernel
theorem dX2_outcomeOfTurns_97 : decode cX2_outcomeOfTurns 97 = .ok (.iload 6, 2) := by decide +kernel
theorem dX2_outcomeOfTurns_99 : decode cX2_outcomeOfTurns 99 = .ok (.iload 7, 2) := by decide +kernel
theorem dX2_outcomeOfTurns_101 : decode cX2_outcomeOfTurns 101 = .ok (.invokestatic 83, 3) := by decide +kernel
theorem dX2_outcomeOfTurns_104 : decode cX2_outcomeOfTurns 104 = .ok (.goto 10, 3) := by decide +kernel
theorem dX2_outcomeOfTurns_107 : decode cX2_outcomeOfTurns 107 = .ok (.iload 6, 2) := by decide +kernel
theorem dX2_outcomeOfTurns_109 : decode cX2_outcomeOfTurns 109 = .ok (.iload 7, 2) := by decide +kernel
theorem dX2_outcomeOfTurns_111 : decode cX2_outcomeOfTurns 111 = .ok (.invokestatic 89, 3) := by decide +kernel
theorem dX2_outcomeOfTurns_114 : decode cX2_outcomeOfTurns 114 = .ok (.ireturn, 1) := by decide +kernel
theorem dX2_kindsThatFit_0 : decode cX2_kindsThatFit 0 = .ok (.iconst 0, 1) := by decide +kernel
theorem dX2_kindsThatFit_1 : decode cX2_kindsThatFit 1 = .ok (.istore 6, 2) := by decide +kernel
theorem dX2_kindsThatFit_3 : decode cX2_kindsThatFit 3 = .ok (.iconst 1, 1) := by decide +kernel
theorem dX2_kindsThatFit_4 : decode cX2_kindsThatFit 4 = .ok (.istore 7, 2) := by decide +kernel
theorem dX2_kindsThatFit_6 : decode cX2_kindsThatFit 6 = .ok (.iload 7, 2) := by decide +kernel
theorem dX2_kindsThatFit_8 : decode cX2_kindsThatFit 8 = .ok (.iconst 5, 1) := by decide +kernel
theorem dX2_kindsThatFit_9 : decode cX2_kindsThatFit 9 = .ok (.if_icmp .gt 57, 3) := by decide +kernel
theorem dX2_kindsThatFit_12 : decode cX2_kindsThatFit 12 = .ok (.aload_n 0, 1) := by decide +kernel
theorem dX2_kindsThatFit_13 : decode cX2_kindsThatFit 13 = .ok (.getfield 15, 3) := by decide +kernel
theorem dX2_kindsThatFit_16 : decode cX2_kindsThatFit 16 = .ok (.aload_n 0, 1) := by decide +kernel
theorem dX2_kindsThatFit_17 : decode cX2_kindsThatFit 17 = .ok (.getfield 9, 3) := by decide +kernel
theorem dX2_kindsThatFit_20 : decode cX2_kindsThatFit 20 = .ok (.invokevirtual 18, 3) := by decide +kernel
theorem dX2_kindsThatFit_23 : decode cX2_kindsThatFit 23 = .ok (.aload_n 0, 1) := by decide +kernel
theorem dX2_kindsThatFit_24 : decode cX2_kindsThatFit 24 = .ok (.getfield 15, 3) := by decide +kernel
theorem dX2_kindsThatFit_27 : decode cX2_kindsThatFit 27 = .ok (.getfield 92, 3) := by decide +kernel
theorem dX2_kindsThatFit_30 : decode cX2_kindsThatFit 30 = .ok (.iload_n 1, 1) := by decide +kernel
theorem dX2_kindsThatFit_31 : decode cX2_kindsThatFit 31 = .ok (.iload 7, 2) := by decide +kernel
theorem dX2_kindsThatFit_33 : decode cX2_kindsThatFit 33 = .ok (.iastore, 1) := by decide +kernel
theorem dX2_kindsThatFit_34 : decode cX2_kindsThatFit 34 = .ok (.iload 6, 2) := by decide +kernel
theorem dX2_kindsThatFit_36 : decode cX2_kindsThatFit 36 = .ok (.aload_n 0, 1) := by decide +kernel
theorem dX2_kindsThatFit_37 : decode cX2_kindsThatFit 37 = .ok (.iload_n 2, 1) := by decide +kernel
theorem dX2_kindsThatFit_38 : decode cX2_kindsThatFit 38 = .ok (.aload_n 3, 1) := by decide +kernel
theorem dX2_kindsThatFit_39 : decode cX2_kindsThatFit 39 = .ok (.iload 4, 2) := by decide +kernel
theorem dX2_kindsThatFit_41 : decode cX2_kindsThatFit 41 = .ok (.iload 5, 2) := by decide +kernel
theorem dX2_kindsThatFit_43 : decode cX2_kindsThatFit 43 = .ok (.invokevirtual 95, 3) := by decide +kernel
theorem dX2_kindsThatFit_46 : decode cX2_kindsThatFit 46 = .ok (.ifCond .eq 10, 3) := by decide +kernel
theorem dX2_kindsThatFit_49 : decode cX2_kindsThatFit 49 = .ok (.iconst 1, 1) := by decide +kernel
theorem dX2_kindsThatFit_50 : decode cX2_kindsThatFit 50 = .ok (.iload 7, 2) := by decide +kernel
theorem dX2_kindsThatFit_52 : decode cX2_kindsThatFit 52 = .ok (.ishl, 1) := by decide +kernel
theorem dX2_kindsThatFit_53 : decode cX2_kindsThatFit 53 = .ok (.goto 4, 3) := by decide +kernel
theorem dX2_kindsThatFit_56 : decode cX2_kindsThatFit 56 = .ok (.iconst 0, 1) := by decide +kernel
theorem dX2_kindsThatFit_57 : decode cX2_kindsThatFit 57 = .ok (.ior, 1) := by decide +kernel
theorem dX2_kindsThatFit_58 : decode cX2_kindsThatFit 58 = .ok (.istore 6, 2) := by decide +kernel
theorem dX2_kindsThatFit_60 : decode cX2_kindsThatFit 60 = .ok (.iinc 7 1, 3) := by decide +kernel
theorem dX2_kindsThatFit_63 : decode cX2_kindsThatFit 63 = .ok (.goto (-57), 3) := by decide +kernel
theorem dX2_kindsThatFit_66 : decode cX2_kindsThatFit 66 = .ok (.iload 6, 2) := by decide +kernel
theorem dX2_kindsThatFit_68 : decode cX2_kindsThatFit 68 = .ok (.ireturn, 1) := by decide +kernel
theorem dX2_standsThatFit_0 : decode cX2_standsThatFit 0 = .ok (.iconst 0, 1) := by decide +kernel
theorem dX2_standsThatFit_1 : decode cX2_standsThatFit 1 = .ok (.istore 6, 2) := by decide +kernel
theorem dX2_standsThatFit_3 : decode cX2_standsThatFit 3 = .ok (.iconst 0, 1) := by decide +kernel
theorem dX2_standsThatFit_4 : decode cX2_standsThatFit 4 = .ok (.istore 7, 2) := by decide +kernel
theorem dX2_standsThatFit_6 : decode cX2_standsThatFit 6 = .ok (.iload 7, 2) := by decide +kernel
theorem dX2_standsThatFit_8 : decode cX2_standsThatFit 8 = .ok (.aload_n 0, 1) := by decide +kernel
theorem dX2_standsThatFit_9 : decode cX2_standsThatFit 9 = .ok (.getfield 9, 3) := by decide +kernel
theorem dX2_standsThatFit_12 : decode cX2_standsThatFit 12 = .ok (.getfield 44, 3) := by decide +kernel
theorem dX2_standsThatFit_15 : decode cX2_standsThatFit 15 = .ok (.if_icmp .ge 57, 3) := by decide +kernel
theorem dX2_standsThatFit_18 : decode cX2_standsThatFit 18 = .ok (.aload_n 0, 1) := by decide +kernel
theorem dX2_standsThatFit_19 : decode cX2_standsThatFit 19 = .ok (.getfield 15, 3) := by decide +kernel
theorem dX2_standsThatFit_22 : decode cX2_standsThatFit 22 = .ok (.aload_n 0, 1) := by decide +kernel
theorem dX2_standsThatFit_23 : decode cX2_standsThatFit 23 = .ok (.getfield 9, 3) := by decide +kernel
theorem dX2_standsThatFit_26 : decode cX2_standsThatFit 26 = .ok (.invokevirtual 18, 3) := by decide +kernel
theorem dX2_standsThatFit_29 : decode cX2_standsThatFit 29 = .ok (.aload_n 0, 1) := by decide +kernel
theorem dX2_standsThatFit_30 : decode cX2_standsThatFit 30 = .ok (.getfield 15, 3) := by decide +kernel
theorem dX2_standsThatFit_33 : decode cX2_standsThatFit 33 = .ok (.getfield 51, 3) := by decide +kernel
theorem dX2_standsThatFit_36 : decode cX2_standsThatFit 36 = .ok (.iload_n 1, 1) := by decide +kernel
theorem dX2_standsThatFit_37 : decode cX2_standsThatFit 37 = .ok (.iload 7, 2) := by decide +kernel
theorem dX2_standsThatFit_39 : decode cX2_standsThatFit 39 = .ok (.iastore, 1) := by decide +kernel
theorem dX2_standsThatFit_40 : decode cX2_standsThatFit 40 = .ok (.iload 6, 2) := by decide +kernel
theorem dX2_standsThatFit_42 : decode cX2_standsThatFit 42 = .ok (.aload_n 0, 1) := by decide +kernel
theorem dX2_standsThatFit_43 : decode cX2_standsThatFit 43 = .ok (.iload_n 2, 1) := by decide +kernel
theorem dX2_standsThatFit_44 : decode cX2_standsThatFit 44 = .ok (.aload_n 3, 1) := by decide +kernel
theorem dX2_standsThatFit_45 : decode cX2_standsThatFit 45 = .ok (.iload 4, 2) := by decide +kernel
theorem dX2_standsThatFit_47 : decode cX2_standsThatFit 47 = .ok (.iload 5, 2) := by decide +kernel
theorem dX2_standsThatFit_49 : decode cX2_standsThatFit 49 = .ok (.invokevirtual 95, 3) := by decide +kernel
theorem dX2_standsThatFit_52 : decode cX2_standsThatFit 52 = .ok (.ifCond .eq 10, 3) := by decide +kernel
theorem dX2_standsThatFit_55 : decode cX2_standsThatFit 55 = .ok (.iconst 1, 1) := by decide +kernel
theorem dX2_standsThatFit_56 : decode cX2_standsThatFit 56 = .ok (.iload 7, 2) := by decide +kernel
theorem dX2_standsThatFit_58 : decode cX2_standsThatFit 58 = .ok (.ishl, 1) := by decide +kernel
theorem dX2_standsThatFit_59 : decode cX2_standsThatFit 59 = .ok (.goto 4, 3) := by decide +kernel
theorem dX2_standsThatFit_62 : decode cX2_standsThatFit 62 = .ok (.iconst 0, 1) := by decide +kernel
theorem dX2_standsThatFit_63 : decode cX2_standsThatFit 63 = .ok (.ior, 1) := by decide +kernel
theorem dX2_standsThatFit_64 : decode cX2_standsThatFit 64 = .ok (.istore 6, 2) := by decide +kernel
theorem dX2_standsThatFit_66 : decode cX2_standsThatFit 66 = .ok (.iinc 7 1, 3) := by decide +kernel
theorem dX2_standsThatFit_69 : decode cX2_standsThatFit 69 = .ok (.goto (-63), 3) := by decide +kernel
theorem dX2_standsThatFit_72 : decode cX2_standsThatFit 72 = .ok (.iload 6, 2) := by decide +kernel
theorem dX2_standsThatFit_74 : decode cX2_standsThatFit 74 = .ok (.ireturn, 1) := by decide +kernel
theorem dX2_coloursThatFit_0 : decode cX2_coloursThatFit 0 = .ok (.iconst 0, 1) := by decide +kernel
theorem dX2_coloursThatFit_1 : decode cX2_coloursThatFit 1 = .ok (.istore 5, 2) := by decide +kernel
theorem dX2_coloursThatFit_3 : decode cX2_coloursThatFit 3 = .ok (.iconst 0, 1) := by decide +kernel
theorem dX2_coloursThatFit_4 : decode cX2_coloursThatFit 4 = .ok (.istore 6, 2) := by decide +kernel
theorem dX2_coloursThatFit_6 : decode cX2_coloursThatFit 6 = .ok (.iload 6, 2) := by decide +kernel
theorem dX2_coloursThatFit_8 : decode cX2_coloursThatFit 8 = .ok (.iconst 4, 1) := by decide +kernel
theorem dX2_coloursThatFit_9 : decode cX2_coloursThatFit 9 = .ok (.if_icmp .ge 56, 3) := by decide +kernel
theorem dX2_coloursThatFit_12 : decode cX2_coloursThatFit 12 = .ok (.aload_n 0, 1) := by decide +kernel
theorem dX2_coloursThatFit_13 : decode cX2_coloursThatFit 13 = .ok (.getfield 15, 3) := by decide +kernel
theorem dX2_coloursThatFit_16 : decode cX2_coloursThatFit 16 = .ok (.aload_n 0, 1) := by decide +kernel
theorem dX2_coloursThatFit_17 : decode cX2_coloursThatFit 17 = .ok (.getfield 9, 3) := by decide +kernel
theorem dX2_coloursThatFit_20 : decode cX2_coloursThatFit 20 = .ok (.invokevirtual 18, 3) := by decide +kernel
theorem dX2_coloursThatFit_23 : decode cX2_coloursThatFit 23 = .ok (.aload_n 0, 1) := by decide +kernel
theorem dX2_coloursThatFit_24 : decode cX2_coloursThatFit 24 = .ok (.getfield 15, 3) := by decide +kernel
theorem dX2_coloursThatFit_27 : decode cX2_coloursThatFit 27 = .ok (.getfield 67, 3) := by decide +kernel
theorem dX2_coloursThatFit_30 : decode cX2_coloursThatFit 30 = .ok (.iload_n 1, 1) := by decide +kernel
theorem dX2_coloursThatFit_31 : decode cX2_coloursThatFit 31 = .ok (.iload 6, 2) := by decide +kernel
theorem dX2_coloursThatFit_33 : decode cX2_coloursThatFit 33 = .ok (.iastore, 1) := by decide +kernel
theorem dX2_coloursThatFit_34 : decode cX2_coloursThatFit 34 = .ok (.iload 5, 2) := by decide +kernel
theorem dX2_coloursThatFit_36 : decode cX2_coloursThatFit 36 = .ok (.aload_n 0, 1) := by decide +kernel
theorem dX2_coloursThatFit_37 : decode cX2_coloursThatFit 37 = .ok (.iload_n 1, 1) := by decide +kernel
theorem dX2_coloursThatFit_38 : decode cX2_coloursThatFit 38 = .ok (.aload_n 2, 1) := by decide +kernel
theorem dX2_coloursThatFit_39 : decode cX2_coloursThatFit 39 = .ok (.iload_n 3, 1) := by decide +kernel
theorem dX2_coloursThatFit_40 : decode cX2_coloursThatFit 40 = .ok (.iload 4, 2) := by decide +kernel
theorem dX2_coloursThatFit_42 : decode cX2_coloursThatFit 42 = .ok (.invokevirtual 95, 3) := by decide +kernel
theorem dX2_coloursThatFit_45 : decode cX2_coloursThatFit 45 = .ok (.ifCond .eq 10, 3) := by decide +kernel
theorem dX2_coloursThatFit_48 : decode cX2_coloursThatFit 48 = .ok (.iconst 1, 1) := by decide +kernel
theorem dX2_coloursThatFit_49 : decode cX2_coloursThatFit 49 = .ok (.iload 6, 2) := by decide +kernel
theorem dX2_coloursThatFit_51 : decode cX2_coloursThatFit 51 = .ok (.ishl, 1) := by decide +kernel
theorem dX2_coloursThatFit_52 : decode cX2_coloursThatFit 52 = .ok (.goto 4, 3) := by decide +kernel
theorem dX2_coloursThatFit_55 : decode cX2_coloursThatFit 55 = .ok (.iconst 0, 1) := by decide +kernel
theorem dX2_coloursThatFit_56 : decode cX2_coloursThatFit 56 = .ok (.ior, 1) := by decide +kernel
theorem dX2_coloursThatFit_57 : decode cX2_coloursThatFit 57 = .ok (.istore 5, 2) := by decide +kernel
theorem dX2_coloursThatFit_59 : decode cX2_coloursThatFit 59 = .ok (.iinc 6 1, 3) := by decide +kernel
theorem dX2_coloursThatFit_62 : decode cX2_coloursThatFit 62 = .ok (.goto (-56), 3) := by decide +kernel
theorem dX2_coloursThatFit_65 : decode cX2_coloursThatFit 65 = .ok (.iload 5, 2) := by decide +kernel
theorem dX2_coloursThatFit_67 : decode cX2_coloursThatFit 67 = .ok (.ireturn, 1) := by decide +kernel
theorem dX2_goesAsTold_0 : decode cX2_goesAsTold 0 = .ok (.iload_n 3, 1) := by decide +kernel
theorem dX2_goesAsTold_1 : decode cX2_goesAsTold 1 = .ok (.ifCond .lt 17, 3) := by decide +kernel
theorem dX2_goesAsTold_4 : decode cX2_goesAsTold 4 = .ok (.iload 4, 2) := by decide +kernel
theorem dX2_goesAsTold_6 : decode cX2_goesAsTold 6 = .ok (.ifCond .lt 12, 3) := by decide +kernel
theorem dX2_goesAsTold_9 : decode cX2_goesAsTold 9 = .ok (.iload_n 3, 1) := by decide +kernel
theorem dX2_goesAsTold_10 : decode cX2_goesAsTold 10 = .ok (.aload_n 2, 1) := by decide +kernel
theorem dX2_goesAsTold_11 : decode cX2_goesAsTold 11 = .ok (.arraylength, 1) := by decide +kernel
theorem dX2_goesAsTold_12 : decode cX2_goesAsTold 12 = .ok (.iload 4, 2) := by decide +kernel
theorem dX2_goesAsTold_14 : decode cX2_goesAsTold 14 = .ok (.isub, 1) := by decide +kernel
theorem dX2_goesAsTold_15 : decode cX2_goesAsTold 15 = .ok (.if_icmp .le 5, 3) := by decide +kernel
theorem dX2_goesAsTold_18 : decode cX2_goesAsTold 18 = .ok (.iconst 0, 1) := by decide +kernel
theorem dX2_goesAsTold_19 : decode cX2_goesAsTold 19 = .ok (.ireturn, 1) := by decide +kernel
theorem dX2_goesAsTold_20 : decode cX2_goesAsTold 20 = .ok (.iconst 0, 1) := by decide +kernel
theorem dX2_goesAsTold_21 : decode cX2_goesAsTold 21 = .ok (.istore 5, 2) := by decide +kernel
theorem dX2_goesAsTold_23 : decode cX2_goesAsTold 23 = .ok (.iload 5, 2) := by decide +kernel
theorem dX2_goesAsTold_25 : decode cX2_goesAsTold 25 = .ok (.iload 4, 2) := by decide +kernel
theorem dX2_goesAsTold_27 : decode cX2_goesAsTold 27 = .ok (.if_icmp .ge 35, 3) := by decide +kernel
theorem dX2_goesAsTold_30 : decode cX2_goesAsTold 30 = .ok (.aload_n 0, 1) := by decide +kernel
theorem dX2_goesAsTold_31 : decode cX2_goesAsTold 31 = .ok (.getfield 15, 3) := by decide +kernel
theorem dX2_goesAsTold_34 : decode cX2_goesAsTold 34 = .ok (.invokevirtual 28, 3) := by decide +kernel
theorem dX2_goesAsTold_37 : decode cX2_goesAsTold 37 = .ok (.aload_n 0, 1) := by decide +kernel
theorem dX2_goesAsTold_38 : decode cX2_goesAsTold 38 = .ok (.getfield 15, 3) := by decide +kernel
theorem dX2_goesAsTold_41 : decode cX2_goesAsTold 41 = .ok (.iload_n 1, 1) := by decide +kernel
theorem dX2_goesAsTold_42 : decode cX2_goesAsTold 42 = .ok (.invokevirtual 99, 3) := by decide +kernel
theorem dX2_goesAsTold_45 : decode cX2_goesAsTold 45 = .ok (.aload_n 2, 1) := by decide +kernel
theorem dX2_goesAsTold_46 : decode cX2_goesAsTold 46 = .ok (.iload_n 3, 1) := by decide +kernel
theorem dX2_goesAsTold_47 : decode cX2_goesAsTold 47 = .ok (.iload 5, 2) := by decide +kernel
theorem dX2_goesAsTold_49 : decode cX2_goesAsTold 49 = .ok (.iadd, 1) := by decide +kernel
theorem dX2_goesAsTold_50 : decode cX2_goesAsTold 50 = .ok (.iaload, 1) := by decide +kernel
theorem dX2_goesAsTold_51 : decode cX2_goesAsTold 51 = .ok (.if_icmp .eq 5, 3) := by decide +kernel
theorem dX2_goesAsTold_54 : decode cX2_goesAsTold 54 = .ok (.iconst 0, 1) := by decide +kernel
theorem dX2_goesAsTold_55 : decode cX2_goesAsTold 55 = .ok (.ireturn, 1) := by decide +kernel
theorem dX2_goesAsTold_56 : decode cX2_goesAsTold 56 = .ok (.iinc 5 1, 3) := by decide +kernel
theorem dX2_goesAsTold_59 : decode cX2_goesAsTold 59 = .ok (.goto (-36), 3) := by decide +kernel
theorem dX2_goesAsTold_62 : decode cX2_goesAsTold 62 = .ok (.iconst 1, 1) := by decide +kernel
theorem dX2_goesAsTold_63 : decode cX2_goesAsTold 63 = .ok (.ireturn, 1) := by decide +kernel
theorem dX2_likelyOnBelt_0 : decode cX2_likelyOnBelt 0 = .ok (.aload_n 0, 1) := by decide +kernel
theorem dX2_likelyOnBelt_1 : decode cX2_likelyOnBelt 1 = .ok (.getfield 9, 3) := by decide +kernel
theorem dX2_likelyOnBelt_4 : decode cX2_likelyOnBelt 4 = .ok (.iconst 4, 1) := by decide +kernel
theorem dX2_likelyOnBelt_5 : decode cX2_likelyOnBelt 5 = .ok (.invokevirtual 40, 3) := by decide +kernel
theorem dX2_likelyOnBelt_8 : decode cX2_likelyOnBelt 8 = .ok (.istore 5, 2) := by decide +kernel
theorem dX2_likelyOnBelt_10 : decode cX2_likelyOnBelt 10 = .ok (.lconst 0, 1) := by decide +kernel
theorem dX2_likelyOnBelt_11 : decode cX2_likelyOnBelt 11 = .ok (.lstore 6, 2) := by decide +kernel
theorem dX2_likelyOnBelt_13 : decode cX2_likelyOnBelt 13 = .ok (.lconst 0, 1) := by decide +kernel
theorem dX2_likelyOnBelt_14 : decode cX2_likelyOnBelt 14 = .ok (.lstore 8, 2) := by decide +kernel
theorem dX2_likelyOnBelt_16 : decode cX2_likelyOnBelt 16 = .ok (.iconst 0, 1) := by decide +kernel
theorem dX2_likelyOnBelt_17 : decode cX2_likelyOnBelt 17 = .ok (.istore 10, 2) := by decide +kernel
theorem dX2_likelyOnBelt_19 : decode cX2_likelyOnBelt 19 = .ok (.iload 10, 2) := by decide +kernel
theorem dX2_likelyOnBelt_21 : decode cX2_likelyOnBelt 21 = .ok (.iload 5, 2) := by decide +kernel
theorem dX2_likelyOnBelt_23 : decode cX2_likelyOnBelt 23 = .ok (.if_icmp .gt 96, 3) := by decide +kernel
theorem dX2_likelyOnBelt_26 : decode cX2_likelyOnBelt 26 = .ok (.iload 10, 2) := by decide +kernel
theorem dX2_likelyOnBelt_28 : decode cX2_likelyOnBelt 28 = .ok (.iload 5, 2) := by decide +kernel
theorem dX2_likelyOnBelt_30 : decode cX2_likelyOnBelt 30 = .ok (.iconst (-1), 1) := by decide +kernel
theorem dX2_likelyOnBelt_31 : decode cX2_likelyOnBelt 31 = .ok (.ixor, 1) := by decide +kernel
theorem dX2_likelyOnBelt_32 : decode cX2_likelyOnBelt 32 = .ok (.iand, 1) := by decide +kernel
theorem dX2_likelyOnBelt_33 : decode cX2_likelyOnBelt 33 = .ok (.ifCond .ne 80, 3) := by decide +kernel
theorem dX2_likelyOnBelt_36 : decode cX2_likelyOnBelt 36 = .ok (.iload_n 3, 1) := by decide +kernel
theorem dX2_likelyOnBelt_37 : decode cX2_likelyOnBelt 37 = .ok (.iload 10, 2) := by decide +kernel
theorem dX2_likelyOnBelt_39 : decode cX2_likelyOnBelt 39 = .ok (.invokestatic 58, 3) := by decide +kernel
theorem dX2_likelyOnBelt_42 : decode cX2_likelyOnBelt 42 = .ok (.invokestatic 102, 3) := by decide +kernel
theorem dX2_likelyOnBelt_45 : decode cX2_likelyOnBelt 45 = .ok (.bipush 10, 2) := by decide +kernel
theorem dX2_likelyOnBelt_47 : decode cX2_likelyOnBelt 47 = .ok (.iload_n 3, 1) := by decide +kernel
theorem dX2_likelyOnBelt_48 : decode cX2_likelyOnBelt 48 = .ok (.isub, 1) := by decide +kernel
theorem dX2_likelyOnBelt_49 : decode cX2_likelyOnBelt 49 = .ok (.iload 5, 2) := by decide +kernel
theorem dX2_likelyOnBelt_51 : decode cX2_likelyOnBelt 51 = .ok (.iload 10, 2) := by decide +kernel
theorem dX2_likelyOnBelt_53 : decode cX2_likelyOnBelt 53 = .ok (.isub, 1) := by decide +kernel
theorem dX2_likelyOnBelt_54 : decode cX2_likelyOnBelt 54 = .ok (.invokestatic 58, 3) := by decide +kernel
theorem dX2_likelyOnBelt_57 : decode cX2_likelyOnBelt 57 = .ok (.invokestatic 102, 3) := by decide +kernel
theorem dX2_likelyOnBelt_60 : decode cX2_likelyOnBelt 60 = .ok (.lmul, 1) := by decide +kernel
theorem dX2_likelyOnBelt_61 : decode cX2_likelyOnBelt 61 = .ok (.lstore 11, 2) := by decide +kernel
theorem dX2_likelyOnBelt_63 : decode cX2_likelyOnBelt 63 = .ok (.lload 8, 2) := by decide +kernel
theorem dX2_likelyOnBelt_65 : decode cX2_likelyOnBelt 65 = .ok (.lload 11, 2) := by decide +kernel
theorem dX2_likelyOnBelt_67 : decode cX2_likelyOnBelt 67 = .ok (.ladd, 1) := by decide +kernel
theorem dX2_likelyOnBelt_68 : decode cX2_likelyOnBelt 68 = .ok (.lstore 8, 2) := by decide +kernel
theorem dX2_likelyOnBelt_70 : decode cX2_likelyOnBelt 70 = .ok (.aload_n 0, 1) := by decide +kernel
theorem dX2_likelyOnBelt_71 : decode cX2_likelyOnBelt 71 = .ok (.getfield 15, 3) := by decide +kernel
theorem dX2_likelyOnBelt_74 : decode cX2_likelyOnBelt 74 = .ok (.aload_n 0, 1) := by decide +kernel
theorem dX2_likelyOnBelt_75 : decode cX2_likelyOnBelt 75 = .ok (.getfield 9, 3) := by decide +kernel
theorem dX2_likelyOnBelt_78 : decode cX2_likelyOnBelt 78 = .ok (.invokevirtual 18, 3) := by decide +kernel
theorem dX2_likelyOnBelt_81 : decode cX2_likelyOnBelt 81 = .ok (.aload_n 0, 1) := by decide +kernel
theorem dX2_likelyOnBelt_82 : decode cX2_likelyOnBelt 82 = .ok (.getfield 15, 3) := by decide +kernel
theorem dX2_likelyOnBelt_85 : decode cX2_likelyOnBelt 85 = .ok (.iload 10, 2) := by decide +kernel
theorem dX2_likelyOnBelt_87 : decode cX2_likelyOnBelt 87 = .ok (.putfield 106, 3) := by decide +kernel
theorem dX2_likelyOnBelt_90 : decode cX2_likelyOnBelt 90 = .ok (.lload 6, 2) := by decide +kernel
theorem dX2_likelyOnBelt_92 : decode cX2_likelyOnBelt 92 = .ok (.aload_n 0, 1) := by decide +kernel
theorem dX2_likelyOnBelt_93 : decode cX2_likelyOnBelt 93 = .ok (.iload_n 2, 1) := by decide +kernel
theorem dX2_likelyOnBelt_94 : decode cX2_likelyOnBelt 94 = .ok (.invokevirtual 24, 3) := by decide +kernel
theorem dX2_likelyOnBelt_97 : decode cX2_likelyOnBelt 97 = .ok (.iload_n 1, 1) := by decide +kernel
theorem dX2_likelyOnBelt_98 : decode cX2_likelyOnBelt 98 = .ok (.invokevirtual 109, 3) := by decide +kernel
theorem dX2_likelyOnBelt_101 : decode cX2_likelyOnBelt 101 = .ok (.ifCond .eq 8, 3) := by decide +kernel
theorem dX2_likelyOnBelt_104 : decode cX2_likelyOnBelt 104 = .ok (.lload 11, 2) := by decide +kernel
theorem dX2_likelyOnBelt_106 : decode cX2_likelyOnBelt 106 = .ok (.goto 4, 3) := by decide +kernel
theorem dX2_likelyOnBelt_109 : decode cX2_likelyOnBelt 109 = .ok (.lconst 0, 1) := by decide +kernel
theorem dX2_likelyOnBelt_110 : decode cX2_likelyOnBelt 110 = .ok (.ladd, 1) := by decide +kernel
theorem dX2_likelyOnBelt_111 : decode cX2_likelyOnBelt 111 = .ok (.lstore 6, 2) := by decide +kernel
theorem dX2_likelyOnBelt_113 : decode cX2_likelyOnBelt 113 = .ok (.iinc 10 1, 3) := by decide +kernel
theorem dX2_likelyOnBelt_116 : decode cX2_likelyOnBelt 116 = .ok (.goto (-97), 3) := by decide +kernel
theorem dX2_likelyOnBelt_119 : decode cX2_likelyOnBelt 119 = .ok (.lload 8, 2) := by decide +kernel
theorem dX2_likelyOnBelt_121 : decode cX2_likelyOnBelt 121 = .ok (.lload 6, 2) := by decide +kernel
theorem dX2_likelyOnBelt_123 : decode cX2_likelyOnBelt 123 = .ok (.invokestatic 112, 3) := by decide +kernel
theorem dX2_likelyOnBelt_126 : decode cX2_likelyOnBelt 126 = .ok (.lstore 10, 2) := by decide +kernel
theorem dX2_likelyOnBelt_128 : decode cX2_likelyOnBelt 128 = .ok (.lload 10, 2) := by decide +kernel
theorem dX2_likelyOnBelt_130 : decode cX2_likelyOnBelt 130 = .ok (.lconst 0, 1) := by decide +kernel
theorem dX2_likelyOnBelt_131 : decode cX2_likelyOnBelt 131 = .ok (.lcmp, 1) := by decide +kernel
theorem dX2_likelyOnBelt_132 : decode cX2_likelyOnBelt 132 = .ok (.ifCond .ne 9, 3) := by decide +kernel
theorem dX2_likelyOnBelt_135 : decode cX2_likelyOnBelt 135 = .ok (.ldc2_w 116, 3) := by decide +kernel
theorem dX2_likelyOnBelt_138 : decode cX2_likelyOnBelt 138 = .ok (.goto 18, 3) := by decide +kernel
theorem dX2_likelyOnBelt_141 : decode cX2_likelyOnBelt 141 = .ok (.iload 4, 2) := by decide +kernel
theorem dX2_likelyOnBelt_143 : decode cX2_likelyOnBelt 143 = .ok (.ifCond .ne 8, 3) := by decide +kernel
theorem dX2_likelyOnBelt_146 : decode cX2_likelyOnBelt 146 = .ok (.lload 6, 2) := by decide +kernel
theorem dX2_likelyOnBelt_148 : decode cX2_likelyOnBelt 148 = .ok (.goto 5, 3) := by decide +kernel
theorem dX2_likelyOnBelt_151 : decode cX2_likelyOnBelt 151 = .ok (.lload 8, 2) := by decide +kernel
theorem dX2_likelyOnBelt_153 : decode cX2_likelyOnBelt 153 = .ok (.lload 10, 2) := by decide +kernel
theorem dX2_likelyOnBelt_155 : decode cX2_likelyOnBelt 155 = .ok (.ldiv, 1) := by decide +kernel
theorem dX2_likelyOnBelt_156 : decode cX2_likelyOnBelt 156 = .ok (.lreturn, 1) := by decide +kernel
theorem dX2_power_0 : decode cX2_power 0 = .ok (.lconst 1, 1) := by decide +kernel
theorem dX2_power_1 : decode cX2_power 1 = .ok (.lstore_n 2, 1) := by decide +kernel
theorem dX2_power_2 : decode cX2_power 2 = .ok (.iconst 0, 1) := by decide +kernel
theorem dX2_power_3 : decode cX2_power 3 = .ok (.istore 4, 2) := by decide +kernel
theorem dX2_power_5 : decode cX2_power 5 = .ok (.iload 4, 2) := by decide +kernel
theorem dX2_power_7 : decode cX2_power 7 = .ok (.iload_n 1, 1) := by decide +kernel
theorem dX2_power_8 : decode cX2_power 8 = .ok (.if_icmp .ge 14, 3) := by decide +kernel
theorem dX2_power_11 : decode cX2_power 11 = .ok (.lload_n 2, 1) := by decide +kernel
theorem dX2_power_12 : decode cX2_power 12 = .ok (.iload_n 0, 1) := by decide +kernel
theorem dX2_power_13 : decode cX2_power 13 = .ok (.i2l, 1) := by decide +kernel
theorem dX2_power_14 : decode cX2_power 14 = .ok (.lmul, 1) := by decide +kernel
theorem dX2_power_15 : decode cX2_power 15 = .ok (.lstore_n 2, 1) := by decide +kernel
theorem dX2_power_16 : decode cX2_power 16 = .ok (.iinc 4 1, 3) := by decide +kernel
theorem dX2_power_19 : decode cX2_power 19 = .ok (.goto (-14), 3) := by decide +kernel
theorem dX2_power_22 : decode cX2_power 22 = .ok (.lload_n 2, 1) := by decide +kernel
theorem dX2_power_23 : decode cX2_power 23 = .ok (.lreturn, 1) := by decide +kernel
theorem dX2_commonDivisor_0 : decode cX2_commonDivisor 0 = .ok (.lload_n 0, 1) := by decide +kernel
theorem dX2_commonDivisor_1 : decode cX2_commonDivisor 1 = .ok (.lstore 4, 2) := by decide +kernel
theorem dX2_commonDivisor_3 : decode cX2_commonDivisor 3 = .ok (.lload_n 2, 1) := by decide +kernel
theorem dX2_commonDivisor_4 : decode cX2_commonDivisor 4 = .ok (.lstore 6, 2) := by decide +kernel
theorem dX2_commonDivisor_6 : decode cX2_commonDivisor 6 = .ok (.iconst 0, 1) := by decide +kernel
theorem dX2_commonDivisor_7 : decode cX2_commonDivisor 7 = .ok (.istore 8, 2) := by decide +kernel
theorem dX2_commonDivisor_9 : decode cX2_commonDivisor 9 = .ok (.iload 8, 2) := by decide +kernel
theorem dX2_commonDivisor_11 : decode cX2_commonDivisor 11 = .ok (.bipush 100, 2) := by decide +kernel
theorem dX2_commonDivisor_13 : decode cX2_commonDivisor 13 = .ok (.if_icmp .ge 31, 3) := by decide +kernel
theorem dX2_commonDivisor_16 : decode cX2_commonDivisor 16 = .ok (.lload 6, 2) := by decide +kernel
theorem dX2_commonDivisor_18 : decode cX2_commonDivisor 18 = .ok (.lconst 0, 1) := by decide +kernel
theorem dX2_commonDivisor_19 : decode cX2_commonDivisor 19 = .ok (.lcmp, 1) := by decide +kernel
theorem dX2_commonDivisor_20 : decode cX2_commonDivisor 20 = .ok (.ifCond .eq 24, 3) := by decide +kernel
theorem dX2_commonDivisor_23 : decode cX2_commonDivisor 23 = .ok (.lload 4, 2) := by decide +kernel
theorem dX2_commonDivisor_25 : decode cX2_commonDivisor 25 = .ok (.lload 6, 2) := by decide +kernel
theorem dX2_commonDivisor_27 : decode cX2_commonDivisor 27 = .ok (.lrem, 1) := by decide +kernel
theorem dX2_commonDivisor_28 : decode cX2_commonDivisor 28 = .ok (.lstore 9, 2) := by decide +kernel
theorem dX2_commonDivisor_30 : decode cX2_commonDivisor 30 = .ok (.lload 6, 2) := by decide +kernel
theorem dX2_commonDivisor_32 : decode cX2_commonDivisor 32 = .ok (.lstore 4, 2) := by decide +kernel
theorem dX2_commonDivisor_34 : decode cX2_commonDivisor 34 = .ok (.lload 9, 2) := by decide +kernel
theorem dX2_commonDivisor_36 : decode cX2_commonDivisor 36 = .ok (.lstore 6, 2) := by decide +kernel
theorem dX2_commonDivisor_38 : decode cX2_commonDivisor 38 = .ok (.iinc 8 1, 3) := by decide +kernel
theorem dX2_commonDivisor_41 : decode cX2_commonDivisor 41 = .ok (.goto (-32), 3) := by decide +kernel
theorem dX2_commonDivisor_44 : decode cX2_commonDivisor 44 = .ok (.lload 4, 2) := by decide +kernel
theorem dX2_commonDivisor_46 : decode cX2_commonDivisor 46 = .ok (.lreturn, 1) := by decide +kernel
theorem dX2_goneInDays_0 : decode cX2_goneInDays 0 = .ok (.aload_n 0, 1) := by decide +kernel
theorem dX2_goneInDays_1 : decode cX2_goneInDays 1 = .ok (.getfield 15, 3) := by decide +kernel
theorem dX2_goneInDays_4 : decode cX2_goneInDays 4 = .ok (.aload_n 0, 1) := by decide +kernel
theorem dX2_goneInDays_5 : decode cX2_goneInDays 5 = .ok (.getfield 9, 3) := by decide +kernel
theorem dX2_goneInDays_8 : decode cX2_goneInDays 8 = .ok (.invokevirtual 18, 3) := by decide +kernel
theorem dX2_goneInDays_11 : decode cX2_goneInDays 11 = .ok (.iload_n 2, 1) := by decide +kernel
theorem dX2_goneInDays_12 : decode cX2_goneInDays 12 = .ok (.i2l, 1) := by decide +kernel
theorem dX2_goneInDays_13 : decode cX2_goneInDays 13 = .ok (.lstore 4, 2) := by decide +kernel
theorem dX2_goneInDays_15 : decode cX2_goneInDays 15 = .ok (.iconst 0, 1) := by decide +kernel
theorem dX2_goneInDays_16 : decode cX2_goneInDays 16 = .ok (.istore 6, 2) := by decide +kernel
theorem dX2_goneInDays_18 : decode cX2_goneInDays 18 = .ok (.iconst 0, 1) := by decide +kernel
theorem dX2_goneInDays_19 : decode cX2_goneInDays 19 = .ok (.istore 7, 2) := by decide +kernel
theorem dX2_goneInDays_21 : decode cX2_goneInDays 21 = .ok (.iconst 0, 1) := by decide +kernel
theorem dX2_goneInDays_22 : decode cX2_goneInDays 22 = .ok (.istore 8, 2) := by decide +kernel
theorem dX2_goneInDays_24 : decode cX2_goneInDays 24 = .ok (.iload 8, 2) := by decide +kernel
theorem dX2_goneInDays_26 : decode cX2_goneInDays 26 = .ok (.iload_n 1, 1) := by decide +kernel
theorem dX2_goneInDays_27 : decode cX2_goneInDays 27 = .ok (.if_icmp .ge 88, 3) := by decide +kernel
theorem dX2_goneInDays_30 : decode cX2_goneInDays 30 = .ok (.lload 4, 2) := by decide +kernel
theorem dX2_goneInDays_32 : decode cX2_goneInDays 32 = .ok (.ldc2_w 118, 3) := by decide +kernel
theorem dX2_goneInDays_35 : decode cX2_goneInDays 35 = .ok (.lmul, 1) := by decide +kernel
theorem dX2_goneInDays_36 : decode cX2_goneInDays 36 = .ok (.ldc2_w 120, 3) := by decide +kernel
theorem dX2_goneInDays_39 : decode cX2_goneInDays 39 = .ok (.lrem, 1) := by decide +kernel
theorem dX2_goneInDays_40 : decode cX2_goneInDays 40 = .ok (.lstore 4, 2) := by decide +kernel
theorem dX2_goneInDays_42 : decode cX2_goneInDays 42 = .ok (.aload_n 0, 1) := by decide +kernel
theorem dX2_goneInDays_43 : decode cX2_goneInDays 43 = .ok (.lload 4, 2) := by decide +kernel
theorem dX2_goneInDays_45 : decode cX2_goneInDays 45 = .ok (.invokevirtual 122, 3) := by decide +kernel
theorem dX2_goneInDays_48 : decode cX2_goneInDays 48 = .ok (.aload_n 0, 1) := by decide +kernel
theorem dX2_goneInDays_49 : decode cX2_goneInDays 49 = .ok (.getfield 15, 3) := by decide +kernel
theorem dX2_goneInDays_52 : decode cX2_goneInDays 52 = .ok (.bipush 7, 2) := by decide +kernel
theorem dX2_goneInDays_54 : decode cX2_goneInDays 54 = .ok (.invokevirtual 40, 3) := by decide +kernel
theorem dX2_goneInDays_57 : decode cX2_goneInDays 57 = .ok (.istore 9, 2) := by decide +kernel
theorem dX2_goneInDays_59 : decode cX2_goneInDays 59 = .ok (.aload_n 0, 1) := by decide +kernel
theorem dX2_goneInDays_60 : decode cX2_goneInDays 60 = .ok (.getfield 15, 3) := by decide +kernel
theorem dX2_goneInDays_63 : decode cX2_goneInDays 63 = .ok (.invokevirtual 28, 3) := by decide +kernel
theorem dX2_goneInDays_66 : decode cX2_goneInDays 66 = .ok (.iload 6, 2) := by decide +kernel
theorem dX2_goneInDays_68 : decode cX2_goneInDays 68 = .ok (.aload_n 0, 1) := by decide +kernel
theorem dX2_goneInDays_69 : decode cX2_goneInDays 69 = .ok (.getfield 15, 3) := by decide +kernel
theorem dX2_goneInDays_72 : decode cX2_goneInDays 72 = .ok (.bipush 7, 2) := by decide +kernel
theorem dX2_goneInDays_74 : decode cX2_goneInDays 74 = .ok (.invokevirtual 40, 3) := by decide +kernel
theorem dX2_goneInDays_77 : decode cX2_goneInDays 77 = .ok (.iload 9, 2) := by decide +kernel
theorem dX2_goneInDays_79 : decode cX2_goneInDays 79 = .ok (.iconst (-1), 1) := by decide +kernel
theorem dX2_goneInDays_80 : decode cX2_goneInDays 80 = .ok (.ixor, 1) := by decide +kernel
theorem dX2_goneInDays_81 : decode cX2_goneInDays 81 = .ok (.iand, 1) := by decide +kernel
theorem dX2_goneInDays_82 : decode cX2_goneInDays 82 = .ok (.invokestatic 58, 3) := by decide +kernel
theorem dX2_goneInDays_85 : decode cX2_goneInDays 85 = .ok (.iadd, 1) := by decide +kernel
theorem dX2_goneInDays_86 : decode cX2_goneInDays 86 = .ok (.istore 6, 2) := by decide +kernel
theorem dX2_goneInDays_88 : decode cX2_goneInDays 88 = .ok (.iload 7, 2) := by decide +kernel
theorem dX2_goneInDays_90 : decode cX2_goneInDays 90 = .ok (.aload_n 0, 1) := by decide +kernel
theorem dX2_goneInDays_91 : decode cX2_goneInDays 91 = .ok (.getfield 15, 3) := by decide +kernel
theorem dX2_goneInDays_94 : decode cX2_goneInDays 94 = .ok (.iconst 5, 1) := by decide +kernel
theorem dX2_goneInDays_95 : decode cX2_goneInDays 95 = .ok (.invokevirtual 40, 3) := by decide +kernel
theorem dX2_goneInDays_98 : decode cX2_goneInDays 98 = .ok (.iload 9, 2) := by decide +kernel
theorem dX2_goneInDays_100 : decode cX2_goneInDays 100 = .ok (.iconst (-1), 1) := by decide +kernel
theorem dX2_goneInDays_101 : decode cX2_goneInDays 101 = .ok (.ixor, 1) := by decide +kernel
theorem dX2_goneInDays_102 : decode cX2_goneInDays 102 = .ok (.iand, 1) := by decide +kernel
theorem dX2_goneInDays_103 : decode cX2_goneInDays 103 = .ok (.invokestatic 58, 3) := by decide +kernel
theorem dX2_goneInDays_106 : decode cX2_goneInDays 106 = .ok (.iadd, 1) := by decide +kernel
theorem dX2_goneInDays_107 : decode cX2_goneInDays 107 = .ok (.istore 7, 2) := by decide +kernel
theorem dX2_goneInDays_109 : decode cX2_goneInDays 109 = .ok (.iinc 8 1, 3) := by decide +kernel
theorem dX2_goneInDays_112 : decode cX2_goneInDays 112 = .ok (.goto (-88), 3) := by decide +kernel
theorem dX2_goneInDays_115 : decode cX2_goneInDays 115 = .ok (.iload_n 3, 1) := by decide +kernel
theorem dX2_goneInDays_116 : decode cX2_goneInDays 116 = .ok (.ifCond .ne 8, 3) := by decide +kernel
theorem dX2_goneInDays_119 : decode cX2_goneInDays 119 = .ok (.iload 6, 2) := by decide +kernel
theorem dX2_goneInDays_121 : decode cX2_goneInDays 121 = .ok (.goto 5, 3) := by decide +kernel
theorem dX2_goneInDays_124 : decode cX2_goneInDays 124 = .ok (.iload 7, 2) := by decide +kernel
theorem dX2_goneInDays_126 : decode cX2_goneInDays 126 = .ok (.ireturn, 1) := by decide +kernel
theorem dX2_drawOne_0 : decode cX2_drawOne 0 = .ok (.aload_n 0, 1) := by decide +kernel
theorem dX2_drawOne_1 : decode cX2_drawOne 1 = .ok (.getfield 15, 3) := by decide +kernel
theorem dX2_drawOne_4 : decode cX2_drawOne 4 = .ok (.getfield 36, 3) := by decide +kernel
theorem dX2_drawOne_7 : decode cX2_drawOne 7 = .ok (.iconst 1, 1) := by decide +kernel
theorem dX2_drawOne_8 : decode cX2_drawOne 8 = .ok (.if_icmp .lt 14, 3) := by decide +kernel
theorem dX2_drawOne_11 : decode cX2_drawOne 11 = .ok (.aload_n 0, 1) := by decide +kernel
theorem dX2_drawOne_12 : decode cX2_drawOne 12 = .ok (.getfield 15, 3) := by decide +kernel
theorem dX2_drawOne_15 : decode cX2_drawOne 15 = .ok (.getfield 44, 3) := by decide +kernel
theorem dX2_drawOne_18 : decode cX2_drawOne 18 = .ok (.iconst 1, 1) := by decide +kernel
theorem dX2_drawOne_19 : decode cX2_drawOne 19 = .ok (.if_icmp .ge 4, 3) := by decide +kernel
theorem dX2_drawOne_22 : decode cX2_drawOne 22 = .ok (.return_, 1) := by decide +kernel
theorem dX2_drawOne_23 : decode cX2_drawOne 23 = .ok (.lload_n 1, 1) := by decide +kernel
theorem dX2_drawOne_24 : decode cX2_drawOne 24 = .ok (.aload_n 0, 1) := by decide +kernel
theorem dX2_drawOne_25 : decode cX2_drawOne 25 = .ok (.getfield 15, 3) := by decide +kernel
theorem dX2_drawOne_28 : decode cX2_drawOne 28 = .ok (.getfield 36, 3) := by decide +kernel
theorem dX2_drawOne_31 : decode cX2_drawOne 31 = .ok (.i2l, 1) := by decide +kernel
theorem dX2_drawOne_32 : decode cX2_drawOne 32 = .ok (.lrem, 1) := by decide +kernel
theorem dX2_drawOne_33 : decode cX2_drawOne 33 = .ok (.l2i, 1) := by decide +kernel
theorem dX2_drawOne_34 : decode cX2_drawOne 34 = .ok (.istore_n 3, 1) := by decide +kernel
theorem dX2_drawOne_35 : decode cX2_drawOne 35 = .ok (.aload_n 0, 1) := by decide +kernel
theorem dX2_drawOne_36 : decode cX2_drawOne 36 = .ok (.getfield 15, 3) := by decide +kernel
theorem dX2_drawOne_39 : decode cX2_drawOne 39 = .ok (.iload_n 3, 1) := by decide +kernel
theorem dX2_drawOne_40 : decode cX2_drawOne 40 = .ok (.invokevirtual 126, 3) := by decide +kernel
theorem dX2_drawOne_43 : decode cX2_drawOne 43 = .ok (.ifCond .ne 4, 3) := by decide +kernel
theorem dX2_drawOne_46 : decode cX2_drawOne 46 = .ok (.return_, 1) := by decide +kernel
theorem dX2_drawOne_47 : decode cX2_drawOne 47 = .ok (.aload_n 0, 1) := by decide +kernel
theorem dX2_drawOne_48 : decode cX2_drawOne 48 = .ok (.getfield 15, 3) := by decide +kernel
theorem dX2_drawOne_51 : decode cX2_drawOne 51 = .ok (.iload_n 3, 1) := by decide +kernel
theorem dX2_drawOne_52 : decode cX2_drawOne 52 = .ok (.invokevirtual 31, 3) := by decide +kernel
theorem dX2_drawOne_55 : decode cX2_drawOne 55 = .ok (.ifCond .ne 14, 3) := by decide +kernel
theorem dX2_drawOne_58 : decode cX2_drawOne 58 = .ok (.aload_n 0, 1) := by decide +kernel
theorem dX2_drawOne_59 : decode cX2_drawOne 59 = .ok (.getfield 15, 3) := by decide +kernel
theorem dX2_drawOne_62 : decode cX2_drawOne 62 = .ok (.iload_n 3, 1) := by decide +kernel
theorem dX2_drawOne_63 : decode cX2_drawOne 63 = .ok (.invokevirtual 129, 3) := by decide +kernel
theorem dX2_drawOne_66 : decode cX2_drawOne 66 = .ok (.goto 33, 3) := by decide +kernel
theorem dX2_drawOne_69 : decode cX2_drawOne 69 = .ok (.lload_n 1, 1) := by decide +kernel
theorem dX2_drawOne_70 : decode cX2_drawOne 70 = .ok (.ldc2_w 132, 3) := by decide +kernel
theorem dX2_drawOne_73 : decode cX2_drawOne 73 = .ok (.lrem, 1) := by decide +kernel
theorem dX2_drawOne_74 : decode cX2_drawOne 74 = .ok (.lconst 0, 1) := by decide +kernel
theorem dX2_drawOne_75 : decode cX2_drawOne 75 = .ok (.lcmp, 1) := by decide +kernel
theorem dX2_drawOne_76 : decode cX2_drawOne 76 = .ok (.ifCond .ne 23, 3) := by decide +kernel
theorem dX2_drawOne_79 : decode cX2_drawOne 79 = .ok (.aload_n 0, 1) := by decide +kernel
theorem dX2_drawOne_80 : decode cX2_drawOne 80 = .ok (.getfield 15, 3) := by decide +kernel
theorem dX2_drawOne_83 : decode cX2_drawOne 83 = .ok (.getfield 51, 3) := by decide +kernel
theorem dX2_drawOne_86 : decode cX2_drawOne 86 = .ok (.iload_n 3, 1) := by decide +kernel
theorem dX2_drawOne_87 : decode cX2_drawOne 87 = .ok (.lload_n 1, 1) := by decide +kernel
theorem dX2_drawOne_88 : decode cX2_drawOne 88 = .ok (.aload_n 0, 1) := by decide +kernel
theorem dX2_drawOne_89 : decode cX2_drawOne 89 = .ok (.getfield 15, 3) := by decide +kernel
theorem dX2_drawOne_92 : decode cX2_drawOne 92 = .ok (.getfield 44, 3) := by decide +kernel
theorem dX2_drawOne_95 : decode cX2_drawOne 95 = .ok (.i2l, 1) := by decide +kernel
theorem dX2_drawOne_96 : decode cX2_drawOne 96 = .ok (.lrem, 1) := by decide +kernel
theorem dX2_drawOne_97 : decode cX2_drawOne 97 = .ok (.l2i, 1) := by decide +kernel
theorem dX2_drawOne_98 : decode cX2_drawOne 98 = .ok (.iastore, 1) := by decide +kernel
theorem dX2_drawOne_99 : decode cX2_drawOne 99 = .ok (.return_, 1) := by decide +kernel
theorem dX4_init_0 : decode cX4_init 0 = .ok (.aload_n 0, 1) := by decide +kernel
theorem dX4_init_1 : decode cX4_init 1 = .ok (.invokespecial 3, 3) := by decide +kernel
theorem dX4_init_4 : decode cX4_init 4 = .ok (.aload_n 0, 1) := by decide +kernel
theorem dX4_init_5 : decode cX4_init 5 = .ok (.sipush 240, 3) := by decide +kernel
theorem dX4_init_8 : decode cX4_init 8 = .ok (.newarray .int, 2) := by decide +kernel
theorem dX4_init_10 : decode cX4_init 10 = .ok (.putfield 11, 3) := by decide +kernel
theorem dX4_init_13 : decode cX4_init 13 = .ok (.aload_n 0, 1) := by decide +kernel
theorem dX4_init_14 : decode cX4_init 14 = .ok (.bipush 40, 2) := by decide +kernel
theorem dX4_init_16 : decode cX4_init 16 = .ok (.newarray .int, 2) := by decide +kernel
theorem dX4_init_18 : decode cX4_init 18 = .ok (.putfield 17, 3) := by decide +kernel
theorem dX4_init_21 : decode cX4_init 21 = .ok (.aload_n 0, 1) := by decide +kernel
theorem dX4_init_22 : decode cX4_init 22 = .ok (.bipush 40, 2) := by decide +kernel
theorem dX4_init_24 : decode cX4_init 24 = .ok (.newarray .int, 2) := by decide +kernel
theorem dX4_init_26 : decode cX4_init 26 = .ok (.putfield 20, 3) := by decide +kernel
theorem dX4_init_29 : decode cX4_init 29 = .ok (.aload_n 0, 1) := by decide +kernel
theorem dX4_init_30 : decode cX4_init 30 = .ok (.bipush 6, 2) := by decide +kernel
theorem dX4_init_32 : decode cX4_init 32 = .ok (.newarray .int, 2) := by decide +kernel
theorem dX4_init_34 : decode cX4_init 34 = .ok (.putfield 23, 3) := by decide +kernel
theorem dX4_init_37 : decode cX4_init 37 = .ok (.aload_n 0, 1) := by decide +kernel
theorem dX4_init_38 : decode cX4_init 38 = .ok (.bipush 6, 2) := by decide +kernel
theorem dX4_init_40 : decode cX4_init 40 = .ok (.newarray .int, 2) := by decide +kernel
theorem dX4_init_42 : decode cX4_init 42 = .ok (.putfield 26, 3) := by decide +kernel
theorem dX4_init_45 : decode cX4_init 45 = .ok (.aload_n 0, 1) := by decide +kernel
theorem dX4_init_46 : decode cX4_init 46 = .ok (.aload_n 1, 1) := by decide +kernel
theorem dX4_init_47 : decode cX4_init 47 = .ok (.putfield 29, 3) := by decide +kernel
theorem dX4_init_50 : decode cX4_init 50 = .ok (.return_, 1) := by decide +kernel
theorem dX4_mostOwn_0 : decode cX4_mostOwn 0 = .ok (.aload_n 0, 1) := by decide +kernel
theorem dX4_mostOwn_1 : decode cX4_mostOwn 1 = .ok (.getfield 33, 3) := by decide +kernel
theorem dX4_mostOwn_4 : decode cX4_mostOwn 4 = .ok (.ireturn, 1) := by decide +kernel
theorem dX4_search_0 : decode cX4_search 0 = .ok (.aload_n 1, 1) := by decide +kernel
theorem dX4_search_1 : decode cX4_search 1 = .ok (.aload_n 0, 1) := by decide +kernel
theorem dX4_search_2 : decode cX4_search 2 = .ok (.getfield 17, 3) := by decide +kernel
theorem dX4_search_5 : decode cX4_search 5 = .ok (.iconst 0, 1) := by decide +kernel
theorem dX4_search_6 : decode cX4_search 6 = .ok (.invokevirtual 37, 3) := by decide +kernel
theorem dX4_search_9 : decode cX4_search 9 = .ok (.iload_n 2, 1) := by decide +kernel
theorem dX4_search_10 : decode cX4_search 10 = .ok (.aload_n 0, 1) := by decide +kernel
theorem dX4_search_11 : decode cX4_search 11 = .ok (.getfield 41, 3) := by decide +kernel
theorem dX4_search_14 : decode cX4_search 14 = .ok (.if_icmp .ne 11, 3) := by decide +kernel
theorem dX4_search_17 : decode cX4_search 17 = .ok (.aload_n 0, 1) := by decide +kernel
theorem dX4_search_18 : decode cX4_search 18 = .ok (.invokevirtual 44, 3) := by decide +kernel
theorem dX4_search_21 : decode cX4_search 21 = .ok (.ifCond .eq 4, 3) := by decide +kernel
theorem dX4_search_24 : decode cX4_search 24 = .ok (.return_, 1) := by decide +kernel
theorem dX4_search_25 : decode cX4_search 25 = .ok (.aload_n 0, 1) := by decide +kernel
theorem dX4_search_26 : decode cX4_search 26 = .ok (.getfield 17, 3) := by decide +kernel
theorem dX4_search_29 : decode cX4_search 29 = .ok (.iconst 0, 1) := by decide +kernel
theorem dX4_search_30 : decode cX4_search 30 = .ok (.aload_n 0, 1) := by decide +kernel
theorem dX4_search_31 : decode cX4_search 31 = .ok (.getfield 20, 3) := by decide +kernel
theorem dX4_search_34 : decode cX4_search 34 = .ok (.iconst 0, 1) := by decide +kernel
theorem dX4_search_35 : decode cX4_search 35 = .ok (.bipush 40, 2) := by decide +kernel
theorem dX4_search_37 : decode cX4_search 37 = .ok (.invokestatic 48, 3) := by decide +kernel
theorem dX4_search_40 : decode cX4_search 40 = .ok (.aload_n 0, 1) := by decide +kernel
theorem dX4_search_41 : decode cX4_search 41 = .ok (.iload_n 2, 1) := by decide +kernel
theorem dX4_search_42 : decode cX4_search 42 = .ok (.putfield 41, 3) := by decide +kernel
theorem dX4_search_45 : decode cX4_search 45 = .ok (.aload_n 0, 1) := by decide +kernel
theorem dX4_search_46 : decode cX4_search 46 = .ok (.iconst (-1), 1) := by decide +kernel
theorem dX4_search_47 : decode cX4_search 47 = .ok (.putfield 33, 3) := by decide +kernel
theorem dX4_search_50 : decode cX4_search 50 = .ok (.aload_n 0, 1) := by decide +kernel
theorem dX4_search_51 : decode cX4_search 51 = .ok (.getfield 29, 3) := by decide +kernel
theorem dX4_search_54 : decode cX4_search 54 = .ok (.aload_n 1, 1) := by decide +kernel
theorem dX4_search_55 : decode cX4_search 55 = .ok (.invokevirtual 54, 3) := by decide +kernel
theorem dX4_search_58 : decode cX4_search 58 = .ok (.aload_n 0, 1) := by decide +kernel
theorem dX4_search_59 : decode cX4_search 59 = .ok (.iconst 0, 1) := by decide +kernel
theorem dX4_search_60 : decode cX4_search 60 = .ok (.iconst 0, 1) := by decide +kernel
theorem dX4_search_61 : decode cX4_search 61 = .ok (.invokevirtual 58, 3) := by decide +kernel
theorem dX4_search_64 : decode cX4_search 64 = .ok (.return_, 1) := by decide +kernel
theorem dX4_isSearched_0 : decode cX4_isSearched 0 = .ok (.iconst 0, 1) := by decide +kernel
theorem dX4_isSearched_1 : decode cX4_isSearched 1 = .ok (.istore_n 1, 1) := by decide +kernel
theorem dX4_isSearched_2 : decode cX4_isSearched 2 = .ok (.iload_n 1, 1) := by decide +kernel
theorem dX4_isSearched_3 : decode cX4_isSearched 3 = .ok (.bipush 40, 2) := by decide +kernel
theorem dX4_isSearched_5 : decode cX4_isSearched 5 = .ok (.if_icmp .ge 26, 3) := by decide +kernel
theorem dX4_isSearched_8 : decode cX4_isSearched 8 = .ok (.aload_n 0, 1) := by decide +kernel
theorem dX4_isSearched_9 : decode cX4_isSearched 9 = .ok (.getfield 17, 3) := by decide +kernel
theorem dX4_isSearched_12 : decode cX4_isSearched 12 = .ok (.iload_n 1, 1) := by decide +kernel
theorem dX4_isSearched_13 : decode cX4_isSearched 13 = .ok (.iaload, 1) := by decide +kernel
theorem dX4_isSearched_14 : decode cX4_isSearched 14 = .ok (.aload_n 0, 1) := by decide +kernel
theorem dX4_isSearched_15 : decode cX4_isSearched 15 = .ok (.getfield 20, 3) := by decide +kernel
theorem dX4_isSearched_18 : decode cX4_isSearched 18 = .ok (.iload_n 1, 1) := by decide +kernel
theorem dX4_isSearched_19 : decode cX4_isSearched 19 = .ok (.iaload, 1) := by decide +kernel
theorem dX4_isSearched_20 : decode cX4_isSearched 20 = .ok (.if_icmp .eq 5, 3) := by decide +kernel
theorem dX4_isSearched_23 : decode cX4_isSearched 23 = .ok (.iconst 0, 1) := by decide +kernel
theorem dX4_isSearched_24 : decode cX4_isSearched 24 = .ok (.ireturn, 1) := by decide +kernel
theorem dX4_isSearched_25 : decode cX4_isSearched 25 = .ok (.iinc 1 1, 3) := by decide +kernel
theorem dX4_isSearched_28 : decode cX4_isSearched 28 = .ok (.goto (-26), 3) := by decide +kernel
theorem dX4_isSearched_31 : decode cX4_isSearched 31 = .ok (.iconst 1, 1) := by decide +kernel
theorem dX4_isSearched_32 : decode cX4_isSearched 32 = .ok (.ireturn, 1) := by decide +kernel
theorem dX4_tryFrom_0 : decode cX4_tryFrom 0 = .ok (.iload_n 1, 1) := by decide +kernel
theorem dX4_tryFrom_1 : decode cX4_tryFrom 1 = .ok (.istore_n 3, 1) := by decide +kernel
theorem dX4_tryFrom_2 : decode cX4_tryFrom 2 = .ok (.iload_n 3, 1) := by decide +kernel
theorem dX4_tryFrom_3 : decode cX4_tryFrom 3 = .ok (.aload_n 0, 1) := by decide +kernel
theorem dX4_tryFrom_4 : decode cX4_tryFrom 4 = .ok (.getfield 41, 3) := by decide +kernel
theorem dX4_tryFrom_7 : decode cX4_tryFrom 7 = .ok (.if_icmp .ge 41, 3) := by decide +kernel
theorem dX4_tryFrom_10 : decode cX4_tryFrom 10 = .ok (.aload_n 0, 1) := by decide +kernel
theorem dX4_tryFrom_11 : decode cX4_tryFrom 11 = .ok (.getfield 29, 3) := by decide +kernel
theorem dX4_tryFrom_14 : decode cX4_tryFrom 14 = .ok (.iconst 1, 1) := by decide +kernel
theorem dX4_tryFrom_15 : decode cX4_tryFrom 15 = .ok (.invokevirtual 62, 3) := by decide +kernel
theorem dX4_tryFrom_18 : decode cX4_tryFrom 18 = .ok (.aload_n 0, 1) := by decide +kernel
theorem dX4_tryFrom_19 : decode cX4_tryFrom 19 = .ok (.getfield 29, 3) := by decide +kernel
theorem dX4_tryFrom_22 : decode cX4_tryFrom 22 = .ok (.invokevirtual 66, 3) := by decide +kernel
theorem dX4_tryFrom_25 : decode cX4_tryFrom 25 = .ok (.ifCond .eq 10, 3) := by decide +kernel
theorem dX4_tryFrom_28 : decode cX4_tryFrom 28 = .ok (.aload_n 0, 1) := by decide +kernel
theorem dX4_tryFrom_29 : decode cX4_tryFrom 29 = .ok (.iload_n 3, 1) := by decide +kernel
theorem dX4_tryFrom_30 : decode cX4_tryFrom 30 = .ok (.iload_n 2, 1) := by decide +kernel
theorem dX4_tryFrom_31 : decode cX4_tryFrom 31 = .ok (.invokevirtual 69, 3) := by decide +kernel
theorem dX4_tryFrom_34 : decode cX4_tryFrom 34 = .ok (.return_, 1) := by decide +kernel
theorem dX4_tryFrom_35 : decode cX4_tryFrom 35 = .ok (.aload_n 0, 1) := by decide +kernel
theorem dX4_tryFrom_36 : decode cX4_tryFrom 36 = .ok (.getfield 29, 3) := by decide +kernel
theorem dX4_tryFrom_39 : decode cX4_tryFrom 39 = .ok (.invokevirtual 72, 3) := by decide +kernel
theorem dX4_tryFrom_42 : decode cX4_tryFrom 42 = .ok (.iinc 3 1, 3) := by decide +kernel
theorem dX4_tryFrom_45 : decode cX4_tryFrom 45 = .ok (.goto (-43), 3) := by decide +kernel
theorem dX4_tryFrom_48 : decode cX4_tryFrom 48 = .ok (.aload_n 0, 1) := by decide +kernel
theorem dX4_tryFrom_49 : decode cX4_tryFrom 49 = .ok (.iload_n 2, 1) := by decide +kernel
theorem dX4_tryFrom_50 : decode cX4_tryFrom 50 = .ok (.invokevirtual 75, 3) := by decide +kernel
theorem dX4_tryFrom_53 : decode cX4_tryFrom 53 = .ok (.return_, 1) := by decide +kernel
theorem dX4_tryEachFall_0 : decode cX4_tryEachFall 0 = .ok (.iload_n 2, 1) := by decide +kernel
theorem dX4_tryEachFall_1 : decode cX4_tryEachFall 1 = .ok (.ifCond .lt 9, 3) := by decide +kernel
theorem dX4_tryEachFall_4 : decode cX4_tryEachFall 4 = .ok (.iload_n 2, 1) := by decide +kernel
theorem dX4_tryEachFall_5 : decode cX4_tryEachFall 5 = .ok (.bipush 6, 2) := by decide +kernel
theorem dX4_tryEachFall_7 : decode cX4_tryEachFall 7 = .ok (.if_icmp .lt 4, 3) := by decide +kernel
theorem dX4_tryEachFall_10 : decode cX4_tryEachFall 10 = .ok (.return_, 1) := by decide +kernel
theorem dX4_tryEachFall_11 : decode cX4_tryEachFall 11 = .ok (.aload_n 0, 1) := by decide +kernel
theorem dX4_tryEachFall_12 : decode cX4_tryEachFall 12 = .ok (.getfield 29, 3) := by decide +kernel
theorem dX4_tryEachFall_15 : decode cX4_tryEachFall 15 = .ok (.iconst 1, 1) := by decide +kernel
theorem dX4_tryEachFall_16 : decode cX4_tryEachFall 16 = .ok (.invokevirtual 78, 3) := by decide +kernel
theorem dX4_tryEachFall_19 : decode cX4_tryEachFall 19 = .ok (.istore_n 3, 1) := by decide +kernel
theorem dX4_tryEachFall_20 : decode cX4_tryEachFall 20 = .ok (.aload_n 0, 1) := by decide +kernel
theorem dX4_tryEachFall_21 : decode cX4_tryEachFall 21 = .ok (.getfield 29, 3) := by decide +kernel
theorem dX4_tryEachFall_24 : decode cX4_tryEachFall 24 = .ok (.aload_n 0, 1) := by decide +kernel
theorem dX4_tryEachFall_25 : decode cX4_tryEachFall 25 = .ok (.getfield 11, 3) := by decide +kernel
theorem dX4_tryEachFall_28 : decode cX4_tryEachFall 28 = .ok (.iload_n 2, 1) := by decide +kernel
theorem dX4_tryEachFall_29 : decode cX4_tryEachFall 29 = .ok (.bipush 40, 2) := by decide +kernel
theorem dX4_tryEachFall_31 : decode cX4_tryEachFall 31 = .ok (.imul, 1) := by decide +kernel
theorem dX4_tryEachFall_32 : decode cX4_tryEachFall 32 = .ok (.invokevirtual 37, 3) := by decide +kernel
theorem dX4_tryEachFall_35 : decode cX4_tryEachFall 35 = .ok (.iconst 0, 1) := by decide +kernel
theorem dX4_tryEachFall_36 : decode cX4_tryEachFall 36 = .ok (.istore 4, 2) := by decide +kernel
theorem dX4_tryEachFall_38 : decode cX4_tryEachFall 38 = .ok (.iload 4, 2) := by decide +kernel
theorem dX4_tryEachFall_40 : decode cX4_tryEachFall 40 = .ok (.aload_n 0, 1) := by decide +kernel
theorem dX4_tryEachFall_41 : decode cX4_tryEachFall 41 = .ok (.getfield 29, 3) := by decide +kernel
theorem dX4_tryEachFall_44 : decode cX4_tryEachFall 44 = .ok (.getfield 82, 3) := by decide +kernel
theorem dX4_tryEachFall_47 : decode cX4_tryEachFall 47 = .ok (.if_icmp .ge 75, 3) := by decide +kernel
theorem dX4_tryEachFall_50 : decode cX4_tryEachFall 50 = .ok (.iload_n 3, 1) := by decide +kernel
theorem dX4_tryEachFall_51 : decode cX4_tryEachFall 51 = .ok (.iload 4, 2) := by decide +kernel
theorem dX4_tryEachFall_53 : decode cX4_tryEachFall 53 = .ok (.ishr, 1) := by decide +kernel
theorem dX4_tryEachFall_54 : decode cX4_tryEachFall 54 = .ok (.iconst 1, 1) := by decide +kernel
theorem dX4_tryEachFall_55 : decode cX4_tryEachFall 55 = .ok (.iand, 1) := by decide +kernel
theorem dX4_tryEachFall_56 : decode cX4_tryEachFall 56 = .ok (.iconst 1, 1) := by decide +kernel
theorem dX4_tryEachFall_57 : decode cX4_tryEachFall 57 = .ok (.if_icmp .ne 59, 3) := by decide +kernel
theorem dX4_tryEachFall_60 : decode cX4_tryEachFall 60 = .ok (.aload_n 0, 1) := by decide +kernel
theorem dX4_tryEachFall_61 : decode cX4_tryEachFall 61 = .ok (.getfield 29, 3) := by decide +kernel
theorem dX4_tryEachFall_64 : decode cX4_tryEachFall 64 = .ok (.aload_n 0, 1) := by decide +kernel
theorem dX4_tryEachFall_65 : decode cX4_tryEachFall 65 = .ok (.getfield 11, 3) := by decide +kernel
theorem dX4_tryEachFall_68 : decode cX4_tryEachFall 68 = .ok (.iload_n 2, 1) := by decide +kernel
theorem dX4_tryEachFall_69 : decode cX4_tryEachFall 69 = .ok (.bipush 40, 2) := by decide +kernel
theorem dX4_tryEachFall_71 : decode cX4_tryEachFall 71 = .ok (.imul, 1) := by decide +kernel
theorem dX4_tryEachFall_72 : decode cX4_tryEachFall 72 = .ok (.invokevirtual 85, 3) := by decide +kernel
theorem dX4_tryEachFall_75 : decode cX4_tryEachFall 75 = .ok (.aload_n 0, 1) := by decide +kernel
theorem dX4_tryEachFall_76 : decode cX4_tryEachFall 76 = .ok (.getfield 23, 3) := by decide +kernel
theorem dX4_tryEachFall_79 : decode cX4_tryEachFall 79 = .ok (.iload_n 2, 1) := by decide +kernel
theorem dX4_tryEachFall_80 : decode cX4_tryEachFall 80 = .ok (.iload 4, 2) := by decide +kernel
theorem dX4_tryEachFall_82 : decode cX4_tryEachFall 82 = .ok (.iastore, 1) := by decide +kernel
theorem dX4_tryEachFall_83 : decode cX4_tryEachFall 83 = .ok (.aload_n 0, 1) := by decide +kernel
theorem dX4_tryEachFall_84 : decode cX4_tryEachFall 84 = .ok (.getfield 29, 3) := by decide +kernel
theorem dX4_tryEachFall_87 : decode cX4_tryEachFall 87 = .ok (.iload 4, 2) := by decide +kernel
theorem dX4_tryEachFall_89 : decode cX4_tryEachFall 89 = .ok (.invokevirtual 88, 3) := by decide +kernel
theorem dX4_tryEachFall_92 : decode cX4_tryEachFall 92 = .ok (.aload_n 0, 1) := by decide +kernel
theorem dX4_tryEachFall_93 : decode cX4_tryEachFall 93 = .ok (.getfield 29, 3) := by decide +kernel
theorem dX4_tryEachFall_96 : decode cX4_tryEachFall 96 = .ok (.invokevirtual 72, 3) := by decide +kernel
theorem dX4_tryEachFall_99 : decode cX4_tryEachFall 99 = .ok (.aload_n 0, 1) := by decide +kernel
theorem dX4_tryEachFall_100 : decode cX4_tryEachFall 100 = .ok (.invokevirtual 91, 3) := by decide +kernel
theorem dX4_tryEachFall_103 : decode cX4_tryEachFall 103 = .ok (.ifCond .eq 13, 3) := by decide +kernel
theorem dX4_tryEachFall_106 : decode cX4_tryEachFall 106 = .ok (.aload_n 0, 1) := by decide +kernel
theorem dX4_tryEachFall_107 : decode cX4_tryEachFall 107 = .ok (.iload_n 1, 1) := by decide +kernel
theorem dX4_tryEachFall_108 : decode cX4_tryEachFall 108 = .ok (.iconst 1, 1) := by decide +kernel
theorem dX4_tryEachFall_109 : decode cX4_tryEachFall 109 = .ok (.iadd, 1) := by decide +kernel
theorem dX4_tryEachFall_110 : decode cX4_tryEachFall 110 = .ok (.iload_n 2, 1) := by decide +kernel
theorem dX4_tryEachFall_111 : decode cX4_tryEachFall 111 = .ok (.iconst 1, 1) := by decide +kernel
theorem dX4_tryEachFall_112 : decode cX4_tryEachFall 112 = .ok (.iadd, 1) := by decide +kernel
theorem dX4_tryEachFall_113 : decode cX4_tryEachFall 113 = .ok (.invokevirtual 58, 3) := by decide +kernel
theorem dX4_tryEachFall_116 : decode cX4_tryEachFall 116 = .ok (.iinc 4 1, 3) := by decide +kernel
theorem dX4_tryEachFall_119 : decode cX4_tryEachFall 119 = .ok (.goto (-81), 3) := by decide +kernel
theorem dX4_tryEachFall_122 : decode cX4_tryEachFall 122 = .ok (.return_, 1) := by decide +kernel
theorem dX4_mayBeBetter_0 : decode cX4_mayBeBetter 0 = .ok (.iconst 0, 1) := by decide +kernel
theorem dX4_mayBeBetter_1 : decode cX4_mayBeBetter 1 = .ok (.istore_n 1, 1) := by decide +kernel
theorem dX4_mayBeBetter_2 : decode cX4_mayBeBetter 2 = .ok (.iconst 0, 1) := by decide +kernel
theorem dX4_mayBeBetter_3 : decode cX4_mayBeBetter 3 = .ok (.istore_n 2, 1) := by decide +kernel
theorem dX4_mayBeBetter_4 : decode cX4_mayBeBetter 4 = .ok (.iload_n 2, 1) := by decide +kernel
theorem dX4_mayBeBetter_5 : decode cX4_mayBeBetter 5 = .ok (.aload_n 0, 1) := by decide +kernel
theorem dX4_mayBeBetter_6 : decode cX4_mayBeBetter 6 = .ok (.getfield 29, 3) := by decide +kernel
theorem dX4_mayBeBetter_9 : decode cX4_mayBeBetter 9 = .ok (.getfield 82, 3) := by decide +kernel
theorem dX4_mayBeBetter_12 : decode cX4_mayBeBetter 12 = .ok (.if_icmp .ge 50, 3) := by decide +kernel
theorem dX4_mayBeBetter_15 : decode cX4_mayBeBetter 15 = .ok (.iload_n 1, 1) := by decide +kernel
theorem dX4_mayBeBetter_16 : decode cX4_mayBeBetter 16 = .ok (.aload_n 0, 1) := by decide +kernel
theorem dX4_mayBeBetter_17 : decode cX4_mayBeBetter 17 = .ok (.getfield 29, 3) := by decide +kernel
theorem dX4_mayBeBetter_20 : decode cX4_mayBeBetter 20 = .ok (.iload_n 2, 1) := by decide +kernel
theorem dX4_mayBeBetter_21 : decode cX4_mayBeBetter 21 = .ok (.invokevirtual 94, 3) := by decide +kernel
theorem dX4_mayBeBetter_24 : decode cX4_mayBeBetter 24 = .ok (.ifCond .ne 25, 3) := by decide +kernel
theorem dX4_mayBeBetter_27 : decode cX4_mayBeBetter 27 = .ok (.aload_n 0, 1) := by decide +kernel
theorem dX4_mayBeBetter_28 : decode cX4_mayBeBetter 28 = .ok (.getfield 29, 3) := by decide +kernel
theorem dX4_mayBeBetter_31 : decode cX4_mayBeBetter 31 = .ok (.iload_n 2, 1) := by decide +kernel
theorem dX4_mayBeBetter_32 : decode cX4_mayBeBetter 32 = .ok (.invokevirtual 98, 3) := by decide +kernel
theorem dX4_mayBeBetter_35 : decode cX4_mayBeBetter 35 = .ok (.ifCond .eq 18, 3) := by decide +kernel
theorem dX4_mayBeBetter_38 : decode cX4_mayBeBetter 38 = .ok (.aload_n 0, 1) := by decide +kernel
theorem dX4_mayBeBetter_39 : decode cX4_mayBeBetter 39 = .ok (.getfield 29, 3) := by decide +kernel
theorem dX4_mayBeBetter_42 : decode cX4_mayBeBetter 42 = .ok (.iload_n 2, 1) := by decide +kernel
theorem dX4_mayBeBetter_43 : decode cX4_mayBeBetter 43 = .ok (.invokevirtual 101, 3) := by decide +kernel
theorem dX4_mayBeBetter_46 : decode cX4_mayBeBetter 46 = .ok (.ifCond .ne 7, 3) := by decide +kernel
theorem dX4_mayBeBetter_49 : decode cX4_mayBeBetter 49 = .ok (.iconst 1, 1) := by decide +kernel
theorem dX4_mayBeBetter_50 : decode cX4_mayBeBetter 50 = .ok (.goto 4, 3) := by decide +kernel
theorem dX4_mayBeBetter_53 : decode cX4_mayBeBetter 53 = .ok (.iconst 0, 1) := by decide +kernel
theorem dX4_mayBeBetter_54 : decode cX4_mayBeBetter 54 = .ok (.iadd, 1) := by decide +kernel
theorem dX4_mayBeBetter_55 : decode cX4_mayBeBetter 55 = .ok (.istore_n 1, 1) := by decide +kernel
theorem dX4_mayBeBetter_56 : decode cX4_mayBeBetter 56 = .ok (.iinc 2 1, 3) := by decide +kernel
theorem dX4_mayBeBetter_59 : decode cX4_mayBeBetter 59 = .ok (.goto (-55), 3) := by decide +kernel
theorem dX4_mayBeBetter_62 : decode cX4_mayBeBetter 62 = .ok (.iload_n 1, 1) := by decide +kernel
theorem dX4_mayBeBetter_63 : decode cX4_mayBeBetter 63 = .ok (.aload_n 0, 1) := by decide +kernel
theorem dX4_mayBeBetter_64 : decode cX4_mayBeBetter 64 = .ok (.getfield 33, 3) := by decide +kernel
theorem dX4_mayBeBetter_67 : decode cX4_mayBeBetter 67 = .ok (.if_icmp .gt 25, 3) := by decide +kernel
theorem dX4_mayBeBetter_70 : decode cX4_mayBeBetter 70 = .ok (.iload_n 1, 1) := by decide +kernel
theorem dX4_mayBeBetter_71 : decode cX4_mayBeBetter 71 = .ok (.aload_n 0, 1) := by decide +kernel
theorem dX4_mayBeBetter_72 : decode cX4_mayBeBetter 72 = .ok (.getfield 33, 3) := by decide +kernel
theorem dX4_mayBeBetter_75 : decode cX4_mayBeBetter 75 = .ok (.if_icmp .ne 21, 3) := by decide +kernel
theorem dX4_mayBeBetter_78 : decode cX4_mayBeBetter 78 = .ok (.aload_n 0, 1) := by decide +kernel
theorem dX4_mayBeBetter_79 : decode cX4_mayBeBetter 79 = .ok (.getfield 29, 3) := by decide +kernel
theorem dX4_mayBeBetter_82 : decode cX4_mayBeBetter 82 = .ok (.invokevirtual 104, 3) := by decide +kernel
theorem dX4_mayBeBetter_85 : decode cX4_mayBeBetter 85 = .ok (.aload_n 0, 1) := by decide +kernel
theorem dX4_mayBeBetter_86 : decode cX4_mayBeBetter 86 = .ok (.getfield 108, 3) := by decide +kernel
theorem dX4_mayBeBetter_89 : decode cX4_mayBeBetter 89 = .ok (.if_icmp .ge 7, 3) := by decide +kernel
theorem dX4_mayBeBetter_92 : decode cX4_mayBeBetter 92 = .ok (.iconst 1, 1) := by decide +kernel
theorem dX4_mayBeBetter_93 : decode cX4_mayBeBetter 93 = .ok (.goto 4, 3) := by decide +kernel
theorem dX4_mayBeBetter_96 : decode cX4_mayBeBetter 96 = .ok (.iconst 0, 1) := by decide +kernel
theorem dX4_mayBeBetter_97 : decode cX4_mayBeBetter 97 = .ok (.ireturn, 1) := by decide +kernel
theorem dX4_ownCount_0 : decode cX4_ownCount 0 = .ok (.iconst 0, 1) := by decide +kernel
theorem dX4_ownCount_1 : decode cX4_ownCount 1 = .ok (.istore_n 1, 1) := by decide +kernel
theorem dX4_ownCount_2 : decode cX4_ownCount 2 = .ok (.iconst 0, 1) := by decide +kernel
theorem dX4_ownCount_3 : decode cX4_ownCount 3 = .ok (.istore_n 2, 1) := by decide +kernel
theorem dX4_ownCount_4 : decode cX4_ownCount 4 = .ok (.iload_n 2, 1) := by decide +kernel
theorem dX4_ownCount_5 : decode cX4_ownCount 5 = .ok (.aload_n 0, 1) := by decide +kernel
theorem dX4_ownCount_6 : decode cX4_ownCount 6 = .ok (.getfield 29, 3) := by decide +kernel
theorem dX4_ownCount_9 : decode cX4_ownCount 9 = .ok (.getfield 82, 3) := by decide +kernel
theorem dX4_ownCount_12 : decode cX4_ownCount 12 = .ok (.if_icmp .ge 28, 3) := by decide +kernel
theorem dX4_ownCount_15 : decode cX4_ownCount 15 = .ok (.iload_n 1, 1) := by decide +kernel
theorem dX4_ownCount_16 : decode cX4_ownCount 16 = .ok (.aload_n 0, 1) := by decide +kernel
theorem dX4_ownCount_17 : decode cX4_ownCount 17 = .ok (.getfield 29, 3) := by decide +kernel
theorem dX4_ownCount_20 : decode cX4_ownCount 20 = .ok (.iload_n 2, 1) := by decide +kernel
theorem dX4_ownCount_21 : decode cX4_ownCount 21 = .ok (.invokevirtual 94, 3) := by decide +kernel
theorem dX4_ownCount_24 : decode cX4_ownCount 24 = .ok (.ifCond .eq 7, 3) := by decide +kernel
theorem dX4_ownCount_27 : decode cX4_ownCount 27 = .ok (.iconst 1, 1) := by decide +kernel
theorem dX4_ownCount_28 : decode cX4_ownCount 28 = .ok (.goto 4, 3) := by decide +kernel
theorem dX4_ownCount_31 : decode cX4_ownCount 31 = .ok (.iconst 0, 1) := by decide +kernel
theorem dX4_ownCount_32 : decode cX4_ownCount 32 = .ok (.iadd, 1) := by decide +kernel
theorem dX4_ownCount_33 : decode cX4_ownCount 33 = .ok (.istore_n 1, 1) := by decide +kernel
theorem dX4_ownCount_34 : decode cX4_ownCount 34 = .ok (.iinc 2 1, 3) := by decide +kernel
theorem dX4_ownCount_37 : decode cX4_ownCount 37 = .ok (.goto (-33), 3) := by decide +kernel
theorem dX4_ownCount_40 : decode cX4_ownCount 40 = .ok (.iload_n 1, 1) := by decide +kernel
theorem dX4_ownCount_41 : decode cX4_ownCount 41 = .ok (.ireturn, 1) := by decide +kernel
theorem dX4_weigh_0 : decode cX4_weigh 0 = .ok (.aload_n 0, 1) := by decide +kernel
theorem dX4_weigh_1 : decode cX4_weigh 1 = .ok (.invokevirtual 111, 3) := by decide +kernel
theorem dX4_weigh_4 : decode cX4_weigh 4 = .ok (.istore_n 2, 1) := by decide +kernel
theorem dX4_weigh_5 : decode cX4_weigh 5 = .ok (.aload_n 0, 1) := by decide +kernel
theorem dX4_weigh_6 : decode cX4_weigh 6 = .ok (.getfield 29, 3) := by decide +kernel
theorem dX4_weigh_9 : decode cX4_weigh 9 = .ok (.invokevirtual 104, 3) := by decide +kernel
theorem dX4_weigh_12 : decode cX4_weigh 12 = .ok (.istore_n 3, 1) := by decide +kernel
theorem dX4_weigh_13 : decode cX4_weigh 13 = .ok (.iload_n 2, 1) := by decide +kernel
theorem dX4_weigh_14 : decode cX4_weigh 14 = .ok (.aload_n 0, 1) := by decide +kernel
theorem dX4_weigh_15 : decode cX4_weigh 15 = .ok (.getfield 33, 3) := by decide +kernel
theorem dX4_weigh_18 : decode cX4_weigh 18 = .ok (.if_icmp .gt 19, 3) := by decide +kernel
theorem dX4_weigh_21 : decode cX4_weigh 21 = .ok (.iload_n 2, 1) := by decide +kernel
theorem dX4_weigh_22 : decode cX4_weigh 22 = .ok (.aload_n 0, 1) := by decide +kernel
theorem dX4_weigh_23 : decode cX4_weigh 23 = .ok (.getfield 33, 3) := by decide +kernel
theorem dX4_weigh_26 : decode cX4_weigh 26 = .ok (.if_icmp .ne 46, 3) := by decide +kernel
theorem dX4_weigh_29 : decode cX4_weigh 29 = .ok (.iload_n 3, 1) := by decide +kernel
theorem dX4_weigh_30 : decode cX4_weigh 30 = .ok (.aload_n 0, 1) := by decide +kernel
theorem dX4_weigh_31 : decode cX4_weigh 31 = .ok (.getfield 108, 3) := by decide +kernel
theorem dX4_weigh_34 : decode cX4_weigh 34 = .ok (.if_icmp .ge 38, 3) := by decide +kernel
theorem dX4_weigh_37 : decode cX4_weigh 37 = .ok (.aload_n 0, 1) := by decide +kernel
theorem dX4_weigh_38 : decode cX4_weigh 38 = .ok (.iload_n 2, 1) := by decide +kernel
theorem dX4_weigh_39 : decode cX4_weigh 39 = .ok (.putfield 33, 3) := by decide +kernel
theorem dX4_weigh_42 : decode cX4_weigh 42 = .ok (.aload_n 0, 1) := by decide +kernel
theorem dX4_weigh_43 : decode cX4_weigh 43 = .ok (.iload_n 3, 1) := by decide +kernel
theorem dX4_weigh_44 : decode cX4_weigh 44 = .ok (.putfield 108, 3) := by decide +kernel
theorem dX4_weigh_47 : decode cX4_weigh 47 = .ok (.aload_n 0, 1) := by decide +kernel
theorem dX4_weigh_48 : decode cX4_weigh 48 = .ok (.iload_n 1, 1) := by decide +kernel
theorem dX4_weigh_49 : decode cX4_weigh 49 = .ok (.bipush 6, 2) := by decide +kernel
theorem dX4_weigh_51 : decode cX4_weigh 51 = .ok (.invokestatic 114, 3) := by decide +kernel
theorem dX4_weigh_54 : decode cX4_weigh 54 = .ok (.putfield 120, 3) := by decide +kernel
theorem dX4_weigh_57 : decode cX4_weigh 57 = .ok (.aload_n 0, 1) := by decide +kernel
theorem dX4_weigh_58 : decode cX4_weigh 58 = .ok (.getfield 23, 3) := by decide +kernel
theorem dX4_weigh_61 : decode cX4_weigh 61 = .ok (.iconst 0, 1) := by decide +kernel
theorem dX4_weigh_62 : decode cX4_weigh 62 = .ok (.aload_n 0, 1) := by decide +kernel
theorem dX4_weigh_63 : decode cX4_weigh 63 = .ok (.getfield 26, 3) := by decide +kernel
theorem dX4_weigh_66 : decode cX4_weigh 66 = .ok (.iconst 0, 1) := by decide +kernel
theorem dX4_weigh_67 : decode cX4_weigh 67 = .ok (.bipush 6, 2) := by decide +kernel
theorem dX4_weigh_69 : decode cX4_weigh 69 = .ok (.invokestatic 48, 3) := by decide +kernel
theorem dX4_weigh_72 : decode cX4_weigh 72 = .ok (.return_, 1) := by decide +kernel
theorem dX4_bagInOrder_0 : decode cX4_bagInOrder 0 = .ok (.iconst 0, 1) := by decide +kernel
theorem dX4_bagInOrder_1 : decode cX4_bagInOrder 1 = .ok (.istore_n 3, 1) := by decide +kernel
theorem dX4_bagInOrder_2 : decode cX4_bagInOrder 2 = .ok (.iconst 0, 1) := by decide +kernel
theorem dX4_bagInOrder_3 : decode cX4_bagInOrder 3 = .ok (.istore 4, 2) := by decide +kernel
theorem dX4_bagInOrder_5 : decode cX4_bagInOrder 5 = .ok (.iload 4, 2) := by decide +kernel
theorem dX4_bagInOrder_7 : decode cX4_bagInOrder 7 = .ok (.aload_n 0, 1) := by decide +kernel
theorem dX4_bagInOrder_8 : decode cX4_bagInOrder 8 = .ok (.getfield 120, 3) := by decide +kernel
theorem dX4_bagInOrder_11 : decode cX4_bagInOrder 11 = .ok (.if_icmp .ge 21, 3) := by decide +kernel
theorem dX4_bagInOrder_14 : decode cX4_bagInOrder 14 = .ok (.iload_n 3, 1) := by decide +kernel
theorem dX4_bagInOrder_15 : decode cX4_bagInOrder 15 = .ok (.iconst 1, 1) := by decide +kernel
theorem dX4_bagInOrder_16 : decode cX4_bagInOrder 16 = .ok (.aload_n 0, 1) := by decide +kernel
theorem dX4_bagInOrder_17 : decode cX4_bagInOrder 17 = .ok (.getfield 26, 3) := by decide +kernel
theorem dX4_bagInOrder_20 : decode cX4_bagInOrder 20 = .ok (.iload 4, 2) := by decide +kernel
theorem dX4_bagInOrder_22 : decode cX4_bagInOrder 22 = .ok (.iaload, 1) := by decide +kernel
theorem dX4_bagInOrder_23 : decode cX4_bagInOrder 23 = .ok (.ishl, 1) := by decide +kernel
theorem dX4_bagInOrder_24 : decode cX4_bagInOrder 24 = .ok (.ior, 1) := by decide +kernel
theorem dX4_bagInOrder_25 : decode cX4_bagInOrder 25 = .ok (.istore_n 3, 1) := by decide +kernel
theorem dX4_bagInOrder_26 : decode cX4_bagInOrder 26 = .ok (.iinc 4 1, 3) := by decide +kernel
theorem dX4_bagInOrder_29 : decode cX4_bagInOrder 29 = .ok (.goto (-24), 3) := by decide +kernel
theorem dX4_bagInOrder_32 : decode cX4_bagInOrder 32 = .ok (.iconst 1, 1) := by decide +kernel
theorem dX4_bagInOrder_33 : decode cX4_bagInOrder 33 = .ok (.aload_n 1, 1) := by decide +kernel
theorem dX4_bagInOrder_34 : decode cX4_bagInOrder 34 = .ok (.getfield 82, 3) := by decide +kernel
theorem dX4_bagInOrder_37 : decode cX4_bagInOrder 37 = .ok (.ishl, 1) := by decide +kernel
theorem dX4_bagInOrder_38 : decode cX4_bagInOrder 38 = .ok (.iconst 1, 1) := by decide +kernel
theorem dX4_bagInOrder_39 : decode cX4_bagInOrder 39 = .ok (.isub, 1) := by decide +kernel
theorem dX4_bagInOrder_40 : decode cX4_bagInOrder 40 = .ok (.iload_n 3, 1) := by decide +kernel
theorem dX4_bagInOrder_41 : decode cX4_bagInOrder 41 = .ok (.iconst (-1), 1) := by decide +kernel
theorem dX4_bagInOrder_42 : decode cX4_bagInOrder 42 = .ok (.ixor, 1) := by decide +kernel
theorem dX4_bagInOrder_43 : decode cX4_bagInOrder 43 = .ok (.iand, 1) := by decide +kernel
theorem dX4_bagInOrder_44 : decode cX4_bagInOrder 44 = .ok (.istore 4, 2) := by decide +kernel
theorem dX4_bagInOrder_46 : decode cX4_bagInOrder 46 = .ok (.iload 4, 2) := by decide +kernel
theorem dX4_bagInOrder_48 : decode cX4_bagInOrder 48 = .ok (.aload_n 1, 1) := by decide +kernel
theorem dX4_bagInOrder_49 : decode cX4_bagInOrder 49 = .ok (.iconst 1, 1) := by decide +kernel
theorem dX4_bagInOrder_50 : decode cX4_bagInOrder 50 = .ok (.invokevirtual 78, 3) := by decide +kernel
theorem dX4_bagInOrder_53 : decode cX4_bagInOrder 53 = .ok (.iand, 1) := by decide +kernel
theorem dX4_bagInOrder_54 : decode cX4_bagInOrder 54 = .ok (.istore 5, 2) := by decide +kernel
theorem dX4_bagInOrder_56 : decode cX4_bagInOrder 56 = .ok (.iconst 0, 1) := by decide +kernel
theorem dX4_bagInOrder_57 : decode cX4_bagInOrder 57 = .ok (.istore 6, 2) := by decide +kernel
theorem dX4_bagInOrder_59 : decode cX4_bagInOrder 59 = .ok (.ldc 123, 2) := by decide +kernel
theorem dX4_bagInOrder_61 : decode cX4_bagInOrder 61 = .ok (.istore 7, 2) := by decide +kernel
theorem dX4_bagInOrder_63 : decode cX4_bagInOrder 63 = .ok (.iconst 0, 1) := by decide +kernel
theorem dX4_bagInOrder_64 : decode cX4_bagInOrder 64 = .ok (.istore 8, 2) := by decide +kernel
theorem dX4_bagInOrder_66 : decode cX4_bagInOrder 66 = .ok (.iload 8, 2) := by decide +kernel
theorem dX4_bagInOrder_68 : decode cX4_bagInOrder 68 = .ok (.iload_n 2, 1) := by decide +kernel
theorem dX4_bagInOrder_69 : decode cX4_bagInOrder 69 = .ok (.if_icmp .gt 110, 3) := by decide +kernel
theorem dX4_bagInOrder_72 : decode cX4_bagInOrder 72 = .ok (.iload 8, 2) := by decide +kernel
theorem dX4_bagInOrder_74 : decode cX4_bagInOrder 74 = .ok (.aload_n 1, 1) := by decide +kernel
theorem dX4_bagInOrder_75 : decode cX4_bagInOrder 75 = .ok (.getfield 82, 3) := by decide +kernel
theorem dX4_bagInOrder_78 : decode cX4_bagInOrder 78 = .ok (.if_icmp .ge 101, 3) := by decide +kernel
theorem dX4_bagInOrder_81 : decode cX4_bagInOrder 81 = .ok (.iload 6, 2) := by decide +kernel
theorem dX4_bagInOrder_83 : decode cX4_bagInOrder 83 = .ok (.aload_n 0, 1) := by decide +kernel
theorem dX4_bagInOrder_84 : decode cX4_bagInOrder 84 = .ok (.getfield 120, 3) := by decide +kernel
theorem dX4_bagInOrder_87 : decode cX4_bagInOrder 87 = .ok (.if_icmp .lt 7, 3) := by decide +kernel
theorem dX4_bagInOrder_90 : decode cX4_bagInOrder 90 = .ok (.iconst 1, 1) := by decide +kernel
theorem dX4_bagInOrder_91 : decode cX4_bagInOrder 91 = .ok (.goto 4, 3) := by decide +kernel
theorem dX4_bagInOrder_94 : decode cX4_bagInOrder 94 = .ok (.iconst 0, 1) := by decide +kernel
theorem dX4_bagInOrder_95 : decode cX4_bagInOrder 95 = .ok (.istore 9, 2) := by decide +kernel
theorem dX4_bagInOrder_97 : decode cX4_bagInOrder 97 = .ok (.iload 9, 2) := by decide +kernel
theorem dX4_bagInOrder_99 : decode cX4_bagInOrder 99 = .ok (.ifCond .eq 8, 3) := by decide +kernel
theorem dX4_bagInOrder_102 : decode cX4_bagInOrder 102 = .ok (.iload 4, 2) := by decide +kernel
theorem dX4_bagInOrder_104 : decode cX4_bagInOrder 104 = .ok (.goto 10, 3) := by decide +kernel
theorem dX4_bagInOrder_107 : decode cX4_bagInOrder 107 = .ok (.iload 4, 2) := by decide +kernel
theorem dX4_bagInOrder_109 : decode cX4_bagInOrder 109 = .ok (.iload 5, 2) := by decide +kernel
theorem dX4_bagInOrder_111 : decode cX4_bagInOrder 111 = .ok (.iconst (-1), 1) := by decide +kernel
theorem dX4_bagInOrder_112 : decode cX4_bagInOrder 112 = .ok (.ixor, 1) := by decide +kernel
theorem dX4_bagInOrder_113 : decode cX4_bagInOrder 113 = .ok (.iand, 1) := by decide +kernel
theorem dX4_bagInOrder_114 : decode cX4_bagInOrder 114 = .ok (.invokestatic 124, 3) := by decide +kernel
theorem dX4_bagInOrder_117 : decode cX4_bagInOrder 117 = .ok (.istore 10, 2) := by decide +kernel
theorem dX4_bagInOrder_119 : decode cX4_bagInOrder 119 = .ok (.iload 9, 2) := by decide +kernel
theorem dX4_bagInOrder_121 : decode cX4_bagInOrder 121 = .ok (.ifCond .ne 22, 3) := by decide +kernel
theorem dX4_bagInOrder_124 : decode cX4_bagInOrder 124 = .ok (.iload 10, 2) := by decide +kernel
theorem dX4_bagInOrder_126 : decode cX4_bagInOrder 126 = .ok (.ldc 123, 2) := by decide +kernel
theorem dX4_bagInOrder_128 : decode cX4_bagInOrder 128 = .ok (.if_icmp .eq 33, 3) := by decide +kernel
theorem dX4_bagInOrder_131 : decode cX4_bagInOrder 131 = .ok (.iload 10, 2) := by decide +kernel
theorem dX4_bagInOrder_133 : decode cX4_bagInOrder 133 = .ok (.aload_n 0, 1) := by decide +kernel
theorem dX4_bagInOrder_134 : decode cX4_bagInOrder 134 = .ok (.getfield 26, 3) := by decide +kernel
theorem dX4_bagInOrder_137 : decode cX4_bagInOrder 137 = .ok (.iload 6, 2) := by decide +kernel
theorem dX4_bagInOrder_139 : decode cX4_bagInOrder 139 = .ok (.iaload, 1) := by decide +kernel
theorem dX4_bagInOrder_140 : decode cX4_bagInOrder 140 = .ok (.if_icmp .ge 21, 3) := by decide +kernel
theorem dX4_bagInOrder_143 : decode cX4_bagInOrder 143 = .ok (.iload 10, 2) := by decide +kernel
theorem dX4_bagInOrder_145 : decode cX4_bagInOrder 145 = .ok (.istore 7, 2) := by decide +kernel
theorem dX4_bagInOrder_147 : decode cX4_bagInOrder 147 = .ok (.iload 4, 2) := by decide +kernel
theorem dX4_bagInOrder_149 : decode cX4_bagInOrder 149 = .ok (.iconst 1, 1) := by decide +kernel
theorem dX4_bagInOrder_150 : decode cX4_bagInOrder 150 = .ok (.iload 10, 2) := by decide +kernel
theorem dX4_bagInOrder_152 : decode cX4_bagInOrder 152 = .ok (.ishl, 1) := by decide +kernel
theorem dX4_bagInOrder_153 : decode cX4_bagInOrder 153 = .ok (.iconst (-1), 1) := by decide +kernel
theorem dX4_bagInOrder_154 : decode cX4_bagInOrder 154 = .ok (.ixor, 1) := by decide +kernel
theorem dX4_bagInOrder_155 : decode cX4_bagInOrder 155 = .ok (.iand, 1) := by decide +kernel
theorem dX4_bagInOrder_156 : decode cX4_bagInOrder 156 = .ok (.istore 4, 2) := by decide +kernel
theorem dX4_bagInOrder_158 : decode cX4_bagInOrder 158 = .ok (.goto 15, 3) := by decide +kernel
theorem dX4_bagInOrder_161 : decode cX4_bagInOrder 161 = .ok (.aload_n 0, 1) := by decide +kernel
theorem dX4_bagInOrder_162 : decode cX4_bagInOrder 162 = .ok (.getfield 26, 3) := by decide +kernel
theorem dX4_bagInOrder_165 : decode cX4_bagInOrder 165 = .ok (.iload 6, 2) := by decide +kernel
theorem dX4_bagInOrder_167 : decode cX4_bagInOrder 167 = .ok (.iaload, 1) := by decide +kernel
theorem dX4_bagInOrder_168 : decode cX4_bagInOrder 168 = .ok (.istore 7, 2) := by decide +kernel
theorem dX4_bagInOrder_170 : decode cX4_bagInOrder 170 = .ok (.iinc 6 1, 3) := by decide +kernel
theorem dX4_bagInOrder_173 : decode cX4_bagInOrder 173 = .ok (.iinc 8 1, 3) := by decide +kernel
theorem dX4_bagInOrder_176 : decode cX4_bagInOrder 176 = .ok (.goto (-110), 3) := by decide +kernel
theorem dX4_bagInOrder_179 : decode cX4_bagInOrder 179 = .ok (.iload 7, 2) := by decide +kernel
theorem dX4_bagInOrder_181 : decode cX4_bagInOrder 181 = .ok (.ireturn, 1) := by decide +kernel
theorem dX4_lowest_0 : decode cX4_lowest 0 = .ok (.iconst 0, 1) := by decide +kernel
theorem dX4_lowest_1 : decode cX4_lowest 1 = .ok (.istore_n 1, 1) := by decide +kernel
theorem dX4_lowest_2 : decode cX4_lowest 2 = .ok (.iload_n 1, 1) := by decide +kernel
theorem dX4_lowest_3 : decode cX4_lowest 3 = .ok (.bipush 6, 2) := by decide +kernel
theorem dX4_lowest_5 : decode cX4_lowest 5 = .ok (.if_icmp .ge 20, 3) := by decide +kernel
theorem dX4_lowest_8 : decode cX4_lowest 8 = .ok (.iload_n 0, 1) := by decide +kernel
theorem dX4_lowest_9 : decode cX4_lowest 9 = .ok (.iload_n 1, 1) := by decide +kernel
theorem dX4_lowest_10 : decode cX4_lowest 10 = .ok (.ishr, 1) := by decide +kernel
theorem dX4_lowest_11 : decode cX4_lowest 11 = .ok (.iconst 1, 1) := by decide +kernel
theorem dX4_lowest_12 : decode cX4_lowest 12 = .ok (.iand, 1) := by decide +kernel
theorem dX4_lowest_13 : decode cX4_lowest 13 = .ok (.iconst 1, 1) := by decide +kernel
theorem dX4_lowest_14 : decode cX4_lowest 14 = .ok (.if_icmp .ne 5, 3) := by decide +kernel
theorem dX4_lowest_17 : decode cX4_lowest 17 = .ok (.iload_n 1, 1) := by decide +kernel
theorem dX4_lowest_18 : decode cX4_lowest 18 = .ok (.ireturn, 1) := by decide +kernel
theorem dX4_lowest_19 : decode cX4_lowest 19 = .ok (.iinc 1 1, 3) := by decide +kernel
theorem dX4_lowest_22 : decode cX4_lowest 22 = .ok (.goto (-20), 3) := by decide +kernel
theorem dX4_lowest_25 : decode cX4_lowest 25 = .ok (.ldc 123, 2) := by decide +kernel
theorem dX4_lowest_27 : decode cX4_lowest 27 = .ok (.ireturn, 1) := by decide +kernel
end
section
theorem dX7_init_0 : decode cX7_init 0 = .ok (.aload_n 0, 1) := by decide +kernel
theorem dX7_init_1 : decode cX7_init 1 = .ok (.invokespecial 1, 3) := by decide +kernel
theorem dX7_init_4 : decode cX7_init 4 = .ok (.aload_n 0, 1) := by decide +kernel
theorem dX7_init_5 : decode cX7_init 5 = .ok (.new 7, 3) := by decide +kernel
theorem dX7_init_8 : decode cX7_init 8 = .ok (.dup, 1) := by decide +kernel
theorem dX7_init_9 : decode cX7_init 9 = .ok (.invokespecial 9, 3) := by decide +kernel
theorem dX7_init_12 : decode cX7_init 12 = .ok (.putfield 10, 3) := by decide +kernel
theorem dX7_init_15 : decode cX7_init 15 = .ok (.aload_n 0, 1) := by decide +kernel
theorem dX7_init_16 : decode cX7_init 16 = .ok (.new 16, 3) := by decide +kernel
theorem dX7_init_19 : decode cX7_init 19 = .ok (.dup, 1) := by decide +kernel
theorem dX7_init_20 : decode cX7_init 20 = .ok (.invokespecial 18, 3) := by decide +kernel
theorem dX7_init_23 : decode cX7_init 23 = .ok (.putfield 19, 3) := by decide +kernel
theorem dX7_init_26 : decode cX7_init 26 = .ok (.aload_n 0, 1) := by decide +kernel
theorem dX7_init_27 : decode cX7_init 27 = .ok (.new 23, 3) := by decide +kernel
theorem dX7_init_30 : decode cX7_init 30 = .ok (.dup, 1) := by decide +kernel
theorem dX7_init_31 : decode cX7_init 31 = .ok (.invokespecial 25, 3) := by decide +kernel
theorem dX7_init_34 : decode cX7_init 34 = .ok (.putfield 26, 3) := by decide +kernel
theorem dX7_init_37 : decode cX7_init 37 = .ok (.aload_n 0, 1) := by decide +kernel
theorem dX7_init_38 : decode cX7_init 38 = .ok (.new 23, 3) := by decide +kernel
theorem dX7_init_41 : decode cX7_init 41 = .ok (.dup, 1) := by decide +kernel
theorem dX7_init_42 : decode cX7_init 42 = .ok (.invokespecial 25, 3) := by decide +kernel
theorem dX7_init_45 : decode cX7_init 45 = .ok (.putfield 30, 3) := by decide +kernel
theorem dX7_init_48 : decode cX7_init 48 = .ok (.aload_n 0, 1) := by decide +kernel
theorem dX7_init_49 : decode cX7_init 49 = .ok (.new 33, 3) := by decide +kernel
theorem dX7_init_52 : decode cX7_init 52 = .ok (.dup, 1) := by decide +kernel
theorem dX7_init_53 : decode cX7_init 53 = .ok (.invokespecial 35, 3) := by decide +kernel
theorem dX7_init_56 : decode cX7_init 56 = .ok (.putfield 36, 3) := by decide +kernel
theorem dX7_init_59 : decode cX7_init 59 = .ok (.aload_n 0, 1) := by decide +kernel
theorem dX7_init_60 : decode cX7_init 60 = .ok (.new 40, 3) := by decide +kernel
theorem dX7_init_63 : decode cX7_init 63 = .ok (.dup, 1) := by decide +kernel
theorem dX7_init_64 : decode cX7_init 64 = .ok (.aload_n 0, 1) := by decide +kernel
theorem dX7_init_65 : decode cX7_init 65 = .ok (.getfield 26, 3) := by decide +kernel
theorem dX7_init_68 : decode cX7_init 68 = .ok (.aload_n 0, 1) := by decide +kernel
theorem dX7_init_69 : decode cX7_init 69 = .ok (.getfield 30, 3) := by decide +kernel
theorem dX7_init_72 : decode cX7_init 72 = .ok (.invokespecial 42, 3) := by decide +kernel
theorem dX7_init_75 : decode cX7_init 75 = .ok (.putfield 45, 3) := by decide +kernel
theorem dX7_init_78 : decode cX7_init 78 = .ok (.aload_n 0, 1) := by decide +kernel
theorem dX7_init_79 : decode cX7_init 79 = .ok (.new 49, 3) := by decide +kernel
theorem dX7_init_82 : decode cX7_init 82 = .ok (.dup, 1) := by decide +kernel
theorem dX7_init_83 : decode cX7_init 83 = .ok (.aload_n 0, 1) := by decide +kernel
theorem dX7_init_84 : decode cX7_init 84 = .ok (.getfield 30, 3) := by decide +kernel
theorem dX7_init_87 : decode cX7_init 87 = .ok (.invokespecial 51, 3) := by decide +kernel
theorem dX7_init_90 : decode cX7_init 90 = .ok (.putfield 54, 3) := by decide +kernel
theorem dX7_init_93 : decode cX7_init 93 = .ok (.aload_n 0, 1) := by decide +kernel
theorem dX7_init_94 : decode cX7_init 94 = .ok (.new 58, 3) := by decide +kernel
theorem dX7_init_97 : decode cX7_init 97 = .ok (.dup, 1) := by decide +kernel
theorem dX7_init_98 : decode cX7_init 98 = .ok (.aload_n 0, 1) := by decide +kernel
theorem dX7_init_99 : decode cX7_init 99 = .ok (.getfield 26, 3) := by decide +kernel
theorem dX7_init_102 : decode cX7_init 102 = .ok (.invokespecial 60, 3) := by decide +kernel
theorem dX7_init_105 : decode cX7_init 105 = .ok (.putfield 61, 3) := by decide +kernel
theorem dX7_init_108 : decode cX7_init 108 = .ok (.aload_n 0, 1) := by decide +kernel
theorem dX7_init_109 : decode cX7_init 109 = .ok (.bipush 80, 2) := by decide +kernel
theorem dX7_init_111 : decode cX7_init 111 = .ok (.newarray .int, 2) := by decide +kernel
theorem dX7_init_113 : decode cX7_init 113 = .ok (.putfield 65, 3) := by decide +kernel
theorem dX7_init_116 : decode cX7_init 116 = .ok (.return_, 1) := by decide +kernel
theorem dX7_row_0 : decode cX7_row 0 = .ok (.aload_n 0, 1) := by decide +kernel
theorem dX7_row_1 : decode cX7_row 1 = .ok (.getfield 10, 3) := by decide +kernel
theorem dX7_row_4 : decode cX7_row 4 = .ok (.iload_n 1, 1) := by decide +kernel
theorem dX7_row_5 : decode cX7_row 5 = .ok (.invokevirtual 69, 3) := by decide +kernel
theorem dX7_row_8 : decode cX7_row 8 = .ok (.ifCond .eq 18, 3) := by decide +kernel
theorem dX7_row_11 : decode cX7_row 11 = .ok (.iload_n 2, 1) := by decide +kernel
theorem dX7_row_12 : decode cX7_row 12 = .ok (.ifCond .lt 14, 3) := by decide +kernel
theorem dX7_row_15 : decode cX7_row 15 = .ok (.iload_n 2, 1) := by decide +kernel
theorem dX7_row_16 : decode cX7_row 16 = .ok (.iconst 3, 1) := by decide +kernel
theorem dX7_row_17 : decode cX7_row 17 = .ok (.if_icmp .ge 9, 3) := by decide +kernel
theorem dX7_row_20 : decode cX7_row 20 = .ok (.iload_n 3, 1) := by decide +kernel
theorem dX7_row_21 : decode cX7_row 21 = .ok (.bipush 40, 2) := by decide +kernel
theorem dX7_row_23 : decode cX7_row 23 = .ok (.if_icmp .le 6, 3) := by decide +kernel
theorem dX7_row_26 : decode cX7_row 26 = .ok (.ldc 73, 2) := by decide +kernel
theorem dX7_row_28 : decode cX7_row 28 = .ok (.ireturn, 1) := by decide +kernel
theorem dX7_row_29 : decode cX7_row 29 = .ok (.iload_n 3, 1) := by decide +kernel
theorem dX7_row_30 : decode cX7_row 30 = .ok (.ifCond .ge 9, 3) := by decide +kernel
theorem dX7_row_33 : decode cX7_row 33 = .ok (.aload_n 0, 1) := by decide +kernel
theorem dX7_row_34 : decode cX7_row 34 = .ok (.iconst 4, 1) := by decide +kernel
theorem dX7_row_35 : decode cX7_row 35 = .ok (.invokevirtual 74, 3) := by decide +kernel
theorem dX7_row_38 : decode cX7_row 38 = .ok (.ireturn, 1) := by decide +kernel
theorem dX7_row_39 : decode cX7_row 39 = .ok (.aload_n 0, 1) := by decide +kernel
theorem dX7_row_40 : decode cX7_row 40 = .ok (.getfield 10, 3) := by decide +kernel
theorem dX7_row_43 : decode cX7_row 43 = .ok (.iload_n 1, 1) := by decide +kernel
theorem dX7_row_44 : decode cX7_row 44 = .ok (.iload_n 2, 1) := by decide +kernel
theorem dX7_row_45 : decode cX7_row 45 = .ok (.iload_n 3, 1) := by decide +kernel
theorem dX7_row_46 : decode cX7_row 46 = .ok (.invokevirtual 78, 3) := by decide +kernel
theorem dX7_row_49 : decode cX7_row 49 = .ok (.aload_n 0, 1) := by decide +kernel
theorem dX7_row_50 : decode cX7_row 50 = .ok (.iload_n 3, 1) := by decide +kernel
theorem dX7_row_51 : decode cX7_row 51 = .ok (.invokevirtual 82, 3) := by decide +kernel
theorem dX7_row_54 : decode cX7_row 54 = .ok (.ireturn, 1) := by decide +kernel
theorem dX7_set_0 : decode cX7_set 0 = .ok (.aload_n 0, 1) := by decide +kernel
theorem dX7_set_1 : decode cX7_set 1 = .ok (.getfield 10, 3) := by decide +kernel
theorem dX7_set_4 : decode cX7_set 4 = .ok (.iload_n 1, 1) := by decide +kernel
theorem dX7_set_5 : decode cX7_set 5 = .ok (.invokevirtual 69, 3) := by decide +kernel
theorem dX7_set_8 : decode cX7_set 8 = .ok (.ifCond .ne 6, 3) := by decide +kernel
theorem dX7_set_11 : decode cX7_set 11 = .ok (.ldc 73, 2) := by decide +kernel
theorem dX7_set_13 : decode cX7_set 13 = .ok (.ireturn, 1) := by decide +kernel
theorem dX7_set_14 : decode cX7_set 14 = .ok (.aload_n 0, 1) := by decide +kernel
theorem dX7_set_15 : decode cX7_set 15 = .ok (.getfield 10, 3) := by decide +kernel
theorem dX7_set_18 : decode cX7_set 18 = .ok (.iload_n 1, 1) := by decide +kernel
theorem dX7_set_19 : decode cX7_set 19 = .ok (.invokevirtual 85, 3) := by decide +kernel
theorem dX7_set_22 : decode cX7_set 22 = .ok (.ifCond .eq 9, 3) := by decide +kernel
theorem dX7_set_25 : decode cX7_set 25 = .ok (.aload_n 0, 1) := by decide +kernel
theorem dX7_set_26 : decode cX7_set 26 = .ok (.iconst 1, 1) := by decide +kernel
theorem dX7_set_27 : decode cX7_set 27 = .ok (.invokevirtual 74, 3) := by decide +kernel
theorem dX7_set_30 : decode cX7_set 30 = .ok (.ireturn, 1) := by decide +kernel
theorem dX7_set_31 : decode cX7_set 31 = .ok (.aload_n 0, 1) := by decide +kernel
theorem dX7_set_32 : decode cX7_set 32 = .ok (.getfield 10, 3) := by decide +kernel
theorem dX7_set_35 : decode cX7_set 35 = .ok (.iload_n 1, 1) := by decide +kernel
theorem dX7_set_36 : decode cX7_set 36 = .ok (.iload_n 2, 1) := by decide +kernel
theorem dX7_set_37 : decode cX7_set 37 = .ok (.iconst 1, 1) := by decide +kernel
theorem dX7_set_38 : decode cX7_set 38 = .ok (.invokevirtual 88, 3) := by decide +kernel
theorem dX7_set_41 : decode cX7_set 41 = .ok (.ifCond .ne 9, 3) := by decide +kernel
theorem dX7_set_44 : decode cX7_set 44 = .ok (.aload_n 0, 1) := by decide +kernel
theorem dX7_set_45 : decode cX7_set 45 = .ok (.iconst 2, 1) := by decide +kernel
theorem dX7_set_46 : decode cX7_set 46 = .ok (.invokevirtual 74, 3) := by decide +kernel
theorem dX7_set_49 : decode cX7_set 49 = .ok (.ireturn, 1) := by decide +kernel
theorem dX7_set_50 : decode cX7_set 50 = .ok (.aload_n 0, 1) := by decide +kernel
theorem dX7_set_51 : decode cX7_set 51 = .ok (.aload_n 0, 1) := by decide +kernel
theorem dX7_set_52 : decode cX7_set 52 = .ok (.getfield 10, 3) := by decide +kernel
theorem dX7_set_55 : decode cX7_set 55 = .ok (.iload_n 1, 1) := by decide +kernel
theorem dX7_set_56 : decode cX7_set 56 = .ok (.iload_n 2, 1) := by decide +kernel
theorem dX7_set_57 : decode cX7_set 57 = .ok (.iload_n 3, 1) := by decide +kernel
theorem dX7_set_58 : decode cX7_set 58 = .ok (.invokevirtual 92, 3) := by decide +kernel
theorem dX7_set_61 : decode cX7_set 61 = .ok (.invokevirtual 82, 3) := by decide +kernel
theorem dX7_set_64 : decode cX7_set 64 = .ok (.ireturn, 1) := by decide +kernel
theorem dX7_copy_0 : decode cX7_copy 0 = .ok (.aload_n 0, 1) := by decide +kernel
theorem dX7_copy_1 : decode cX7_copy 1 = .ok (.getfield 10, 3) := by decide +kernel
theorem dX7_copy_4 : decode cX7_copy 4 = .ok (.iload_n 1, 1) := by decide +kernel
theorem dX7_copy_5 : decode cX7_copy 5 = .ok (.invokevirtual 69, 3) := by decide +kernel
theorem dX7_copy_8 : decode cX7_copy 8 = .ok (.ifCond .eq 14, 3) := by decide +kernel
theorem dX7_copy_11 : decode cX7_copy 11 = .ok (.aload_n 0, 1) := by decide +kernel
theorem dX7_copy_12 : decode cX7_copy 12 = .ok (.getfield 10, 3) := by decide +kernel
theorem dX7_copy_15 : decode cX7_copy 15 = .ok (.iload_n 3, 1) := by decide +kernel
theorem dX7_copy_16 : decode cX7_copy 16 = .ok (.invokevirtual 69, 3) := by decide +kernel
theorem dX7_copy_19 : decode cX7_copy 19 = .ok (.ifCond .ne 6, 3) := by decide +kernel
theorem dX7_copy_22 : decode cX7_copy 22 = .ok (.ldc 73, 2) := by decide +kernel
theorem dX7_copy_24 : decode cX7_copy 24 = .ok (.ireturn, 1) := by decide +kernel
theorem dX7_copy_25 : decode cX7_copy 25 = .ok (.aload_n 0, 1) := by decide +kernel
theorem dX7_copy_26 : decode cX7_copy 26 = .ok (.getfield 10, 3) := by decide +kernel
theorem dX7_copy_29 : decode cX7_copy 29 = .ok (.iload_n 1, 1) := by decide +kernel
theorem dX7_copy_30 : decode cX7_copy 30 = .ok (.invokevirtual 85, 3) := by decide +kernel
theorem dX7_copy_33 : decode cX7_copy 33 = .ok (.ifCond .ne 14, 3) := by decide +kernel
theorem dX7_copy_36 : decode cX7_copy 36 = .ok (.aload_n 0, 1) := by decide +kernel
theorem dX7_copy_37 : decode cX7_copy 37 = .ok (.getfield 10, 3) := by decide +kernel
theorem dX7_copy_40 : decode cX7_copy 40 = .ok (.iload_n 3, 1) := by decide +kernel
theorem dX7_copy_41 : decode cX7_copy 41 = .ok (.invokevirtual 85, 3) := by decide +kernel
theorem dX7_copy_44 : decode cX7_copy 44 = .ok (.ifCond .eq 9, 3) := by decide +kernel
theorem dX7_copy_47 : decode cX7_copy 47 = .ok (.aload_n 0, 1) := by decide +kernel
theorem dX7_copy_48 : decode cX7_copy 48 = .ok (.iconst 1, 1) := by decide +kernel
theorem dX7_copy_49 : decode cX7_copy 49 = .ok (.invokevirtual 74, 3) := by decide +kernel
theorem dX7_copy_52 : decode cX7_copy 52 = .ok (.ireturn, 1) := by decide +kernel
theorem dX7_copy_53 : decode cX7_copy 53 = .ok (.aload_n 0, 1) := by decide +kernel
theorem dX7_copy_54 : decode cX7_copy 54 = .ok (.getfield 10, 3) := by decide +kernel
theorem dX7_copy_57 : decode cX7_copy 57 = .ok (.iload_n 1, 1) := by decide +kernel
theorem dX7_copy_58 : decode cX7_copy 58 = .ok (.invokevirtual 96, 3) := by decide +kernel
theorem dX7_copy_61 : decode cX7_copy 61 = .ok (.aload_n 0, 1) := by decide +kernel
theorem dX7_copy_62 : decode cX7_copy 62 = .ok (.getfield 10, 3) := by decide +kernel
theorem dX7_copy_65 : decode cX7_copy 65 = .ok (.iload_n 3, 1) := by decide +kernel
theorem dX7_copy_66 : decode cX7_copy 66 = .ok (.invokevirtual 96, 3) := by decide +kernel
theorem dX7_copy_69 : decode cX7_copy 69 = .ok (.if_icmp .eq 9, 3) := by decide +kernel
theorem dX7_copy_72 : decode cX7_copy 72 = .ok (.aload_n 0, 1) := by decide +kernel
theorem dX7_copy_73 : decode cX7_copy 73 = .ok (.iconst 5, 1) := by decide +kernel
theorem dX7_copy_74 : decode cX7_copy 74 = .ok (.invokevirtual 74, 3) := by decide +kernel
theorem dX7_copy_77 : decode cX7_copy 77 = .ok (.ireturn, 1) := by decide +kernel
theorem dX7_copy_78 : decode cX7_copy 78 = .ok (.aload_n 0, 1) := by decide +kernel
theorem dX7_copy_79 : decode cX7_copy 79 = .ok (.getfield 10, 3) := by decide +kernel
theorem dX7_copy_82 : decode cX7_copy 82 = .ok (.iload_n 1, 1) := by decide +kernel
theorem dX7_copy_83 : decode cX7_copy 83 = .ok (.iload_n 2, 1) := by decide +kernel
theorem dX7_copy_84 : decode cX7_copy 84 = .ok (.iload 5, 2) := by decide +kernel
theorem dX7_copy_86 : decode cX7_copy 86 = .ok (.invokevirtual 88, 3) := by decide +kernel
theorem dX7_copy_89 : decode cX7_copy 89 = .ok (.ifCond .eq 18, 3) := by decide +kernel
theorem dX7_copy_92 : decode cX7_copy 92 = .ok (.aload_n 0, 1) := by decide +kernel
theorem dX7_copy_93 : decode cX7_copy 93 = .ok (.getfield 10, 3) := by decide +kernel
theorem dX7_copy_96 : decode cX7_copy 96 = .ok (.iload_n 3, 1) := by decide +kernel
theorem dX7_copy_97 : decode cX7_copy 97 = .ok (.iload 4, 2) := by decide +kernel
theorem dX7_copy_99 : decode cX7_copy 99 = .ok (.iload 5, 2) := by decide +kernel
theorem dX7_copy_101 : decode cX7_copy 101 = .ok (.invokevirtual 88, 3) := by decide +kernel
theorem dX7_copy_104 : decode cX7_copy 104 = .ok (.ifCond .ne 9, 3) := by decide +kernel
theorem dX7_copy_107 : decode cX7_copy 107 = .ok (.aload_n 0, 1) := by decide +kernel
theorem dX7_copy_108 : decode cX7_copy 108 = .ok (.iconst 2, 1) := by decide +kernel
theorem dX7_copy_109 : decode cX7_copy 109 = .ok (.invokevirtual 74, 3) := by decide +kernel
theorem dX7_copy_112 : decode cX7_copy 112 = .ok (.ireturn, 1) := by decide +kernel
theorem dX7_copy_113 : decode cX7_copy 113 = .ok (.aload_n 0, 1) := by decide +kernel
theorem dX7_copy_114 : decode cX7_copy 114 = .ok (.getfield 10, 3) := by decide +kernel
theorem dX7_copy_117 : decode cX7_copy 117 = .ok (.iload_n 1, 1) := by decide +kernel
theorem dX7_copy_118 : decode cX7_copy 118 = .ok (.iload_n 2, 1) := by decide +kernel
theorem dX7_copy_119 : decode cX7_copy 119 = .ok (.iload_n 3, 1) := by decide +kernel
theorem dX7_copy_120 : decode cX7_copy 120 = .ok (.iload 4, 2) := by decide +kernel
theorem dX7_copy_122 : decode cX7_copy 122 = .ok (.iload 5, 2) := by decide +kernel
theorem dX7_copy_124 : decode cX7_copy 124 = .ok (.invokevirtual 99, 3) := by decide +kernel
theorem dX7_copy_127 : decode cX7_copy 127 = .ok (.aload_n 0, 1) := by decide +kernel
theorem dX7_copy_128 : decode cX7_copy 128 = .ok (.iload 5, 2) := by decide +kernel
theorem dX7_copy_130 : decode cX7_copy 130 = .ok (.invokevirtual 82, 3) := by decide +kernel
theorem dX7_copy_133 : decode cX7_copy 133 = .ok (.ireturn, 1) := by decide +kernel
theorem dX7_drop_0 : decode cX7_drop 0 = .ok (.aload_n 0, 1) := by decide +kernel
theorem dX7_drop_1 : decode cX7_drop 1 = .ok (.getfield 10, 3) := by decide +kernel
theorem dX7_drop_4 : decode cX7_drop 4 = .ok (.iload_n 1, 1) := by decide +kernel
theorem dX7_drop_5 : decode cX7_drop 5 = .ok (.invokevirtual 69, 3) := by decide +kernel
theorem dX7_drop_8 : decode cX7_drop 8 = .ok (.ifCond .ne 6, 3) := by decide +kernel
theorem dX7_drop_11 : decode cX7_drop 11 = .ok (.ldc 73, 2) := by decide +kernel
theorem dX7_drop_13 : decode cX7_drop 13 = .ok (.ireturn, 1) := by decide +kernel
theorem dX7_drop_14 : decode cX7_drop 14 = .ok (.aload_n 0, 1) := by decide +kernel
theorem dX7_drop_15 : decode cX7_drop 15 = .ok (.getfield 10, 3) := by decide +kernel
theorem dX7_drop_18 : decode cX7_drop 18 = .ok (.iload_n 1, 1) := by decide +kernel
theorem dX7_drop_19 : decode cX7_drop 19 = .ok (.invokevirtual 85, 3) := by decide +kernel
theorem dX7_drop_22 : decode cX7_drop 22 = .ok (.ifCond .eq 9, 3) := by decide +kernel
theorem dX7_drop_25 : decode cX7_drop 25 = .ok (.aload_n 0, 1) := by decide +kernel
theorem dX7_drop_26 : decode cX7_drop 26 = .ok (.iconst 1, 1) := by decide +kernel
theorem dX7_drop_27 : decode cX7_drop 27 = .ok (.invokevirtual 74, 3) := by decide +kernel
theorem dX7_drop_30 : decode cX7_drop 30 = .ok (.ireturn, 1) := by decide +kernel
theorem dX7_drop_31 : decode cX7_drop 31 = .ok (.aload_n 0, 1) := by decide +kernel
theorem dX7_drop_32 : decode cX7_drop 32 = .ok (.aload_n 0, 1) := by decide +kernel
theorem dX7_drop_33 : decode cX7_drop 33 = .ok (.getfield 10, 3) := by decide +kernel
theorem dX7_drop_36 : decode cX7_drop 36 = .ok (.iload_n 1, 1) := by decide +kernel
theorem dX7_drop_37 : decode cX7_drop 37 = .ok (.invokevirtual 103, 3) := by decide +kernel
theorem dX7_drop_40 : decode cX7_drop 40 = .ok (.invokevirtual 82, 3) := by decide +kernel
theorem dX7_drop_43 : decode cX7_drop 43 = .ok (.ireturn, 1) := by decide +kernel
theorem dX7_found_0 : decode cX7_found 0 = .ok (.aload_n 0, 1) := by decide +kernel
theorem dX7_found_1 : decode cX7_found 1 = .ok (.iload_n 1, 1) := by decide +kernel
theorem dX7_found_2 : decode cX7_found 2 = .ok (.putfield 106, 3) := by decide +kernel
theorem dX7_found_5 : decode cX7_found 5 = .ok (.ldc 110, 2) := by decide +kernel
theorem dX7_found_7 : decode cX7_found 7 = .ok (.iload_n 1, 1) := by decide +kernel
theorem dX7_found_8 : decode cX7_found 8 = .ok (.isub, 1) := by decide +kernel
theorem dX7_found_9 : decode cX7_found 9 = .ok (.ireturn, 1) := by decide +kernel
theorem dX7_fine_0 : decode cX7_fine 0 = .ok (.aload_n 0, 1) := by decide +kernel
theorem dX7_fine_1 : decode cX7_fine 1 = .ok (.iconst 0, 1) := by decide +kernel
theorem dX7_fine_2 : decode cX7_fine 2 = .ok (.putfield 106, 3) := by decide +kernel
theorem dX7_fine_5 : decode cX7_fine 5 = .ok (.iload_n 1, 1) := by decide +kernel
theorem dX7_fine_6 : decode cX7_fine 6 = .ok (.ireturn, 1) := by decide +kernel
theorem dX7_feed_0 : decode cX7_feed 0 = .ok (.iload_n 1, 1) := by decide +kernel
theorem dX7_feed_1 : decode cX7_feed 1 = .ok (.ifCond .lt 10, 3) := by decide +kernel
theorem dX7_feed_4 : decode cX7_feed 4 = .ok (.iload_n 1, 1) := by decide +kernel
theorem dX7_feed_5 : decode cX7_feed 5 = .ok (.sipush 255, 3) := by decide +kernel
theorem dX7_feed_8 : decode cX7_feed 8 = .ok (.if_icmp .le 6, 3) := by decide +kernel
theorem dX7_feed_11 : decode cX7_feed 11 = .ok (.ldc 73, 2) := by decide +kernel
theorem dX7_feed_13 : decode cX7_feed 13 = .ok (.ireturn, 1) := by decide +kernel
theorem dX7_feed_14 : decode cX7_feed 14 = .ok (.aload_n 0, 1) := by decide +kernel
theorem dX7_feed_15 : decode cX7_feed 15 = .ok (.getfield 19, 3) := by decide +kernel
theorem dX7_feed_18 : decode cX7_feed 18 = .ok (.invokevirtual 111, 3) := by decide +kernel
theorem dX7_feed_21 : decode cX7_feed 21 = .ok (.ifCond .eq 6, 3) := by decide +kernel
theorem dX7_feed_24 : decode cX7_feed 24 = .ok (.ldc 115, 2) := by decide +kernel
theorem dX7_feed_26 : decode cX7_feed 26 = .ok (.ireturn, 1) := by decide +kernel
theorem dX7_feed_27 : decode cX7_feed 27 = .ok (.aload_n 0, 1) := by decide +kernel
theorem dX7_feed_28 : decode cX7_feed 28 = .ok (.getfield 19, 3) := by decide +kernel
theorem dX7_feed_31 : decode cX7_feed 31 = .ok (.iload_n 1, 1) := by decide +kernel
theorem dX7_feed_32 : decode cX7_feed 32 = .ok (.invokevirtual 116, 3) := by decide +kernel
theorem dX7_feed_35 : decode cX7_feed 35 = .ok (.ireturn, 1) := by decide +kernel
theorem dX7_hall_0 : decode cX7_hall 0 = .ok (.aload_n 0, 1) := by decide +kernel
theorem dX7_hall_1 : decode cX7_hall 1 = .ok (.getfield 19, 3) := by decide +kernel
theorem dX7_hall_4 : decode cX7_hall 4 = .ok (.aload_n 0, 1) := by decide +kernel
theorem dX7_hall_5 : decode cX7_hall 5 = .ok (.getfield 30, 3) := by decide +kernel
theorem dX7_hall_8 : decode cX7_hall 8 = .ok (.invokevirtual 119, 3) := by decide +kernel
theorem dX7_hall_11 : decode cX7_hall 11 = .ok (.istore_n 1, 1) := by decide +kernel
theorem dX7_hall_12 : decode cX7_hall 12 = .ok (.aload_n 0, 1) := by decide +kernel
theorem dX7_hall_13 : decode cX7_hall 13 = .ok (.getfield 19, 3) := by decide +kernel
theorem dX7_hall_16 : decode cX7_hall 16 = .ok (.invokevirtual 123, 3) := by decide +kernel
theorem dX7_hall_19 : decode cX7_hall 19 = .ok (.iload_n 1, 1) := by decide +kernel
theorem dX7_hall_20 : decode cX7_hall 20 = .ok (.ifCond .eq 19, 3) := by decide +kernel
theorem dX7_hall_23 : decode cX7_hall 23 = .ok (.aload_n 0, 1) := by decide +kernel
theorem dX7_hall_24 : decode cX7_hall 24 = .ok (.iload_n 1, 1) := by decide +kernel
theorem dX7_hall_25 : decode cX7_hall 25 = .ok (.putfield 126, 3) := by decide +kernel
theorem dX7_hall_28 : decode cX7_hall 28 = .ok (.ldc 129, 2) := by decide +kernel
theorem dX7_hall_30 : decode cX7_hall 30 = .ok (.aload_n 0, 1) := by decide +kernel
theorem dX7_hall_31 : decode cX7_hall 31 = .ok (.getfield 19, 3) := by decide +kernel
theorem dX7_hall_34 : decode cX7_hall 34 = .ok (.invokevirtual 130, 3) := by decide +kernel
theorem dX7_hall_37 : decode cX7_hall 37 = .ok (.isub, 1) := by decide +kernel
theorem dX7_hall_38 : decode cX7_hall 38 = .ok (.ireturn, 1) := by decide +kernel
theorem dX7_hall_39 : decode cX7_hall 39 = .ok (.aload_n 0, 1) := by decide +kernel
theorem dX7_hall_40 : decode cX7_hall 40 = .ok (.getfield 26, 3) := by decide +kernel
theorem dX7_hall_43 : decode cX7_hall 43 = .ok (.aload_n 0, 1) := by decide +kernel
theorem dX7_hall_44 : decode cX7_hall 44 = .ok (.getfield 30, 3) := by decide +kernel
theorem dX7_hall_47 : decode cX7_hall 47 = .ok (.invokevirtual 134, 3) := by decide +kernel
theorem dX7_hall_50 : decode cX7_hall 50 = .ok (.aload_n 0, 1) := by decide +kernel
theorem dX7_hall_51 : decode cX7_hall 51 = .ok (.getfield 36, 3) := by decide +kernel
theorem dX7_hall_54 : decode cX7_hall 54 = .ok (.invokevirtual 137, 3) := by decide +kernel
theorem dX7_hall_57 : decode cX7_hall 57 = .ok (.aload_n 0, 1) := by decide +kernel
theorem dX7_hall_58 : decode cX7_hall 58 = .ok (.getfield 26, 3) := by decide +kernel
theorem dX7_hall_61 : decode cX7_hall 61 = .ok (.getfield 138, 3) := by decide +kernel
theorem dX7_hall_64 : decode cX7_hall 64 = .ok (.ireturn, 1) := by decide +kernel
theorem dX7_fault_0 : decode cX7_fault 0 = .ok (.aload_n 0, 1) := by decide +kernel
theorem dX7_fault_1 : decode cX7_fault 1 = .ok (.getfield 126, 3) := by decide +kernel
theorem dX7_fault_4 : decode cX7_fault 4 = .ok (.ireturn, 1) := by decide +kernel
theorem dX7_undo_0 : decode cX7_undo 0 = .ok (.aload_n 0, 1) := by decide +kernel
theorem dX7_undo_1 : decode cX7_undo 1 = .ok (.getfield 36, 3) := by decide +kernel
theorem dX7_undo_4 : decode cX7_undo 4 = .ok (.aload_n 0, 1) := by decide +kernel
theorem dX7_undo_5 : decode cX7_undo 5 = .ok (.getfield 26, 3) := by decide +kernel
theorem dX7_undo_8 : decode cX7_undo 8 = .ok (.invokevirtual 141, 3) := by decide +kernel
theorem dX7_undo_11 : decode cX7_undo 11 = .ok (.ifCond .eq 13, 3) := by decide +kernel
theorem dX7_undo_14 : decode cX7_undo 14 = .ok (.aload_n 0, 1) := by decide +kernel
theorem dX7_undo_15 : decode cX7_undo 15 = .ok (.getfield 36, 3) := by decide +kernel
theorem dX7_undo_18 : decode cX7_undo 18 = .ok (.invokevirtual 145, 3) := by decide +kernel
theorem dX7_undo_21 : decode cX7_undo 21 = .ok (.goto 5, 3) := by decide +kernel
theorem dX7_undo_24 : decode cX7_undo 24 = .ok (.ldc 148, 2) := by decide +kernel
theorem dX7_undo_26 : decode cX7_undo 26 = .ok (.ireturn, 1) := by decide +kernel
theorem dX7_ticks_0 : decode cX7_ticks 0 = .ok (.aload_n 0, 1) := by decide +kernel
theorem dX7_ticks_1 : decode cX7_ticks 1 = .ok (.invokevirtual 149, 3) := by decide +kernel
theorem dX7_ticks_4 : decode cX7_ticks 4 = .ok (.ifCond .eq 6, 3) := by decide +kernel
theorem dX7_ticks_7 : decode cX7_ticks 7 = .ok (.ldc 148, 2) := by decide +kernel
theorem dX7_ticks_9 : decode cX7_ticks 9 = .ok (.ireturn, 1) := by decide +kernel
theorem dX7_ticks_10 : decode cX7_ticks 10 = .ok (.iload_n 1, 1) := by decide +kernel
theorem dX7_ticks_11 : decode cX7_ticks 11 = .ok (.iconst 1, 1) := by decide +kernel
theorem dX7_ticks_12 : decode cX7_ticks 12 = .ok (.if_icmp .lt 9, 3) := by decide +kernel
theorem dX7_ticks_15 : decode cX7_ticks 15 = .ok (.iload_n 1, 1) := by decide +kernel
theorem dX7_ticks_16 : decode cX7_ticks 16 = .ok (.bipush 24, 2) := by decide +kernel
theorem dX7_ticks_18 : decode cX7_ticks 18 = .ok (.if_icmp .le 6, 3) := by decide +kernel
theorem dX7_ticks_21 : decode cX7_ticks 21 = .ok (.ldc 73, 2) := by decide +kernel
theorem dX7_ticks_23 : decode cX7_ticks 23 = .ok (.ireturn, 1) := by decide +kernel
theorem dX7_ticks_24 : decode cX7_ticks 24 = .ok (.aload_n 0, 1) := by decide +kernel
theorem dX7_ticks_25 : decode cX7_ticks 25 = .ok (.getfield 26, 3) := by decide +kernel
theorem dX7_ticks_28 : decode cX7_ticks 28 = .ok (.getfield 152, 3) := by decide +kernel
theorem dX7_ticks_31 : decode cX7_ticks 31 = .ok (.iload_n 1, 1) := by decide +kernel
theorem dX7_ticks_32 : decode cX7_ticks 32 = .ok (.iadd, 1) := by decide +kernel
theorem dX7_ticks_33 : decode cX7_ticks 33 = .ok (.sipush 999, 3) := by decide +kernel
theorem dX7_ticks_36 : decode cX7_ticks 36 = .ok (.if_icmp .le 6, 3) := by decide +kernel
theorem dX7_ticks_39 : decode cX7_ticks 39 = .ok (.ldc 115, 2) := by decide +kernel
theorem dX7_ticks_41 : decode cX7_ticks 41 = .ok (.ireturn, 1) := by decide +kernel
theorem dX7_ticks_42 : decode cX7_ticks 42 = .ok (.iconst 0, 1) := by decide +kernel
theorem dX7_ticks_43 : decode cX7_ticks 43 = .ok (.istore_n 2, 1) := by decide +kernel
theorem dX7_ticks_44 : decode cX7_ticks 44 = .ok (.iload_n 2, 1) := by decide +kernel
theorem dX7_ticks_45 : decode cX7_ticks 45 = .ok (.iload_n 1, 1) := by decide +kernel
theorem dX7_ticks_46 : decode cX7_ticks 46 = .ok (.if_icmp .ge 27, 3) := by decide +kernel
theorem dX7_ticks_49 : decode cX7_ticks 49 = .ok (.aload_n 0, 1) := by decide +kernel
theorem dX7_ticks_50 : decode cX7_ticks 50 = .ok (.getfield 36, 3) := by decide +kernel
theorem dX7_ticks_53 : decode cX7_ticks 53 = .ok (.aload_n 0, 1) := by decide +kernel
theorem dX7_ticks_54 : decode cX7_ticks 54 = .ok (.getfield 26, 3) := by decide +kernel
theorem dX7_ticks_57 : decode cX7_ticks 57 = .ok (.invokevirtual 155, 3) := by decide +kernel
theorem dX7_ticks_60 : decode cX7_ticks 60 = .ok (.aload_n 0, 1) := by decide +kernel
theorem dX7_ticks_61 : decode cX7_ticks 61 = .ok (.getfield 26, 3) := by decide +kernel
theorem dX7_ticks_64 : decode cX7_ticks 64 = .ok (.invokevirtual 158, 3) := by decide +kernel
theorem dX7_ticks_67 : decode cX7_ticks 67 = .ok (.iinc 2 1, 3) := by decide +kernel
theorem dX7_ticks_70 : decode cX7_ticks 70 = .ok (.goto (-26), 3) := by decide +kernel
theorem dX7_ticks_73 : decode cX7_ticks 73 = .ok (.aload_n 0, 1) := by decide +kernel
theorem dX7_ticks_74 : decode cX7_ticks 74 = .ok (.getfield 26, 3) := by decide +kernel
theorem dX7_ticks_77 : decode cX7_ticks 77 = .ok (.bipush 7, 2) := by decide +kernel
theorem dX7_ticks_79 : decode cX7_ticks 79 = .ok (.invokevirtual 161, 3) := by decide +kernel
theorem dX7_ticks_82 : decode cX7_ticks 82 = .ok (.ireturn, 1) := by decide +kernel
theorem dX7_move_0 : decode cX7_move 0 = .ok (.aload_n 0, 1) := by decide +kernel
theorem dX7_move_1 : decode cX7_move 1 = .ok (.getfield 26, 3) := by decide +kernel
theorem dX7_move_4 : decode cX7_move 4 = .ok (.iload_n 1, 1) := by decide +kernel
theorem dX7_move_5 : decode cX7_move 5 = .ok (.invokevirtual 164, 3) := by decide +kernel
theorem dX7_move_8 : decode cX7_move 8 = .ok (.ifCond .eq 14, 3) := by decide +kernel
theorem dX7_move_11 : decode cX7_move 11 = .ok (.aload_n 0, 1) := by decide +kernel
theorem dX7_move_12 : decode cX7_move 12 = .ok (.getfield 26, 3) := by decide +kernel
theorem dX7_move_15 : decode cX7_move 15 = .ok (.iload_n 2, 1) := by decide +kernel
theorem dX7_move_16 : decode cX7_move 16 = .ok (.invokevirtual 167, 3) := by decide +kernel
theorem dX7_move_19 : decode cX7_move 19 = .ok (.ifCond .ne 6, 3) := by decide +kernel
theorem dX7_move_22 : decode cX7_move 22 = .ok (.ldc 73, 2) := by decide +kernel
theorem dX7_move_24 : decode cX7_move 24 = .ok (.ireturn, 1) := by decide +kernel
theorem dX7_move_25 : decode cX7_move 25 = .ok (.aload_n 0, 1) := by decide +kernel
theorem dX7_move_26 : decode cX7_move 26 = .ok (.getfield 26, 3) := by decide +kernel
theorem dX7_move_29 : decode cX7_move 29 = .ok (.getfield 170, 3) := by decide +kernel
theorem dX7_move_32 : decode cX7_move 32 = .ok (.iload_n 1, 1) := by decide +kernel
theorem dX7_move_33 : decode cX7_move 33 = .ok (.iaload, 1) := by decide +kernel
theorem dX7_move_34 : decode cX7_move 34 = .ok (.istore_n 3, 1) := by decide +kernel
theorem dX7_move_35 : decode cX7_move 35 = .ok (.aload_n 0, 1) := by decide +kernel
theorem dX7_move_36 : decode cX7_move 36 = .ok (.getfield 26, 3) := by decide +kernel
theorem dX7_move_39 : decode cX7_move 39 = .ok (.iload_n 1, 1) := by decide +kernel
theorem dX7_move_40 : decode cX7_move 40 = .ok (.invokevirtual 173, 3) := by decide +kernel
theorem dX7_move_43 : decode cX7_move 43 = .ok (.ifCond .eq 8, 3) := by decide +kernel
theorem dX7_move_46 : decode cX7_move 46 = .ok (.iload_n 3, 1) := by decide +kernel
theorem dX7_move_47 : decode cX7_move 47 = .ok (.iload_n 2, 1) := by decide +kernel
theorem dX7_move_48 : decode cX7_move 48 = .ok (.if_icmp .ne 6, 3) := by decide +kernel
theorem dX7_move_51 : decode cX7_move 51 = .ok (.ldc 148, 2) := by decide +kernel
theorem dX7_move_53 : decode cX7_move 53 = .ok (.ireturn, 1) := by decide +kernel
theorem dX7_move_54 : decode cX7_move 54 = .ok (.aload_n 0, 1) := by decide +kernel
theorem dX7_move_55 : decode cX7_move 55 = .ok (.getfield 36, 3) := by decide +kernel
theorem dX7_move_58 : decode cX7_move 58 = .ok (.aload_n 0, 1) := by decide +kernel
theorem dX7_move_59 : decode cX7_move 59 = .ok (.getfield 26, 3) := by decide +kernel
theorem dX7_move_62 : decode cX7_move 62 = .ok (.invokevirtual 155, 3) := by decide +kernel
theorem dX7_move_65 : decode cX7_move 65 = .ok (.aload_n 0, 1) := by decide +kernel
theorem dX7_move_66 : decode cX7_move 66 = .ok (.getfield 26, 3) := by decide +kernel
theorem dX7_move_69 : decode cX7_move 69 = .ok (.getfield 170, 3) := by decide +kernel
theorem dX7_move_72 : decode cX7_move 72 = .ok (.iload_n 1, 1) := by decide +kernel
theorem dX7_move_73 : decode cX7_move 73 = .ok (.iload_n 2, 1) := by decide +kernel
theorem dX7_move_74 : decode cX7_move 74 = .ok (.iastore, 1) := by decide +kernel
theorem dX7_move_75 : decode cX7_move 75 = .ok (.iload_n 3, 1) := by decide +kernel
theorem dX7_move_76 : decode cX7_move 76 = .ok (.ireturn, 1) := by decide +kernel
theorem dX7_paint_0 : decode cX7_paint 0 = .ok (.aload_n 0, 1) := by decide +kernel
theorem dX7_paint_1 : decode cX7_paint 1 = .ok (.getfield 26, 3) := by decide +kernel
theorem dX7_paint_4 : decode cX7_paint 4 = .ok (.iload_n 1, 1) := by decide +kernel
theorem dX7_paint_5 : decode cX7_paint 5 = .ok (.invokevirtual 164, 3) := by decide +kernel
theorem dX7_paint_8 : decode cX7_paint 8 = .ok (.ifCond .eq 12, 3) := by decide +kernel
theorem dX7_paint_11 : decode cX7_paint 11 = .ok (.iload_n 2, 1) := by decide +kernel
theorem dX7_paint_12 : decode cX7_paint 12 = .ok (.ifCond .lt 8, 3) := by decide +kernel
theorem dX7_paint_15 : decode cX7_paint 15 = .ok (.iload_n 2, 1) := by decide +kernel
theorem dX7_paint_16 : decode cX7_paint 16 = .ok (.iconst 4, 1) := by decide +kernel
theorem dX7_paint_17 : decode cX7_paint 17 = .ok (.if_icmp .lt 6, 3) := by decide +kernel
theorem dX7_paint_20 : decode cX7_paint 20 = .ok (.ldc 73, 2) := by decide +kernel
theorem dX7_paint_22 : decode cX7_paint 22 = .ok (.ireturn, 1) := by decide +kernel
theorem dX7_paint_23 : decode cX7_paint 23 = .ok (.aload_n 0, 1) := by decide +kernel
theorem dX7_paint_24 : decode cX7_paint 24 = .ok (.getfield 26, 3) := by decide +kernel
theorem dX7_paint_27 : decode cX7_paint 27 = .ok (.getfield 176, 3) := by decide +kernel
theorem dX7_paint_30 : decode cX7_paint 30 = .ok (.iload_n 1, 1) := by decide +kernel
theorem dX7_paint_31 : decode cX7_paint 31 = .ok (.iaload, 1) := by decide +kernel
theorem dX7_paint_32 : decode cX7_paint 32 = .ok (.istore_n 3, 1) := by decide +kernel
theorem dX7_paint_33 : decode cX7_paint 33 = .ok (.aload_n 0, 1) := by decide +kernel
theorem dX7_paint_34 : decode cX7_paint 34 = .ok (.getfield 36, 3) := by decide +kernel
theorem dX7_paint_37 : decode cX7_paint 37 = .ok (.aload_n 0, 1) := by decide +kernel
theorem dX7_paint_38 : decode cX7_paint 38 = .ok (.getfield 26, 3) := by decide +kernel
theorem dX7_paint_41 : decode cX7_paint 41 = .ok (.invokevirtual 155, 3) := by decide +kernel
theorem dX7_paint_44 : decode cX7_paint 44 = .ok (.aload_n 0, 1) := by decide +kernel
theorem dX7_paint_45 : decode cX7_paint 45 = .ok (.getfield 26, 3) := by decide +kernel
theorem dX7_paint_48 : decode cX7_paint 48 = .ok (.getfield 176, 3) := by decide +kernel
theorem dX7_paint_51 : decode cX7_paint 51 = .ok (.iload_n 1, 1) := by decide +kernel
theorem dX7_paint_52 : decode cX7_paint 52 = .ok (.iload_n 2, 1) := by decide +kernel
theorem dX7_paint_53 : decode cX7_paint 53 = .ok (.iastore, 1) := by decide +kernel
theorem dX7_paint_54 : decode cX7_paint 54 = .ok (.iload_n 3, 1) := by decide +kernel
theorem dX7_paint_55 : decode cX7_paint 55 = .ok (.ireturn, 1) := by decide +kernel
theorem dX7_back_0 : decode cX7_back 0 = .ok (.aload_n 0, 1) := by decide +kernel
theorem dX7_back_1 : decode cX7_back 1 = .ok (.getfield 26, 3) := by decide +kernel
theorem dX7_back_4 : decode cX7_back 4 = .ok (.iload_n 1, 1) := by decide +kernel
theorem dX7_back_5 : decode cX7_back 5 = .ok (.invokevirtual 164, 3) := by decide +kernel
theorem dX7_back_8 : decode cX7_back 8 = .ok (.ifCond .ne 6, 3) := by decide +kernel
theorem dX7_back_11 : decode cX7_back 11 = .ok (.ldc 73, 2) := by decide +kernel
theorem dX7_back_13 : decode cX7_back 13 = .ok (.ireturn, 1) := by decide +kernel
theorem dX7_back_14 : decode cX7_back 14 = .ok (.aload_n 0, 1) := by decide +kernel
theorem dX7_back_15 : decode cX7_back 15 = .ok (.getfield 26, 3) := by decide +kernel
theorem dX7_back_18 : decode cX7_back 18 = .ok (.iload_n 1, 1) := by decide +kernel
theorem dX7_back_19 : decode cX7_back 19 = .ok (.invokevirtual 173, 3) := by decide +kernel
theorem dX7_back_22 : decode cX7_back 22 = .ok (.ifCond .eq 6, 3) := by decide +kernel
theorem dX7_back_25 : decode cX7_back 25 = .ok (.ldc 148, 2) := by decide +kernel
theorem dX7_back_27 : decode cX7_back 27 = .ok (.ireturn, 1) := by decide +kernel
theorem dX7_back_28 : decode cX7_back 28 = .ok (.aload_n 0, 1) := by decide +kernel
theorem dX7_back_29 : decode cX7_back 29 = .ok (.getfield 26, 3) := by decide +kernel
theorem dX7_back_32 : decode cX7_back 32 = .ok (.getfield 179, 3) := by decide +kernel
theorem dX7_back_35 : decode cX7_back 35 = .ok (.iload_n 1, 1) := by decide +kernel
theorem dX7_back_36 : decode cX7_back 36 = .ok (.iaload, 1) := by decide +kernel
theorem dX7_back_37 : decode cX7_back 37 = .ok (.istore_n 2, 1) := by decide +kernel
theorem dX7_back_38 : decode cX7_back 38 = .ok (.aload_n 0, 1) := by decide +kernel
theorem dX7_back_39 : decode cX7_back 39 = .ok (.getfield 36, 3) := by decide +kernel
theorem dX7_back_42 : decode cX7_back 42 = .ok (.aload_n 0, 1) := by decide +kernel
theorem dX7_back_43 : decode cX7_back 43 = .ok (.getfield 26, 3) := by decide +kernel
theorem dX7_back_46 : decode cX7_back 46 = .ok (.invokevirtual 155, 3) := by decide +kernel
theorem dX7_back_49 : decode cX7_back 49 = .ok (.aload_n 0, 1) := by decide +kernel
theorem dX7_back_50 : decode cX7_back 50 = .ok (.getfield 26, 3) := by decide +kernel
theorem dX7_back_53 : decode cX7_back 53 = .ok (.iload_n 1, 1) := by decide +kernel
theorem dX7_back_54 : decode cX7_back 54 = .ok (.invokevirtual 182, 3) := by decide +kernel
theorem dX7_back_57 : decode cX7_back 57 = .ok (.iload_n 2, 1) := by decide +kernel
theorem dX7_back_58 : decode cX7_back 58 = .ok (.ireturn, 1) := by decide +kernel
theorem dX7_turn_0 : decode cX7_turn 0 = .ok (.aload_n 0, 1) := by decide +kernel
theorem dX7_turn_1 : decode cX7_turn 1 = .ok (.invokevirtual 149, 3) := by decide +kernel
theorem dX7_turn_4 : decode cX7_turn 4 = .ok (.ifCond .eq 6, 3) := by decide +kernel
theorem dX7_turn_7 : decode cX7_turn 7 = .ok (.ldc 148, 2) := by decide +kernel
theorem dX7_turn_9 : decode cX7_turn 9 = .ok (.ireturn, 1) := by decide +kernel
theorem dX7_turn_10 : decode cX7_turn 10 = .ok (.aload_n 0, 1) := by decide +kernel
theorem dX7_turn_11 : decode cX7_turn 11 = .ok (.getfield 36, 3) := by decide +kernel
theorem dX7_turn_14 : decode cX7_turn 14 = .ok (.aload_n 0, 1) := by decide +kernel
theorem dX7_turn_15 : decode cX7_turn 15 = .ok (.getfield 26, 3) := by decide +kernel
theorem dX7_turn_18 : decode cX7_turn 18 = .ok (.invokevirtual 155, 3) := by decide +kernel
theorem dX7_turn_21 : decode cX7_turn 21 = .ok (.aload_n 0, 1) := by decide +kernel
theorem dX7_turn_22 : decode cX7_turn 22 = .ok (.getfield 26, 3) := by decide +kernel
theorem dX7_turn_25 : decode cX7_turn 25 = .ok (.iconst 1, 1) := by decide +kernel
theorem dX7_turn_26 : decode cX7_turn 26 = .ok (.invokevirtual 186, 3) := by decide +kernel
theorem dX7_turn_29 : decode cX7_turn 29 = .ok (.aload_n 0, 1) := by decide +kernel
theorem dX7_turn_30 : decode cX7_turn 30 = .ok (.getfield 26, 3) := by decide +kernel
theorem dX7_turn_33 : decode cX7_turn 33 = .ok (.iconst 2, 1) := by decide +kernel
theorem dX7_turn_34 : decode cX7_turn 34 = .ok (.invokevirtual 161, 3) := by decide +kernel
theorem dX7_turn_37 : decode cX7_turn 37 = .ok (.invokestatic 189, 3) := by decide +kernel
theorem dX7_turn_40 : decode cX7_turn 40 = .ok (.ireturn, 1) := by decide +kernel
theorem dX7_traveller_0 : decode cX7_traveller 0 = .ok (.aload_n 0, 1) := by decide +kernel
theorem dX7_traveller_1 : decode cX7_traveller 1 = .ok (.getfield 26, 3) := by decide +kernel
theorem dX7_traveller_4 : decode cX7_traveller 4 = .ok (.iload_n 1, 1) := by decide +kernel
theorem dX7_traveller_5 : decode cX7_traveller 5 = .ok (.invokevirtual 164, 3) := by decide +kernel
theorem dX7_traveller_8 : decode cX7_traveller 8 = .ok (.ifCond .ne 6, 3) := by decide +kernel
theorem dX7_traveller_11 : decode cX7_traveller 11 = .ok (.ldc 73, 2) := by decide +kernel
theorem dX7_traveller_13 : decode cX7_traveller 13 = .ok (.ireturn, 1) := by decide +kernel
theorem dX7_traveller_14 : decode cX7_traveller 14 = .ok (.iload_n 2, 1) := by decide +kernel
theorem dX7_traveller_15 : decode cX7_traveller 15 = .ok (.tableswitch 118 0 5 #[37, 47, 64, 74, 84, 101], 37) := by decide +kernel
theorem dX7_traveller_52 : decode cX7_traveller 52 = .ok (.aload_n 0, 1) := by decide +kernel
theorem dX7_traveller_53 : decode cX7_traveller 53 = .ok (.getfield 26, 3) := by decide +kernel
theorem dX7_traveller_56 : decode cX7_traveller 56 = .ok (.getfield 170, 3) := by decide +kernel
theorem dX7_traveller_59 : decode cX7_traveller 59 = .ok (.iload_n 1, 1) := by decide +kernel
theorem dX7_traveller_60 : decode cX7_traveller 60 = .ok (.iaload, 1) := by decide +kernel
theorem dX7_traveller_61 : decode cX7_traveller 61 = .ok (.ireturn, 1) := by decide +kernel
theorem dX7_traveller_62 : decode cX7_traveller 62 = .ok (.aload_n 0, 1) := by decide +kernel
theorem dX7_traveller_63 : decode cX7_traveller 63 = .ok (.getfield 26, 3) := by decide +kernel
theorem dX7_traveller_66 : decode cX7_traveller 66 = .ok (.iload_n 1, 1) := by decide +kernel
theorem dX7_traveller_67 : decode cX7_traveller 67 = .ok (.invokevirtual 173, 3) := by decide +kernel
theorem dX7_traveller_70 : decode cX7_traveller 70 = .ok (.ifCond .eq 7, 3) := by decide +kernel
theorem dX7_traveller_73 : decode cX7_traveller 73 = .ok (.iconst 1, 1) := by decide +kernel
theorem dX7_traveller_74 : decode cX7_traveller 74 = .ok (.goto 4, 3) := by decide +kernel
theorem dX7_traveller_77 : decode cX7_traveller 77 = .ok (.iconst 0, 1) := by decide +kernel
theorem dX7_traveller_78 : decode cX7_traveller 78 = .ok (.ireturn, 1) := by decide +kernel
theorem dX7_traveller_79 : decode cX7_traveller 79 = .ok (.aload_n 0, 1) := by decide +kernel
theorem dX7_traveller_80 : decode cX7_traveller 80 = .ok (.getfield 26, 3) := by decide +kernel
theorem dX7_traveller_83 : decode cX7_traveller 83 = .ok (.getfield 179, 3) := by decide +kernel
theorem dX7_traveller_86 : decode cX7_traveller 86 = .ok (.iload_n 1, 1) := by decide +kernel
theorem dX7_traveller_87 : decode cX7_traveller 87 = .ok (.iaload, 1) := by decide +kernel
theorem dX7_traveller_88 : decode cX7_traveller 88 = .ok (.ireturn, 1) := by decide +kernel
theorem dX7_traveller_89 : decode cX7_traveller 89 = .ok (.aload_n 0, 1) := by decide +kernel
theorem dX7_traveller_90 : decode cX7_traveller 90 = .ok (.getfield 26, 3) := by decide +kernel
theorem dX7_traveller_93 : decode cX7_traveller 93 = .ok (.getfield 194, 3) := by decide +kernel
theorem dX7_traveller_96 : decode cX7_traveller 96 = .ok (.iload_n 1, 1) := by decide +kernel
theorem dX7_traveller_97 : decode cX7_traveller 97 = .ok (.iaload, 1) := by decide +kernel
theorem dX7_traveller_98 : decode cX7_traveller 98 = .ok (.ireturn, 1) := by decide +kernel
theorem dX7_traveller_99 : decode cX7_traveller 99 = .ok (.aload_n 0, 1) := by decide +kernel
theorem dX7_traveller_100 : decode cX7_traveller 100 = .ok (.getfield 26, 3) := by decide +kernel
theorem dX7_traveller_103 : decode cX7_traveller 103 = .ok (.iload_n 1, 1) := by decide +kernel
theorem dX7_traveller_104 : decode cX7_traveller 104 = .ok (.invokevirtual 197, 3) := by decide +kernel
theorem dX7_traveller_107 : decode cX7_traveller 107 = .ok (.ifCond .eq 7, 3) := by decide +kernel
theorem dX7_traveller_110 : decode cX7_traveller 110 = .ok (.iconst 1, 1) := by decide +kernel
theorem dX7_traveller_111 : decode cX7_traveller 111 = .ok (.goto 4, 3) := by decide +kernel
theorem dX7_traveller_114 : decode cX7_traveller 114 = .ok (.iconst 0, 1) := by decide +kernel
theorem dX7_traveller_115 : decode cX7_traveller 115 = .ok (.ireturn, 1) := by decide +kernel
theorem dX7_traveller_116 : decode cX7_traveller 116 = .ok (.aload_n 0, 1) := by decide +kernel
theorem dX7_traveller_117 : decode cX7_traveller 117 = .ok (.getfield 26, 3) := by decide +kernel
theorem dX7_traveller_120 : decode cX7_traveller 120 = .ok (.iload_n 1, 1) := by decide +kernel
theorem dX7_traveller_121 : decode cX7_traveller 121 = .ok (.invokevirtual 200, 3) := by decide +kernel
theorem dX7_traveller_124 : decode cX7_traveller 124 = .ok (.ifCond .eq 7, 3) := by decide +kernel
theorem dX7_traveller_127 : decode cX7_traveller 127 = .ok (.iconst 1, 1) := by decide +kernel
theorem dX7_traveller_128 : decode cX7_traveller 128 = .ok (.goto 4, 3) := by decide +kernel
theorem dX7_traveller_131 : decode cX7_traveller 131 = .ok (.iconst 0, 1) := by decide +kernel
theorem dX7_traveller_132 : decode cX7_traveller 132 = .ok (.ireturn, 1) := by decide +kernel
theorem dX7_traveller_133 : decode cX7_traveller 133 = .ok (.ldc 73, 2) := by decide +kernel
theorem dX7_traveller_135 : decode cX7_traveller 135 = .ok (.ireturn, 1) := by decide +kernel
theorem dX7_bag_0 : decode cX7_bag 0 = .ok (.aload_n 0, 1) := by decide +kernel
theorem dX7_bag_1 : decode cX7_bag 1 = .ok (.getfield 26, 3) := by decide +kernel
theorem dX7_bag_4 : decode cX7_bag 4 = .ok (.iload_n 1, 1) := by decide +kernel
theorem dX7_bag_5 : decode cX7_bag 5 = .ok (.invokevirtual 164, 3) := by decide +kernel
theorem dX7_bag_8 : decode cX7_bag 8 = .ok (.ifCond .ne 6, 3) := by decide +kernel
theorem dX7_bag_11 : decode cX7_bag 11 = .ok (.ldc 73, 2) := by decide +kernel
theorem dX7_bag_13 : decode cX7_bag 13 = .ok (.ireturn, 1) := by decide +kernel
theorem dX7_bag_14 : decode cX7_bag 14 = .ok (.iload_n 2, 1) := by decide +kernel
theorem dX7_bag_15 : decode cX7_bag 15 = .ok (.lookupswitch 44 #[(0, 25), (1, 35)], 25) := by decide +kernel
theorem dX7_bag_40 : decode cX7_bag 40 = .ok (.aload_n 0, 1) := by decide +kernel
theorem dX7_bag_41 : decode cX7_bag 41 = .ok (.getfield 26, 3) := by decide +kernel
theorem dX7_bag_44 : decode cX7_bag 44 = .ok (.getfield 176, 3) := by decide +kernel
theorem dX7_bag_47 : decode cX7_bag 47 = .ok (.iload_n 1, 1) := by decide +kernel
theorem dX7_bag_48 : decode cX7_bag 48 = .ok (.iaload, 1) := by decide +kernel
theorem dX7_bag_49 : decode cX7_bag 49 = .ok (.ireturn, 1) := by decide +kernel
theorem dX7_bag_50 : decode cX7_bag 50 = .ok (.aload_n 0, 1) := by decide +kernel
theorem dX7_bag_51 : decode cX7_bag 51 = .ok (.getfield 26, 3) := by decide +kernel
theorem dX7_bag_54 : decode cX7_bag 54 = .ok (.iload_n 1, 1) := by decide +kernel
theorem dX7_bag_55 : decode cX7_bag 55 = .ok (.invokevirtual 203, 3) := by decide +kernel
theorem dX7_bag_58 : decode cX7_bag 58 = .ok (.ireturn, 1) := by decide +kernel
theorem dX7_bag_59 : decode cX7_bag 59 = .ok (.ldc 73, 2) := by decide +kernel
theorem dX7_bag_61 : decode cX7_bag 61 = .ok (.ireturn, 1) := by decide +kernel
theorem dX7_stand_0 : decode cX7_stand 0 = .ok (.aload_n 0, 1) := by decide +kernel
theorem dX7_stand_1 : decode cX7_stand 1 = .ok (.invokevirtual 149, 3) := by decide +kernel
theorem dX7_stand_4 : decode cX7_stand 4 = .ok (.ifCond .eq 6, 3) := by decide +kernel
theorem dX7_stand_7 : decode cX7_stand 7 = .ok (.ldc 148, 2) := by decide +kernel
theorem dX7_stand_9 : decode cX7_stand 9 = .ok (.ireturn, 1) := by decide +kernel
theorem dX7_stand_10 : decode cX7_stand 10 = .ok (.iload_n 1, 1) := by decide +kernel
theorem dX7_stand_11 : decode cX7_stand 11 = .ok (.ifCond .lt 9, 3) := by decide +kernel
theorem dX7_stand_14 : decode cX7_stand 14 = .ok (.iload_n 1, 1) := by decide +kernel
theorem dX7_stand_15 : decode cX7_stand 15 = .ok (.bipush 6, 2) := by decide +kernel
theorem dX7_stand_17 : decode cX7_stand 17 = .ok (.if_icmp .le 6, 3) := by decide +kernel
theorem dX7_stand_20 : decode cX7_stand 20 = .ok (.ldc 73, 2) := by decide +kernel
theorem dX7_stand_22 : decode cX7_stand 22 = .ok (.ireturn, 1) := by decide +kernel
theorem dX7_stand_23 : decode cX7_stand 23 = .ok (.iload_n 1, 1) := by decide +kernel
theorem dX7_stand_24 : decode cX7_stand 24 = .ok (.ifCond .ne 13, 3) := by decide +kernel
theorem dX7_stand_27 : decode cX7_stand 27 = .ok (.aload_n 0, 1) := by decide +kernel
theorem dX7_stand_28 : decode cX7_stand 28 = .ok (.getfield 26, 3) := by decide +kernel
theorem dX7_stand_31 : decode cX7_stand 31 = .ok (.getfield 206, 3) := by decide +kernel
theorem dX7_stand_34 : decode cX7_stand 34 = .ok (.goto 11, 3) := by decide +kernel
theorem dX7_stand_37 : decode cX7_stand 37 = .ok (.aload_n 0, 1) := by decide +kernel
theorem dX7_stand_38 : decode cX7_stand 38 = .ok (.getfield 26, 3) := by decide +kernel
theorem dX7_stand_41 : decode cX7_stand 41 = .ok (.iload_n 1, 1) := by decide +kernel
theorem dX7_stand_42 : decode cX7_stand 42 = .ok (.invokevirtual 161, 3) := by decide +kernel
theorem dX7_stand_45 : decode cX7_stand 45 = .ok (.ireturn, 1) := by decide +kernel
theorem dX7_place_0 : decode cX7_place 0 = .ok (.aload_n 0, 1) := by decide +kernel
theorem dX7_place_1 : decode cX7_place 1 = .ok (.getfield 26, 3) := by decide +kernel
theorem dX7_place_4 : decode cX7_place 4 = .ok (.iload_n 1, 1) := by decide +kernel
theorem dX7_place_5 : decode cX7_place 5 = .ok (.invokevirtual 167, 3) := by decide +kernel
theorem dX7_place_8 : decode cX7_place 8 = .ok (.ifCond .eq 14, 3) := by decide +kernel
theorem dX7_place_11 : decode cX7_place 11 = .ok (.aload_n 0, 1) := by decide +kernel
theorem dX7_place_12 : decode cX7_place 12 = .ok (.getfield 26, 3) := by decide +kernel
theorem dX7_place_15 : decode cX7_place 15 = .ok (.iload_n 1, 1) := by decide +kernel
theorem dX7_place_16 : decode cX7_place 16 = .ok (.invokevirtual 209, 3) := by decide +kernel
theorem dX7_place_19 : decode cX7_place 19 = .ok (.goto 5, 3) := by decide +kernel
theorem dX7_place_22 : decode cX7_place 22 = .ok (.ldc 73, 2) := by decide +kernel
theorem dX7_place_24 : decode cX7_place 24 = .ok (.ireturn, 1) := by decide +kernel
theorem dX7_noHall_0 : decode cX7_noHall 0 = .ok (.aload_n 0, 1) := by decide +kernel
theorem dX7_noHall_1 : decode cX7_noHall 1 = .ok (.getfield 26, 3) := by decide +kernel
theorem dX7_noHall_4 : decode cX7_noHall 4 = .ok (.getfield 138, 3) := by decide +kernel
theorem dX7_noHall_7 : decode cX7_noHall 7 = .ok (.ifCond .ne 7, 3) := by decide +kernel
theorem dX7_noHall_10 : decode cX7_noHall 10 = .ok (.iconst 1, 1) := by decide +kernel
theorem dX7_noHall_11 : decode cX7_noHall 11 = .ok (.goto 4, 3) := by decide +kernel
theorem dX7_noHall_14 : decode cX7_noHall 14 = .ok (.iconst 0, 1) := by decide +kernel
theorem dX7_noHall_15 : decode cX7_noHall 15 = .ok (.ireturn, 1) := by decide +kernel
theorem dX7_ahead_0 : decode cX7_ahead 0 = .ok (.aload_n 0, 1) := by decide +kernel
theorem dX7_ahead_1 : decode cX7_ahead 1 = .ok (.getfield 26, 3) := by decide +kernel
theorem dX7_ahead_4 : decode cX7_ahead 4 = .ok (.iload_n 1, 1) := by decide +kernel
theorem dX7_ahead_5 : decode cX7_ahead 5 = .ok (.invokevirtual 164, 3) := by decide +kernel
theorem dX7_ahead_8 : decode cX7_ahead 8 = .ok (.ifCond .eq 13, 3) := by decide +kernel
theorem dX7_ahead_11 : decode cX7_ahead 11 = .ok (.iload_n 2, 1) := by decide +kernel
theorem dX7_ahead_12 : decode cX7_ahead 12 = .ok (.ifCond .lt 9, 3) := by decide +kernel
theorem dX7_ahead_15 : decode cX7_ahead 15 = .ok (.iload_n 2, 1) := by decide +kernel
theorem dX7_ahead_16 : decode cX7_ahead 16 = .ok (.bipush 60, 2) := by decide +kernel
theorem dX7_ahead_18 : decode cX7_ahead 18 = .ok (.if_icmp .le 6, 3) := by decide +kernel
theorem dX7_ahead_21 : decode cX7_ahead 21 = .ok (.ldc 73, 2) := by decide +kernel
theorem dX7_ahead_23 : decode cX7_ahead 23 = .ok (.ireturn, 1) := by decide +kernel
theorem dX7_ahead_24 : decode cX7_ahead 24 = .ok (.aload_n 0, 1) := by decide +kernel
theorem dX7_ahead_25 : decode cX7_ahead 25 = .ok (.getfield 45, 3) := by decide +kernel
theorem dX7_ahead_28 : decode cX7_ahead 28 = .ok (.iload_n 2, 1) := by decide +kernel
theorem dX7_ahead_29 : decode cX7_ahead 29 = .ok (.invokevirtual 212, 3) := by decide +kernel
theorem dX7_ahead_32 : decode cX7_ahead 32 = .ok (.iload_n 1, 1) := by decide +kernel
theorem dX7_ahead_33 : decode cX7_ahead 33 = .ok (.invokevirtual 203, 3) := by decide +kernel
theorem dX7_ahead_36 : decode cX7_ahead 36 = .ok (.ireturn, 1) := by decide +kernel
theorem dX7_with_0 : decode cX7_with 0 = .ok (.aload_n 0, 1) := by decide +kernel
theorem dX7_with_1 : decode cX7_with 1 = .ok (.getfield 26, 3) := by decide +kernel
theorem dX7_with_4 : decode cX7_with 4 = .ok (.iload_n 1, 1) := by decide +kernel
theorem dX7_with_5 : decode cX7_with 5 = .ok (.invokevirtual 164, 3) := by decide +kernel
theorem dX7_with_8 : decode cX7_with 8 = .ok (.ifCond .eq 21, 3) := by decide +kernel
theorem dX7_with_11 : decode cX7_with 11 = .ok (.iload_n 2, 1) := by decide +kernel
theorem dX7_with_12 : decode cX7_with 12 = .ok (.ifCond .lt 17, 3) := by decide +kernel
theorem dX7_with_15 : decode cX7_with 15 = .ok (.iload_n 2, 1) := by decide +kernel
theorem dX7_with_16 : decode cX7_with 16 = .ok (.bipush 60, 2) := by decide +kernel
theorem dX7_with_18 : decode cX7_with 18 = .ok (.if_icmp .gt 11, 3) := by decide +kernel
theorem dX7_with_21 : decode cX7_with 21 = .ok (.iload_n 3, 1) := by decide +kernel
theorem dX7_with_22 : decode cX7_with 22 = .ok (.iconst 2, 1) := by decide +kernel
theorem dX7_with_23 : decode cX7_with 23 = .ok (.invokestatic 216, 3) := by decide +kernel
theorem dX7_with_26 : decode cX7_with 26 = .ok (.ifCond .ne 6, 3) := by decide +kernel
theorem dX7_with_29 : decode cX7_with 29 = .ok (.ldc 73, 2) := by decide +kernel
theorem dX7_with_31 : decode cX7_with 31 = .ok (.ireturn, 1) := by decide +kernel
theorem dX7_with_32 : decode cX7_with 32 = .ok (.aload_n 0, 1) := by decide +kernel
theorem dX7_with_33 : decode cX7_with 33 = .ok (.getfield 45, 3) := by decide +kernel
theorem dX7_with_36 : decode cX7_with 36 = .ok (.iload_n 2, 1) := by decide +kernel
theorem dX7_with_37 : decode cX7_with 37 = .ok (.invokevirtual 212, 3) := by decide +kernel
theorem dX7_with_40 : decode cX7_with 40 = .ok (.astore 4, 2) := by decide +kernel
theorem dX7_with_42 : decode cX7_with 42 = .ok (.iload_n 3, 1) := by decide +kernel
theorem dX7_with_43 : decode cX7_with 43 = .ok (.ifCond .ne 13, 3) := by decide +kernel
theorem dX7_with_46 : decode cX7_with 46 = .ok (.aload 4, 2) := by decide +kernel
theorem dX7_with_48 : decode cX7_with 48 = .ok (.getfield 179, 3) := by decide +kernel
theorem dX7_with_51 : decode cX7_with 51 = .ok (.iload_n 1, 1) := by decide +kernel
theorem dX7_with_52 : decode cX7_with 52 = .ok (.iaload, 1) := by decide +kernel
theorem dX7_with_53 : decode cX7_with 53 = .ok (.goto 10, 3) := by decide +kernel
theorem dX7_with_56 : decode cX7_with 56 = .ok (.aload 4, 2) := by decide +kernel
theorem dX7_with_58 : decode cX7_with 58 = .ok (.getfield 194, 3) := by decide +kernel
theorem dX7_with_61 : decode cX7_with 61 = .ok (.iload_n 1, 1) := by decide +kernel
theorem dX7_with_62 : decode cX7_with 62 = .ok (.iaload, 1) := by decide +kernel
theorem dX7_with_63 : decode cX7_with 63 = .ok (.ireturn, 1) := by decide +kernel
theorem dX7_all_0 : decode cX7_all 0 = .ok (.aload_n 0, 1) := by decide +kernel
theorem dX7_all_1 : decode cX7_all 1 = .ok (.invokevirtual 149, 3) := by decide +kernel
theorem dX7_all_4 : decode cX7_all 4 = .ok (.ifCond .eq 6, 3) := by decide +kernel
theorem dX7_all_7 : decode cX7_all 7 = .ok (.ldc 148, 2) := by decide +kernel
theorem dX7_all_9 : decode cX7_all 9 = .ok (.ireturn, 1) := by decide +kernel
theorem dX7_all_10 : decode cX7_all 10 = .ok (.iload_n 1, 1) := by decide +kernel
theorem dX7_all_11 : decode cX7_all 11 = .ok (.ifCond .lt 17, 3) := by decide +kernel
theorem dX7_all_14 : decode cX7_all 14 = .ok (.iload_n 1, 1) := by decide +kernel
theorem dX7_all_15 : decode cX7_all 15 = .ok (.bipush 60, 2) := by decide +kernel
theorem dX7_all_17 : decode cX7_all 17 = .ok (.if_icmp .gt 11, 3) := by decide +kernel
theorem dX7_all_20 : decode cX7_all 20 = .ok (.iload_n 2, 1) := by decide +kernel
theorem dX7_all_21 : decode cX7_all 21 = .ok (.iconst 3, 1) := by decide +kernel
theorem dX7_all_22 : decode cX7_all 22 = .ok (.invokestatic 216, 3) := by decide +kernel
theorem dX7_all_25 : decode cX7_all 25 = .ok (.ifCond .ne 6, 3) := by decide +kernel
theorem dX7_all_28 : decode cX7_all 28 = .ok (.ldc 73, 2) := by decide +kernel
theorem dX7_all_30 : decode cX7_all 30 = .ok (.ireturn, 1) := by decide +kernel
theorem dX7_all_31 : decode cX7_all 31 = .ok (.aload_n 0, 1) := by decide +kernel
theorem dX7_all_32 : decode cX7_all 32 = .ok (.getfield 45, 3) := by decide +kernel
theorem dX7_all_35 : decode cX7_all 35 = .ok (.iload_n 1, 1) := by decide +kernel
theorem dX7_all_36 : decode cX7_all 36 = .ok (.invokevirtual 212, 3) := by decide +kernel
theorem dX7_all_39 : decode cX7_all 39 = .ok (.astore_n 3, 1) := by decide +kernel
theorem dX7_all_40 : decode cX7_all 40 = .ok (.aload_n 3, 1) := by decide +kernel
theorem dX7_all_41 : decode cX7_all 41 = .ok (.iload_n 2, 1) := by decide +kernel
theorem dX7_all_42 : decode cX7_all 42 = .ok (.ifCond .ne 8, 3) := by decide +kernel
theorem dX7_all_45 : decode cX7_all 45 = .ok (.bipush 7, 2) := by decide +kernel
theorem dX7_all_47 : decode cX7_all 47 = .ok (.goto 14, 3) := by decide +kernel
theorem dX7_all_50 : decode cX7_all 50 = .ok (.iload_n 2, 1) := by decide +kernel
theorem dX7_all_51 : decode cX7_all 51 = .ok (.iconst 1, 1) := by decide +kernel
theorem dX7_all_52 : decode cX7_all 52 = .ok (.if_icmp .ne 7, 3) := by decide +kernel
theorem dX7_all_55 : decode cX7_all 55 = .ok (.iconst 5, 1) := by decide +kernel
theorem dX7_all_56 : decode cX7_all 56 = .ok (.goto 5, 3) := by decide +kernel
theorem dX7_all_59 : decode cX7_all 59 = .ok (.bipush 6, 2) := by decide +kernel
theorem dX7_all_61 : decode cX7_all 61 = .ok (.invokevirtual 161, 3) := by decide +kernel
theorem dX7_all_64 : decode cX7_all 64 = .ok (.ireturn, 1) := by decide +kernel
theorem dX7_when_0 : decode cX7_when 0 = .ok (.aload_n 0, 1) := by decide +kernel
theorem dX7_when_1 : decode cX7_when 1 = .ok (.getfield 26, 3) := by decide +kernel
theorem dX7_when_4 : decode cX7_when 4 = .ok (.iload_n 1, 1) := by decide +kernel
theorem dX7_when_5 : decode cX7_when 5 = .ok (.invokevirtual 164, 3) := by decide +kernel
theorem dX7_when_8 : decode cX7_when 8 = .ok (.ifCond .eq 14, 3) := by decide +kernel
theorem dX7_when_11 : decode cX7_when 11 = .ok (.aload_n 0, 1) := by decide +kernel
theorem dX7_when_12 : decode cX7_when 12 = .ok (.getfield 45, 3) := by decide +kernel
theorem dX7_when_15 : decode cX7_when 15 = .ok (.iload_n 1, 1) := by decide +kernel
theorem dX7_when_16 : decode cX7_when 16 = .ok (.invokevirtual 220, 3) := by decide +kernel
theorem dX7_when_19 : decode cX7_when 19 = .ok (.goto 5, 3) := by decide +kernel
theorem dX7_when_22 : decode cX7_when 22 = .ok (.ldc 73, 2) := by decide +kernel
theorem dX7_when_24 : decode cX7_when 24 = .ok (.ireturn, 1) := by decide +kernel
theorem dX7_empty_0 : decode cX7_empty 0 = .ok (.aload_n 0, 1) := by decide +kernel
theorem dX7_empty_1 : decode cX7_empty 1 = .ok (.invokevirtual 149, 3) := by decide +kernel
theorem dX7_empty_4 : decode cX7_empty 4 = .ok (.ifCond .eq 8, 3) := by decide +kernel
theorem dX7_empty_7 : decode cX7_empty 7 = .ok (.ldc 148, 2) := by decide +kernel
theorem dX7_empty_9 : decode cX7_empty 9 = .ok (.goto 10, 3) := by decide +kernel
theorem dX7_empty_12 : decode cX7_empty 12 = .ok (.aload_n 0, 1) := by decide +kernel
theorem dX7_empty_13 : decode cX7_empty 13 = .ok (.getfield 45, 3) := by decide +kernel
theorem dX7_empty_16 : decode cX7_empty 16 = .ok (.invokevirtual 223, 3) := by decide +kernel
theorem dX7_empty_19 : decode cX7_empty 19 = .ok (.ireturn, 1) := by decide +kernel
theorem dX7_best_0 : decode cX7_best 0 = .ok (.aload_n 0, 1) := by decide +kernel
theorem dX7_best_1 : decode cX7_best 1 = .ok (.getfield 26, 3) := by decide +kernel
theorem dX7_best_4 : decode cX7_best 4 = .ok (.iload_n 1, 1) := by decide +kernel
theorem dX7_best_5 : decode cX7_best 5 = .ok (.invokevirtual 164, 3) := by decide +kernel
theorem dX7_best_8 : decode cX7_best 8 = .ok (.ifCond .eq 22, 3) := by decide +kernel
theorem dX7_best_11 : decode cX7_best 11 = .ok (.iload_n 2, 1) := by decide +kernel
theorem dX7_best_12 : decode cX7_best 12 = .ok (.iconst 1, 1) := by decide +kernel
theorem dX7_best_13 : decode cX7_best 13 = .ok (.if_icmp .lt 17, 3) := by decide +kernel
theorem dX7_best_16 : decode cX7_best 16 = .ok (.iload_n 2, 1) := by decide +kernel
theorem dX7_best_17 : decode cX7_best 17 = .ok (.bipush 60, 2) := by decide +kernel
theorem dX7_best_19 : decode cX7_best 19 = .ok (.if_icmp .gt 11, 3) := by decide +kernel
theorem dX7_best_22 : decode cX7_best 22 = .ok (.iload_n 3, 1) := by decide +kernel
theorem dX7_best_23 : decode cX7_best 23 = .ok (.iconst 2, 1) := by decide +kernel
theorem dX7_best_24 : decode cX7_best 24 = .ok (.invokestatic 216, 3) := by decide +kernel
theorem dX7_best_27 : decode cX7_best 27 = .ok (.ifCond .ne 6, 3) := by decide +kernel
theorem dX7_best_30 : decode cX7_best 30 = .ok (.ldc 73, 2) := by decide +kernel
theorem dX7_best_32 : decode cX7_best 32 = .ok (.ireturn, 1) := by decide +kernel
theorem dX7_best_33 : decode cX7_best 33 = .ok (.aload_n 0, 1) := by decide +kernel
theorem dX7_best_34 : decode cX7_best 34 = .ok (.getfield 26, 3) := by decide +kernel
theorem dX7_best_37 : decode cX7_best 37 = .ok (.iload_n 1, 1) := by decide +kernel
theorem dX7_best_38 : decode cX7_best 38 = .ok (.invokevirtual 173, 3) := by decide +kernel
theorem dX7_best_41 : decode cX7_best 41 = .ok (.ifCond .ne 6, 3) := by decide +kernel
theorem dX7_best_44 : decode cX7_best 44 = .ok (.ldc 148, 2) := by decide +kernel
theorem dX7_best_46 : decode cX7_best 46 = .ok (.ireturn, 1) := by decide +kernel
theorem dX7_best_47 : decode cX7_best 47 = .ok (.aload_n 0, 1) := by decide +kernel
theorem dX7_best_48 : decode cX7_best 48 = .ok (.getfield 45, 3) := by decide +kernel
theorem dX7_best_51 : decode cX7_best 51 = .ok (.iload_n 1, 1) := by decide +kernel
theorem dX7_best_52 : decode cX7_best 52 = .ok (.iload_n 2, 1) := by decide +kernel
theorem dX7_best_53 : decode cX7_best 53 = .ok (.iload_n 3, 1) := by decide +kernel
theorem dX7_best_54 : decode cX7_best 54 = .ok (.invokevirtual 226, 3) := by decide +kernel
theorem dX7_best_57 : decode cX7_best 57 = .ok (.ireturn, 1) := by decide +kernel
theorem dX7_order_0 : decode cX7_order 0 = .ok (.aload_n 0, 1) := by decide +kernel
theorem dX7_order_1 : decode cX7_order 1 = .ok (.invokevirtual 149, 3) := by decide +kernel
theorem dX7_order_4 : decode cX7_order 4 = .ok (.ifCond .eq 6, 3) := by decide +kernel
theorem dX7_order_7 : decode cX7_order 7 = .ok (.ldc 148, 2) := by decide +kernel
theorem dX7_order_9 : decode cX7_order 9 = .ok (.ireturn, 1) := by decide +kernel
theorem dX7_order_10 : decode cX7_order 10 = .ok (.iload_n 1, 1) := by decide +kernel
theorem dX7_order_11 : decode cX7_order 11 = .ok (.iconst 1, 1) := by decide +kernel
theorem dX7_order_12 : decode cX7_order 12 = .ok (.if_icmp .lt 14, 3) := by decide +kernel
theorem dX7_order_15 : decode cX7_order 15 = .ok (.iload_n 1, 1) := by decide +kernel
theorem dX7_order_16 : decode cX7_order 16 = .ok (.bipush 40, 2) := by decide +kernel
theorem dX7_order_18 : decode cX7_order 18 = .ok (.if_icmp .gt 8, 3) := by decide +kernel
theorem dX7_order_21 : decode cX7_order 21 = .ok (.iload_n 2, 1) := by decide +kernel
theorem dX7_order_22 : decode cX7_order 22 = .ok (.iconst (-1), 1) := by decide +kernel
theorem dX7_order_23 : decode cX7_order 23 = .ok (.if_icmp .ge 6, 3) := by decide +kernel
theorem dX7_order_26 : decode cX7_order 26 = .ok (.ldc 73, 2) := by decide +kernel
theorem dX7_order_28 : decode cX7_order 28 = .ok (.ireturn, 1) := by decide +kernel
theorem dX7_order_29 : decode cX7_order 29 = .ok (.iload_n 2, 1) := by decide +kernel
theorem dX7_order_30 : decode cX7_order 30 = .ok (.aload_n 0, 1) := by decide +kernel
theorem dX7_order_31 : decode cX7_order 31 = .ok (.getfield 26, 3) := by decide +kernel
theorem dX7_order_34 : decode cX7_order 34 = .ok (.getfield 138, 3) := by decide +kernel
theorem dX7_order_37 : decode cX7_order 37 = .ok (.if_icmp .lt 6, 3) := by decide +kernel
theorem dX7_order_40 : decode cX7_order 40 = .ok (.ldc 229, 2) := by decide +kernel
theorem dX7_order_42 : decode cX7_order 42 = .ok (.ireturn, 1) := by decide +kernel
theorem dX7_order_43 : decode cX7_order 43 = .ok (.aload_n 0, 1) := by decide +kernel
theorem dX7_order_44 : decode cX7_order 44 = .ok (.getfield 54, 3) := by decide +kernel
theorem dX7_order_47 : decode cX7_order 47 = .ok (.aload_n 0, 1) := by decide +kernel
theorem dX7_order_48 : decode cX7_order 48 = .ok (.getfield 26, 3) := by decide +kernel
theorem dX7_order_51 : decode cX7_order 51 = .ok (.iload_n 1, 1) := by decide +kernel
theorem dX7_order_52 : decode cX7_order 52 = .ok (.invokevirtual 230, 3) := by decide +kernel
theorem dX7_order_55 : decode cX7_order 55 = .ok (.iload_n 2, 1) := by decide +kernel
theorem dX7_order_56 : decode cX7_order 56 = .ok (.ifCond .ge 13, 3) := by decide +kernel
theorem dX7_order_59 : decode cX7_order 59 = .ok (.aload_n 0, 1) := by decide +kernel
theorem dX7_order_60 : decode cX7_order 60 = .ok (.getfield 54, 3) := by decide +kernel
theorem dX7_order_63 : decode cX7_order 63 = .ok (.invokevirtual 234, 3) := by decide +kernel
theorem dX7_order_66 : decode cX7_order 66 = .ok (.goto 15, 3) := by decide +kernel
theorem dX7_order_69 : decode cX7_order 69 = .ok (.aload_n 0, 1) := by decide +kernel
theorem dX7_order_70 : decode cX7_order 70 = .ok (.getfield 54, 3) := by decide +kernel
theorem dX7_order_73 : decode cX7_order 73 = .ok (.aload_n 0, 1) := by decide +kernel
theorem dX7_order_74 : decode cX7_order 74 = .ok (.getfield 26, 3) := by decide +kernel
theorem dX7_order_77 : decode cX7_order 77 = .ok (.iload_n 2, 1) := by decide +kernel
theorem dX7_order_78 : decode cX7_order 78 = .ok (.invokevirtual 237, 3) := by decide +kernel
theorem dX7_order_81 : decode cX7_order 81 = .ok (.ireturn, 1) := by decide +kernel
theorem dX7_marks_0 : decode cX7_marks 0 = .ok (.aload_n 0, 1) := by decide +kernel
theorem dX7_marks_1 : decode cX7_marks 1 = .ok (.invokevirtual 149, 3) := by decide +kernel
theorem dX7_marks_4 : decode cX7_marks 4 = .ok (.ifCond .eq 6, 3) := by decide +kernel
theorem dX7_marks_7 : decode cX7_marks 7 = .ok (.ldc 148, 2) := by decide +kernel
theorem dX7_marks_9 : decode cX7_marks 9 = .ok (.ireturn, 1) := by decide +kernel
theorem dX7_marks_10 : decode cX7_marks 10 = .ok (.iload_n 1, 1) := by decide +kernel
theorem dX7_marks_11 : decode cX7_marks 11 = .ok (.iconst 1, 1) := by decide +kernel
theorem dX7_marks_12 : decode cX7_marks 12 = .ok (.if_icmp .lt 17, 3) := by decide +kernel
theorem dX7_marks_15 : decode cX7_marks 15 = .ok (.iload_n 1, 1) := by decide +kernel
theorem dX7_marks_16 : decode cX7_marks 16 = .ok (.bipush 40, 2) := by decide +kernel
theorem dX7_marks_18 : decode cX7_marks 18 = .ok (.if_icmp .gt 11, 3) := by decide +kernel
theorem dX7_marks_21 : decode cX7_marks 21 = .ok (.iload_n 2, 1) := by decide +kernel
theorem dX7_marks_22 : decode cX7_marks 22 = .ok (.iconst 2, 1) := by decide +kernel
theorem dX7_marks_23 : decode cX7_marks 23 = .ok (.invokestatic 216, 3) := by decide +kernel
theorem dX7_marks_26 : decode cX7_marks 26 = .ok (.ifCond .ne 6, 3) := by decide +kernel
theorem dX7_marks_29 : decode cX7_marks 29 = .ok (.ldc 73, 2) := by decide +kernel
theorem dX7_marks_31 : decode cX7_marks 31 = .ok (.ireturn, 1) := by decide +kernel
theorem dX7_marks_32 : decode cX7_marks 32 = .ok (.aload_n 0, 1) := by decide +kernel
theorem dX7_marks_33 : decode cX7_marks 33 = .ok (.getfield 45, 3) := by decide +kernel
theorem dX7_marks_36 : decode cX7_marks 36 = .ok (.iload_n 1, 1) := by decide +kernel
theorem dX7_marks_37 : decode cX7_marks 37 = .ok (.invokevirtual 241, 3) := by decide +kernel
theorem dX7_marks_40 : decode cX7_marks 40 = .ok (.istore_n 3, 1) := by decide +kernel
theorem dX7_marks_41 : decode cX7_marks 41 = .ok (.iload_n 2, 1) := by decide +kernel
theorem dX7_marks_42 : decode cX7_marks 42 = .ok (.ifCond .ne 10, 3) := by decide +kernel
theorem dX7_marks_45 : decode cX7_marks 45 = .ok (.iload_n 3, 1) := by decide +kernel
theorem dX7_marks_46 : decode cX7_marks 46 = .ok (.invokestatic 189, 3) := by decide +kernel
theorem dX7_marks_49 : decode cX7_marks 49 = .ok (.goto 4, 3) := by decide +kernel
theorem dX7_marks_52 : decode cX7_marks 52 = .ok (.iload_n 3, 1) := by decide +kernel
theorem dX7_marks_53 : decode cX7_marks 53 = .ok (.ireturn, 1) := by decide +kernel
theorem dX7_sets_0 : decode cX7_sets 0 = .ok (.aload_n 0, 1) := by decide +kernel
theorem dX7_sets_1 : decode cX7_sets 1 = .ok (.invokevirtual 149, 3) := by decide +kernel
theorem dX7_sets_4 : decode cX7_sets 4 = .ok (.ifCond .eq 6, 3) := by decide +kernel
theorem dX7_sets_7 : decode cX7_sets 7 = .ok (.ldc 148, 2) := by decide +kernel
theorem dX7_sets_9 : decode cX7_sets 9 = .ok (.ireturn, 1) := by decide +kernel
theorem dX7_sets_10 : decode cX7_sets 10 = .ok (.iload_n 1, 1) := by decide +kernel
theorem dX7_sets_11 : decode cX7_sets 11 = .ok (.ifCond .lt 17, 3) := by decide +kernel
theorem dX7_sets_14 : decode cX7_sets 14 = .ok (.iload_n 1, 1) := by decide +kernel
theorem dX7_sets_15 : decode cX7_sets 15 = .ok (.bipush 99, 2) := by decide +kernel
theorem dX7_sets_17 : decode cX7_sets 17 = .ok (.if_icmp .gt 11, 3) := by decide +kernel
theorem dX7_sets_20 : decode cX7_sets 20 = .ok (.iload_n 2, 1) := by decide +kernel
theorem dX7_sets_21 : decode cX7_sets 21 = .ok (.iconst 3, 1) := by decide +kernel
theorem dX7_sets_22 : decode cX7_sets 22 = .ok (.invokestatic 216, 3) := by decide +kernel
theorem dX7_sets_25 : decode cX7_sets 25 = .ok (.ifCond .ne 6, 3) := by decide +kernel
theorem dX7_sets_28 : decode cX7_sets 28 = .ok (.ldc 73, 2) := by decide +kernel
theorem dX7_sets_30 : decode cX7_sets 30 = .ok (.ireturn, 1) := by decide +kernel
theorem dX7_sets_31 : decode cX7_sets 31 = .ok (.aload_n 0, 1) := by decide +kernel
theorem dX7_sets_32 : decode cX7_sets 32 = .ok (.getfield 45, 3) := by decide +kernel
theorem dX7_sets_35 : decode cX7_sets 35 = .ok (.iload_n 1, 1) := by decide +kernel
theorem dX7_sets_36 : decode cX7_sets 36 = .ok (.iload_n 2, 1) := by decide +kernel
theorem dX7_sets_37 : decode cX7_sets 37 = .ok (.invokevirtual 244, 3) := by decide +kernel
theorem dX7_sets_40 : decode cX7_sets 40 = .ok (.ireturn, 1) := by decide +kernel
theorem dX7_share_0 : decode cX7_share 0 = .ok (.aload_n 0, 1) := by decide +kernel
theorem dX7_share_1 : decode cX7_share 1 = .ok (.getfield 26, 3) := by decide +kernel
theorem dX7_share_4 : decode cX7_share 4 = .ok (.iload_n 1, 1) := by decide +kernel
theorem dX7_share_5 : decode cX7_share 5 = .ok (.invokevirtual 164, 3) := by decide +kernel
theorem dX7_share_8 : decode cX7_share 8 = .ok (.ifCond .eq 14, 3) := by decide +kernel
theorem dX7_share_11 : decode cX7_share 11 = .ok (.iload_n 2, 1) := by decide +kernel
theorem dX7_share_12 : decode cX7_share 12 = .ok (.ifCond .lt 10, 3) := by decide +kernel
theorem dX7_share_15 : decode cX7_share 15 = .ok (.iload_n 2, 1) := by decide +kernel
theorem dX7_share_16 : decode cX7_share 16 = .ok (.sipush 999, 3) := by decide +kernel
theorem dX7_share_19 : decode cX7_share 19 = .ok (.if_icmp .le 6, 3) := by decide +kernel
theorem dX7_share_22 : decode cX7_share 22 = .ok (.ldc 73, 2) := by decide +kernel
theorem dX7_share_24 : decode cX7_share 24 = .ok (.ireturn, 1) := by decide +kernel
theorem dX7_share_25 : decode cX7_share 25 = .ok (.aload_n 0, 1) := by decide +kernel
theorem dX7_share_26 : decode cX7_share 26 = .ok (.getfield 26, 3) := by decide +kernel
theorem dX7_share_29 : decode cX7_share 29 = .ok (.iload_n 1, 1) := by decide +kernel
theorem dX7_share_30 : decode cX7_share 30 = .ok (.iload_n 2, 1) := by decide +kernel
theorem dX7_share_31 : decode cX7_share 31 = .ok (.invokevirtual 248, 3) := by decide +kernel
theorem dX7_share_34 : decode cX7_share 34 = .ok (.ireturn, 1) := by decide +kernel
theorem dX7_byTurns_0 : decode cX7_byTurns 0 = .ok (.aload_n 0, 1) := by decide +kernel
theorem dX7_byTurns_1 : decode cX7_byTurns 1 = .ok (.invokevirtual 149, 3) := by decide +kernel
theorem dX7_byTurns_4 : decode cX7_byTurns 4 = .ok (.ifCond .eq 6, 3) := by decide +kernel
theorem dX7_byTurns_7 : decode cX7_byTurns 7 = .ok (.ldc 148, 2) := by decide +kernel
theorem dX7_byTurns_9 : decode cX7_byTurns 9 = .ok (.ireturn, 1) := by decide +kernel
theorem dX7_byTurns_10 : decode cX7_byTurns 10 = .ok (.iload_n 1, 1) := by decide +kernel
theorem dX7_byTurns_11 : decode cX7_byTurns 11 = .ok (.ifCond .lt 19, 3) := by decide +kernel
theorem dX7_byTurns_14 : decode cX7_byTurns 14 = .ok (.iload_n 1, 1) := by decide +kernel
theorem dX7_byTurns_15 : decode cX7_byTurns 15 = .ok (.iconst 4, 1) := by decide +kernel
theorem dX7_byTurns_16 : decode cX7_byTurns 16 = .ok (.if_icmp .gt 14, 3) := by decide +kernel
theorem dX7_byTurns_19 : decode cX7_byTurns 19 = .ok (.iload_n 2, 1) := by decide +kernel
theorem dX7_byTurns_20 : decode cX7_byTurns 20 = .ok (.iconst 1, 1) := by decide +kernel
theorem dX7_byTurns_21 : decode cX7_byTurns 21 = .ok (.if_icmp .lt 9, 3) := by decide +kernel
theorem dX7_byTurns_24 : decode cX7_byTurns 24 = .ok (.iload_n 2, 1) := by decide +kernel
theorem dX7_byTurns_25 : decode cX7_byTurns 25 = .ok (.bipush 20, 2) := by decide +kernel
theorem dX7_byTurns_27 : decode cX7_byTurns 27 = .ok (.if_icmp .le 6, 3) := by decide +kernel
theorem dX7_byTurns_30 : decode cX7_byTurns 30 = .ok (.ldc 73, 2) := by decide +kernel
theorem dX7_byTurns_32 : decode cX7_byTurns 32 = .ok (.ireturn, 1) := by decide +kernel
theorem dX7_byTurns_33 : decode cX7_byTurns 33 = .ok (.aload_n 0, 1) := by decide +kernel
theorem dX7_byTurns_34 : decode cX7_byTurns 34 = .ok (.getfield 45, 3) := by decide +kernel
theorem dX7_byTurns_37 : decode cX7_byTurns 37 = .ok (.iload_n 1, 1) := by decide +kernel
theorem dX7_byTurns_38 : decode cX7_byTurns 38 = .ok (.iload_n 2, 1) := by decide +kernel
theorem dX7_byTurns_39 : decode cX7_byTurns 39 = .ok (.iconst 0, 1) := by decide +kernel
theorem dX7_byTurns_40 : decode cX7_byTurns 40 = .ok (.iconst 0, 1) := by decide +kernel
theorem dX7_byTurns_41 : decode cX7_byTurns 41 = .ok (.invokevirtual 251, 3) := by decide +kernel
theorem dX7_byTurns_44 : decode cX7_byTurns 44 = .ok (.ireturn, 1) := by decide +kernel
theorem dX7_who_0 : decode cX7_who 0 = .ok (.aload_n 0, 1) := by decide +kernel
theorem dX7_who_1 : decode cX7_who 1 = .ok (.getfield 26, 3) := by decide +kernel
theorem dX7_who_4 : decode cX7_who 4 = .ok (.iload_n 1, 1) := by decide +kernel
theorem dX7_who_5 : decode cX7_who 5 = .ok (.invokevirtual 164, 3) := by decide +kernel
theorem dX7_who_8 : decode cX7_who 8 = .ok (.ifCond .eq 33, 3) := by decide +kernel
theorem dX7_who_11 : decode cX7_who 11 = .ok (.iload_n 2, 1) := by decide +kernel
theorem dX7_who_12 : decode cX7_who 12 = .ok (.iconst 2, 1) := by decide +kernel
theorem dX7_who_13 : decode cX7_who 13 = .ok (.invokestatic 216, 3) := by decide +kernel
theorem dX7_who_16 : decode cX7_who 16 = .ok (.ifCond .eq 25, 3) := by decide +kernel
theorem dX7_who_19 : decode cX7_who 19 = .ok (.aload_n 0, 1) := by decide +kernel
theorem dX7_who_20 : decode cX7_who 20 = .ok (.getfield 26, 3) := by decide +kernel
theorem dX7_who_23 : decode cX7_who 23 = .ok (.iload_n 3, 1) := by decide +kernel
theorem dX7_who_24 : decode cX7_who 24 = .ok (.invokevirtual 164, 3) := by decide +kernel
theorem dX7_who_27 : decode cX7_who 27 = .ok (.ifCond .eq 14, 3) := by decide +kernel
theorem dX7_who_30 : decode cX7_who 30 = .ok (.aload_n 0, 1) := by decide +kernel
theorem dX7_who_31 : decode cX7_who 31 = .ok (.iload 4, 2) := by decide +kernel
theorem dX7_who_33 : decode cX7_who 33 = .ok (.iload 6, 2) := by decide +kernel
theorem dX7_who_35 : decode cX7_who 35 = .ok (.invokevirtual 255, 3) := by decide +kernel
theorem dX7_who_38 : decode cX7_who 38 = .ok (.ifCond .ne 6, 3) := by decide +kernel
theorem dX7_who_41 : decode cX7_who 41 = .ok (.ldc 73, 2) := by decide +kernel
theorem dX7_who_43 : decode cX7_who 43 = .ok (.ireturn, 1) := by decide +kernel
theorem dX7_who_44 : decode cX7_who 44 = .ok (.aload_n 0, 1) := by decide +kernel
theorem dX7_who_45 : decode cX7_who 45 = .ok (.iload 4, 2) := by decide +kernel
theorem dX7_who_47 : decode cX7_who 47 = .ok (.iload 5, 2) := by decide +kernel
theorem dX7_who_49 : decode cX7_who 49 = .ok (.iload 6, 2) := by decide +kernel
theorem dX7_who_51 : decode cX7_who 51 = .ok (.invokevirtual 258, 3) := by decide +kernel
theorem dX7_who_54 : decode cX7_who 54 = .ok (.istore 7, 2) := by decide +kernel
theorem dX7_who_56 : decode cX7_who 56 = .ok (.iload 7, 2) := by decide +kernel
theorem dX7_who_58 : decode cX7_who 58 = .ok (.ifCond .eq 10, 3) := by decide +kernel
theorem dX7_who_61 : decode cX7_who 61 = .ok (.aload_n 0, 1) := by decide +kernel
theorem dX7_who_62 : decode cX7_who 62 = .ok (.iload 7, 2) := by decide +kernel
theorem dX7_who_64 : decode cX7_who 64 = .ok (.invokevirtual 74, 3) := by decide +kernel
theorem dX7_who_67 : decode cX7_who 67 = .ok (.ireturn, 1) := by decide +kernel
theorem dX7_who_68 : decode cX7_who 68 = .ok (.aload_n 0, 1) := by decide +kernel
theorem dX7_who_69 : decode cX7_who 69 = .ok (.getfield 10, 3) := by decide +kernel
theorem dX7_who_72 : decode cX7_who 72 = .ok (.iload 4, 2) := by decide +kernel
theorem dX7_who_74 : decode cX7_who 74 = .ok (.invokevirtual 261, 3) := by decide +kernel
theorem dX7_who_77 : decode cX7_who 77 = .ok (.astore 8, 2) := by decide +kernel
theorem dX7_who_79 : decode cX7_who 79 = .ok (.iload_n 2, 1) := by decide +kernel
theorem dX7_who_80 : decode cX7_who 80 = .ok (.ifCond .ne 23, 3) := by decide +kernel
theorem dX7_who_83 : decode cX7_who 83 = .ok (.aload_n 0, 1) := by decide +kernel
theorem dX7_who_84 : decode cX7_who 84 = .ok (.aload_n 0, 1) := by decide +kernel
theorem dX7_who_85 : decode cX7_who 85 = .ok (.getfield 45, 3) := by decide +kernel
theorem dX7_who_88 : decode cX7_who 88 = .ok (.iload_n 1, 1) := by decide +kernel
theorem dX7_who_89 : decode cX7_who 89 = .ok (.iload_n 3, 1) := by decide +kernel
theorem dX7_who_90 : decode cX7_who 90 = .ok (.aload 8, 2) := by decide +kernel
theorem dX7_who_92 : decode cX7_who 92 = .ok (.iload 5, 2) := by decide +kernel
theorem dX7_who_94 : decode cX7_who 94 = .ok (.iload 6, 2) := by decide +kernel
theorem dX7_who_96 : decode cX7_who 96 = .ok (.invokevirtual 265, 3) := by decide +kernel
theorem dX7_who_99 : decode cX7_who 99 = .ok (.invokevirtual 82, 3) := by decide +kernel
theorem dX7_who_102 : decode cX7_who 102 = .ok (.ireturn, 1) := by decide +kernel
theorem dX7_who_103 : decode cX7_who 103 = .ok (.aload_n 0, 1) := by decide +kernel
theorem dX7_who_104 : decode cX7_who 104 = .ok (.aload_n 0, 1) := by decide +kernel
theorem dX7_who_105 : decode cX7_who 105 = .ok (.getfield 45, 3) := by decide +kernel
theorem dX7_who_108 : decode cX7_who 108 = .ok (.iload_n 1, 1) := by decide +kernel
theorem dX7_who_109 : decode cX7_who 109 = .ok (.iload_n 3, 1) := by decide +kernel
theorem dX7_who_110 : decode cX7_who 110 = .ok (.aload 8, 2) := by decide +kernel
theorem dX7_who_112 : decode cX7_who 112 = .ok (.iload 5, 2) := by decide +kernel
theorem dX7_who_114 : decode cX7_who 114 = .ok (.iload 6, 2) := by decide +kernel
theorem dX7_who_116 : decode cX7_who 116 = .ok (.invokevirtual 269, 3) := by decide +kernel
theorem dX7_who_119 : decode cX7_who 119 = .ok (.invokevirtual 82, 3) := by decide +kernel
theorem dX7_who_122 : decode cX7_who 122 = .ok (.ireturn, 1) := by decide +kernel
theorem dX7_colours_0 : decode cX7_colours 0 = .ok (.aload_n 0, 1) := by decide +kernel
theorem dX7_colours_1 : decode cX7_colours 1 = .ok (.getfield 26, 3) := by decide +kernel
theorem dX7_colours_4 : decode cX7_colours 4 = .ok (.iload_n 1, 1) := by decide +kernel
theorem dX7_colours_5 : decode cX7_colours 5 = .ok (.invokevirtual 164, 3) := by decide +kernel
theorem dX7_colours_8 : decode cX7_colours 8 = .ok (.ifCond .eq 13, 3) := by decide +kernel
theorem dX7_colours_11 : decode cX7_colours 11 = .ok (.aload_n 0, 1) := by decide +kernel
theorem dX7_colours_12 : decode cX7_colours 12 = .ok (.iload_n 2, 1) := by decide +kernel
theorem dX7_colours_13 : decode cX7_colours 13 = .ok (.iload 4, 2) := by decide +kernel
theorem dX7_colours_15 : decode cX7_colours 15 = .ok (.invokevirtual 255, 3) := by decide +kernel
theorem dX7_colours_18 : decode cX7_colours 18 = .ok (.ifCond .ne 6, 3) := by decide +kernel
theorem dX7_colours_21 : decode cX7_colours 21 = .ok (.ldc 73, 2) := by decide +kernel
theorem dX7_colours_23 : decode cX7_colours 23 = .ok (.ireturn, 1) := by decide +kernel
theorem dX7_colours_24 : decode cX7_colours 24 = .ok (.aload_n 0, 1) := by decide +kernel
theorem dX7_colours_25 : decode cX7_colours 25 = .ok (.iload_n 2, 1) := by decide +kernel
theorem dX7_colours_26 : decode cX7_colours 26 = .ok (.iload_n 3, 1) := by decide +kernel
theorem dX7_colours_27 : decode cX7_colours 27 = .ok (.iload 4, 2) := by decide +kernel
theorem dX7_colours_29 : decode cX7_colours 29 = .ok (.invokevirtual 258, 3) := by decide +kernel
theorem dX7_colours_32 : decode cX7_colours 32 = .ok (.istore 5, 2) := by decide +kernel
theorem dX7_colours_34 : decode cX7_colours 34 = .ok (.iload 5, 2) := by decide +kernel
theorem dX7_colours_36 : decode cX7_colours 36 = .ok (.ifCond .eq 10, 3) := by decide +kernel
theorem dX7_colours_39 : decode cX7_colours 39 = .ok (.aload_n 0, 1) := by decide +kernel
theorem dX7_colours_40 : decode cX7_colours 40 = .ok (.iload 5, 2) := by decide +kernel
theorem dX7_colours_42 : decode cX7_colours 42 = .ok (.invokevirtual 74, 3) := by decide +kernel
theorem dX7_colours_45 : decode cX7_colours 45 = .ok (.ireturn, 1) := by decide +kernel
theorem dX7_colours_46 : decode cX7_colours 46 = .ok (.aload_n 0, 1) := by decide +kernel
theorem dX7_colours_47 : decode cX7_colours 47 = .ok (.aload_n 0, 1) := by decide +kernel
theorem dX7_colours_48 : decode cX7_colours 48 = .ok (.getfield 45, 3) := by decide +kernel
theorem dX7_colours_51 : decode cX7_colours 51 = .ok (.iload_n 1, 1) := by decide +kernel
theorem dX7_colours_52 : decode cX7_colours 52 = .ok (.aload_n 0, 1) := by decide +kernel
theorem dX7_colours_53 : decode cX7_colours 53 = .ok (.getfield 10, 3) := by decide +kernel
theorem dX7_colours_56 : decode cX7_colours 56 = .ok (.iload_n 2, 1) := by decide +kernel
theorem dX7_colours_57 : decode cX7_colours 57 = .ok (.invokevirtual 261, 3) := by decide +kernel
theorem dX7_colours_60 : decode cX7_colours 60 = .ok (.iload_n 3, 1) := by decide +kernel
theorem dX7_colours_61 : decode cX7_colours 61 = .ok (.iload 4, 2) := by decide +kernel
theorem dX7_colours_63 : decode cX7_colours 63 = .ok (.invokevirtual 272, 3) := by decide +kernel
theorem dX7_colours_66 : decode cX7_colours 66 = .ok (.invokevirtual 82, 3) := by decide +kernel
theorem dX7_colours_69 : decode cX7_colours 69 = .ok (.ireturn, 1) := by decide +kernel
theorem dX7_sleep_0 : decode cX7_sleep 0 = .ok (.aload_n 0, 1) := by decide +kernel
theorem dX7_sleep_1 : decode cX7_sleep 1 = .ok (.getfield 26, 3) := by decide +kernel
theorem dX7_sleep_4 : decode cX7_sleep 4 = .ok (.iload_n 1, 1) := by decide +kernel
theorem dX7_sleep_5 : decode cX7_sleep 5 = .ok (.invokevirtual 164, 3) := by decide +kernel
theorem dX7_sleep_8 : decode cX7_sleep 8 = .ok (.ifCond .eq 32, 3) := by decide +kernel
theorem dX7_sleep_11 : decode cX7_sleep 11 = .ok (.iload_n 2, 1) := by decide +kernel
theorem dX7_sleep_12 : decode cX7_sleep 12 = .ok (.ifCond .lt 28, 3) := by decide +kernel
theorem dX7_sleep_15 : decode cX7_sleep 15 = .ok (.iload_n 2, 1) := by decide +kernel
theorem dX7_sleep_16 : decode cX7_sleep 16 = .ok (.bipush 60, 2) := by decide +kernel
theorem dX7_sleep_18 : decode cX7_sleep 18 = .ok (.if_icmp .gt 22, 3) := by decide +kernel
theorem dX7_sleep_21 : decode cX7_sleep 21 = .ok (.iload_n 3, 1) := by decide +kernel
theorem dX7_sleep_22 : decode cX7_sleep 22 = .ok (.ifCond .lt 18, 3) := by decide +kernel
theorem dX7_sleep_25 : decode cX7_sleep 25 = .ok (.iload_n 3, 1) := by decide +kernel
theorem dX7_sleep_26 : decode cX7_sleep 26 = .ok (.bipush 10, 2) := by decide +kernel
theorem dX7_sleep_28 : decode cX7_sleep 28 = .ok (.if_icmp .gt 12, 3) := by decide +kernel
theorem dX7_sleep_31 : decode cX7_sleep 31 = .ok (.iload 4, 2) := by decide +kernel
theorem dX7_sleep_33 : decode cX7_sleep 33 = .ok (.iconst 2, 1) := by decide +kernel
theorem dX7_sleep_34 : decode cX7_sleep 34 = .ok (.invokestatic 216, 3) := by decide +kernel
theorem dX7_sleep_37 : decode cX7_sleep 37 = .ok (.ifCond .ne 7, 3) := by decide +kernel
theorem dX7_sleep_40 : decode cX7_sleep 40 = .ok (.ldc2_w 276, 3) := by decide +kernel
theorem dX7_sleep_43 : decode cX7_sleep 43 = .ok (.lreturn, 1) := by decide +kernel
theorem dX7_sleep_44 : decode cX7_sleep 44 = .ok (.aload_n 0, 1) := by decide +kernel
theorem dX7_sleep_45 : decode cX7_sleep 45 = .ok (.getfield 45, 3) := by decide +kernel
theorem dX7_sleep_48 : decode cX7_sleep 48 = .ok (.iload_n 1, 1) := by decide +kernel
theorem dX7_sleep_49 : decode cX7_sleep 49 = .ok (.iload_n 2, 1) := by decide +kernel
theorem dX7_sleep_50 : decode cX7_sleep 50 = .ok (.iload_n 3, 1) := by decide +kernel
theorem dX7_sleep_51 : decode cX7_sleep 51 = .ok (.iload 4, 2) := by decide +kernel
theorem dX7_sleep_53 : decode cX7_sleep 53 = .ok (.invokevirtual 278, 3) := by decide +kernel
theorem dX7_sleep_56 : decode cX7_sleep 56 = .ok (.lreturn, 1) := by decide +kernel
theorem dX7_drawn_0 : decode cX7_drawn 0 = .ok (.aload_n 0, 1) := by decide +kernel
theorem dX7_drawn_1 : decode cX7_drawn 1 = .ok (.invokevirtual 149, 3) := by decide +kernel
theorem dX7_drawn_4 : decode cX7_drawn 4 = .ok (.ifCond .eq 6, 3) := by decide +kernel
theorem dX7_drawn_7 : decode cX7_drawn 7 = .ok (.ldc 148, 2) := by decide +kernel
theorem dX7_drawn_9 : decode cX7_drawn 9 = .ok (.ireturn, 1) := by decide +kernel
theorem dX7_drawn_10 : decode cX7_drawn 10 = .ok (.iload_n 1, 1) := by decide +kernel
theorem dX7_drawn_11 : decode cX7_drawn 11 = .ok (.ifCond .lt 29, 3) := by decide +kernel
theorem dX7_drawn_14 : decode cX7_drawn 14 = .ok (.iload_n 1, 1) := by decide +kernel
theorem dX7_drawn_15 : decode cX7_drawn 15 = .ok (.bipush 60, 2) := by decide +kernel
theorem dX7_drawn_17 : decode cX7_drawn 17 = .ok (.if_icmp .gt 23, 3) := by decide +kernel
theorem dX7_drawn_20 : decode cX7_drawn 20 = .ok (.iload_n 2, 1) := by decide +kernel
theorem dX7_drawn_21 : decode cX7_drawn 21 = .ok (.iconst 1, 1) := by decide +kernel
theorem dX7_drawn_22 : decode cX7_drawn 22 = .ok (.if_icmp .lt 18, 3) := by decide +kernel
theorem dX7_drawn_25 : decode cX7_drawn 25 = .ok (.iload_n 2, 1) := by decide +kernel
theorem dX7_drawn_26 : decode cX7_drawn 26 = .ok (.ldc_w 282, 3) := by decide +kernel
theorem dX7_drawn_29 : decode cX7_drawn 29 = .ok (.if_icmp .gt 11, 3) := by decide +kernel
theorem dX7_drawn_32 : decode cX7_drawn 32 = .ok (.iload_n 3, 1) := by decide +kernel
theorem dX7_drawn_33 : decode cX7_drawn 33 = .ok (.iconst 2, 1) := by decide +kernel
theorem dX7_drawn_34 : decode cX7_drawn 34 = .ok (.invokestatic 216, 3) := by decide +kernel
theorem dX7_drawn_37 : decode cX7_drawn 37 = .ok (.ifCond .ne 6, 3) := by decide +kernel
theorem dX7_drawn_40 : decode cX7_drawn 40 = .ok (.ldc 73, 2) := by decide +kernel
theorem dX7_drawn_42 : decode cX7_drawn 42 = .ok (.ireturn, 1) := by decide +kernel
theorem dX7_drawn_43 : decode cX7_drawn 43 = .ok (.aload_n 0, 1) := by decide +kernel
theorem dX7_drawn_44 : decode cX7_drawn 44 = .ok (.getfield 45, 3) := by decide +kernel
theorem dX7_drawn_47 : decode cX7_drawn 47 = .ok (.iload_n 1, 1) := by decide +kernel
theorem dX7_drawn_48 : decode cX7_drawn 48 = .ok (.iload_n 2, 1) := by decide +kernel
theorem dX7_drawn_49 : decode cX7_drawn 49 = .ok (.iload_n 3, 1) := by decide +kernel
theorem dX7_drawn_50 : decode cX7_drawn 50 = .ok (.invokevirtual 283, 3) := by decide +kernel
theorem dX7_drawn_53 : decode cX7_drawn 53 = .ok (.ireturn, 1) := by decide +kernel
theorem dX7_image_0 : decode cX7_image 0 = .ok (.iload_n 1, 1) := by decide +kernel
theorem dX7_image_1 : decode cX7_image 1 = .ok (.iconst 2, 1) := by decide +kernel
theorem dX7_image_2 : decode cX7_image 2 = .ok (.invokestatic 216, 3) := by decide +kernel
theorem dX7_image_5 : decode cX7_image 5 = .ok (.ifCond .ne 6, 3) := by decide +kernel
theorem dX7_image_8 : decode cX7_image 8 = .ok (.ldc 73, 2) := by decide +kernel
theorem dX7_image_10 : decode cX7_image 10 = .ok (.ireturn, 1) := by decide +kernel
theorem dX7_image_11 : decode cX7_image 11 = .ok (.aload_n 0, 1) := by decide +kernel
theorem dX7_image_12 : decode cX7_image 12 = .ok (.invokevirtual 149, 3) := by decide +kernel
theorem dX7_image_15 : decode cX7_image 15 = .ok (.ifCond .eq 6, 3) := by decide +kernel
theorem dX7_image_18 : decode cX7_image 18 = .ok (.ldc 148, 2) := by decide +kernel
theorem dX7_image_20 : decode cX7_image 20 = .ok (.ireturn, 1) := by decide +kernel
theorem dX7_image_21 : decode cX7_image 21 = .ok (.aload_n 0, 1) := by decide +kernel
theorem dX7_image_22 : decode cX7_image 22 = .ok (.getfield 26, 3) := by decide +kernel
theorem dX7_image_25 : decode cX7_image 25 = .ok (.aload_n 0, 1) := by decide +kernel
theorem dX7_image_26 : decode cX7_image 26 = .ok (.getfield 65, 3) := by decide +kernel
theorem dX7_image_29 : decode cX7_image 29 = .ok (.iload_n 1, 1) := by decide +kernel
theorem dX7_image_30 : decode cX7_image 30 = .ok (.bipush 40, 2) := by decide +kernel
theorem dX7_image_32 : decode cX7_image 32 = .ok (.imul, 1) := by decide +kernel
theorem dX7_image_33 : decode cX7_image 33 = .ok (.invokevirtual 286, 3) := by decide +kernel
theorem dX7_image_36 : decode cX7_image 36 = .ok (.aload_n 0, 1) := by decide +kernel
theorem dX7_image_37 : decode cX7_image 37 = .ok (.dup, 1) := by decide +kernel
theorem dX7_image_38 : decode cX7_image 38 = .ok (.getfield 290, 3) := by decide +kernel
theorem dX7_image_41 : decode cX7_image 41 = .ok (.iconst 1, 1) := by decide +kernel
theorem dX7_image_42 : decode cX7_image 42 = .ok (.iload_n 1, 1) := by decide +kernel
theorem dX7_image_43 : decode cX7_image 43 = .ok (.ishl, 1) := by decide +kernel
theorem dX7_image_44 : decode cX7_image 44 = .ok (.ior, 1) := by decide +kernel
theorem dX7_image_45 : decode cX7_image 45 = .ok (.putfield 290, 3) := by decide +kernel
theorem dX7_image_48 : decode cX7_image 48 = .ok (.iconst 1, 1) := by decide +kernel
theorem dX7_image_49 : decode cX7_image 49 = .ok (.ireturn, 1) := by decide +kernel
theorem dX7_restore_0 : decode cX7_restore 0 = .ok (.iload_n 1, 1) := by decide +kernel
theorem dX7_restore_1 : decode cX7_restore 1 = .ok (.iconst 2, 1) := by decide +kernel
theorem dX7_restore_2 : decode cX7_restore 2 = .ok (.invokestatic 216, 3) := by decide +kernel
theorem dX7_restore_5 : decode cX7_restore 5 = .ok (.ifCond .ne 6, 3) := by decide +kernel
theorem dX7_restore_8 : decode cX7_restore 8 = .ok (.ldc 73, 2) := by decide +kernel
theorem dX7_restore_10 : decode cX7_restore 10 = .ok (.ireturn, 1) := by decide +kernel
theorem dX7_restore_11 : decode cX7_restore 11 = .ok (.aload_n 0, 1) := by decide +kernel
theorem dX7_restore_12 : decode cX7_restore 12 = .ok (.getfield 290, 3) := by decide +kernel
theorem dX7_restore_15 : decode cX7_restore 15 = .ok (.iload_n 1, 1) := by decide +kernel
theorem dX7_restore_16 : decode cX7_restore 16 = .ok (.ishr, 1) := by decide +kernel
theorem dX7_restore_17 : decode cX7_restore 17 = .ok (.iconst 1, 1) := by decide +kernel
theorem dX7_restore_18 : decode cX7_restore 18 = .ok (.iand, 1) := by decide +kernel
theorem dX7_restore_19 : decode cX7_restore 19 = .ok (.ifCond .ne 6, 3) := by decide +kernel
theorem dX7_restore_22 : decode cX7_restore 22 = .ok (.ldc 148, 2) := by decide +kernel
theorem dX7_restore_24 : decode cX7_restore 24 = .ok (.ireturn, 1) := by decide +kernel
theorem dX7_restore_25 : decode cX7_restore 25 = .ok (.aload_n 0, 1) := by decide +kernel
theorem dX7_restore_26 : decode cX7_restore 26 = .ok (.getfield 26, 3) := by decide +kernel
theorem dX7_restore_29 : decode cX7_restore 29 = .ok (.aload_n 0, 1) := by decide +kernel
theorem dX7_restore_30 : decode cX7_restore 30 = .ok (.getfield 65, 3) := by decide +kernel
theorem dX7_restore_33 : decode cX7_restore 33 = .ok (.iload_n 1, 1) := by decide +kernel
theorem dX7_restore_34 : decode cX7_restore 34 = .ok (.bipush 40, 2) := by decide +kernel
theorem dX7_restore_36 : decode cX7_restore 36 = .ok (.imul, 1) := by decide +kernel
theorem dX7_restore_37 : decode cX7_restore 37 = .ok (.invokevirtual 293, 3) := by decide +kernel
theorem dX7_restore_40 : decode cX7_restore 40 = .ok (.aload_n 0, 1) := by decide +kernel
theorem dX7_restore_41 : decode cX7_restore 41 = .ok (.getfield 36, 3) := by decide +kernel
theorem dX7_restore_44 : decode cX7_restore 44 = .ok (.invokevirtual 137, 3) := by decide +kernel
theorem dX7_restore_47 : decode cX7_restore 47 = .ok (.iconst 1, 1) := by decide +kernel
theorem dX7_restore_48 : decode cX7_restore 48 = .ok (.ireturn, 1) := by decide +kernel
theorem dX7_isChoice_0 : decode cX7_isChoice 0 = .ok (.iload_n 0, 1) := by decide +kernel
theorem dX7_isChoice_1 : decode cX7_isChoice 1 = .ok (.ifCond .lt 12, 3) := by decide +kernel
theorem dX7_isChoice_4 : decode cX7_isChoice 4 = .ok (.iload_n 0, 1) := by decide +kernel
theorem dX7_isChoice_5 : decode cX7_isChoice 5 = .ok (.iload_n 1, 1) := by decide +kernel
theorem dX7_isChoice_6 : decode cX7_isChoice 6 = .ok (.if_icmp .ge 7, 3) := by decide +kernel
theorem dX7_isChoice_9 : decode cX7_isChoice 9 = .ok (.iconst 1, 1) := by decide +kernel
theorem dX7_isChoice_10 : decode cX7_isChoice 10 = .ok (.goto 4, 3) := by decide +kernel
theorem dX7_isChoice_13 : decode cX7_isChoice 13 = .ok (.iconst 0, 1) := by decide +kernel
theorem dX7_isChoice_14 : decode cX7_isChoice 14 = .ok (.ireturn, 1) := by decide +kernel
theorem dX7_isTold_0 : decode cX7_isTold 0 = .ok (.aload_n 0, 1) := by decide +kernel
theorem dX7_isTold_1 : decode cX7_isTold 1 = .ok (.getfield 10, 3) := by decide +kernel
theorem dX7_isTold_4 : decode cX7_isTold 4 = .ok (.iload_n 1, 1) := by decide +kernel
theorem dX7_isTold_5 : decode cX7_isTold 5 = .ok (.invokevirtual 69, 3) := by decide +kernel
theorem dX7_isTold_8 : decode cX7_isTold 8 = .ok (.ifCond .eq 18, 3) := by decide +kernel
theorem dX7_isTold_11 : decode cX7_isTold 11 = .ok (.iload_n 2, 1) := by decide +kernel
theorem dX7_isTold_12 : decode cX7_isTold 12 = .ok (.iconst 1, 1) := by decide +kernel
theorem dX7_isTold_13 : decode cX7_isTold 13 = .ok (.if_icmp .lt 13, 3) := by decide +kernel
theorem dX7_isTold_16 : decode cX7_isTold 16 = .ok (.iload_n 2, 1) := by decide +kernel
theorem dX7_isTold_17 : decode cX7_isTold 17 = .ok (.bipush 12, 2) := by decide +kernel
theorem dX7_isTold_19 : decode cX7_isTold 19 = .ok (.if_icmp .gt 7, 3) := by decide +kernel
theorem dX7_isTold_22 : decode cX7_isTold 22 = .ok (.iconst 1, 1) := by decide +kernel
theorem dX7_isTold_23 : decode cX7_isTold 23 = .ok (.goto 4, 3) := by decide +kernel
theorem dX7_isTold_26 : decode cX7_isTold 26 = .ok (.iconst 0, 1) := by decide +kernel
theorem dX7_isTold_27 : decode cX7_isTold 27 = .ok (.ireturn, 1) := by decide +kernel
theorem dX7_findingOfItems_0 : decode cX7_findingOfItems 0 = .ok (.aload_n 0, 1) := by decide +kernel
theorem dX7_findingOfItems_1 : decode cX7_findingOfItems 1 = .ok (.getfield 10, 3) := by decide +kernel
theorem dX7_findingOfItems_4 : decode cX7_findingOfItems 4 = .ok (.iload_n 1, 1) := by decide +kernel
theorem dX7_findingOfItems_5 : decode cX7_findingOfItems 5 = .ok (.invokevirtual 85, 3) := by decide +kernel
theorem dX7_findingOfItems_8 : decode cX7_findingOfItems 8 = .ok (.ifCond .eq 5, 3) := by decide +kernel
theorem dX7_findingOfItems_11 : decode cX7_findingOfItems 11 = .ok (.iconst 1, 1) := by decide +kernel
theorem dX7_findingOfItems_12 : decode cX7_findingOfItems 12 = .ok (.ireturn, 1) := by decide +kernel
theorem dX7_findingOfItems_13 : decode cX7_findingOfItems 13 = .ok (.aload_n 0, 1) := by decide +kernel
theorem dX7_findingOfItems_14 : decode cX7_findingOfItems 14 = .ok (.getfield 10, 3) := by decide +kernel
theorem dX7_findingOfItems_17 : decode cX7_findingOfItems 17 = .ok (.iload_n 1, 1) := by decide +kernel
theorem dX7_findingOfItems_18 : decode cX7_findingOfItems 18 = .ok (.iload_n 2, 1) := by decide +kernel
theorem dX7_findingOfItems_19 : decode cX7_findingOfItems 19 = .ok (.iload_n 3, 1) := by decide +kernel
theorem dX7_findingOfItems_20 : decode cX7_findingOfItems 20 = .ok (.invokevirtual 88, 3) := by decide +kernel
theorem dX7_findingOfItems_23 : decode cX7_findingOfItems 23 = .ok (.ifCond .eq 7, 3) := by decide +kernel
theorem dX7_findingOfItems_26 : decode cX7_findingOfItems 26 = .ok (.iconst 0, 1) := by decide +kernel
theorem dX7_findingOfItems_27 : decode cX7_findingOfItems 27 = .ok (.goto 4, 3) := by decide +kernel
theorem dX7_findingOfItems_30 : decode cX7_findingOfItems 30 = .ok (.iconst 2, 1) := by decide +kernel
theorem dX7_findingOfItems_31 : decode cX7_findingOfItems 31 = .ok (.ireturn, 1) := by decide +kernel
theorem dX7_kind_0 : decode cX7_kind 0 = .ok (.aload_n 0, 1) := by decide +kernel
theorem dX7_kind_1 : decode cX7_kind 1 = .ok (.getfield 26, 3) := by decide +kernel
theorem dX7_kind_4 : decode cX7_kind 4 = .ok (.iload_n 1, 1) := by decide +kernel
theorem dX7_kind_5 : decode cX7_kind 5 = .ok (.invokevirtual 164, 3) := by decide +kernel
theorem dX7_kind_8 : decode cX7_kind 8 = .ok (.ifCond .eq 15, 3) := by decide +kernel
theorem dX7_kind_11 : decode cX7_kind 11 = .ok (.aload_n 0, 1) := by decide +kernel
theorem dX7_kind_12 : decode cX7_kind 12 = .ok (.getfield 26, 3) := by decide +kernel
theorem dX7_kind_15 : decode cX7_kind 15 = .ok (.getfield 296, 3) := by decide +kernel
theorem dX7_kind_18 : decode cX7_kind 18 = .ok (.iload_n 1, 1) := by decide +kernel
theorem dX7_kind_19 : decode cX7_kind 19 = .ok (.iaload, 1) := by decide +kernel
theorem dX7_kind_20 : decode cX7_kind 20 = .ok (.goto 5, 3) := by decide +kernel
theorem dX7_kind_23 : decode cX7_kind 23 = .ok (.ldc 73, 2) := by decide +kernel
theorem dX7_kind_25 : decode cX7_kind 25 = .ok (.ireturn, 1) := by decide +kernel
theorem dX7_as_0 : decode cX7_as 0 = .ok (.aload_n 0, 1) := by decide +kernel
theorem dX7_as_1 : decode cX7_as 1 = .ok (.getfield 26, 3) := by decide +kernel
theorem dX7_as_4 : decode cX7_as 4 = .ok (.iload_n 1, 1) := by decide +kernel
theorem dX7_as_5 : decode cX7_as 5 = .ok (.invokevirtual 164, 3) := by decide +kernel
theorem dX7_as_8 : decode cX7_as 8 = .ok (.ifCond .eq 12, 3) := by decide +kernel
theorem dX7_as_11 : decode cX7_as 11 = .ok (.iload_n 2, 1) := by decide +kernel
theorem dX7_as_12 : decode cX7_as 12 = .ok (.ifCond .lt 8, 3) := by decide +kernel
theorem dX7_as_15 : decode cX7_as 15 = .ok (.iload_n 2, 1) := by decide +kernel
theorem dX7_as_16 : decode cX7_as 16 = .ok (.iconst 5, 1) := by decide +kernel
theorem dX7_as_17 : decode cX7_as 17 = .ok (.if_icmp .le 6, 3) := by decide +kernel
theorem dX7_as_20 : decode cX7_as 20 = .ok (.ldc 73, 2) := by decide +kernel
theorem dX7_as_22 : decode cX7_as 22 = .ok (.ireturn, 1) := by decide +kernel
theorem dX7_as_23 : decode cX7_as 23 = .ok (.aload_n 0, 1) := by decide +kernel
theorem dX7_as_24 : decode cX7_as 24 = .ok (.getfield 26, 3) := by decide +kernel
theorem dX7_as_27 : decode cX7_as 27 = .ok (.getfield 296, 3) := by decide +kernel
theorem dX7_as_30 : decode cX7_as 30 = .ok (.iload_n 1, 1) := by decide +kernel
theorem dX7_as_31 : decode cX7_as 31 = .ok (.iaload, 1) := by decide +kernel
theorem dX7_as_32 : decode cX7_as 32 = .ok (.iload_n 2, 1) := by decide +kernel
theorem dX7_as_33 : decode cX7_as 33 = .ok (.invokestatic 299, 3) := by decide +kernel
theorem dX7_as_36 : decode cX7_as 36 = .ok (.ifCond .eq 11, 3) := by decide +kernel
theorem dX7_as_39 : decode cX7_as 39 = .ok (.aload_n 0, 1) := by decide +kernel
theorem dX7_as_40 : decode cX7_as 40 = .ok (.iload_n 1, 1) := by decide +kernel
theorem dX7_as_41 : decode cX7_as 41 = .ok (.invokevirtual 82, 3) := by decide +kernel
theorem dX7_as_44 : decode cX7_as 44 = .ok (.goto 8, 3) := by decide +kernel
theorem dX7_as_47 : decode cX7_as 47 = .ok (.aload_n 0, 1) := by decide +kernel
theorem dX7_as_48 : decode cX7_as 48 = .ok (.iconst 3, 1) := by decide +kernel
theorem dX7_as_49 : decode cX7_as 49 = .ok (.invokevirtual 74, 3) := by decide +kernel
theorem dX7_as_52 : decode cX7_as 52 = .ok (.ireturn, 1) := by decide +kernel
theorem dX7_ask_0 : decode cX7_ask 0 = .ok (.aload_n 0, 1) := by decide +kernel
theorem dX7_ask_1 : decode cX7_ask 1 = .ok (.getfield 26, 3) := by decide +kernel
theorem dX7_ask_4 : decode cX7_ask 4 = .ok (.iload_n 1, 1) := by decide +kernel
theorem dX7_ask_5 : decode cX7_ask 5 = .ok (.invokevirtual 164, 3) := by decide +kernel
theorem dX7_ask_8 : decode cX7_ask 8 = .ok (.ifCond .eq 11, 3) := by decide +kernel
theorem dX7_ask_11 : decode cX7_ask 11 = .ok (.iload_n 2, 1) := by decide +kernel
theorem dX7_ask_12 : decode cX7_ask 12 = .ok (.iconst 2, 1) := by decide +kernel
theorem dX7_ask_13 : decode cX7_ask 13 = .ok (.invokestatic 216, 3) := by decide +kernel
theorem dX7_ask_16 : decode cX7_ask 16 = .ok (.ifCond .ne 6, 3) := by decide +kernel
theorem dX7_ask_19 : decode cX7_ask 19 = .ok (.ldc 73, 2) := by decide +kernel
theorem dX7_ask_21 : decode cX7_ask 21 = .ok (.ireturn, 1) := by decide +kernel
theorem dX7_ask_22 : decode cX7_ask 22 = .ok (.aload_n 0, 1) := by decide +kernel
theorem dX7_ask_23 : decode cX7_ask 23 = .ok (.getfield 61, 3) := by decide +kernel
theorem dX7_ask_26 : decode cX7_ask 26 = .ok (.iload_n 1, 1) := by decide +kernel
theorem dX7_ask_27 : decode cX7_ask 27 = .ok (.iload_n 2, 1) := by decide +kernel
theorem dX7_ask_28 : decode cX7_ask 28 = .ok (.invokevirtual 302, 3) := by decide +kernel
theorem dX7_ask_31 : decode cX7_ask 31 = .ok (.ireturn, 1) := by decide +kernel
theorem dX7_trace_0 : decode cX7_trace 0 = .ok (.aload_n 0, 1) := by decide +kernel
theorem dX7_trace_1 : decode cX7_trace 1 = .ok (.getfield 61, 3) := by decide +kernel
theorem dX7_trace_4 : decode cX7_trace 4 = .ok (.iload_n 1, 1) := by decide +kernel
theorem dX7_trace_5 : decode cX7_trace 5 = .ok (.invokevirtual 305, 3) := by decide +kernel
theorem dX7_trace_8 : decode cX7_trace 8 = .ok (.ireturn, 1) := by decide +kernel
theorem dX7_count_0 : decode cX7_count 0 = .ok (.iload_n 1, 1) := by decide +kernel
theorem dX7_count_1 : decode cX7_count 1 = .ok (.tableswitch 116 0 7 #[47, 55, 63, 71, 79, 92, 100, 108], 47) := by decide +kernel
theorem dX7_count_48 : decode cX7_count 48 = .ok (.aload_n 0, 1) := by decide +kernel
theorem dX7_count_49 : decode cX7_count 49 = .ok (.getfield 10, 3) := by decide +kernel
theorem dX7_count_52 : decode cX7_count 52 = .ok (.invokevirtual 308, 3) := by decide +kernel
theorem dX7_count_55 : decode cX7_count 55 = .ok (.ireturn, 1) := by decide +kernel
theorem dX7_count_56 : decode cX7_count 56 = .ok (.aload_n 0, 1) := by decide +kernel
theorem dX7_count_57 : decode cX7_count 57 = .ok (.getfield 26, 3) := by decide +kernel
theorem dX7_count_60 : decode cX7_count 60 = .ok (.getfield 138, 3) := by decide +kernel
theorem dX7_count_63 : decode cX7_count 63 = .ok (.ireturn, 1) := by decide +kernel
theorem dX7_count_64 : decode cX7_count 64 = .ok (.aload_n 0, 1) := by decide +kernel
theorem dX7_count_65 : decode cX7_count 65 = .ok (.getfield 26, 3) := by decide +kernel
theorem dX7_count_68 : decode cX7_count 68 = .ok (.getfield 206, 3) := by decide +kernel
theorem dX7_count_71 : decode cX7_count 71 = .ok (.ireturn, 1) := by decide +kernel
theorem dX7_count_72 : decode cX7_count 72 = .ok (.aload_n 0, 1) := by decide +kernel
theorem dX7_count_73 : decode cX7_count 73 = .ok (.getfield 26, 3) := by decide +kernel
theorem dX7_count_76 : decode cX7_count 76 = .ok (.getfield 152, 3) := by decide +kernel
theorem dX7_count_79 : decode cX7_count 79 = .ok (.ireturn, 1) := by decide +kernel
theorem dX7_count_80 : decode cX7_count 80 = .ok (.aload_n 0, 1) := by decide +kernel
theorem dX7_count_81 : decode cX7_count 81 = .ok (.getfield 26, 3) := by decide +kernel
theorem dX7_count_84 : decode cX7_count 84 = .ok (.bipush 7, 2) := by decide +kernel
theorem dX7_count_86 : decode cX7_count 86 = .ok (.invokevirtual 161, 3) := by decide +kernel
theorem dX7_count_89 : decode cX7_count 89 = .ok (.invokestatic 189, 3) := by decide +kernel
theorem dX7_count_92 : decode cX7_count 92 = .ok (.ireturn, 1) := by decide +kernel
theorem dX7_count_93 : decode cX7_count 93 = .ok (.aload_n 0, 1) := by decide +kernel
theorem dX7_count_94 : decode cX7_count 94 = .ok (.getfield 26, 3) := by decide +kernel
theorem dX7_count_97 : decode cX7_count 97 = .ok (.invokevirtual 311, 3) := by decide +kernel
theorem dX7_count_100 : decode cX7_count 100 = .ok (.ireturn, 1) := by decide +kernel
theorem dX7_count_101 : decode cX7_count 101 = .ok (.aload_n 0, 1) := by decide +kernel
theorem dX7_count_102 : decode cX7_count 102 = .ok (.getfield 36, 3) := by decide +kernel
theorem dX7_count_105 : decode cX7_count 105 = .ok (.invokevirtual 145, 3) := by decide +kernel
theorem dX7_count_108 : decode cX7_count 108 = .ok (.ireturn, 1) := by decide +kernel
theorem dX7_count_109 : decode cX7_count 109 = .ok (.aload_n 0, 1) := by decide +kernel
theorem dX7_count_110 : decode cX7_count 110 = .ok (.getfield 19, 3) := by decide +kernel
theorem dX7_count_113 : decode cX7_count 113 = .ok (.invokevirtual 314, 3) := by decide +kernel
theorem dX7_count_116 : decode cX7_count 116 = .ok (.ireturn, 1) := by decide +kernel
theorem dX7_count_117 : decode cX7_count 117 = .ok (.ldc 73, 2) := by decide +kernel
theorem dX7_count_119 : decode cX7_count 119 = .ok (.ireturn, 1) := by decide +kernel
theorem dX7_status_0 : decode cX7_status 0 = .ok (.aload_n 0, 1) := by decide +kernel
theorem dX7_status_1 : decode cX7_status 1 = .ok (.getfield 106, 3) := by decide +kernel
theorem dX7_status_4 : decode cX7_status 4 = .ok (.ireturn, 1) := by decide +kernel
end
section
theorem dX8_init_0 : decode cX8_init 0 = .ok (.aload_n 0, 1) := by decide +kernel
theorem dX8_init_1 : decode cX8_init 1 = .ok (.invokespecial 1, 3) := by decide +kernel
theorem dX8_init_4 : decode cX8_init 4 = .ok (.aload_n 0, 1) := by decide +kernel
theorem dX8_init_5 : decode cX8_init 5 = .ok (.sipush 1092, 3) := by decide +kernel
theorem dX8_init_8 : decode cX8_init 8 = .ok (.newarray .int, 2) := by decide +kernel
theorem dX8_init_10 : decode cX8_init 10 = .ok (.putfield 7, 3) := by decide +kernel
theorem dX8_init_13 : decode cX8_init 13 = .ok (.aload_n 0, 1) := by decide +kernel
theorem dX8_init_14 : decode cX8_init 14 = .ok (.iconst 2, 1) := by decide +kernel
theorem dX8_init_15 : decode cX8_init 15 = .ok (.newarray .boolean, 2) := by decide +kernel
theorem dX8_init_17 : decode cX8_init 17 = .ok (.putfield 13, 3) := by decide +kernel
theorem dX8_init_20 : decode cX8_init 20 = .ok (.aload_n 0, 1) := by decide +kernel
theorem dX8_init_21 : decode cX8_init 21 = .ok (.bipush 8, 2) := by decide +kernel
theorem dX8_init_23 : decode cX8_init 23 = .ok (.newarray .int, 2) := by decide +kernel
theorem dX8_init_25 : decode cX8_init 25 = .ok (.putfield 17, 3) := by decide +kernel
theorem dX8_init_28 : decode cX8_init 28 = .ok (.aload_n 0, 1) := by decide +kernel
theorem dX8_init_29 : decode cX8_init 29 = .ok (.bipush 8, 2) := by decide +kernel
theorem dX8_init_31 : decode cX8_init 31 = .ok (.newarray .int, 2) := by decide +kernel
theorem dX8_init_33 : decode cX8_init 33 = .ok (.dup, 1) := by decide +kernel
theorem dX8_init_34 : decode cX8_init 34 = .ok (.iconst 0, 1) := by decide +kernel
theorem dX8_init_35 : decode cX8_init 35 = .ok (.iconst (-1), 1) := by decide +kernel
theorem dX8_init_36 : decode cX8_init 36 = .ok (.iastore, 1) := by decide +kernel
theorem dX8_init_37 : decode cX8_init 37 = .ok (.dup, 1) := by decide +kernel
theorem dX8_init_38 : decode cX8_init 38 = .ok (.iconst 1, 1) := by decide +kernel
theorem dX8_init_39 : decode cX8_init 39 = .ok (.iconst (-1), 1) := by decide +kernel
theorem dX8_init_40 : decode cX8_init 40 = .ok (.iastore, 1) := by decide +kernel
theorem dX8_init_41 : decode cX8_init 41 = .ok (.dup, 1) := by decide +kernel
theorem dX8_init_42 : decode cX8_init 42 = .ok (.iconst 2, 1) := by decide +kernel
theorem dX8_init_43 : decode cX8_init 43 = .ok (.iconst (-1), 1) := by decide +kernel
theorem dX8_init_44 : decode cX8_init 44 = .ok (.iastore, 1) := by decide +kernel
theorem dX8_init_45 : decode cX8_init 45 = .ok (.dup, 1) := by decide +kernel
theorem dX8_init_46 : decode cX8_init 46 = .ok (.iconst 3, 1) := by decide +kernel
theorem dX8_init_47 : decode cX8_init 47 = .ok (.iconst (-1), 1) := by decide +kernel
theorem dX8_init_48 : decode cX8_init 48 = .ok (.iastore, 1) := by decide +kernel
theorem dX8_init_49 : decode cX8_init 49 = .ok (.dup, 1) := by decide +kernel
theorem dX8_init_50 : decode cX8_init 50 = .ok (.iconst 4, 1) := by decide +kernel
theorem dX8_init_51 : decode cX8_init 51 = .ok (.iconst (-1), 1) := by decide +kernel
theorem dX8_init_52 : decode cX8_init 52 = .ok (.iastore, 1) := by decide +kernel
theorem dX8_init_53 : decode cX8_init 53 = .ok (.dup, 1) := by decide +kernel
theorem dX8_init_54 : decode cX8_init 54 = .ok (.iconst 5, 1) := by decide +kernel
theorem dX8_init_55 : decode cX8_init 55 = .ok (.iconst (-1), 1) := by decide +kernel
theorem dX8_init_56 : decode cX8_init 56 = .ok (.iastore, 1) := by decide +kernel
theorem dX8_init_57 : decode cX8_init 57 = .ok (.dup, 1) := by decide +kernel
theorem dX8_init_58 : decode cX8_init 58 = .ok (.bipush 6, 2) := by decide +kernel
theorem dX8_init_60 : decode cX8_init 60 = .ok (.iconst (-1), 1) := by decide +kernel
theorem dX8_init_61 : decode cX8_init 61 = .ok (.iastore, 1) := by decide +kernel
theorem dX8_init_62 : decode cX8_init 62 = .ok (.dup, 1) := by decide +kernel
theorem dX8_init_63 : decode cX8_init 63 = .ok (.bipush 7, 2) := by decide +kernel
theorem dX8_init_65 : decode cX8_init 65 = .ok (.iconst (-1), 1) := by decide +kernel
theorem dX8_init_66 : decode cX8_init 66 = .ok (.iastore, 1) := by decide +kernel
theorem dX8_init_67 : decode cX8_init 67 = .ok (.putfield 20, 3) := by decide +kernel
theorem dX8_init_70 : decode cX8_init 70 = .ok (.aload_n 0, 1) := by decide +kernel
theorem dX8_init_71 : decode cX8_init 71 = .ok (.sipush 320, 3) := by decide +kernel
theorem dX8_init_74 : decode cX8_init 74 = .ok (.newarray .int, 2) := by decide +kernel
theorem dX8_init_76 : decode cX8_init 76 = .ok (.putfield 23, 3) := by decide +kernel
theorem dX8_init_79 : decode cX8_init 79 = .ok (.aload_n 0, 1) := by decide +kernel
theorem dX8_init_80 : decode cX8_init 80 = .ok (.bipush 110, 2) := by decide +kernel
theorem dX8_init_82 : decode cX8_init 82 = .ok (.newarray .int, 2) := by decide +kernel
theorem dX8_init_84 : decode cX8_init 84 = .ok (.putfield 26, 3) := by decide +kernel
theorem dX8_init_87 : decode cX8_init 87 = .ok (.aload_n 0, 1) := by decide +kernel
theorem dX8_init_88 : decode cX8_init 88 = .ok (.bipush 16, 2) := by decide +kernel
theorem dX8_init_90 : decode cX8_init 90 = .ok (.newarray .int, 2) := by decide +kernel
theorem dX8_init_92 : decode cX8_init 92 = .ok (.putfield 29, 3) := by decide +kernel
theorem dX8_init_95 : decode cX8_init 95 = .ok (.aload_n 0, 1) := by decide +kernel
theorem dX8_init_96 : decode cX8_init 96 = .ok (.bipush 6, 2) := by decide +kernel
theorem dX8_init_98 : decode cX8_init 98 = .ok (.newarray .int, 2) := by decide +kernel
theorem dX8_init_100 : decode cX8_init 100 = .ok (.dup, 1) := by decide +kernel
theorem dX8_init_101 : decode cX8_init 101 = .ok (.iconst 0, 1) := by decide +kernel
theorem dX8_init_102 : decode cX8_init 102 = .ok (.iconst 0, 1) := by decide +kernel
theorem dX8_init_103 : decode cX8_init 103 = .ok (.iastore, 1) := by decide +kernel
theorem dX8_init_104 : decode cX8_init 104 = .ok (.dup, 1) := by decide +kernel
theorem dX8_init_105 : decode cX8_init 105 = .ok (.iconst 1, 1) := by decide +kernel
theorem dX8_init_106 : decode cX8_init 106 = .ok (.iconst 1, 1) := by decide +kernel
theorem dX8_init_107 : decode cX8_init 107 = .ok (.iastore, 1) := by decide +kernel
theorem dX8_init_108 : decode cX8_init 108 = .ok (.dup, 1) := by decide +kernel
theorem dX8_init_109 : decode cX8_init 109 = .ok (.iconst 2, 1) := by decide +kernel
theorem dX8_init_110 : decode cX8_init 110 = .ok (.iconst 2, 1) := by decide +kernel
theorem dX8_init_111 : decode cX8_init 111 = .ok (.iastore, 1) := by decide +kernel
theorem dX8_init_112 : decode cX8_init 112 = .ok (.dup, 1) := by decide +kernel
theorem dX8_init_113 : decode cX8_init 113 = .ok (.iconst 3, 1) := by decide +kernel
theorem dX8_init_114 : decode cX8_init 114 = .ok (.iconst 3, 1) := by decide +kernel
theorem dX8_init_115 : decode cX8_init 115 = .ok (.iastore, 1) := by decide +kernel
theorem dX8_init_116 : decode cX8_init 116 = .ok (.dup, 1) := by decide +kernel
theorem dX8_init_117 : decode cX8_init 117 = .ok (.iconst 4, 1) := by decide +kernel
theorem dX8_init_118 : decode cX8_init 118 = .ok (.iconst 4, 1) := by decide +kernel
theorem dX8_init_119 : decode cX8_init 119 = .ok (.iastore, 1) := by decide +kernel
theorem dX8_init_120 : decode cX8_init 120 = .ok (.dup, 1) := by decide +kernel
theorem dX8_init_121 : decode cX8_init 121 = .ok (.iconst 5, 1) := by decide +kernel
theorem dX8_init_122 : decode cX8_init 122 = .ok (.iconst 5, 1) := by decide +kernel
theorem dX8_init_123 : decode cX8_init 123 = .ok (.iastore, 1) := by decide +kernel
theorem dX8_init_124 : decode cX8_init 124 = .ok (.putfield 32, 3) := by decide +kernel
theorem dX8_init_127 : decode cX8_init 127 = .ok (.aload_n 0, 1) := by decide +kernel
theorem dX8_init_128 : decode cX8_init 128 = .ok (.bipush 6, 2) := by decide +kernel
theorem dX8_init_130 : decode cX8_init 130 = .ok (.newarray .int, 2) := by decide +kernel
theorem dX8_init_132 : decode cX8_init 132 = .ok (.putfield 35, 3) := by decide +kernel
theorem dX8_init_135 : decode cX8_init 135 = .ok (.aload_n 0, 1) := by decide +kernel
theorem dX8_init_136 : decode cX8_init 136 = .ok (.bipush 16, 2) := by decide +kernel
theorem dX8_init_138 : decode cX8_init 138 = .ok (.newarray .int, 2) := by decide +kernel
theorem dX8_init_140 : decode cX8_init 140 = .ok (.putfield 38, 3) := by decide +kernel
theorem dX8_init_143 : decode cX8_init 143 = .ok (.return_, 1) := by decide +kernel
theorem dX8_in_0 : decode cX8_in 0 = .ok (.lload_n 0, 1) := by decide +kernel
theorem dX8_in_1 : decode cX8_in 1 = .ok (.lload_n 2, 1) := by decide +kernel
theorem dX8_in_2 : decode cX8_in 2 = .ok (.lcmp, 1) := by decide +kernel
theorem dX8_in_3 : decode cX8_in 3 = .ok (.ifCond .lt 14, 3) := by decide +kernel
theorem dX8_in_6 : decode cX8_in 6 = .ok (.lload_n 0, 1) := by decide +kernel
theorem dX8_in_7 : decode cX8_in 7 = .ok (.lload 4, 2) := by decide +kernel
theorem dX8_in_9 : decode cX8_in 9 = .ok (.lcmp, 1) := by decide +kernel
theorem dX8_in_10 : decode cX8_in 10 = .ok (.ifCond .gt 7, 3) := by decide +kernel
theorem dX8_in_13 : decode cX8_in 13 = .ok (.iconst 1, 1) := by decide +kernel
theorem dX8_in_14 : decode cX8_in 14 = .ok (.goto 4, 3) := by decide +kernel
theorem dX8_in_17 : decode cX8_in 17 = .ok (.iconst 0, 1) := by decide +kernel
theorem dX8_in_18 : decode cX8_in 18 = .ok (.ireturn, 1) := by decide +kernel
theorem dX8_has_0 : decode cX8_has 0 = .ok (.iload_n 0, 1) := by decide +kernel
theorem dX8_has_1 : decode cX8_has 1 = .ok (.iload_n 1, 1) := by decide +kernel
theorem dX8_has_2 : decode cX8_has 2 = .ok (.ishr, 1) := by decide +kernel
theorem dX8_has_3 : decode cX8_has 3 = .ok (.iconst 1, 1) := by decide +kernel
theorem dX8_has_4 : decode cX8_has 4 = .ok (.iand, 1) := by decide +kernel
theorem dX8_has_5 : decode cX8_has 5 = .ok (.iconst 1, 1) := by decide +kernel
theorem dX8_has_6 : decode cX8_has 6 = .ok (.if_icmp .ne 7, 3) := by decide +kernel
theorem dX8_has_9 : decode cX8_has 9 = .ok (.iconst 1, 1) := by decide +kernel
theorem dX8_has_10 : decode cX8_has 10 = .ok (.goto 4, 3) := by decide +kernel
theorem dX8_has_13 : decode cX8_has 13 = .ok (.iconst 0, 1) := by decide +kernel
theorem dX8_has_14 : decode cX8_has 14 = .ok (.ireturn, 1) := by decide +kernel
theorem dX8_bits_0 : decode cX8_bits 0 = .ok (.iconst 0, 1) := by decide +kernel
theorem dX8_bits_1 : decode cX8_bits 1 = .ok (.istore_n 1, 1) := by decide +kernel
theorem dX8_bits_2 : decode cX8_bits 2 = .ok (.iconst 0, 1) := by decide +kernel
theorem dX8_bits_3 : decode cX8_bits 3 = .ok (.istore_n 2, 1) := by decide +kernel
theorem dX8_bits_4 : decode cX8_bits 4 = .ok (.iload_n 2, 1) := by decide +kernel
theorem dX8_bits_5 : decode cX8_bits 5 = .ok (.bipush 6, 2) := by decide +kernel
theorem dX8_bits_7 : decode cX8_bits 7 = .ok (.if_icmp .ge 17, 3) := by decide +kernel
theorem dX8_bits_10 : decode cX8_bits 10 = .ok (.iload_n 1, 1) := by decide +kernel
theorem dX8_bits_11 : decode cX8_bits 11 = .ok (.iload_n 0, 1) := by decide +kernel
theorem dX8_bits_12 : decode cX8_bits 12 = .ok (.iload_n 2, 1) := by decide +kernel
theorem dX8_bits_13 : decode cX8_bits 13 = .ok (.ishr, 1) := by decide +kernel
theorem dX8_bits_14 : decode cX8_bits 14 = .ok (.iconst 1, 1) := by decide +kernel
theorem dX8_bits_15 : decode cX8_bits 15 = .ok (.iand, 1) := by decide +kernel
theorem dX8_bits_16 : decode cX8_bits 16 = .ok (.iadd, 1) := by decide +kernel
theorem dX8_bits_17 : decode cX8_bits 17 = .ok (.istore_n 1, 1) := by decide +kernel
theorem dX8_bits_18 : decode cX8_bits 18 = .ok (.iinc 2 1, 3) := by decide +kernel
theorem dX8_bits_21 : decode cX8_bits 21 = .ok (.goto (-17), 3) := by decide +kernel
theorem dX8_bits_24 : decode cX8_bits 24 = .ok (.iload_n 1, 1) := by decide +kernel
theorem dX8_bits_25 : decode cX8_bits 25 = .ok (.ireturn, 1) := by decide +kernel
theorem dX8_find_0 : decode cX8_find 0 = .ok (.aload_n 0, 1) := by decide +kernel
theorem dX8_find_1 : decode cX8_find 1 = .ok (.iload_n 1, 1) := by decide +kernel
theorem dX8_find_2 : decode cX8_find 2 = .ok (.putfield 41, 3) := by decide +kernel
theorem dX8_find_5 : decode cX8_find 5 = .ok (.ldc 45, 2) := by decide +kernel
theorem dX8_find_7 : decode cX8_find 7 = .ok (.iload_n 1, 1) := by decide +kernel
theorem dX8_find_8 : decode cX8_find 8 = .ok (.isub, 1) := by decide +kernel
theorem dX8_find_9 : decode cX8_find 9 = .ok (.ireturn, 1) := by decide +kernel
theorem dX8_well_0 : decode cX8_well 0 = .ok (.aload_n 0, 1) := by decide +kernel
theorem dX8_well_1 : decode cX8_well 1 = .ok (.iconst 0, 1) := by decide +kernel
theorem dX8_well_2 : decode cX8_well 2 = .ok (.putfield 41, 3) := by decide +kernel
theorem dX8_well_5 : decode cX8_well 5 = .ok (.iload_n 1, 1) := by decide +kernel
theorem dX8_well_6 : decode cX8_well 6 = .ok (.ireturn, 1) := by decide +kernel
theorem dX8_isRow_0 : decode cX8_isRow 0 = .ok (.iload_n 0, 1) := by decide +kernel
theorem dX8_isRow_1 : decode cX8_isRow 1 = .ok (.i2l, 1) := by decide +kernel
theorem dX8_isRow_2 : decode cX8_isRow 2 = .ok (.lconst 0, 1) := by decide +kernel
theorem dX8_isRow_3 : decode cX8_isRow 3 = .ok (.ldc2_w 46, 3) := by decide +kernel
theorem dX8_isRow_6 : decode cX8_isRow 6 = .ok (.invokestatic 48, 3) := by decide +kernel
theorem dX8_isRow_9 : decode cX8_isRow 9 = .ok (.ireturn, 1) := by decide +kernel
theorem dX8_row_0 : decode cX8_row 0 = .ok (.iload_n 1, 1) := by decide +kernel
theorem dX8_row_1 : decode cX8_row 1 = .ok (.invokestatic 52, 3) := by decide +kernel
theorem dX8_row_4 : decode cX8_row 4 = .ok (.ifCond .eq 21, 3) := by decide +kernel
theorem dX8_row_7 : decode cX8_row 7 = .ok (.iload_n 2, 1) := by decide +kernel
theorem dX8_row_8 : decode cX8_row 8 = .ok (.i2l, 1) := by decide +kernel
theorem dX8_row_9 : decode cX8_row 9 = .ok (.lconst 0, 1) := by decide +kernel
theorem dX8_row_10 : decode cX8_row 10 = .ok (.ldc2_w 56, 3) := by decide +kernel
theorem dX8_row_13 : decode cX8_row 13 = .ok (.invokestatic 48, 3) := by decide +kernel
theorem dX8_row_16 : decode cX8_row 16 = .ok (.ifCond .eq 9, 3) := by decide +kernel
theorem dX8_row_19 : decode cX8_row 19 = .ok (.iload_n 3, 1) := by decide +kernel
theorem dX8_row_20 : decode cX8_row 20 = .ok (.bipush 40, 2) := by decide +kernel
theorem dX8_row_22 : decode cX8_row 22 = .ok (.if_icmp .le 6, 3) := by decide +kernel
theorem dX8_row_25 : decode cX8_row 25 = .ok (.ldc 58, 2) := by decide +kernel
theorem dX8_row_27 : decode cX8_row 27 = .ok (.ireturn, 1) := by decide +kernel
theorem dX8_row_28 : decode cX8_row 28 = .ok (.iload_n 3, 1) := by decide +kernel
theorem dX8_row_29 : decode cX8_row 29 = .ok (.ifCond .ge 9, 3) := by decide +kernel
theorem dX8_row_32 : decode cX8_row 32 = .ok (.aload_n 0, 1) := by decide +kernel
theorem dX8_row_33 : decode cX8_row 33 = .ok (.iconst 4, 1) := by decide +kernel
theorem dX8_row_34 : decode cX8_row 34 = .ok (.invokevirtual 59, 3) := by decide +kernel
theorem dX8_row_37 : decode cX8_row 37 = .ok (.ireturn, 1) := by decide +kernel
theorem dX8_row_38 : decode cX8_row 38 = .ok (.aload_n 0, 1) := by decide +kernel
theorem dX8_row_39 : decode cX8_row 39 = .ok (.getfield 17, 3) := by decide +kernel
theorem dX8_row_42 : decode cX8_row 42 = .ok (.iload_n 1, 1) := by decide +kernel
theorem dX8_row_43 : decode cX8_row 43 = .ok (.iload_n 2, 1) := by decide +kernel
theorem dX8_row_44 : decode cX8_row 44 = .ok (.iastore, 1) := by decide +kernel
theorem dX8_row_45 : decode cX8_row 45 = .ok (.aload_n 0, 1) := by decide +kernel
theorem dX8_row_46 : decode cX8_row 46 = .ok (.getfield 20, 3) := by decide +kernel
theorem dX8_row_49 : decode cX8_row 49 = .ok (.iload_n 1, 1) := by decide +kernel
theorem dX8_row_50 : decode cX8_row 50 = .ok (.iload_n 3, 1) := by decide +kernel
theorem dX8_row_51 : decode cX8_row 51 = .ok (.iastore, 1) := by decide +kernel
theorem dX8_row_52 : decode cX8_row 52 = .ok (.iconst 0, 1) := by decide +kernel
theorem dX8_row_53 : decode cX8_row 53 = .ok (.istore 4, 2) := by decide +kernel
theorem dX8_row_55 : decode cX8_row 55 = .ok (.iload 4, 2) := by decide +kernel
theorem dX8_row_57 : decode cX8_row 57 = .ok (.bipush 40, 2) := by decide +kernel
theorem dX8_row_59 : decode cX8_row 59 = .ok (.if_icmp .ge 22, 3) := by decide +kernel
theorem dX8_row_62 : decode cX8_row 62 = .ok (.aload_n 0, 1) := by decide +kernel
theorem dX8_row_63 : decode cX8_row 63 = .ok (.getfield 23, 3) := by decide +kernel
theorem dX8_row_66 : decode cX8_row 66 = .ok (.bipush 40, 2) := by decide +kernel
theorem dX8_row_68 : decode cX8_row 68 = .ok (.iload_n 1, 1) := by decide +kernel
theorem dX8_row_69 : decode cX8_row 69 = .ok (.imul, 1) := by decide +kernel
theorem dX8_row_70 : decode cX8_row 70 = .ok (.iload 4, 2) := by decide +kernel
theorem dX8_row_72 : decode cX8_row 72 = .ok (.iadd, 1) := by decide +kernel
theorem dX8_row_73 : decode cX8_row 73 = .ok (.iconst 0, 1) := by decide +kernel
theorem dX8_row_74 : decode cX8_row 74 = .ok (.iastore, 1) := by decide +kernel
theorem dX8_row_75 : decode cX8_row 75 = .ok (.iinc 4 1, 3) := by decide +kernel
theorem dX8_row_78 : decode cX8_row 78 = .ok (.goto (-23), 3) := by decide +kernel
theorem dX8_row_81 : decode cX8_row 81 = .ok (.aload_n 0, 1) := by decide +kernel
theorem dX8_row_82 : decode cX8_row 82 = .ok (.iload_n 3, 1) := by decide +kernel
theorem dX8_row_83 : decode cX8_row 83 = .ok (.invokevirtual 63, 3) := by decide +kernel
theorem dX8_row_86 : decode cX8_row 86 = .ok (.ireturn, 1) := by decide +kernel
theorem dX8_narrow_0 : decode cX8_narrow 0 = .ok (.iload_n 1, 1) := by decide +kernel
theorem dX8_narrow_1 : decode cX8_narrow 1 = .ok (.ifCond .ne 8, 3) := by decide +kernel
theorem dX8_narrow_4 : decode cX8_narrow 4 = .ok (.iload_n 0, 1) := by decide +kernel
theorem dX8_narrow_5 : decode cX8_narrow 5 = .ok (.i2b, 1) := by decide +kernel
theorem dX8_narrow_6 : decode cX8_narrow 6 = .ok (.goto 14, 3) := by decide +kernel
theorem dX8_narrow_9 : decode cX8_narrow 9 = .ok (.iload_n 1, 1) := by decide +kernel
theorem dX8_narrow_10 : decode cX8_narrow 10 = .ok (.iconst 1, 1) := by decide +kernel
theorem dX8_narrow_11 : decode cX8_narrow 11 = .ok (.if_icmp .ne 8, 3) := by decide +kernel
theorem dX8_narrow_14 : decode cX8_narrow 14 = .ok (.iload_n 0, 1) := by decide +kernel
theorem dX8_narrow_15 : decode cX8_narrow 15 = .ok (.i2s, 1) := by decide +kernel
theorem dX8_narrow_16 : decode cX8_narrow 16 = .ok (.goto 4, 3) := by decide +kernel
theorem dX8_narrow_19 : decode cX8_narrow 19 = .ok (.iload_n 0, 1) := by decide +kernel
theorem dX8_narrow_20 : decode cX8_narrow 20 = .ok (.ireturn, 1) := by decide +kernel
theorem dX8_set_0 : decode cX8_set 0 = .ok (.iload_n 1, 1) := by decide +kernel
theorem dX8_set_1 : decode cX8_set 1 = .ok (.invokestatic 52, 3) := by decide +kernel
theorem dX8_set_4 : decode cX8_set 4 = .ok (.ifCond .ne 6, 3) := by decide +kernel
theorem dX8_set_7 : decode cX8_set 7 = .ok (.ldc 58, 2) := by decide +kernel
theorem dX8_set_9 : decode cX8_set 9 = .ok (.ireturn, 1) := by decide +kernel
theorem dX8_set_10 : decode cX8_set 10 = .ok (.aload_n 0, 1) := by decide +kernel
theorem dX8_set_11 : decode cX8_set 11 = .ok (.getfield 20, 3) := by decide +kernel
theorem dX8_set_14 : decode cX8_set 14 = .ok (.iload_n 1, 1) := by decide +kernel
theorem dX8_set_15 : decode cX8_set 15 = .ok (.iaload, 1) := by decide +kernel
theorem dX8_set_16 : decode cX8_set 16 = .ok (.ifCond .ge 9, 3) := by decide +kernel
theorem dX8_set_19 : decode cX8_set 19 = .ok (.aload_n 0, 1) := by decide +kernel
theorem dX8_set_20 : decode cX8_set 20 = .ok (.iconst 1, 1) := by decide +kernel
theorem dX8_set_21 : decode cX8_set 21 = .ok (.invokevirtual 59, 3) := by decide +kernel
theorem dX8_set_24 : decode cX8_set 24 = .ok (.ireturn, 1) := by decide +kernel
theorem dX8_set_25 : decode cX8_set 25 = .ok (.iload_n 2, 1) := by decide +kernel
theorem dX8_set_26 : decode cX8_set 26 = .ok (.i2l, 1) := by decide +kernel
theorem dX8_set_27 : decode cX8_set 27 = .ok (.lconst 0, 1) := by decide +kernel
theorem dX8_set_28 : decode cX8_set 28 = .ok (.aload_n 0, 1) := by decide +kernel
theorem dX8_set_29 : decode cX8_set 29 = .ok (.getfield 20, 3) := by decide +kernel
theorem dX8_set_32 : decode cX8_set 32 = .ok (.iload_n 1, 1) := by decide +kernel
theorem dX8_set_33 : decode cX8_set 33 = .ok (.iaload, 1) := by decide +kernel
theorem dX8_set_34 : decode cX8_set 34 = .ok (.iconst 1, 1) := by decide +kernel
theorem dX8_set_35 : decode cX8_set 35 = .ok (.isub, 1) := by decide +kernel
theorem dX8_set_36 : decode cX8_set 36 = .ok (.i2l, 1) := by decide +kernel
theorem dX8_set_37 : decode cX8_set 37 = .ok (.invokestatic 48, 3) := by decide +kernel
theorem dX8_set_40 : decode cX8_set 40 = .ok (.ifCond .ne 9, 3) := by decide +kernel
theorem dX8_set_43 : decode cX8_set 43 = .ok (.aload_n 0, 1) := by decide +kernel
theorem dX8_set_44 : decode cX8_set 44 = .ok (.iconst 2, 1) := by decide +kernel
theorem dX8_set_45 : decode cX8_set 45 = .ok (.invokevirtual 59, 3) := by decide +kernel
theorem dX8_set_48 : decode cX8_set 48 = .ok (.ireturn, 1) := by decide +kernel
theorem dX8_set_49 : decode cX8_set 49 = .ok (.aload_n 0, 1) := by decide +kernel
theorem dX8_set_50 : decode cX8_set 50 = .ok (.getfield 23, 3) := by decide +kernel
theorem dX8_set_53 : decode cX8_set 53 = .ok (.bipush 40, 2) := by decide +kernel
theorem dX8_set_55 : decode cX8_set 55 = .ok (.iload_n 1, 1) := by decide +kernel
theorem dX8_set_56 : decode cX8_set 56 = .ok (.imul, 1) := by decide +kernel
theorem dX8_set_57 : decode cX8_set 57 = .ok (.iload_n 2, 1) := by decide +kernel
theorem dX8_set_58 : decode cX8_set 58 = .ok (.iadd, 1) := by decide +kernel
theorem dX8_set_59 : decode cX8_set 59 = .ok (.iload_n 3, 1) := by decide +kernel
theorem dX8_set_60 : decode cX8_set 60 = .ok (.aload_n 0, 1) := by decide +kernel
theorem dX8_set_61 : decode cX8_set 61 = .ok (.getfield 17, 3) := by decide +kernel
theorem dX8_set_64 : decode cX8_set 64 = .ok (.iload_n 1, 1) := by decide +kernel
theorem dX8_set_65 : decode cX8_set 65 = .ok (.iaload, 1) := by decide +kernel
theorem dX8_set_66 : decode cX8_set 66 = .ok (.invokestatic 66, 3) := by decide +kernel
theorem dX8_set_69 : decode cX8_set 69 = .ok (.iastore, 1) := by decide +kernel
theorem dX8_set_70 : decode cX8_set 70 = .ok (.aload_n 0, 1) := by decide +kernel
theorem dX8_set_71 : decode cX8_set 71 = .ok (.aload_n 0, 1) := by decide +kernel
theorem dX8_set_72 : decode cX8_set 72 = .ok (.getfield 23, 3) := by decide +kernel
theorem dX8_set_75 : decode cX8_set 75 = .ok (.bipush 40, 2) := by decide +kernel
theorem dX8_set_77 : decode cX8_set 77 = .ok (.iload_n 1, 1) := by decide +kernel
theorem dX8_set_78 : decode cX8_set 78 = .ok (.imul, 1) := by decide +kernel
theorem dX8_set_79 : decode cX8_set 79 = .ok (.iload_n 2, 1) := by decide +kernel
theorem dX8_set_80 : decode cX8_set 80 = .ok (.iadd, 1) := by decide +kernel
theorem dX8_set_81 : decode cX8_set 81 = .ok (.iaload, 1) := by decide +kernel
theorem dX8_set_82 : decode cX8_set 82 = .ok (.invokevirtual 63, 3) := by decide +kernel
theorem dX8_set_85 : decode cX8_set 85 = .ok (.ireturn, 1) := by decide +kernel
theorem dX8_isSpan_0 : decode cX8_isSpan 0 = .ok (.iload_n 2, 1) := by decide +kernel
theorem dX8_isSpan_1 : decode cX8_isSpan 1 = .ok (.ifCond .lt 27, 3) := by decide +kernel
theorem dX8_isSpan_4 : decode cX8_isSpan 4 = .ok (.iload_n 3, 1) := by decide +kernel
theorem dX8_isSpan_5 : decode cX8_isSpan 5 = .ok (.ifCond .lt 23, 3) := by decide +kernel
theorem dX8_isSpan_8 : decode cX8_isSpan 8 = .ok (.iload_n 2, 1) := by decide +kernel
theorem dX8_isSpan_9 : decode cX8_isSpan 9 = .ok (.i2l, 1) := by decide +kernel
theorem dX8_isSpan_10 : decode cX8_isSpan 10 = .ok (.iload_n 3, 1) := by decide +kernel
theorem dX8_isSpan_11 : decode cX8_isSpan 11 = .ok (.i2l, 1) := by decide +kernel
theorem dX8_isSpan_12 : decode cX8_isSpan 12 = .ok (.ladd, 1) := by decide +kernel
theorem dX8_isSpan_13 : decode cX8_isSpan 13 = .ok (.aload_n 0, 1) := by decide +kernel
theorem dX8_isSpan_14 : decode cX8_isSpan 14 = .ok (.getfield 20, 3) := by decide +kernel
theorem dX8_isSpan_17 : decode cX8_isSpan 17 = .ok (.iload_n 1, 1) := by decide +kernel
theorem dX8_isSpan_18 : decode cX8_isSpan 18 = .ok (.iaload, 1) := by decide +kernel
theorem dX8_isSpan_19 : decode cX8_isSpan 19 = .ok (.i2l, 1) := by decide +kernel
theorem dX8_isSpan_20 : decode cX8_isSpan 20 = .ok (.lcmp, 1) := by decide +kernel
theorem dX8_isSpan_21 : decode cX8_isSpan 21 = .ok (.ifCond .gt 7, 3) := by decide +kernel
theorem dX8_isSpan_24 : decode cX8_isSpan 24 = .ok (.iconst 1, 1) := by decide +kernel
theorem dX8_isSpan_25 : decode cX8_isSpan 25 = .ok (.goto 4, 3) := by decide +kernel
theorem dX8_isSpan_28 : decode cX8_isSpan 28 = .ok (.iconst 0, 1) := by decide +kernel
theorem dX8_isSpan_29 : decode cX8_isSpan 29 = .ok (.ireturn, 1) := by decide +kernel
theorem dX8_copy_0 : decode cX8_copy 0 = .ok (.iload_n 1, 1) := by decide +kernel
theorem dX8_copy_1 : decode cX8_copy 1 = .ok (.invokestatic 52, 3) := by decide +kernel
theorem dX8_copy_4 : decode cX8_copy 4 = .ok (.ifCond .eq 10, 3) := by decide +kernel
theorem dX8_copy_7 : decode cX8_copy 7 = .ok (.iload_n 3, 1) := by decide +kernel
theorem dX8_copy_8 : decode cX8_copy 8 = .ok (.invokestatic 52, 3) := by decide +kernel
theorem dX8_copy_11 : decode cX8_copy 11 = .ok (.ifCond .ne 6, 3) := by decide +kernel
theorem dX8_copy_14 : decode cX8_copy 14 = .ok (.ldc 58, 2) := by decide +kernel
theorem dX8_copy_16 : decode cX8_copy 16 = .ok (.ireturn, 1) := by decide +kernel
theorem dX8_copy_17 : decode cX8_copy 17 = .ok (.aload_n 0, 1) := by decide +kernel
theorem dX8_copy_18 : decode cX8_copy 18 = .ok (.getfield 20, 3) := by decide +kernel
theorem dX8_copy_21 : decode cX8_copy 21 = .ok (.iload_n 1, 1) := by decide +kernel
theorem dX8_copy_22 : decode cX8_copy 22 = .ok (.iaload, 1) := by decide +kernel
theorem dX8_copy_23 : decode cX8_copy 23 = .ok (.ifCond .lt 12, 3) := by decide +kernel
theorem dX8_copy_26 : decode cX8_copy 26 = .ok (.aload_n 0, 1) := by decide +kernel
theorem dX8_copy_27 : decode cX8_copy 27 = .ok (.getfield 20, 3) := by decide +kernel
theorem dX8_copy_30 : decode cX8_copy 30 = .ok (.iload_n 3, 1) := by decide +kernel
theorem dX8_copy_31 : decode cX8_copy 31 = .ok (.iaload, 1) := by decide +kernel
theorem dX8_copy_32 : decode cX8_copy 32 = .ok (.ifCond .ge 9, 3) := by decide +kernel
theorem dX8_copy_35 : decode cX8_copy 35 = .ok (.aload_n 0, 1) := by decide +kernel
theorem dX8_copy_36 : decode cX8_copy 36 = .ok (.iconst 1, 1) := by decide +kernel
theorem dX8_copy_37 : decode cX8_copy 37 = .ok (.invokevirtual 59, 3) := by decide +kernel
theorem dX8_copy_40 : decode cX8_copy 40 = .ok (.ireturn, 1) := by decide +kernel
theorem dX8_copy_41 : decode cX8_copy 41 = .ok (.aload_n 0, 1) := by decide +kernel
theorem dX8_copy_42 : decode cX8_copy 42 = .ok (.getfield 17, 3) := by decide +kernel
theorem dX8_copy_45 : decode cX8_copy 45 = .ok (.iload_n 1, 1) := by decide +kernel
theorem dX8_copy_46 : decode cX8_copy 46 = .ok (.iaload, 1) := by decide +kernel
theorem dX8_copy_47 : decode cX8_copy 47 = .ok (.aload_n 0, 1) := by decide +kernel
theorem dX8_copy_48 : decode cX8_copy 48 = .ok (.getfield 17, 3) := by decide +kernel
theorem dX8_copy_51 : decode cX8_copy 51 = .ok (.iload_n 3, 1) := by decide +kernel
theorem dX8_copy_52 : decode cX8_copy 52 = .ok (.iaload, 1) := by decide +kernel
theorem dX8_copy_53 : decode cX8_copy 53 = .ok (.if_icmp .eq 9, 3) := by decide +kernel
theorem dX8_copy_56 : decode cX8_copy 56 = .ok (.aload_n 0, 1) := by decide +kernel
theorem dX8_copy_57 : decode cX8_copy 57 = .ok (.iconst 5, 1) := by decide +kernel
theorem dX8_copy_58 : decode cX8_copy 58 = .ok (.invokevirtual 59, 3) := by decide +kernel
theorem dX8_copy_61 : decode cX8_copy 61 = .ok (.ireturn, 1) := by decide +kernel
theorem dX8_copy_62 : decode cX8_copy 62 = .ok (.aload_n 0, 1) := by decide +kernel
theorem dX8_copy_63 : decode cX8_copy 63 = .ok (.iload_n 1, 1) := by decide +kernel
theorem dX8_copy_64 : decode cX8_copy 64 = .ok (.iload_n 2, 1) := by decide +kernel
theorem dX8_copy_65 : decode cX8_copy 65 = .ok (.iload 5, 2) := by decide +kernel
theorem dX8_copy_67 : decode cX8_copy 67 = .ok (.invokevirtual 70, 3) := by decide +kernel
theorem dX8_copy_70 : decode cX8_copy 70 = .ok (.ifCond .eq 15, 3) := by decide +kernel
theorem dX8_copy_73 : decode cX8_copy 73 = .ok (.aload_n 0, 1) := by decide +kernel
theorem dX8_copy_74 : decode cX8_copy 74 = .ok (.iload_n 3, 1) := by decide +kernel
theorem dX8_copy_75 : decode cX8_copy 75 = .ok (.iload 4, 2) := by decide +kernel
theorem dX8_copy_77 : decode cX8_copy 77 = .ok (.iload 5, 2) := by decide +kernel
theorem dX8_copy_79 : decode cX8_copy 79 = .ok (.invokevirtual 70, 3) := by decide +kernel
theorem dX8_copy_82 : decode cX8_copy 82 = .ok (.ifCond .ne 9, 3) := by decide +kernel
theorem dX8_copy_85 : decode cX8_copy 85 = .ok (.aload_n 0, 1) := by decide +kernel
theorem dX8_copy_86 : decode cX8_copy 86 = .ok (.iconst 2, 1) := by decide +kernel
theorem dX8_copy_87 : decode cX8_copy 87 = .ok (.invokevirtual 59, 3) := by decide +kernel
theorem dX8_copy_90 : decode cX8_copy 90 = .ok (.ireturn, 1) := by decide +kernel
theorem dX8_copy_91 : decode cX8_copy 91 = .ok (.iload_n 2, 1) := by decide +kernel
theorem dX8_copy_92 : decode cX8_copy 92 = .ok (.iload 4, 2) := by decide +kernel
theorem dX8_copy_94 : decode cX8_copy 94 = .ok (.if_icmp .ge 7, 3) := by decide +kernel
theorem dX8_copy_97 : decode cX8_copy 97 = .ok (.iconst 1, 1) := by decide +kernel
theorem dX8_copy_98 : decode cX8_copy 98 = .ok (.goto 4, 3) := by decide +kernel
theorem dX8_copy_101 : decode cX8_copy 101 = .ok (.iconst 0, 1) := by decide +kernel
theorem dX8_copy_102 : decode cX8_copy 102 = .ok (.istore 6, 2) := by decide +kernel
theorem dX8_copy_104 : decode cX8_copy 104 = .ok (.iconst 0, 1) := by decide +kernel
theorem dX8_copy_105 : decode cX8_copy 105 = .ok (.istore 7, 2) := by decide +kernel
theorem dX8_copy_107 : decode cX8_copy 107 = .ok (.iload 7, 2) := by decide +kernel
theorem dX8_copy_109 : decode cX8_copy 109 = .ok (.iload 5, 2) := by decide +kernel
theorem dX8_copy_111 : decode cX8_copy 111 = .ok (.if_icmp .ge 57, 3) := by decide +kernel
theorem dX8_copy_114 : decode cX8_copy 114 = .ok (.iload 6, 2) := by decide +kernel
theorem dX8_copy_116 : decode cX8_copy 116 = .ok (.ifCond .eq 13, 3) := by decide +kernel
theorem dX8_copy_119 : decode cX8_copy 119 = .ok (.iload 5, 2) := by decide +kernel
theorem dX8_copy_121 : decode cX8_copy 121 = .ok (.iconst 1, 1) := by decide +kernel
theorem dX8_copy_122 : decode cX8_copy 122 = .ok (.isub, 1) := by decide +kernel
theorem dX8_copy_123 : decode cX8_copy 123 = .ok (.iload 7, 2) := by decide +kernel
theorem dX8_copy_125 : decode cX8_copy 125 = .ok (.isub, 1) := by decide +kernel
theorem dX8_copy_126 : decode cX8_copy 126 = .ok (.goto 5, 3) := by decide +kernel
theorem dX8_copy_129 : decode cX8_copy 129 = .ok (.iload 7, 2) := by decide +kernel
theorem dX8_copy_131 : decode cX8_copy 131 = .ok (.istore 8, 2) := by decide +kernel
theorem dX8_copy_133 : decode cX8_copy 133 = .ok (.aload_n 0, 1) := by decide +kernel
theorem dX8_copy_134 : decode cX8_copy 134 = .ok (.getfield 23, 3) := by decide +kernel
theorem dX8_copy_137 : decode cX8_copy 137 = .ok (.bipush 40, 2) := by decide +kernel
theorem dX8_copy_139 : decode cX8_copy 139 = .ok (.iload_n 3, 1) := by decide +kernel
theorem dX8_copy_140 : decode cX8_copy 140 = .ok (.imul, 1) := by decide +kernel
theorem dX8_copy_141 : decode cX8_copy 141 = .ok (.iload 4, 2) := by decide +kernel
theorem dX8_copy_143 : decode cX8_copy 143 = .ok (.iadd, 1) := by decide +kernel
theorem dX8_copy_144 : decode cX8_copy 144 = .ok (.iload 8, 2) := by decide +kernel
theorem dX8_copy_146 : decode cX8_copy 146 = .ok (.iadd, 1) := by decide +kernel
theorem dX8_copy_147 : decode cX8_copy 147 = .ok (.aload_n 0, 1) := by decide +kernel
theorem dX8_copy_148 : decode cX8_copy 148 = .ok (.getfield 23, 3) := by decide +kernel
theorem dX8_copy_151 : decode cX8_copy 151 = .ok (.bipush 40, 2) := by decide +kernel
theorem dX8_copy_153 : decode cX8_copy 153 = .ok (.iload_n 1, 1) := by decide +kernel
theorem dX8_copy_154 : decode cX8_copy 154 = .ok (.imul, 1) := by decide +kernel
theorem dX8_copy_155 : decode cX8_copy 155 = .ok (.iload_n 2, 1) := by decide +kernel
theorem dX8_copy_156 : decode cX8_copy 156 = .ok (.iadd, 1) := by decide +kernel
theorem dX8_copy_157 : decode cX8_copy 157 = .ok (.iload 8, 2) := by decide +kernel
theorem dX8_copy_159 : decode cX8_copy 159 = .ok (.iadd, 1) := by decide +kernel
theorem dX8_copy_160 : decode cX8_copy 160 = .ok (.iaload, 1) := by decide +kernel
theorem dX8_copy_161 : decode cX8_copy 161 = .ok (.iastore, 1) := by decide +kernel
theorem dX8_copy_162 : decode cX8_copy 162 = .ok (.iinc 7 1, 3) := by decide +kernel
theorem dX8_copy_165 : decode cX8_copy 165 = .ok (.goto (-58), 3) := by decide +kernel
theorem dX8_copy_168 : decode cX8_copy 168 = .ok (.aload_n 0, 1) := by decide +kernel
theorem dX8_copy_169 : decode cX8_copy 169 = .ok (.iload 5, 2) := by decide +kernel
theorem dX8_copy_171 : decode cX8_copy 171 = .ok (.invokevirtual 63, 3) := by decide +kernel
theorem dX8_copy_174 : decode cX8_copy 174 = .ok (.ireturn, 1) := by decide +kernel
theorem dX8_drop_0 : decode cX8_drop 0 = .ok (.iload_n 1, 1) := by decide +kernel
theorem dX8_drop_1 : decode cX8_drop 1 = .ok (.invokestatic 52, 3) := by decide +kernel
theorem dX8_drop_4 : decode cX8_drop 4 = .ok (.ifCond .ne 6, 3) := by decide +kernel
theorem dX8_drop_7 : decode cX8_drop 7 = .ok (.ldc 58, 2) := by decide +kernel
theorem dX8_drop_9 : decode cX8_drop 9 = .ok (.ireturn, 1) := by decide +kernel
theorem dX8_drop_10 : decode cX8_drop 10 = .ok (.aload_n 0, 1) := by decide +kernel
theorem dX8_drop_11 : decode cX8_drop 11 = .ok (.getfield 20, 3) := by decide +kernel
theorem dX8_drop_14 : decode cX8_drop 14 = .ok (.iload_n 1, 1) := by decide +kernel
theorem dX8_drop_15 : decode cX8_drop 15 = .ok (.iaload, 1) := by decide +kernel
theorem dX8_drop_16 : decode cX8_drop 16 = .ok (.ifCond .ge 9, 3) := by decide +kernel
theorem dX8_drop_19 : decode cX8_drop 19 = .ok (.aload_n 0, 1) := by decide +kernel
theorem dX8_drop_20 : decode cX8_drop 20 = .ok (.iconst 1, 1) := by decide +kernel
theorem dX8_drop_21 : decode cX8_drop 21 = .ok (.invokevirtual 59, 3) := by decide +kernel
theorem dX8_drop_24 : decode cX8_drop 24 = .ok (.ireturn, 1) := by decide +kernel
theorem dX8_drop_25 : decode cX8_drop 25 = .ok (.aload_n 0, 1) := by decide +kernel
theorem dX8_drop_26 : decode cX8_drop 26 = .ok (.getfield 20, 3) := by decide +kernel
theorem dX8_drop_29 : decode cX8_drop 29 = .ok (.iload_n 1, 1) := by decide +kernel
theorem dX8_drop_30 : decode cX8_drop 30 = .ok (.iaload, 1) := by decide +kernel
theorem dX8_drop_31 : decode cX8_drop 31 = .ok (.istore_n 2, 1) := by decide +kernel
theorem dX8_drop_32 : decode cX8_drop 32 = .ok (.aload_n 0, 1) := by decide +kernel
theorem dX8_drop_33 : decode cX8_drop 33 = .ok (.getfield 20, 3) := by decide +kernel
theorem dX8_drop_36 : decode cX8_drop 36 = .ok (.iload_n 1, 1) := by decide +kernel
theorem dX8_drop_37 : decode cX8_drop 37 = .ok (.iconst (-1), 1) := by decide +kernel
theorem dX8_drop_38 : decode cX8_drop 38 = .ok (.iastore, 1) := by decide +kernel
theorem dX8_drop_39 : decode cX8_drop 39 = .ok (.aload_n 0, 1) := by decide +kernel
theorem dX8_drop_40 : decode cX8_drop 40 = .ok (.iload_n 2, 1) := by decide +kernel
theorem dX8_drop_41 : decode cX8_drop 41 = .ok (.invokevirtual 63, 3) := by decide +kernel
theorem dX8_drop_44 : decode cX8_drop 44 = .ok (.ireturn, 1) := by decide +kernel
theorem dX8_feed_0 : decode cX8_feed 0 = .ok (.iload_n 1, 1) := by decide +kernel
theorem dX8_feed_1 : decode cX8_feed 1 = .ok (.i2l, 1) := by decide +kernel
theorem dX8_feed_2 : decode cX8_feed 2 = .ok (.lconst 0, 1) := by decide +kernel
theorem dX8_feed_3 : decode cX8_feed 3 = .ok (.ldc2_w 74, 3) := by decide +kernel
theorem dX8_feed_6 : decode cX8_feed 6 = .ok (.invokestatic 48, 3) := by decide +kernel
theorem dX8_feed_9 : decode cX8_feed 9 = .ok (.ifCond .ne 6, 3) := by decide +kernel
theorem dX8_feed_12 : decode cX8_feed 12 = .ok (.ldc 58, 2) := by decide +kernel
theorem dX8_feed_14 : decode cX8_feed 14 = .ok (.ireturn, 1) := by decide +kernel
theorem dX8_feed_15 : decode cX8_feed 15 = .ok (.aload_n 0, 1) := by decide +kernel
theorem dX8_feed_16 : decode cX8_feed 16 = .ok (.getfield 76, 3) := by decide +kernel
theorem dX8_feed_19 : decode cX8_feed 19 = .ok (.bipush 110, 2) := by decide +kernel
theorem dX8_feed_21 : decode cX8_feed 21 = .ok (.if_icmp .ne 6, 3) := by decide +kernel
theorem dX8_feed_24 : decode cX8_feed 24 = .ok (.ldc 79, 2) := by decide +kernel
theorem dX8_feed_26 : decode cX8_feed 26 = .ok (.ireturn, 1) := by decide +kernel
theorem dX8_feed_27 : decode cX8_feed 27 = .ok (.aload_n 0, 1) := by decide +kernel
theorem dX8_feed_28 : decode cX8_feed 28 = .ok (.getfield 26, 3) := by decide +kernel
theorem dX8_feed_31 : decode cX8_feed 31 = .ok (.aload_n 0, 1) := by decide +kernel
theorem dX8_feed_32 : decode cX8_feed 32 = .ok (.getfield 76, 3) := by decide +kernel
theorem dX8_feed_35 : decode cX8_feed 35 = .ok (.iload_n 1, 1) := by decide +kernel
theorem dX8_feed_36 : decode cX8_feed 36 = .ok (.iastore, 1) := by decide +kernel
theorem dX8_feed_37 : decode cX8_feed 37 = .ok (.aload_n 0, 1) := by decide +kernel
theorem dX8_feed_38 : decode cX8_feed 38 = .ok (.dup, 1) := by decide +kernel
theorem dX8_feed_39 : decode cX8_feed 39 = .ok (.getfield 76, 3) := by decide +kernel
theorem dX8_feed_42 : decode cX8_feed 42 = .ok (.iconst 1, 1) := by decide +kernel
theorem dX8_feed_43 : decode cX8_feed 43 = .ok (.iadd, 1) := by decide +kernel
theorem dX8_feed_44 : decode cX8_feed 44 = .ok (.putfield 76, 3) := by decide +kernel
theorem dX8_feed_47 : decode cX8_feed 47 = .ok (.aload_n 0, 1) := by decide +kernel
theorem dX8_feed_48 : decode cX8_feed 48 = .ok (.getfield 76, 3) := by decide +kernel
theorem dX8_feed_51 : decode cX8_feed 51 = .ok (.ireturn, 1) := by decide +kernel
theorem dX8_isLetter_0 : decode cX8_isLetter 0 = .ok (.aload_n 0, 1) := by decide +kernel
theorem dX8_isLetter_1 : decode cX8_isLetter 1 = .ok (.getfield 80, 3) := by decide +kernel
theorem dX8_isLetter_4 : decode cX8_isLetter 4 = .ok (.aload_n 0, 1) := by decide +kernel
theorem dX8_isLetter_5 : decode cX8_isLetter 5 = .ok (.getfield 76, 3) := by decide +kernel
theorem dX8_isLetter_8 : decode cX8_isLetter 8 = .ok (.if_icmp .ge 20, 3) := by decide +kernel
theorem dX8_isLetter_11 : decode cX8_isLetter 11 = .ok (.aload_n 0, 1) := by decide +kernel
theorem dX8_isLetter_12 : decode cX8_isLetter 12 = .ok (.getfield 26, 3) := by decide +kernel
theorem dX8_isLetter_15 : decode cX8_isLetter 15 = .ok (.aload_n 0, 1) := by decide +kernel
theorem dX8_isLetter_16 : decode cX8_isLetter 16 = .ok (.getfield 80, 3) := by decide +kernel
theorem dX8_isLetter_19 : decode cX8_isLetter 19 = .ok (.iaload, 1) := by decide +kernel
theorem dX8_isLetter_20 : decode cX8_isLetter 20 = .ok (.iload_n 1, 1) := by decide +kernel
theorem dX8_isLetter_21 : decode cX8_isLetter 21 = .ok (.if_icmp .ne 7, 3) := by decide +kernel
theorem dX8_isLetter_24 : decode cX8_isLetter 24 = .ok (.iconst 1, 1) := by decide +kernel
theorem dX8_isLetter_25 : decode cX8_isLetter 25 = .ok (.goto 4, 3) := by decide +kernel
theorem dX8_isLetter_28 : decode cX8_isLetter 28 = .ok (.iconst 0, 1) := by decide +kernel
theorem dX8_isLetter_29 : decode cX8_isLetter 29 = .ok (.ireturn, 1) := by decide +kernel
theorem dX8_isFigure_0 : decode cX8_isFigure 0 = .ok (.iload_n 1, 1) := by decide +kernel
theorem dX8_isFigure_1 : decode cX8_isFigure 1 = .ok (.aload_n 0, 1) := by decide +kernel
theorem dX8_isFigure_2 : decode cX8_isFigure 2 = .ok (.getfield 76, 3) := by decide +kernel
theorem dX8_isFigure_5 : decode cX8_isFigure 5 = .ok (.if_icmp .ge 26, 3) := by decide +kernel
theorem dX8_isFigure_8 : decode cX8_isFigure 8 = .ok (.aload_n 0, 1) := by decide +kernel
theorem dX8_isFigure_9 : decode cX8_isFigure 9 = .ok (.getfield 26, 3) := by decide +kernel
theorem dX8_isFigure_12 : decode cX8_isFigure 12 = .ok (.iload_n 1, 1) := by decide +kernel
theorem dX8_isFigure_13 : decode cX8_isFigure 13 = .ok (.iaload, 1) := by decide +kernel
theorem dX8_isFigure_14 : decode cX8_isFigure 14 = .ok (.i2l, 1) := by decide +kernel
theorem dX8_isFigure_15 : decode cX8_isFigure 15 = .ok (.ldc2_w 83, 3) := by decide +kernel
theorem dX8_isFigure_18 : decode cX8_isFigure 18 = .ok (.ldc2_w 85, 3) := by decide +kernel
theorem dX8_isFigure_21 : decode cX8_isFigure 21 = .ok (.invokestatic 48, 3) := by decide +kernel
theorem dX8_isFigure_24 : decode cX8_isFigure 24 = .ok (.ifCond .eq 7, 3) := by decide +kernel
theorem dX8_isFigure_27 : decode cX8_isFigure 27 = .ok (.iconst 1, 1) := by decide +kernel
theorem dX8_isFigure_28 : decode cX8_isFigure 28 = .ok (.goto 4, 3) := by decide +kernel
theorem dX8_isFigure_31 : decode cX8_isFigure 31 = .ok (.iconst 0, 1) := by decide +kernel
theorem dX8_isFigure_32 : decode cX8_isFigure 32 = .ok (.ireturn, 1) := by decide +kernel
theorem dX8_refuse_0 : decode cX8_refuse 0 = .ok (.aload_n 0, 1) := by decide +kernel
theorem dX8_refuse_1 : decode cX8_refuse 1 = .ok (.iload_n 1, 1) := by decide +kernel
theorem dX8_refuse_2 : decode cX8_refuse 2 = .ok (.putfield 87, 3) := by decide +kernel
theorem dX8_refuse_5 : decode cX8_refuse 5 = .ok (.iconst 0, 1) := by decide +kernel
theorem dX8_refuse_6 : decode cX8_refuse 6 = .ok (.ireturn, 1) := by decide +kernel
theorem dX8_sign_0 : decode cX8_sign 0 = .ok (.aload_n 0, 1) := by decide +kernel
theorem dX8_sign_1 : decode cX8_sign 1 = .ok (.iload_n 1, 1) := by decide +kernel
theorem dX8_sign_2 : decode cX8_sign 2 = .ok (.invokevirtual 90, 3) := by decide +kernel
theorem dX8_sign_5 : decode cX8_sign 5 = .ok (.ifCond .ne 9, 3) := by decide +kernel
theorem dX8_sign_8 : decode cX8_sign 8 = .ok (.aload_n 0, 1) := by decide +kernel
theorem dX8_sign_9 : decode cX8_sign 9 = .ok (.iconst 1, 1) := by decide +kernel
theorem dX8_sign_10 : decode cX8_sign 10 = .ok (.invokevirtual 93, 3) := by decide +kernel
theorem dX8_sign_13 : decode cX8_sign 13 = .ok (.ireturn, 1) := by decide +kernel
theorem dX8_sign_14 : decode cX8_sign 14 = .ok (.aload_n 0, 1) := by decide +kernel
theorem dX8_sign_15 : decode cX8_sign 15 = .ok (.dup, 1) := by decide +kernel
theorem dX8_sign_16 : decode cX8_sign 16 = .ok (.getfield 80, 3) := by decide +kernel
theorem dX8_sign_19 : decode cX8_sign 19 = .ok (.iconst 1, 1) := by decide +kernel
theorem dX8_sign_20 : decode cX8_sign 20 = .ok (.iadd, 1) := by decide +kernel
theorem dX8_sign_21 : decode cX8_sign 21 = .ok (.putfield 80, 3) := by decide +kernel
theorem dX8_sign_24 : decode cX8_sign 24 = .ok (.iconst 1, 1) := by decide +kernel
theorem dX8_sign_25 : decode cX8_sign 25 = .ok (.ireturn, 1) := by decide +kernel
theorem dX8_readsNumber_0 : decode cX8_readsNumber 0 = .ok (.aload_n 0, 1) := by decide +kernel
theorem dX8_readsNumber_1 : decode cX8_readsNumber 1 = .ok (.aload_n 0, 1) := by decide +kernel
theorem dX8_readsNumber_2 : decode cX8_readsNumber 2 = .ok (.getfield 80, 3) := by decide +kernel
theorem dX8_readsNumber_5 : decode cX8_readsNumber 5 = .ok (.invokevirtual 96, 3) := by decide +kernel
theorem dX8_readsNumber_8 : decode cX8_readsNumber 8 = .ok (.ifCond .eq 29, 3) := by decide +kernel
theorem dX8_readsNumber_11 : decode cX8_readsNumber 11 = .ok (.aload_n 0, 1) := by decide +kernel
theorem dX8_readsNumber_12 : decode cX8_readsNumber 12 = .ok (.aload_n 0, 1) := by decide +kernel
theorem dX8_readsNumber_13 : decode cX8_readsNumber 13 = .ok (.getfield 80, 3) := by decide +kernel
theorem dX8_readsNumber_16 : decode cX8_readsNumber 16 = .ok (.iconst 1, 1) := by decide +kernel
theorem dX8_readsNumber_17 : decode cX8_readsNumber 17 = .ok (.iadd, 1) := by decide +kernel
theorem dX8_readsNumber_18 : decode cX8_readsNumber 18 = .ok (.invokevirtual 96, 3) := by decide +kernel
theorem dX8_readsNumber_21 : decode cX8_readsNumber 21 = .ok (.ifCond .eq 22, 3) := by decide +kernel
theorem dX8_readsNumber_24 : decode cX8_readsNumber 24 = .ok (.aload_n 0, 1) := by decide +kernel
theorem dX8_readsNumber_25 : decode cX8_readsNumber 25 = .ok (.aload_n 0, 1) := by decide +kernel
theorem dX8_readsNumber_26 : decode cX8_readsNumber 26 = .ok (.getfield 80, 3) := by decide +kernel
theorem dX8_readsNumber_29 : decode cX8_readsNumber 29 = .ok (.iconst 2, 1) := by decide +kernel
theorem dX8_readsNumber_30 : decode cX8_readsNumber 30 = .ok (.iadd, 1) := by decide +kernel
theorem dX8_readsNumber_31 : decode cX8_readsNumber 31 = .ok (.invokevirtual 96, 3) := by decide +kernel
theorem dX8_readsNumber_34 : decode cX8_readsNumber 34 = .ok (.ifCond .eq 9, 3) := by decide +kernel
theorem dX8_readsNumber_37 : decode cX8_readsNumber 37 = .ok (.aload_n 0, 1) := by decide +kernel
theorem dX8_readsNumber_38 : decode cX8_readsNumber 38 = .ok (.iconst 1, 1) := by decide +kernel
theorem dX8_readsNumber_39 : decode cX8_readsNumber 39 = .ok (.invokevirtual 93, 3) := by decide +kernel
theorem dX8_readsNumber_42 : decode cX8_readsNumber 42 = .ok (.ireturn, 1) := by decide +kernel
theorem dX8_readsNumber_43 : decode cX8_readsNumber 43 = .ok (.aload_n 0, 1) := by decide +kernel
theorem dX8_readsNumber_44 : decode cX8_readsNumber 44 = .ok (.aload_n 0, 1) := by decide +kernel
theorem dX8_readsNumber_45 : decode cX8_readsNumber 45 = .ok (.getfield 26, 3) := by decide +kernel
theorem dX8_readsNumber_48 : decode cX8_readsNumber 48 = .ok (.aload_n 0, 1) := by decide +kernel
theorem dX8_readsNumber_49 : decode cX8_readsNumber 49 = .ok (.getfield 80, 3) := by decide +kernel
theorem dX8_readsNumber_52 : decode cX8_readsNumber 52 = .ok (.iaload, 1) := by decide +kernel
theorem dX8_readsNumber_53 : decode cX8_readsNumber 53 = .ok (.bipush 48, 2) := by decide +kernel
theorem dX8_readsNumber_55 : decode cX8_readsNumber 55 = .ok (.isub, 1) := by decide +kernel
theorem dX8_readsNumber_56 : decode cX8_readsNumber 56 = .ok (.putfield 99, 3) := by decide +kernel
theorem dX8_readsNumber_59 : decode cX8_readsNumber 59 = .ok (.aload_n 0, 1) := by decide +kernel
theorem dX8_readsNumber_60 : decode cX8_readsNumber 60 = .ok (.aload_n 0, 1) := by decide +kernel
theorem dX8_readsNumber_61 : decode cX8_readsNumber 61 = .ok (.getfield 80, 3) := by decide +kernel
theorem dX8_readsNumber_64 : decode cX8_readsNumber 64 = .ok (.iconst 1, 1) := by decide +kernel
theorem dX8_readsNumber_65 : decode cX8_readsNumber 65 = .ok (.iadd, 1) := by decide +kernel
theorem dX8_readsNumber_66 : decode cX8_readsNumber 66 = .ok (.invokevirtual 96, 3) := by decide +kernel
theorem dX8_readsNumber_69 : decode cX8_readsNumber 69 = .ok (.ifCond .eq 7, 3) := by decide +kernel
theorem dX8_readsNumber_72 : decode cX8_readsNumber 72 = .ok (.iconst 2, 1) := by decide +kernel
theorem dX8_readsNumber_73 : decode cX8_readsNumber 73 = .ok (.goto 4, 3) := by decide +kernel
theorem dX8_readsNumber_76 : decode cX8_readsNumber 76 = .ok (.iconst 1, 1) := by decide +kernel
theorem dX8_readsNumber_77 : decode cX8_readsNumber 77 = .ok (.istore_n 3, 1) := by decide +kernel
theorem dX8_readsNumber_78 : decode cX8_readsNumber 78 = .ok (.aload_n 0, 1) := by decide +kernel
theorem dX8_readsNumber_79 : decode cX8_readsNumber 79 = .ok (.iload_n 3, 1) := by decide +kernel
theorem dX8_readsNumber_80 : decode cX8_readsNumber 80 = .ok (.iconst 2, 1) := by decide +kernel
theorem dX8_readsNumber_81 : decode cX8_readsNumber 81 = .ok (.if_icmp .ne 28, 3) := by decide +kernel
theorem dX8_readsNumber_84 : decode cX8_readsNumber 84 = .ok (.bipush 10, 2) := by decide +kernel
theorem dX8_readsNumber_86 : decode cX8_readsNumber 86 = .ok (.aload_n 0, 1) := by decide +kernel
theorem dX8_readsNumber_87 : decode cX8_readsNumber 87 = .ok (.getfield 99, 3) := by decide +kernel
theorem dX8_readsNumber_90 : decode cX8_readsNumber 90 = .ok (.imul, 1) := by decide +kernel
theorem dX8_readsNumber_91 : decode cX8_readsNumber 91 = .ok (.aload_n 0, 1) := by decide +kernel
theorem dX8_readsNumber_92 : decode cX8_readsNumber 92 = .ok (.getfield 26, 3) := by decide +kernel
theorem dX8_readsNumber_95 : decode cX8_readsNumber 95 = .ok (.aload_n 0, 1) := by decide +kernel
theorem dX8_readsNumber_96 : decode cX8_readsNumber 96 = .ok (.getfield 80, 3) := by decide +kernel
theorem dX8_readsNumber_99 : decode cX8_readsNumber 99 = .ok (.iconst 1, 1) := by decide +kernel
theorem dX8_readsNumber_100 : decode cX8_readsNumber 100 = .ok (.iadd, 1) := by decide +kernel
theorem dX8_readsNumber_101 : decode cX8_readsNumber 101 = .ok (.iaload, 1) := by decide +kernel
theorem dX8_readsNumber_102 : decode cX8_readsNumber 102 = .ok (.iadd, 1) := by decide +kernel
theorem dX8_readsNumber_103 : decode cX8_readsNumber 103 = .ok (.bipush 48, 2) := by decide +kernel
theorem dX8_readsNumber_105 : decode cX8_readsNumber 105 = .ok (.isub, 1) := by decide +kernel
theorem dX8_readsNumber_106 : decode cX8_readsNumber 106 = .ok (.goto 7, 3) := by decide +kernel
theorem dX8_readsNumber_109 : decode cX8_readsNumber 109 = .ok (.aload_n 0, 1) := by decide +kernel
theorem dX8_readsNumber_110 : decode cX8_readsNumber 110 = .ok (.getfield 99, 3) := by decide +kernel
theorem dX8_readsNumber_113 : decode cX8_readsNumber 113 = .ok (.putfield 99, 3) := by decide +kernel
theorem dX8_readsNumber_116 : decode cX8_readsNumber 116 = .ok (.aload_n 0, 1) := by decide +kernel
theorem dX8_readsNumber_117 : decode cX8_readsNumber 117 = .ok (.getfield 99, 3) := by decide +kernel
theorem dX8_readsNumber_120 : decode cX8_readsNumber 120 = .ok (.i2l, 1) := by decide +kernel
theorem dX8_readsNumber_121 : decode cX8_readsNumber 121 = .ok (.iload_n 1, 1) := by decide +kernel
theorem dX8_readsNumber_122 : decode cX8_readsNumber 122 = .ok (.i2l, 1) := by decide +kernel
theorem dX8_readsNumber_123 : decode cX8_readsNumber 123 = .ok (.iload_n 2, 1) := by decide +kernel
theorem dX8_readsNumber_124 : decode cX8_readsNumber 124 = .ok (.i2l, 1) := by decide +kernel
theorem dX8_readsNumber_125 : decode cX8_readsNumber 125 = .ok (.invokestatic 48, 3) := by decide +kernel
theorem dX8_readsNumber_128 : decode cX8_readsNumber 128 = .ok (.ifCond .ne 9, 3) := by decide +kernel
theorem dX8_readsNumber_131 : decode cX8_readsNumber 131 = .ok (.aload_n 0, 1) := by decide +kernel
theorem dX8_readsNumber_132 : decode cX8_readsNumber 132 = .ok (.iconst 2, 1) := by decide +kernel
theorem dX8_readsNumber_133 : decode cX8_readsNumber 133 = .ok (.invokevirtual 93, 3) := by decide +kernel
theorem dX8_readsNumber_136 : decode cX8_readsNumber 136 = .ok (.ireturn, 1) := by decide +kernel
theorem dX8_readsNumber_137 : decode cX8_readsNumber 137 = .ok (.aload_n 0, 1) := by decide +kernel
theorem dX8_readsNumber_138 : decode cX8_readsNumber 138 = .ok (.dup, 1) := by decide +kernel
theorem dX8_readsNumber_139 : decode cX8_readsNumber 139 = .ok (.getfield 80, 3) := by decide +kernel
theorem dX8_readsNumber_142 : decode cX8_readsNumber 142 = .ok (.iload_n 3, 1) := by decide +kernel
theorem dX8_readsNumber_143 : decode cX8_readsNumber 143 = .ok (.iadd, 1) := by decide +kernel
theorem dX8_readsNumber_144 : decode cX8_readsNumber 144 = .ok (.putfield 80, 3) := by decide +kernel
theorem dX8_readsNumber_147 : decode cX8_readsNumber 147 = .ok (.iconst 1, 1) := by decide +kernel
theorem dX8_readsNumber_148 : decode cX8_readsNumber 148 = .ok (.ireturn, 1) := by decide +kernel
theorem dX8_readsLaw_0 : decode cX8_readsLaw 0 = .ok (.aload_n 0, 1) := by decide +kernel
theorem dX8_readsLaw_1 : decode cX8_readsLaw 1 = .ok (.bipush 98, 2) := by decide +kernel
theorem dX8_readsLaw_3 : decode cX8_readsLaw 3 = .ok (.invokevirtual 102, 3) := by decide +kernel
theorem dX8_readsLaw_6 : decode cX8_readsLaw 6 = .ok (.ifCond .eq 13, 3) := by decide +kernel
theorem dX8_readsLaw_9 : decode cX8_readsLaw 9 = .ok (.aload_n 0, 1) := by decide +kernel
theorem dX8_readsLaw_10 : decode cX8_readsLaw 10 = .ok (.iconst 4, 1) := by decide +kernel
theorem dX8_readsLaw_11 : decode cX8_readsLaw 11 = .ok (.bipush 12, 2) := by decide +kernel
theorem dX8_readsLaw_13 : decode cX8_readsLaw 13 = .ok (.invokevirtual 105, 3) := by decide +kernel
theorem dX8_readsLaw_16 : decode cX8_readsLaw 16 = .ok (.ifCond .ne 5, 3) := by decide +kernel
theorem dX8_readsLaw_19 : decode cX8_readsLaw 19 = .ok (.iconst 0, 1) := by decide +kernel
theorem dX8_readsLaw_20 : decode cX8_readsLaw 20 = .ok (.ireturn, 1) := by decide +kernel
theorem dX8_readsLaw_21 : decode cX8_readsLaw 21 = .ok (.aload_n 0, 1) := by decide +kernel
theorem dX8_readsLaw_22 : decode cX8_readsLaw 22 = .ok (.getfield 7, 3) := by decide +kernel
theorem dX8_readsLaw_25 : decode cX8_readsLaw 25 = .ok (.sipush 1053, 3) := by decide +kernel
theorem dX8_readsLaw_28 : decode cX8_readsLaw 28 = .ok (.aload_n 0, 1) := by decide +kernel
theorem dX8_readsLaw_29 : decode cX8_readsLaw 29 = .ok (.getfield 99, 3) := by decide +kernel
theorem dX8_readsLaw_32 : decode cX8_readsLaw 32 = .ok (.iastore, 1) := by decide +kernel
theorem dX8_readsLaw_33 : decode cX8_readsLaw 33 = .ok (.aload_n 0, 1) := by decide +kernel
theorem dX8_readsLaw_34 : decode cX8_readsLaw 34 = .ok (.bipush 59, 2) := by decide +kernel
theorem dX8_readsLaw_36 : decode cX8_readsLaw 36 = .ok (.invokevirtual 102, 3) := by decide +kernel
theorem dX8_readsLaw_39 : decode cX8_readsLaw 39 = .ok (.ireturn, 1) := by decide +kernel
theorem dX8_kindOfLetter_0 : decode cX8_kindOfLetter 0 = .ok (.iload_n 0, 1) := by decide +kernel
theorem dX8_kindOfLetter_1 : decode cX8_kindOfLetter 1 = .ok (.bipush 99, 2) := by decide +kernel
theorem dX8_kindOfLetter_3 : decode cX8_kindOfLetter 3 = .ok (.if_icmp .ne 7, 3) := by decide +kernel
theorem dX8_kindOfLetter_6 : decode cX8_kindOfLetter 6 = .ok (.iconst 1, 1) := by decide +kernel
theorem dX8_kindOfLetter_7 : decode cX8_kindOfLetter 7 = .ok (.goto 44, 3) := by decide +kernel
theorem dX8_kindOfLetter_10 : decode cX8_kindOfLetter 10 = .ok (.iload_n 0, 1) := by decide +kernel
theorem dX8_kindOfLetter_11 : decode cX8_kindOfLetter 11 = .ok (.bipush 115, 2) := by decide +kernel
theorem dX8_kindOfLetter_13 : decode cX8_kindOfLetter 13 = .ok (.if_icmp .ne 7, 3) := by decide +kernel
theorem dX8_kindOfLetter_16 : decode cX8_kindOfLetter 16 = .ok (.iconst 2, 1) := by decide +kernel
theorem dX8_kindOfLetter_17 : decode cX8_kindOfLetter 17 = .ok (.goto 34, 3) := by decide +kernel
theorem dX8_kindOfLetter_20 : decode cX8_kindOfLetter 20 = .ok (.iload_n 0, 1) := by decide +kernel
theorem dX8_kindOfLetter_21 : decode cX8_kindOfLetter 21 = .ok (.bipush 104, 2) := by decide +kernel
theorem dX8_kindOfLetter_23 : decode cX8_kindOfLetter 23 = .ok (.if_icmp .ne 7, 3) := by decide +kernel
theorem dX8_kindOfLetter_26 : decode cX8_kindOfLetter 26 = .ok (.iconst 3, 1) := by decide +kernel
theorem dX8_kindOfLetter_27 : decode cX8_kindOfLetter 27 = .ok (.goto 24, 3) := by decide +kernel
theorem dX8_kindOfLetter_30 : decode cX8_kindOfLetter 30 = .ok (.iload_n 0, 1) := by decide +kernel
theorem dX8_kindOfLetter_31 : decode cX8_kindOfLetter 31 = .ok (.bipush 108, 2) := by decide +kernel
theorem dX8_kindOfLetter_33 : decode cX8_kindOfLetter 33 = .ok (.if_icmp .ne 7, 3) := by decide +kernel
theorem dX8_kindOfLetter_36 : decode cX8_kindOfLetter 36 = .ok (.iconst 4, 1) := by decide +kernel
theorem dX8_kindOfLetter_37 : decode cX8_kindOfLetter 37 = .ok (.goto 14, 3) := by decide +kernel
theorem dX8_kindOfLetter_40 : decode cX8_kindOfLetter 40 = .ok (.iload_n 0, 1) := by decide +kernel
theorem dX8_kindOfLetter_41 : decode cX8_kindOfLetter 41 = .ok (.bipush 100, 2) := by decide +kernel
theorem dX8_kindOfLetter_43 : decode cX8_kindOfLetter 43 = .ok (.if_icmp .ne 7, 3) := by decide +kernel
theorem dX8_kindOfLetter_46 : decode cX8_kindOfLetter 46 = .ok (.iconst 5, 1) := by decide +kernel
theorem dX8_kindOfLetter_47 : decode cX8_kindOfLetter 47 = .ok (.goto 4, 3) := by decide +kernel
theorem dX8_kindOfLetter_50 : decode cX8_kindOfLetter 50 = .ok (.iconst 0, 1) := by decide +kernel
theorem dX8_kindOfLetter_51 : decode cX8_kindOfLetter 51 = .ok (.ireturn, 1) := by decide +kernel
theorem dX8_readsTraveller_0 : decode cX8_readsTraveller 0 = .ok (.aload_n 0, 1) := by decide +kernel
theorem dX8_readsTraveller_1 : decode cX8_readsTraveller 1 = .ok (.getfield 7, 3) := by decide +kernel
theorem dX8_readsTraveller_4 : decode cX8_readsTraveller 4 = .ok (.sipush 1054, 3) := by decide +kernel
theorem dX8_readsTraveller_7 : decode cX8_readsTraveller 7 = .ok (.iaload, 1) := by decide +kernel
theorem dX8_readsTraveller_8 : decode cX8_readsTraveller 8 = .ok (.istore_n 1, 1) := by decide +kernel
theorem dX8_readsTraveller_9 : decode cX8_readsTraveller 9 = .ok (.iload_n 1, 1) := by decide +kernel
theorem dX8_readsTraveller_10 : decode cX8_readsTraveller 10 = .ok (.bipush 6, 2) := by decide +kernel
theorem dX8_readsTraveller_12 : decode cX8_readsTraveller 12 = .ok (.if_icmp .ne 9, 3) := by decide +kernel
theorem dX8_readsTraveller_15 : decode cX8_readsTraveller 15 = .ok (.aload_n 0, 1) := by decide +kernel
theorem dX8_readsTraveller_16 : decode cX8_readsTraveller 16 = .ok (.iconst 3, 1) := by decide +kernel
theorem dX8_readsTraveller_17 : decode cX8_readsTraveller 17 = .ok (.invokevirtual 93, 3) := by decide +kernel
theorem dX8_readsTraveller_20 : decode cX8_readsTraveller 20 = .ok (.ireturn, 1) := by decide +kernel
theorem dX8_readsTraveller_21 : decode cX8_readsTraveller 21 = .ok (.aload_n 0, 1) := by decide +kernel
theorem dX8_readsTraveller_22 : decode cX8_readsTraveller 22 = .ok (.getfield 7, 3) := by decide +kernel
theorem dX8_readsTraveller_25 : decode cX8_readsTraveller 25 = .ok (.sipush 1056, 3) := by decide +kernel
theorem dX8_readsTraveller_28 : decode cX8_readsTraveller 28 = .ok (.iload_n 1, 1) := by decide +kernel
theorem dX8_readsTraveller_29 : decode cX8_readsTraveller 29 = .ok (.iadd, 1) := by decide +kernel
theorem dX8_readsTraveller_30 : decode cX8_readsTraveller 30 = .ok (.aload_n 0, 1) := by decide +kernel
theorem dX8_readsTraveller_31 : decode cX8_readsTraveller 31 = .ok (.getfield 26, 3) := by decide +kernel
theorem dX8_readsTraveller_34 : decode cX8_readsTraveller 34 = .ok (.aload_n 0, 1) := by decide +kernel
theorem dX8_readsTraveller_35 : decode cX8_readsTraveller 35 = .ok (.getfield 80, 3) := by decide +kernel
theorem dX8_readsTraveller_38 : decode cX8_readsTraveller 38 = .ok (.iaload, 1) := by decide +kernel
theorem dX8_readsTraveller_39 : decode cX8_readsTraveller 39 = .ok (.invokestatic 109, 3) := by decide +kernel
theorem dX8_readsTraveller_42 : decode cX8_readsTraveller 42 = .ok (.iastore, 1) := by decide +kernel
theorem dX8_readsTraveller_43 : decode cX8_readsTraveller 43 = .ok (.aload_n 0, 1) := by decide +kernel
theorem dX8_readsTraveller_44 : decode cX8_readsTraveller 44 = .ok (.dup, 1) := by decide +kernel
theorem dX8_readsTraveller_45 : decode cX8_readsTraveller 45 = .ok (.getfield 80, 3) := by decide +kernel
theorem dX8_readsTraveller_48 : decode cX8_readsTraveller 48 = .ok (.iconst 1, 1) := by decide +kernel
theorem dX8_readsTraveller_49 : decode cX8_readsTraveller 49 = .ok (.iadd, 1) := by decide +kernel
theorem dX8_readsTraveller_50 : decode cX8_readsTraveller 50 = .ok (.putfield 80, 3) := by decide +kernel
theorem dX8_readsTraveller_53 : decode cX8_readsTraveller 53 = .ok (.aload_n 0, 1) := by decide +kernel
theorem dX8_readsTraveller_54 : decode cX8_readsTraveller 54 = .ok (.iconst 0, 1) := by decide +kernel
theorem dX8_readsTraveller_55 : decode cX8_readsTraveller 55 = .ok (.aload_n 0, 1) := by decide +kernel
theorem dX8_readsTraveller_56 : decode cX8_readsTraveller 56 = .ok (.getfield 7, 3) := by decide +kernel
theorem dX8_readsTraveller_59 : decode cX8_readsTraveller 59 = .ok (.sipush 1053, 3) := by decide +kernel
theorem dX8_readsTraveller_62 : decode cX8_readsTraveller 62 = .ok (.iaload, 1) := by decide +kernel
theorem dX8_readsTraveller_63 : decode cX8_readsTraveller 63 = .ok (.iconst 1, 1) := by decide +kernel
theorem dX8_readsTraveller_64 : decode cX8_readsTraveller 64 = .ok (.isub, 1) := by decide +kernel
theorem dX8_readsTraveller_65 : decode cX8_readsTraveller 65 = .ok (.invokevirtual 105, 3) := by decide +kernel
theorem dX8_readsTraveller_68 : decode cX8_readsTraveller 68 = .ok (.ifCond .ne 5, 3) := by decide +kernel
theorem dX8_readsTraveller_71 : decode cX8_readsTraveller 71 = .ok (.iconst 0, 1) := by decide +kernel
theorem dX8_readsTraveller_72 : decode cX8_readsTraveller 72 = .ok (.ireturn, 1) := by decide +kernel
theorem dX8_readsTraveller_73 : decode cX8_readsTraveller 73 = .ok (.aload_n 0, 1) := by decide +kernel
theorem dX8_readsTraveller_74 : decode cX8_readsTraveller 74 = .ok (.getfield 7, 3) := by decide +kernel
theorem dX8_readsTraveller_77 : decode cX8_readsTraveller 77 = .ok (.sipush 1062, 3) := by decide +kernel
theorem dX8_readsTraveller_80 : decode cX8_readsTraveller 80 = .ok (.iload_n 1, 1) := by decide +kernel
theorem dX8_readsTraveller_81 : decode cX8_readsTraveller 81 = .ok (.iadd, 1) := by decide +kernel
theorem dX8_readsTraveller_82 : decode cX8_readsTraveller 82 = .ok (.aload_n 0, 1) := by decide +kernel
theorem dX8_readsTraveller_83 : decode cX8_readsTraveller 83 = .ok (.getfield 99, 3) := by decide +kernel
theorem dX8_readsTraveller_86 : decode cX8_readsTraveller 86 = .ok (.iastore, 1) := by decide +kernel
theorem dX8_readsTraveller_87 : decode cX8_readsTraveller 87 = .ok (.aload_n 0, 1) := by decide +kernel
theorem dX8_readsTraveller_88 : decode cX8_readsTraveller 88 = .ok (.bipush 44, 2) := by decide +kernel
theorem dX8_readsTraveller_90 : decode cX8_readsTraveller 90 = .ok (.invokevirtual 102, 3) := by decide +kernel
theorem dX8_readsTraveller_93 : decode cX8_readsTraveller 93 = .ok (.ifCond .eq 12, 3) := by decide +kernel
theorem dX8_readsTraveller_96 : decode cX8_readsTraveller 96 = .ok (.aload_n 0, 1) := by decide +kernel
theorem dX8_readsTraveller_97 : decode cX8_readsTraveller 97 = .ok (.iconst 0, 1) := by decide +kernel
theorem dX8_readsTraveller_98 : decode cX8_readsTraveller 98 = .ok (.iconst 3, 1) := by decide +kernel
theorem dX8_readsTraveller_99 : decode cX8_readsTraveller 99 = .ok (.invokevirtual 105, 3) := by decide +kernel
theorem dX8_readsTraveller_102 : decode cX8_readsTraveller 102 = .ok (.ifCond .ne 5, 3) := by decide +kernel
theorem dX8_readsTraveller_105 : decode cX8_readsTraveller 105 = .ok (.iconst 0, 1) := by decide +kernel
theorem dX8_readsTraveller_106 : decode cX8_readsTraveller 106 = .ok (.ireturn, 1) := by decide +kernel
theorem dX8_readsTraveller_107 : decode cX8_readsTraveller 107 = .ok (.aload_n 0, 1) := by decide +kernel
theorem dX8_readsTraveller_108 : decode cX8_readsTraveller 108 = .ok (.getfield 7, 3) := by decide +kernel
theorem dX8_readsTraveller_111 : decode cX8_readsTraveller 111 = .ok (.sipush 1080, 3) := by decide +kernel
theorem dX8_readsTraveller_114 : decode cX8_readsTraveller 114 = .ok (.iload_n 1, 1) := by decide +kernel
theorem dX8_readsTraveller_115 : decode cX8_readsTraveller 115 = .ok (.iadd, 1) := by decide +kernel
theorem dX8_readsTraveller_116 : decode cX8_readsTraveller 116 = .ok (.aload_n 0, 1) := by decide +kernel
theorem dX8_readsTraveller_117 : decode cX8_readsTraveller 117 = .ok (.getfield 99, 3) := by decide +kernel
theorem dX8_readsTraveller_120 : decode cX8_readsTraveller 120 = .ok (.iastore, 1) := by decide +kernel
theorem dX8_readsTraveller_121 : decode cX8_readsTraveller 121 = .ok (.aload_n 0, 1) := by decide +kernel
theorem dX8_readsTraveller_122 : decode cX8_readsTraveller 122 = .ok (.getfield 7, 3) := by decide +kernel
theorem dX8_readsTraveller_125 : decode cX8_readsTraveller 125 = .ok (.sipush 1054, 3) := by decide +kernel
theorem dX8_readsTraveller_128 : decode cX8_readsTraveller 128 = .ok (.dup2, 1) := by decide +kernel
theorem dX8_readsTraveller_129 : decode cX8_readsTraveller 129 = .ok (.iaload, 1) := by decide +kernel
theorem dX8_readsTraveller_130 : decode cX8_readsTraveller 130 = .ok (.iconst 1, 1) := by decide +kernel
theorem dX8_readsTraveller_131 : decode cX8_readsTraveller 131 = .ok (.iadd, 1) := by decide +kernel
theorem dX8_readsTraveller_132 : decode cX8_readsTraveller 132 = .ok (.iastore, 1) := by decide +kernel
theorem dX8_readsTraveller_133 : decode cX8_readsTraveller 133 = .ok (.aload_n 0, 1) := by decide +kernel
theorem dX8_readsTraveller_134 : decode cX8_readsTraveller 134 = .ok (.bipush 59, 2) := by decide +kernel
theorem dX8_readsTraveller_136 : decode cX8_readsTraveller 136 = .ok (.invokevirtual 102, 3) := by decide +kernel
theorem dX8_readsTraveller_139 : decode cX8_readsTraveller 139 = .ok (.ireturn, 1) := by decide +kernel
theorem dX8_reads_0 : decode cX8_reads 0 = .ok (.iconst 0, 1) := by decide +kernel
theorem dX8_reads_1 : decode cX8_reads 1 = .ok (.istore_n 1, 1) := by decide +kernel
theorem dX8_reads_2 : decode cX8_reads 2 = .ok (.iload_n 1, 1) := by decide +kernel
theorem dX8_reads_3 : decode cX8_reads 3 = .ok (.bipush 39, 2) := by decide +kernel
theorem dX8_reads_5 : decode cX8_reads 5 = .ok (.if_icmp .ge 50, 3) := by decide +kernel
theorem dX8_reads_8 : decode cX8_reads 8 = .ok (.aload_n 0, 1) := by decide +kernel
theorem dX8_reads_9 : decode cX8_reads 9 = .ok (.getfield 7, 3) := by decide +kernel
theorem dX8_reads_12 : decode cX8_reads 12 = .ok (.sipush 1053, 3) := by decide +kernel
theorem dX8_reads_15 : decode cX8_reads 15 = .ok (.iload_n 1, 1) := by decide +kernel
theorem dX8_reads_16 : decode cX8_reads 16 = .ok (.iadd, 1) := by decide +kernel
theorem dX8_reads_17 : decode cX8_reads 17 = .ok (.iload_n 1, 1) := by decide +kernel
theorem dX8_reads_18 : decode cX8_reads 18 = .ok (.i2l, 1) := by decide +kernel
theorem dX8_reads_19 : decode cX8_reads 19 = .ok (.ldc2_w 112, 3) := by decide +kernel
theorem dX8_reads_22 : decode cX8_reads 22 = .ok (.ldc2_w 114, 3) := by decide +kernel
theorem dX8_reads_25 : decode cX8_reads 25 = .ok (.invokestatic 48, 3) := by decide +kernel
theorem dX8_reads_28 : decode cX8_reads 28 = .ok (.ifCond .eq 8, 3) := by decide +kernel
theorem dX8_reads_31 : decode cX8_reads 31 = .ok (.ldc 116, 2) := by decide +kernel
theorem dX8_reads_33 : decode cX8_reads 33 = .ok (.goto 15, 3) := by decide +kernel
theorem dX8_reads_36 : decode cX8_reads 36 = .ok (.iload_n 1, 1) := by decide +kernel
theorem dX8_reads_37 : decode cX8_reads 37 = .ok (.bipush 33, 2) := by decide +kernel
theorem dX8_reads_39 : decode cX8_reads 39 = .ok (.if_icmp .ge 7, 3) := by decide +kernel
theorem dX8_reads_42 : decode cX8_reads 42 = .ok (.iconst 0, 1) := by decide +kernel
theorem dX8_reads_43 : decode cX8_reads 43 = .ok (.goto 5, 3) := by decide +kernel
theorem dX8_reads_46 : decode cX8_reads 46 = .ok (.bipush 20, 2) := by decide +kernel
theorem dX8_reads_48 : decode cX8_reads 48 = .ok (.iastore, 1) := by decide +kernel
theorem dX8_reads_49 : decode cX8_reads 49 = .ok (.iinc 1 1, 3) := by decide +kernel
theorem dX8_reads_52 : decode cX8_reads 52 = .ok (.goto (-50), 3) := by decide +kernel
theorem dX8_reads_55 : decode cX8_reads 55 = .ok (.aload_n 0, 1) := by decide +kernel
theorem dX8_reads_56 : decode cX8_reads 56 = .ok (.iconst 0, 1) := by decide +kernel
theorem dX8_reads_57 : decode cX8_reads 57 = .ok (.putfield 80, 3) := by decide +kernel
theorem dX8_reads_60 : decode cX8_reads 60 = .ok (.aload_n 0, 1) := by decide +kernel
theorem dX8_reads_61 : decode cX8_reads 61 = .ok (.invokevirtual 117, 3) := by decide +kernel
theorem dX8_reads_64 : decode cX8_reads 64 = .ok (.istore_n 1, 1) := by decide +kernel
theorem dX8_reads_65 : decode cX8_reads 65 = .ok (.iload_n 1, 1) := by decide +kernel
theorem dX8_reads_66 : decode cX8_reads 66 = .ok (.ifCond .eq 35, 3) := by decide +kernel
theorem dX8_reads_69 : decode cX8_reads 69 = .ok (.aload_n 0, 1) := by decide +kernel
theorem dX8_reads_70 : decode cX8_reads 70 = .ok (.getfield 80, 3) := by decide +kernel
theorem dX8_reads_73 : decode cX8_reads 73 = .ok (.aload_n 0, 1) := by decide +kernel
theorem dX8_reads_74 : decode cX8_reads 74 = .ok (.getfield 76, 3) := by decide +kernel
theorem dX8_reads_77 : decode cX8_reads 77 = .ok (.if_icmp .eq 18, 3) := by decide +kernel
theorem dX8_reads_80 : decode cX8_reads 80 = .ok (.aload_n 0, 1) := by decide +kernel
theorem dX8_reads_81 : decode cX8_reads 81 = .ok (.getfield 26, 3) := by decide +kernel
theorem dX8_reads_84 : decode cX8_reads 84 = .ok (.aload_n 0, 1) := by decide +kernel
theorem dX8_reads_85 : decode cX8_reads 85 = .ok (.getfield 80, 3) := by decide +kernel
theorem dX8_reads_88 : decode cX8_reads 88 = .ok (.iaload, 1) := by decide +kernel
theorem dX8_reads_89 : decode cX8_reads 89 = .ok (.invokestatic 109, 3) := by decide +kernel
theorem dX8_reads_92 : decode cX8_reads 92 = .ok (.ifCond .ne 9, 3) := by decide +kernel
theorem dX8_reads_95 : decode cX8_reads 95 = .ok (.aload_n 0, 1) := by decide +kernel
theorem dX8_reads_96 : decode cX8_reads 96 = .ok (.iconst 1, 1) := by decide +kernel
theorem dX8_reads_97 : decode cX8_reads 97 = .ok (.invokevirtual 93, 3) := by decide +kernel
theorem dX8_reads_100 : decode cX8_reads 100 = .ok (.ireturn, 1) := by decide +kernel
theorem dX8_reads_101 : decode cX8_reads 101 = .ok (.iload_n 1, 1) := by decide +kernel
theorem dX8_reads_102 : decode cX8_reads 102 = .ok (.ifCond .eq 37, 3) := by decide +kernel
theorem dX8_reads_105 : decode cX8_reads 105 = .ok (.aload_n 0, 1) := by decide +kernel
theorem dX8_reads_106 : decode cX8_reads 106 = .ok (.getfield 80, 3) := by decide +kernel
theorem dX8_reads_109 : decode cX8_reads 109 = .ok (.aload_n 0, 1) := by decide +kernel
theorem dX8_reads_110 : decode cX8_reads 110 = .ok (.getfield 76, 3) := by decide +kernel
theorem dX8_reads_113 : decode cX8_reads 113 = .ok (.if_icmp .ge 26, 3) := by decide +kernel
theorem dX8_reads_116 : decode cX8_reads 116 = .ok (.aload_n 0, 1) := by decide +kernel
theorem dX8_reads_117 : decode cX8_reads 117 = .ok (.getfield 26, 3) := by decide +kernel
theorem dX8_reads_120 : decode cX8_reads 120 = .ok (.aload_n 0, 1) := by decide +kernel
theorem dX8_reads_121 : decode cX8_reads 121 = .ok (.getfield 80, 3) := by decide +kernel
theorem dX8_reads_124 : decode cX8_reads 124 = .ok (.iaload, 1) := by decide +kernel
theorem dX8_reads_125 : decode cX8_reads 125 = .ok (.invokestatic 109, 3) := by decide +kernel
theorem dX8_reads_128 : decode cX8_reads 128 = .ok (.ifCond .le 11, 3) := by decide +kernel
theorem dX8_reads_131 : decode cX8_reads 131 = .ok (.aload_n 0, 1) := by decide +kernel
theorem dX8_reads_132 : decode cX8_reads 132 = .ok (.invokevirtual 121, 3) := by decide +kernel
theorem dX8_reads_135 : decode cX8_reads 135 = .ok (.istore_n 1, 1) := by decide +kernel
theorem dX8_reads_136 : decode cX8_reads 136 = .ok (.goto (-35), 3) := by decide +kernel
theorem dX8_reads_139 : decode cX8_reads 139 = .ok (.iload_n 1, 1) := by decide +kernel
theorem dX8_reads_140 : decode cX8_reads 140 = .ok (.ifCond .eq 26, 3) := by decide +kernel
theorem dX8_reads_143 : decode cX8_reads 143 = .ok (.aload_n 0, 1) := by decide +kernel
theorem dX8_reads_144 : decode cX8_reads 144 = .ok (.getfield 80, 3) := by decide +kernel
theorem dX8_reads_147 : decode cX8_reads 147 = .ok (.aload_n 0, 1) := by decide +kernel
theorem dX8_reads_148 : decode cX8_reads 148 = .ok (.getfield 76, 3) := by decide +kernel
theorem dX8_reads_151 : decode cX8_reads 151 = .ok (.if_icmp .eq 11, 3) := by decide +kernel
theorem dX8_reads_154 : decode cX8_reads 154 = .ok (.aload_n 0, 1) := by decide +kernel
theorem dX8_reads_155 : decode cX8_reads 155 = .ok (.iconst 1, 1) := by decide +kernel
theorem dX8_reads_156 : decode cX8_reads 156 = .ok (.invokevirtual 93, 3) := by decide +kernel
theorem dX8_reads_159 : decode cX8_reads 159 = .ok (.ifCond .eq 7, 3) := by decide +kernel
theorem dX8_reads_162 : decode cX8_reads 162 = .ok (.iconst 1, 1) := by decide +kernel
theorem dX8_reads_163 : decode cX8_reads 163 = .ok (.goto 4, 3) := by decide +kernel
theorem dX8_reads_166 : decode cX8_reads 166 = .ok (.iconst 0, 1) := by decide +kernel
theorem dX8_reads_167 : decode cX8_reads 167 = .ok (.ireturn, 1) := by decide +kernel
theorem dX8_hall_0 : decode cX8_hall 0 = .ok (.aload_n 0, 1) := by decide +kernel
theorem dX8_hall_1 : decode cX8_hall 1 = .ok (.invokevirtual 124, 3) := by decide +kernel
theorem dX8_hall_4 : decode cX8_hall 4 = .ok (.istore_n 1, 1) := by decide +kernel
theorem dX8_hall_5 : decode cX8_hall 5 = .ok (.aload_n 0, 1) := by decide +kernel
theorem dX8_hall_6 : decode cX8_hall 6 = .ok (.iconst 0, 1) := by decide +kernel
theorem dX8_hall_7 : decode cX8_hall 7 = .ok (.putfield 76, 3) := by decide +kernel
theorem dX8_hall_10 : decode cX8_hall 10 = .ok (.iload_n 1, 1) := by decide +kernel
theorem dX8_hall_11 : decode cX8_hall 11 = .ok (.ifCond .ne 19, 3) := by decide +kernel
theorem dX8_hall_14 : decode cX8_hall 14 = .ok (.aload_n 0, 1) := by decide +kernel
theorem dX8_hall_15 : decode cX8_hall 15 = .ok (.aload_n 0, 1) := by decide +kernel
theorem dX8_hall_16 : decode cX8_hall 16 = .ok (.getfield 87, 3) := by decide +kernel
theorem dX8_hall_19 : decode cX8_hall 19 = .ok (.putfield 127, 3) := by decide +kernel
theorem dX8_hall_22 : decode cX8_hall 22 = .ok (.ldc 130, 2) := by decide +kernel
theorem dX8_hall_24 : decode cX8_hall 24 = .ok (.aload_n 0, 1) := by decide +kernel
theorem dX8_hall_25 : decode cX8_hall 25 = .ok (.getfield 80, 3) := by decide +kernel
theorem dX8_hall_28 : decode cX8_hall 28 = .ok (.isub, 1) := by decide +kernel
theorem dX8_hall_29 : decode cX8_hall 29 = .ok (.ireturn, 1) := by decide +kernel
theorem dX8_hall_30 : decode cX8_hall 30 = .ok (.aload_n 0, 1) := by decide +kernel
theorem dX8_hall_31 : decode cX8_hall 31 = .ok (.sipush 1053, 3) := by decide +kernel
theorem dX8_hall_34 : decode cX8_hall 34 = .ok (.iconst 0, 1) := by decide +kernel
theorem dX8_hall_35 : decode cX8_hall 35 = .ok (.invokevirtual 131, 3) := by decide +kernel
theorem dX8_hall_38 : decode cX8_hall 38 = .ok (.aload_n 0, 1) := by decide +kernel
theorem dX8_hall_39 : decode cX8_hall 39 = .ok (.iconst 0, 1) := by decide +kernel
theorem dX8_hall_40 : decode cX8_hall 40 = .ok (.putfield 135, 3) := by decide +kernel
theorem dX8_hall_43 : decode cX8_hall 43 = .ok (.aload_n 0, 1) := by decide +kernel
theorem dX8_hall_44 : decode cX8_hall 44 = .ok (.getfield 7, 3) := by decide +kernel
theorem dX8_hall_47 : decode cX8_hall 47 = .ok (.iconst 1, 1) := by decide +kernel
theorem dX8_hall_48 : decode cX8_hall 48 = .ok (.iaload, 1) := by decide +kernel
theorem dX8_hall_49 : decode cX8_hall 49 = .ok (.ireturn, 1) := by decide +kernel
theorem dX8_fault_0 : decode cX8_fault 0 = .ok (.aload_n 0, 1) := by decide +kernel
theorem dX8_fault_1 : decode cX8_fault 1 = .ok (.getfield 127, 3) := by decide +kernel
theorem dX8_fault_4 : decode cX8_fault 4 = .ok (.ireturn, 1) := by decide +kernel
theorem dX8_copyHall_0 : decode cX8_copyHall 0 = .ok (.iconst 0, 1) := by decide +kernel
theorem dX8_copyHall_1 : decode cX8_copyHall 1 = .ok (.istore_n 3, 1) := by decide +kernel
theorem dX8_copyHall_2 : decode cX8_copyHall 2 = .ok (.iload_n 3, 1) := by decide +kernel
theorem dX8_copyHall_3 : decode cX8_copyHall 3 = .ok (.bipush 39, 2) := by decide +kernel
theorem dX8_copyHall_5 : decode cX8_copyHall 5 = .ok (.if_icmp .ge 25, 3) := by decide +kernel
theorem dX8_copyHall_8 : decode cX8_copyHall 8 = .ok (.aload_n 0, 1) := by decide +kernel
theorem dX8_copyHall_9 : decode cX8_copyHall 9 = .ok (.getfield 7, 3) := by decide +kernel
theorem dX8_copyHall_12 : decode cX8_copyHall 12 = .ok (.iload_n 2, 1) := by decide +kernel
theorem dX8_copyHall_13 : decode cX8_copyHall 13 = .ok (.iload_n 3, 1) := by decide +kernel
theorem dX8_copyHall_14 : decode cX8_copyHall 14 = .ok (.iadd, 1) := by decide +kernel
theorem dX8_copyHall_15 : decode cX8_copyHall 15 = .ok (.aload_n 0, 1) := by decide +kernel
theorem dX8_copyHall_16 : decode cX8_copyHall 16 = .ok (.getfield 7, 3) := by decide +kernel
theorem dX8_copyHall_19 : decode cX8_copyHall 19 = .ok (.iload_n 1, 1) := by decide +kernel
theorem dX8_copyHall_20 : decode cX8_copyHall 20 = .ok (.iload_n 3, 1) := by decide +kernel
theorem dX8_copyHall_21 : decode cX8_copyHall 21 = .ok (.iadd, 1) := by decide +kernel
theorem dX8_copyHall_22 : decode cX8_copyHall 22 = .ok (.iaload, 1) := by decide +kernel
theorem dX8_copyHall_23 : decode cX8_copyHall 23 = .ok (.iastore, 1) := by decide +kernel
theorem dX8_copyHall_24 : decode cX8_copyHall 24 = .ok (.iinc 3 1, 3) := by decide +kernel
theorem dX8_copyHall_27 : decode cX8_copyHall 27 = .ok (.goto (-25), 3) := by decide +kernel
theorem dX8_copyHall_30 : decode cX8_copyHall 30 = .ok (.return_, 1) := by decide +kernel
theorem dX8_isHall_0 : decode cX8_isHall 0 = .ok (.aload_n 0, 1) := by decide +kernel
theorem dX8_isHall_1 : decode cX8_isHall 1 = .ok (.getfield 7, 3) := by decide +kernel
theorem dX8_isHall_4 : decode cX8_isHall 4 = .ok (.iconst 0, 1) := by decide +kernel
theorem dX8_isHall_5 : decode cX8_isHall 5 = .ok (.iaload, 1) := by decide +kernel
theorem dX8_isHall_6 : decode cX8_isHall 6 = .ok (.ifCond .le 7, 3) := by decide +kernel
theorem dX8_isHall_9 : decode cX8_isHall 9 = .ok (.iconst 1, 1) := by decide +kernel
theorem dX8_isHall_10 : decode cX8_isHall 10 = .ok (.goto 4, 3) := by decide +kernel
theorem dX8_isHall_13 : decode cX8_isHall 13 = .ok (.iconst 0, 1) := by decide +kernel
theorem dX8_isHall_14 : decode cX8_isHall 14 = .ok (.ireturn, 1) := by decide +kernel
theorem dX8_isOne_0 : decode cX8_isOne 0 = .ok (.iload_n 1, 1) := by decide +kernel
theorem dX8_isOne_1 : decode cX8_isOne 1 = .ok (.i2l, 1) := by decide +kernel
theorem dX8_isOne_2 : decode cX8_isOne 2 = .ok (.lconst 0, 1) := by decide +kernel
theorem dX8_isOne_3 : decode cX8_isOne 3 = .ok (.aload_n 0, 1) := by decide +kernel
theorem dX8_isOne_4 : decode cX8_isOne 4 = .ok (.getfield 7, 3) := by decide +kernel
theorem dX8_isOne_7 : decode cX8_isOne 7 = .ok (.iconst 1, 1) := by decide +kernel
theorem dX8_isOne_8 : decode cX8_isOne 8 = .ok (.iaload, 1) := by decide +kernel
theorem dX8_isOne_9 : decode cX8_isOne 9 = .ok (.iconst 1, 1) := by decide +kernel
theorem dX8_isOne_10 : decode cX8_isOne 10 = .ok (.isub, 1) := by decide +kernel
theorem dX8_isOne_11 : decode cX8_isOne 11 = .ok (.i2l, 1) := by decide +kernel
theorem dX8_isOne_12 : decode cX8_isOne 12 = .ok (.invokestatic 48, 3) := by decide +kernel
theorem dX8_isOne_15 : decode cX8_isOne 15 = .ok (.ireturn, 1) := by decide +kernel
theorem dX8_isPlace_0 : decode cX8_isPlace 0 = .ok (.iload_n 1, 1) := by decide +kernel
theorem dX8_isPlace_1 : decode cX8_isPlace 1 = .ok (.i2l, 1) := by decide +kernel
theorem dX8_isPlace_2 : decode cX8_isPlace 2 = .ok (.lconst 0, 1) := by decide +kernel
theorem dX8_isPlace_3 : decode cX8_isPlace 3 = .ok (.aload_n 0, 1) := by decide +kernel
theorem dX8_isPlace_4 : decode cX8_isPlace 4 = .ok (.getfield 7, 3) := by decide +kernel
theorem dX8_isPlace_7 : decode cX8_isPlace 7 = .ok (.iconst 0, 1) := by decide +kernel
theorem dX8_isPlace_8 : decode cX8_isPlace 8 = .ok (.iaload, 1) := by decide +kernel
theorem dX8_isPlace_9 : decode cX8_isPlace 9 = .ok (.iconst 1, 1) := by decide +kernel
theorem dX8_isPlace_10 : decode cX8_isPlace 10 = .ok (.isub, 1) := by decide +kernel
theorem dX8_isPlace_11 : decode cX8_isPlace 11 = .ok (.i2l, 1) := by decide +kernel
theorem dX8_isPlace_12 : decode cX8_isPlace 12 = .ok (.invokestatic 48, 3) := by decide +kernel
theorem dX8_isPlace_15 : decode cX8_isPlace 15 = .ok (.ireturn, 1) := by decide +kernel
theorem dX8_waits_0 : decode cX8_waits 0 = .ok (.aload_n 0, 1) := by decide +kernel
theorem dX8_waits_1 : decode cX8_waits 1 = .ok (.getfield 7, 3) := by decide +kernel
theorem dX8_waits_4 : decode cX8_waits 4 = .ok (.iload_n 1, 1) := by decide +kernel
theorem dX8_waits_5 : decode cX8_waits 5 = .ok (.bipush 15, 2) := by decide +kernel
theorem dX8_waits_7 : decode cX8_waits 7 = .ok (.iadd, 1) := by decide +kernel
theorem dX8_waits_8 : decode cX8_waits 8 = .ok (.iload_n 2, 1) := by decide +kernel
theorem dX8_waits_9 : decode cX8_waits 9 = .ok (.iadd, 1) := by decide +kernel
theorem dX8_waits_10 : decode cX8_waits 10 = .ok (.iaload, 1) := by decide +kernel
theorem dX8_waits_11 : decode cX8_waits 11 = .ok (.ldc 116, 2) := by decide +kernel
theorem dX8_waits_13 : decode cX8_waits 13 = .ok (.if_icmp .ne 7, 3) := by decide +kernel
theorem dX8_waits_16 : decode cX8_waits 16 = .ok (.iconst 1, 1) := by decide +kernel
theorem dX8_waits_17 : decode cX8_waits 17 = .ok (.goto 4, 3) := by decide +kernel
theorem dX8_waits_20 : decode cX8_waits 20 = .ok (.iconst 0, 1) := by decide +kernel
theorem dX8_waits_21 : decode cX8_waits 21 = .ok (.ireturn, 1) := by decide +kernel
theorem dX8_bagIn_0 : decode cX8_bagIn 0 = .ok (.iconst 0, 1) := by decide +kernel
theorem dX8_bagIn_1 : decode cX8_bagIn 1 = .ok (.istore_n 3, 1) := by decide +kernel
theorem dX8_bagIn_2 : decode cX8_bagIn 2 = .ok (.iload_n 3, 1) := by decide +kernel
theorem dX8_bagIn_3 : decode cX8_bagIn 3 = .ok (.aload_n 0, 1) := by decide +kernel
theorem dX8_bagIn_4 : decode cX8_bagIn 4 = .ok (.getfield 7, 3) := by decide +kernel
theorem dX8_bagIn_7 : decode cX8_bagIn 7 = .ok (.iload_n 1, 1) := by decide +kernel
theorem dX8_bagIn_8 : decode cX8_bagIn 8 = .ok (.iconst 1, 1) := by decide +kernel
theorem dX8_bagIn_9 : decode cX8_bagIn 9 = .ok (.iadd, 1) := by decide +kernel
theorem dX8_bagIn_10 : decode cX8_bagIn 10 = .ok (.iaload, 1) := by decide +kernel
theorem dX8_bagIn_11 : decode cX8_bagIn 11 = .ok (.if_icmp .ge 26, 3) := by decide +kernel
theorem dX8_bagIn_14 : decode cX8_bagIn 14 = .ok (.aload_n 0, 1) := by decide +kernel
theorem dX8_bagIn_15 : decode cX8_bagIn 15 = .ok (.getfield 7, 3) := by decide +kernel
theorem dX8_bagIn_18 : decode cX8_bagIn 18 = .ok (.iload_n 1, 1) := by decide +kernel
theorem dX8_bagIn_19 : decode cX8_bagIn 19 = .ok (.bipush 33, 2) := by decide +kernel
theorem dX8_bagIn_21 : decode cX8_bagIn 21 = .ok (.iadd, 1) := by decide +kernel
theorem dX8_bagIn_22 : decode cX8_bagIn 22 = .ok (.iload_n 3, 1) := by decide +kernel
theorem dX8_bagIn_23 : decode cX8_bagIn 23 = .ok (.iadd, 1) := by decide +kernel
theorem dX8_bagIn_24 : decode cX8_bagIn 24 = .ok (.iaload, 1) := by decide +kernel
theorem dX8_bagIn_25 : decode cX8_bagIn 25 = .ok (.iload_n 2, 1) := by decide +kernel
theorem dX8_bagIn_26 : decode cX8_bagIn 26 = .ok (.if_icmp .ne 5, 3) := by decide +kernel
theorem dX8_bagIn_29 : decode cX8_bagIn 29 = .ok (.iload_n 3, 1) := by decide +kernel
theorem dX8_bagIn_30 : decode cX8_bagIn 30 = .ok (.ireturn, 1) := by decide +kernel
theorem dX8_bagIn_31 : decode cX8_bagIn 31 = .ok (.iinc 3 1, 3) := by decide +kernel
theorem dX8_bagIn_34 : decode cX8_bagIn 34 = .ok (.goto (-32), 3) := by decide +kernel
theorem dX8_bagIn_37 : decode cX8_bagIn 37 = .ok (.ldc 116, 2) := by decide +kernel
theorem dX8_bagIn_39 : decode cX8_bagIn 39 = .ok (.ireturn, 1) := by decide +kernel
theorem dX8_turns_0 : decode cX8_turns 0 = .ok (.iconst 0, 1) := by decide +kernel
theorem dX8_turns_1 : decode cX8_turns 1 = .ok (.istore_n 3, 1) := by decide +kernel
theorem dX8_turns_2 : decode cX8_turns 2 = .ok (.iload_n 3, 1) := by decide +kernel
theorem dX8_turns_3 : decode cX8_turns 3 = .ok (.aload_n 0, 1) := by decide +kernel
theorem dX8_turns_4 : decode cX8_turns 4 = .ok (.getfield 7, 3) := by decide +kernel
theorem dX8_turns_7 : decode cX8_turns 7 = .ok (.iload_n 1, 1) := by decide +kernel
theorem dX8_turns_8 : decode cX8_turns 8 = .ok (.iconst 1, 1) := by decide +kernel
theorem dX8_turns_9 : decode cX8_turns 9 = .ok (.iadd, 1) := by decide +kernel
theorem dX8_turns_10 : decode cX8_turns 10 = .ok (.iaload, 1) := by decide +kernel
theorem dX8_turns_11 : decode cX8_turns 11 = .ok (.if_icmp .ge 67, 3) := by decide +kernel
theorem dX8_turns_14 : decode cX8_turns 14 = .ok (.aload_n 0, 1) := by decide +kernel
theorem dX8_turns_15 : decode cX8_turns 15 = .ok (.getfield 7, 3) := by decide +kernel
theorem dX8_turns_18 : decode cX8_turns 18 = .ok (.iload_n 1, 1) := by decide +kernel
theorem dX8_turns_19 : decode cX8_turns 19 = .ok (.bipush 33, 2) := by decide +kernel
theorem dX8_turns_21 : decode cX8_turns 21 = .ok (.iadd, 1) := by decide +kernel
theorem dX8_turns_22 : decode cX8_turns 22 = .ok (.iload_n 3, 1) := by decide +kernel
theorem dX8_turns_23 : decode cX8_turns 23 = .ok (.iadd, 1) := by decide +kernel
theorem dX8_turns_24 : decode cX8_turns 24 = .ok (.iaload, 1) := by decide +kernel
theorem dX8_turns_25 : decode cX8_turns 25 = .ok (.istore 4, 2) := by decide +kernel
theorem dX8_turns_27 : decode cX8_turns 27 = .ok (.aload_n 0, 1) := by decide +kernel
theorem dX8_turns_28 : decode cX8_turns 28 = .ok (.getfield 7, 3) := by decide +kernel
theorem dX8_turns_31 : decode cX8_turns 31 = .ok (.iload_n 1, 1) := by decide +kernel
theorem dX8_turns_32 : decode cX8_turns 32 = .ok (.bipush 33, 2) := by decide +kernel
theorem dX8_turns_34 : decode cX8_turns 34 = .ok (.iadd, 1) := by decide +kernel
theorem dX8_turns_35 : decode cX8_turns 35 = .ok (.iload_n 3, 1) := by decide +kernel
theorem dX8_turns_36 : decode cX8_turns 36 = .ok (.iadd, 1) := by decide +kernel
theorem dX8_turns_37 : decode cX8_turns 37 = .ok (.iload 4, 2) := by decide +kernel
theorem dX8_turns_39 : decode cX8_turns 39 = .ok (.bipush 20, 2) := by decide +kernel
theorem dX8_turns_41 : decode cX8_turns 41 = .ok (.if_icmp .ge 28, 3) := by decide +kernel
theorem dX8_turns_44 : decode cX8_turns 44 = .ok (.iload 4, 2) := by decide +kernel
theorem dX8_turns_46 : decode cX8_turns 46 = .ok (.iload_n 2, 1) := by decide +kernel
theorem dX8_turns_47 : decode cX8_turns 47 = .ok (.iadd, 1) := by decide +kernel
theorem dX8_turns_48 : decode cX8_turns 48 = .ok (.aload_n 0, 1) := by decide +kernel
theorem dX8_turns_49 : decode cX8_turns 49 = .ok (.getfield 7, 3) := by decide +kernel
theorem dX8_turns_52 : decode cX8_turns 52 = .ok (.iload_n 1, 1) := by decide +kernel
theorem dX8_turns_53 : decode cX8_turns 53 = .ok (.iconst 0, 1) := by decide +kernel
theorem dX8_turns_54 : decode cX8_turns 54 = .ok (.iadd, 1) := by decide +kernel
theorem dX8_turns_55 : decode cX8_turns 55 = .ok (.iaload, 1) := by decide +kernel
theorem dX8_turns_56 : decode cX8_turns 56 = .ok (.iadd, 1) := by decide +kernel
theorem dX8_turns_57 : decode cX8_turns 57 = .ok (.aload_n 0, 1) := by decide +kernel
theorem dX8_turns_58 : decode cX8_turns 58 = .ok (.getfield 7, 3) := by decide +kernel
theorem dX8_turns_61 : decode cX8_turns 61 = .ok (.iload_n 1, 1) := by decide +kernel
theorem dX8_turns_62 : decode cX8_turns 62 = .ok (.iconst 0, 1) := by decide +kernel
theorem dX8_turns_63 : decode cX8_turns 63 = .ok (.iadd, 1) := by decide +kernel
theorem dX8_turns_64 : decode cX8_turns 64 = .ok (.iaload, 1) := by decide +kernel
theorem dX8_turns_65 : decode cX8_turns 65 = .ok (.irem, 1) := by decide +kernel
theorem dX8_turns_66 : decode cX8_turns 66 = .ok (.goto 5, 3) := by decide +kernel
theorem dX8_turns_69 : decode cX8_turns 69 = .ok (.iload 4, 2) := by decide +kernel
theorem dX8_turns_71 : decode cX8_turns 71 = .ok (.iastore, 1) := by decide +kernel
theorem dX8_turns_72 : decode cX8_turns 72 = .ok (.iinc 3 1, 3) := by decide +kernel
theorem dX8_turns_75 : decode cX8_turns 75 = .ok (.goto (-73), 3) := by decide +kernel
theorem dX8_turns_78 : decode cX8_turns 78 = .ok (.return_, 1) := by decide +kernel
theorem dX8_falls_0 : decode cX8_falls 0 = .ok (.aload_n 0, 1) := by decide +kernel
theorem dX8_falls_1 : decode cX8_falls 1 = .ok (.iload_n 1, 1) := by decide +kernel
theorem dX8_falls_2 : decode cX8_falls 2 = .ok (.iconst 0, 1) := by decide +kernel
theorem dX8_falls_3 : decode cX8_falls 3 = .ok (.invokevirtual 138, 3) := by decide +kernel
theorem dX8_falls_6 : decode cX8_falls 6 = .ok (.ldc 116, 2) := by decide +kernel
theorem dX8_falls_8 : decode cX8_falls 8 = .ok (.if_icmp .ne 7, 3) := by decide +kernel
theorem dX8_falls_11 : decode cX8_falls 11 = .ok (.iconst 1, 1) := by decide +kernel
theorem dX8_falls_12 : decode cX8_falls 12 = .ok (.goto 4, 3) := by decide +kernel
theorem dX8_falls_15 : decode cX8_falls 15 = .ok (.iconst 0, 1) := by decide +kernel
theorem dX8_falls_16 : decode cX8_falls 16 = .ok (.istore_n 2, 1) := by decide +kernel
theorem dX8_falls_17 : decode cX8_falls 17 = .ok (.iconst 0, 1) := by decide +kernel
theorem dX8_falls_18 : decode cX8_falls 18 = .ok (.istore_n 3, 1) := by decide +kernel
theorem dX8_falls_19 : decode cX8_falls 19 = .ok (.iload_n 3, 1) := by decide +kernel
theorem dX8_falls_20 : decode cX8_falls 20 = .ok (.aload_n 0, 1) := by decide +kernel
theorem dX8_falls_21 : decode cX8_falls 21 = .ok (.getfield 7, 3) := by decide +kernel
theorem dX8_falls_24 : decode cX8_falls 24 = .ok (.iload_n 1, 1) := by decide +kernel
theorem dX8_falls_25 : decode cX8_falls 25 = .ok (.iconst 1, 1) := by decide +kernel
theorem dX8_falls_26 : decode cX8_falls 26 = .ok (.iadd, 1) := by decide +kernel
theorem dX8_falls_27 : decode cX8_falls 27 = .ok (.iaload, 1) := by decide +kernel
theorem dX8_falls_28 : decode cX8_falls 28 = .ok (.if_icmp .ge 53, 3) := by decide +kernel
theorem dX8_falls_31 : decode cX8_falls 31 = .ok (.iload_n 2, 1) := by decide +kernel
theorem dX8_falls_32 : decode cX8_falls 32 = .ok (.ifCond .eq 49, 3) := by decide +kernel
theorem dX8_falls_35 : decode cX8_falls 35 = .ok (.aload_n 0, 1) := by decide +kernel
theorem dX8_falls_36 : decode cX8_falls 36 = .ok (.getfield 7, 3) := by decide +kernel
theorem dX8_falls_39 : decode cX8_falls 39 = .ok (.iload_n 1, 1) := by decide +kernel
theorem dX8_falls_40 : decode cX8_falls 40 = .ok (.bipush 33, 2) := by decide +kernel
theorem dX8_falls_42 : decode cX8_falls 42 = .ok (.iadd, 1) := by decide +kernel
theorem dX8_falls_43 : decode cX8_falls 43 = .ok (.aload_n 0, 1) := by decide +kernel
theorem dX8_falls_44 : decode cX8_falls 44 = .ok (.getfield 32, 3) := by decide +kernel
theorem dX8_falls_47 : decode cX8_falls 47 = .ok (.iload_n 3, 1) := by decide +kernel
theorem dX8_falls_48 : decode cX8_falls 48 = .ok (.iaload, 1) := by decide +kernel
theorem dX8_falls_49 : decode cX8_falls 49 = .ok (.iadd, 1) := by decide +kernel
theorem dX8_falls_50 : decode cX8_falls 50 = .ok (.iaload, 1) := by decide +kernel
theorem dX8_falls_51 : decode cX8_falls 51 = .ok (.bipush 20, 2) := by decide +kernel
theorem dX8_falls_53 : decode cX8_falls 53 = .ok (.if_icmp .ne 22, 3) := by decide +kernel
theorem dX8_falls_56 : decode cX8_falls 56 = .ok (.aload_n 0, 1) := by decide +kernel
theorem dX8_falls_57 : decode cX8_falls 57 = .ok (.getfield 7, 3) := by decide +kernel
theorem dX8_falls_60 : decode cX8_falls 60 = .ok (.iload_n 1, 1) := by decide +kernel
theorem dX8_falls_61 : decode cX8_falls 61 = .ok (.bipush 33, 2) := by decide +kernel
theorem dX8_falls_63 : decode cX8_falls 63 = .ok (.iadd, 1) := by decide +kernel
theorem dX8_falls_64 : decode cX8_falls 64 = .ok (.aload_n 0, 1) := by decide +kernel
theorem dX8_falls_65 : decode cX8_falls 65 = .ok (.getfield 32, 3) := by decide +kernel
theorem dX8_falls_68 : decode cX8_falls 68 = .ok (.iload_n 3, 1) := by decide +kernel
theorem dX8_falls_69 : decode cX8_falls 69 = .ok (.iaload, 1) := by decide +kernel
theorem dX8_falls_70 : decode cX8_falls 70 = .ok (.iadd, 1) := by decide +kernel
theorem dX8_falls_71 : decode cX8_falls 71 = .ok (.iconst 0, 1) := by decide +kernel
theorem dX8_falls_72 : decode cX8_falls 72 = .ok (.iastore, 1) := by decide +kernel
theorem dX8_falls_73 : decode cX8_falls 73 = .ok (.iconst 0, 1) := by decide +kernel
theorem dX8_falls_74 : decode cX8_falls 74 = .ok (.istore_n 2, 1) := by decide +kernel
theorem dX8_falls_75 : decode cX8_falls 75 = .ok (.iinc 3 1, 3) := by decide +kernel
theorem dX8_falls_78 : decode cX8_falls 78 = .ok (.goto (-59), 3) := by decide +kernel
theorem dX8_falls_81 : decode cX8_falls 81 = .ok (.return_, 1) := by decide +kernel
theorem dX8_isSeen_0 : decode cX8_isSeen 0 = .ok (.iconst 0, 1) := by decide +kernel
theorem dX8_isSeen_1 : decode cX8_isSeen 1 = .ok (.istore_n 3, 1) := by decide +kernel
theorem dX8_isSeen_2 : decode cX8_isSeen 2 = .ok (.aload_n 0, 1) := by decide +kernel
theorem dX8_isSeen_3 : decode cX8_isSeen 3 = .ok (.getfield 7, 3) := by decide +kernel
theorem dX8_isSeen_6 : decode cX8_isSeen 6 = .ok (.iload_n 1, 1) := by decide +kernel
theorem dX8_isSeen_7 : decode cX8_isSeen 7 = .ok (.iconst 0, 1) := by decide +kernel
theorem dX8_isSeen_8 : decode cX8_isSeen 8 = .ok (.iadd, 1) := by decide +kernel
theorem dX8_isSeen_9 : decode cX8_isSeen 9 = .ok (.iaload, 1) := by decide +kernel
theorem dX8_isSeen_10 : decode cX8_isSeen 10 = .ok (.istore 4, 2) := by decide +kernel
theorem dX8_isSeen_12 : decode cX8_isSeen 12 = .ok (.iconst 0, 1) := by decide +kernel
theorem dX8_isSeen_13 : decode cX8_isSeen 13 = .ok (.istore 5, 2) := by decide +kernel
theorem dX8_isSeen_15 : decode cX8_isSeen 15 = .ok (.iload 5, 2) := by decide +kernel
theorem dX8_isSeen_17 : decode cX8_isSeen 17 = .ok (.aload_n 0, 1) := by decide +kernel
theorem dX8_isSeen_18 : decode cX8_isSeen 18 = .ok (.getfield 7, 3) := by decide +kernel
theorem dX8_isSeen_21 : decode cX8_isSeen 21 = .ok (.iload_n 1, 1) := by decide +kernel
theorem dX8_isSeen_22 : decode cX8_isSeen 22 = .ok (.iconst 1, 1) := by decide +kernel
theorem dX8_isSeen_23 : decode cX8_isSeen 23 = .ok (.iadd, 1) := by decide +kernel
theorem dX8_isSeen_24 : decode cX8_isSeen 24 = .ok (.iaload, 1) := by decide +kernel
theorem dX8_isSeen_25 : decode cX8_isSeen 25 = .ok (.if_icmp .ge 82, 3) := by decide +kernel
theorem dX8_isSeen_28 : decode cX8_isSeen 28 = .ok (.aload_n 0, 1) := by decide +kernel
theorem dX8_isSeen_29 : decode cX8_isSeen 29 = .ok (.getfield 7, 3) := by decide +kernel
theorem dX8_isSeen_32 : decode cX8_isSeen 32 = .ok (.iload_n 1, 1) := by decide +kernel
theorem dX8_isSeen_33 : decode cX8_isSeen 33 = .ok (.bipush 9, 2) := by decide +kernel
theorem dX8_isSeen_35 : decode cX8_isSeen 35 = .ok (.iadd, 1) := by decide +kernel
theorem dX8_isSeen_36 : decode cX8_isSeen 36 = .ok (.iload 5, 2) := by decide +kernel
theorem dX8_isSeen_38 : decode cX8_isSeen 38 = .ok (.iadd, 1) := by decide +kernel
theorem dX8_isSeen_39 : decode cX8_isSeen 39 = .ok (.iaload, 1) := by decide +kernel
theorem dX8_isSeen_40 : decode cX8_isSeen 40 = .ok (.aload_n 0, 1) := by decide +kernel
theorem dX8_isSeen_41 : decode cX8_isSeen 41 = .ok (.getfield 7, 3) := by decide +kernel
theorem dX8_isSeen_44 : decode cX8_isSeen 44 = .ok (.iload_n 1, 1) := by decide +kernel
theorem dX8_isSeen_45 : decode cX8_isSeen 45 = .ok (.bipush 9, 2) := by decide +kernel
theorem dX8_isSeen_47 : decode cX8_isSeen 47 = .ok (.iadd, 1) := by decide +kernel
theorem dX8_isSeen_48 : decode cX8_isSeen 48 = .ok (.iload_n 2, 1) := by decide +kernel
theorem dX8_isSeen_49 : decode cX8_isSeen 49 = .ok (.iadd, 1) := by decide +kernel
theorem dX8_isSeen_50 : decode cX8_isSeen 50 = .ok (.iaload, 1) := by decide +kernel
theorem dX8_isSeen_51 : decode cX8_isSeen 51 = .ok (.isub, 1) := by decide +kernel
theorem dX8_isSeen_52 : decode cX8_isSeen 52 = .ok (.iload 4, 2) := by decide +kernel
theorem dX8_isSeen_54 : decode cX8_isSeen 54 = .ok (.iadd, 1) := by decide +kernel
theorem dX8_isSeen_55 : decode cX8_isSeen 55 = .ok (.iload 4, 2) := by decide +kernel
theorem dX8_isSeen_57 : decode cX8_isSeen 57 = .ok (.irem, 1) := by decide +kernel
theorem dX8_isSeen_58 : decode cX8_isSeen 58 = .ok (.istore 6, 2) := by decide +kernel
theorem dX8_isSeen_60 : decode cX8_isSeen 60 = .ok (.iload_n 3, 1) := by decide +kernel
theorem dX8_isSeen_61 : decode cX8_isSeen 61 = .ok (.ifCond .ne 34, 3) := by decide +kernel
theorem dX8_isSeen_64 : decode cX8_isSeen 64 = .ok (.iload 5, 2) := by decide +kernel
theorem dX8_isSeen_66 : decode cX8_isSeen 66 = .ok (.iload_n 2, 1) := by decide +kernel
theorem dX8_isSeen_67 : decode cX8_isSeen 67 = .ok (.if_icmp .eq 32, 3) := by decide +kernel
theorem dX8_isSeen_70 : decode cX8_isSeen 70 = .ok (.aload_n 0, 1) := by decide +kernel
theorem dX8_isSeen_71 : decode cX8_isSeen 71 = .ok (.iload_n 1, 1) := by decide +kernel
theorem dX8_isSeen_72 : decode cX8_isSeen 72 = .ok (.iload 5, 2) := by decide +kernel
theorem dX8_isSeen_74 : decode cX8_isSeen 74 = .ok (.invokevirtual 141, 3) := by decide +kernel
theorem dX8_isSeen_77 : decode cX8_isSeen 77 = .ok (.ifCond .eq 22, 3) := by decide +kernel
theorem dX8_isSeen_80 : decode cX8_isSeen 80 = .ok (.iload 6, 2) := by decide +kernel
theorem dX8_isSeen_82 : decode cX8_isSeen 82 = .ok (.iconst 2, 1) := by decide +kernel
theorem dX8_isSeen_83 : decode cX8_isSeen 83 = .ok (.if_icmp .lt 12, 3) := by decide +kernel
theorem dX8_isSeen_86 : decode cX8_isSeen 86 = .ok (.iload 6, 2) := by decide +kernel
theorem dX8_isSeen_88 : decode cX8_isSeen 88 = .ok (.iload 4, 2) := by decide +kernel
theorem dX8_isSeen_90 : decode cX8_isSeen 90 = .ok (.iconst 1, 1) := by decide +kernel
theorem dX8_isSeen_91 : decode cX8_isSeen 91 = .ok (.isub, 1) := by decide +kernel
theorem dX8_isSeen_92 : decode cX8_isSeen 92 = .ok (.if_icmp .ne 7, 3) := by decide +kernel
theorem dX8_isSeen_95 : decode cX8_isSeen 95 = .ok (.iconst 1, 1) := by decide +kernel
theorem dX8_isSeen_96 : decode cX8_isSeen 96 = .ok (.goto 4, 3) := by decide +kernel
theorem dX8_isSeen_99 : decode cX8_isSeen 99 = .ok (.iconst 0, 1) := by decide +kernel
theorem dX8_isSeen_100 : decode cX8_isSeen 100 = .ok (.istore_n 3, 1) := by decide +kernel
theorem dX8_isSeen_101 : decode cX8_isSeen 101 = .ok (.iinc 5 1, 3) := by decide +kernel
theorem dX8_isSeen_104 : decode cX8_isSeen 104 = .ok (.goto (-89), 3) := by decide +kernel
theorem dX8_isSeen_107 : decode cX8_isSeen 107 = .ok (.iload_n 3, 1) := by decide +kernel
theorem dX8_isSeen_108 : decode cX8_isSeen 108 = .ok (.ireturn, 1) := by decide +kernel
theorem dX8_takes_0 : decode cX8_takes 0 = .ok (.aload_n 0, 1) := by decide +kernel
theorem dX8_takes_1 : decode cX8_takes 1 = .ok (.getfield 7, 3) := by decide +kernel
theorem dX8_takes_4 : decode cX8_takes 4 = .ok (.iload_n 1, 1) := by decide +kernel
theorem dX8_takes_5 : decode cX8_takes 5 = .ok (.iconst 3, 1) := by decide +kernel
theorem dX8_takes_6 : decode cX8_takes 6 = .ok (.iadd, 1) := by decide +kernel
theorem dX8_takes_7 : decode cX8_takes 7 = .ok (.iload_n 2, 1) := by decide +kernel
theorem dX8_takes_8 : decode cX8_takes 8 = .ok (.iadd, 1) := by decide +kernel
theorem dX8_takes_9 : decode cX8_takes 9 = .ok (.iaload, 1) := by decide +kernel
theorem dX8_takes_10 : decode cX8_takes 10 = .ok (.tableswitch 118 1 4 #[30, 41, 61, 92], 30) := by decide +kernel
theorem dX8_takes_40 : decode cX8_takes 40 = .ok (.iload_n 3, 1) := by decide +kernel
theorem dX8_takes_41 : decode cX8_takes 41 = .ok (.iload_n 2, 1) := by decide +kernel
theorem dX8_takes_42 : decode cX8_takes 42 = .ok (.if_icmp .ne 7, 3) := by decide +kernel
theorem dX8_takes_45 : decode cX8_takes 45 = .ok (.iconst 1, 1) := by decide +kernel
theorem dX8_takes_46 : decode cX8_takes 46 = .ok (.goto 4, 3) := by decide +kernel
theorem dX8_takes_49 : decode cX8_takes 49 = .ok (.iconst 0, 1) := by decide +kernel
theorem dX8_takes_50 : decode cX8_takes 50 = .ok (.ireturn, 1) := by decide +kernel
theorem dX8_takes_51 : decode cX8_takes 51 = .ok (.iload_n 3, 1) := by decide +kernel
theorem dX8_takes_52 : decode cX8_takes 52 = .ok (.iload_n 2, 1) := by decide +kernel
theorem dX8_takes_53 : decode cX8_takes 53 = .ok (.if_icmp .ne 16, 3) := by decide +kernel
theorem dX8_takes_56 : decode cX8_takes 56 = .ok (.aload_n 0, 1) := by decide +kernel
theorem dX8_takes_57 : decode cX8_takes 57 = .ok (.iload_n 1, 1) := by decide +kernel
theorem dX8_takes_58 : decode cX8_takes 58 = .ok (.iload_n 2, 1) := by decide +kernel
theorem dX8_takes_59 : decode cX8_takes 59 = .ok (.invokevirtual 144, 3) := by decide +kernel
theorem dX8_takes_62 : decode cX8_takes 62 = .ok (.ifCond .ne 7, 3) := by decide +kernel
theorem dX8_takes_65 : decode cX8_takes 65 = .ok (.iconst 1, 1) := by decide +kernel
theorem dX8_takes_66 : decode cX8_takes 66 = .ok (.goto 4, 3) := by decide +kernel
theorem dX8_takes_69 : decode cX8_takes 69 = .ok (.iconst 0, 1) := by decide +kernel
theorem dX8_takes_70 : decode cX8_takes 70 = .ok (.ireturn, 1) := by decide +kernel
theorem dX8_takes_71 : decode cX8_takes 71 = .ok (.aload_n 0, 1) := by decide +kernel
theorem dX8_takes_72 : decode cX8_takes 72 = .ok (.getfield 7, 3) := by decide +kernel
theorem dX8_takes_75 : decode cX8_takes 75 = .ok (.iload_n 1, 1) := by decide +kernel
theorem dX8_takes_76 : decode cX8_takes 76 = .ok (.bipush 27, 2) := by decide +kernel
theorem dX8_takes_78 : decode cX8_takes 78 = .ok (.iadd, 1) := by decide +kernel
theorem dX8_takes_79 : decode cX8_takes 79 = .ok (.iload_n 3, 1) := by decide +kernel
theorem dX8_takes_80 : decode cX8_takes 80 = .ok (.iadd, 1) := by decide +kernel
theorem dX8_takes_81 : decode cX8_takes 81 = .ok (.iaload, 1) := by decide +kernel
theorem dX8_takes_82 : decode cX8_takes 82 = .ok (.aload_n 0, 1) := by decide +kernel
theorem dX8_takes_83 : decode cX8_takes 83 = .ok (.getfield 7, 3) := by decide +kernel
theorem dX8_takes_86 : decode cX8_takes 86 = .ok (.iload_n 1, 1) := by decide +kernel
theorem dX8_takes_87 : decode cX8_takes 87 = .ok (.bipush 27, 2) := by decide +kernel
theorem dX8_takes_89 : decode cX8_takes 89 = .ok (.iadd, 1) := by decide +kernel
theorem dX8_takes_90 : decode cX8_takes 90 = .ok (.iload_n 2, 1) := by decide +kernel
theorem dX8_takes_91 : decode cX8_takes 91 = .ok (.iadd, 1) := by decide +kernel
theorem dX8_takes_92 : decode cX8_takes 92 = .ok (.iaload, 1) := by decide +kernel
theorem dX8_takes_93 : decode cX8_takes 93 = .ok (.if_icmp .ne 7, 3) := by decide +kernel
theorem dX8_takes_96 : decode cX8_takes 96 = .ok (.iconst 1, 1) := by decide +kernel
theorem dX8_takes_97 : decode cX8_takes 97 = .ok (.goto 4, 3) := by decide +kernel
theorem dX8_takes_100 : decode cX8_takes 100 = .ok (.iconst 0, 1) := by decide +kernel
theorem dX8_takes_101 : decode cX8_takes 101 = .ok (.ireturn, 1) := by decide +kernel
theorem dX8_takes_102 : decode cX8_takes 102 = .ok (.iload_n 3, 1) := by decide +kernel
theorem dX8_takes_103 : decode cX8_takes 103 = .ok (.iload_n 2, 1) := by decide +kernel
theorem dX8_takes_104 : decode cX8_takes 104 = .ok (.if_icmp .ne 22, 3) := by decide +kernel
theorem dX8_takes_107 : decode cX8_takes 107 = .ok (.aload_n 0, 1) := by decide +kernel
theorem dX8_takes_108 : decode cX8_takes 108 = .ok (.getfield 7, 3) := by decide +kernel
theorem dX8_takes_111 : decode cX8_takes 111 = .ok (.iload_n 1, 1) := by decide +kernel
theorem dX8_takes_112 : decode cX8_takes 112 = .ok (.bipush 21, 2) := by decide +kernel
theorem dX8_takes_114 : decode cX8_takes 114 = .ok (.iadd, 1) := by decide +kernel
theorem dX8_takes_115 : decode cX8_takes 115 = .ok (.iload_n 2, 1) := by decide +kernel
theorem dX8_takes_116 : decode cX8_takes 116 = .ok (.iadd, 1) := by decide +kernel
theorem dX8_takes_117 : decode cX8_takes 117 = .ok (.iaload, 1) := by decide +kernel
theorem dX8_takes_118 : decode cX8_takes 118 = .ok (.iconst 1, 1) := by decide +kernel
theorem dX8_takes_119 : decode cX8_takes 119 = .ok (.if_icmp .le 7, 3) := by decide +kernel
theorem dX8_takes_122 : decode cX8_takes 122 = .ok (.iconst 1, 1) := by decide +kernel
theorem dX8_takes_123 : decode cX8_takes 123 = .ok (.goto 4, 3) := by decide +kernel
theorem dX8_takes_126 : decode cX8_takes 126 = .ok (.iconst 0, 1) := by decide +kernel
theorem dX8_takes_127 : decode cX8_takes 127 = .ok (.ireturn, 1) := by decide +kernel
theorem dX8_takes_128 : decode cX8_takes 128 = .ok (.iload_n 3, 1) := by decide +kernel
theorem dX8_takes_129 : decode cX8_takes 129 = .ok (.iload_n 2, 1) := by decide +kernel
theorem dX8_takes_130 : decode cX8_takes 130 = .ok (.if_icmp .ne 22, 3) := by decide +kernel
theorem dX8_takes_133 : decode cX8_takes 133 = .ok (.aload_n 0, 1) := by decide +kernel
theorem dX8_takes_134 : decode cX8_takes 134 = .ok (.getfield 7, 3) := by decide +kernel
theorem dX8_takes_137 : decode cX8_takes 137 = .ok (.iload_n 1, 1) := by decide +kernel
theorem dX8_takes_138 : decode cX8_takes 138 = .ok (.bipush 21, 2) := by decide +kernel
theorem dX8_takes_140 : decode cX8_takes 140 = .ok (.iadd, 1) := by decide +kernel
theorem dX8_takes_141 : decode cX8_takes 141 = .ok (.iload_n 2, 1) := by decide +kernel
theorem dX8_takes_142 : decode cX8_takes 142 = .ok (.iadd, 1) := by decide +kernel
theorem dX8_takes_143 : decode cX8_takes 143 = .ok (.iaload, 1) := by decide +kernel
theorem dX8_takes_144 : decode cX8_takes 144 = .ok (.iconst 2, 1) := by decide +kernel
theorem dX8_takes_145 : decode cX8_takes 145 = .ok (.if_icmp .le 7, 3) := by decide +kernel
theorem dX8_takes_148 : decode cX8_takes 148 = .ok (.iconst 1, 1) := by decide +kernel
theorem dX8_takes_149 : decode cX8_takes 149 = .ok (.goto 4, 3) := by decide +kernel
theorem dX8_takes_152 : decode cX8_takes 152 = .ok (.iconst 0, 1) := by decide +kernel
theorem dX8_takes_153 : decode cX8_takes 153 = .ok (.ireturn, 1) := by decide +kernel
theorem dX8_looks_0 : decode cX8_looks 0 = .ok (.aload_n 0, 1) := by decide +kernel
theorem dX8_looks_1 : decode cX8_looks 1 = .ok (.iload_n 1, 1) := by decide +kernel
theorem dX8_looks_2 : decode cX8_looks 2 = .ok (.aload_n 0, 1) := by decide +kernel
theorem dX8_looks_3 : decode cX8_looks 3 = .ok (.getfield 7, 3) := by decide +kernel
theorem dX8_looks_6 : decode cX8_looks 6 = .ok (.iload_n 1, 1) := by decide +kernel
theorem dX8_looks_7 : decode cX8_looks 7 = .ok (.bipush 9, 2) := by decide +kernel
theorem dX8_looks_9 : decode cX8_looks 9 = .ok (.iadd, 1) := by decide +kernel
theorem dX8_looks_10 : decode cX8_looks 10 = .ok (.iload_n 2, 1) := by decide +kernel
theorem dX8_looks_11 : decode cX8_looks 11 = .ok (.iadd, 1) := by decide +kernel
theorem dX8_looks_12 : decode cX8_looks 12 = .ok (.iaload, 1) := by decide +kernel
theorem dX8_looks_13 : decode cX8_looks 13 = .ok (.invokevirtual 138, 3) := by decide +kernel
theorem dX8_looks_16 : decode cX8_looks 16 = .ok (.istore_n 3, 1) := by decide +kernel
theorem dX8_looks_17 : decode cX8_looks 17 = .ok (.iload_n 3, 1) := by decide +kernel
theorem dX8_looks_18 : decode cX8_looks 18 = .ok (.ldc 116, 2) := by decide +kernel
theorem dX8_looks_20 : decode cX8_looks 20 = .ok (.if_icmp .eq 14, 3) := by decide +kernel
theorem dX8_looks_23 : decode cX8_looks 23 = .ok (.aload_n 0, 1) := by decide +kernel
theorem dX8_looks_24 : decode cX8_looks 24 = .ok (.getfield 147, 3) := by decide +kernel
theorem dX8_looks_27 : decode cX8_looks 27 = .ok (.iload_n 2, 1) := by decide +kernel
theorem dX8_looks_28 : decode cX8_looks 28 = .ok (.invokestatic 150, 3) := by decide +kernel
theorem dX8_looks_31 : decode cX8_looks 31 = .ok (.ifCond .eq 4, 3) := by decide +kernel
theorem dX8_looks_34 : decode cX8_looks 34 = .ok (.return_, 1) := by decide +kernel
theorem dX8_looks_35 : decode cX8_looks 35 = .ok (.aload_n 0, 1) := by decide +kernel
theorem dX8_looks_36 : decode cX8_looks 36 = .ok (.getfield 7, 3) := by decide +kernel
theorem dX8_looks_39 : decode cX8_looks 39 = .ok (.iload_n 1, 1) := by decide +kernel
theorem dX8_looks_40 : decode cX8_looks 40 = .ok (.bipush 21, 2) := by decide +kernel
theorem dX8_looks_42 : decode cX8_looks 42 = .ok (.iadd, 1) := by decide +kernel
theorem dX8_looks_43 : decode cX8_looks 43 = .ok (.iload_n 2, 1) := by decide +kernel
theorem dX8_looks_44 : decode cX8_looks 44 = .ok (.iadd, 1) := by decide +kernel
theorem dX8_looks_45 : decode cX8_looks 45 = .ok (.dup2, 1) := by decide +kernel
theorem dX8_looks_46 : decode cX8_looks 46 = .ok (.iaload, 1) := by decide +kernel
theorem dX8_looks_47 : decode cX8_looks 47 = .ok (.iload_n 3, 1) := by decide +kernel
theorem dX8_looks_48 : decode cX8_looks 48 = .ok (.iload_n 2, 1) := by decide +kernel
theorem dX8_looks_49 : decode cX8_looks 49 = .ok (.if_icmp .ne 23, 3) := by decide +kernel
theorem dX8_looks_52 : decode cX8_looks 52 = .ok (.aload_n 0, 1) := by decide +kernel
theorem dX8_looks_53 : decode cX8_looks 53 = .ok (.getfield 7, 3) := by decide +kernel
theorem dX8_looks_56 : decode cX8_looks 56 = .ok (.iload_n 1, 1) := by decide +kernel
theorem dX8_looks_57 : decode cX8_looks 57 = .ok (.bipush 21, 2) := by decide +kernel
theorem dX8_looks_59 : decode cX8_looks 59 = .ok (.iadd, 1) := by decide +kernel
theorem dX8_looks_60 : decode cX8_looks 60 = .ok (.iload_n 2, 1) := by decide +kernel
theorem dX8_looks_61 : decode cX8_looks 61 = .ok (.iadd, 1) := by decide +kernel
theorem dX8_looks_62 : decode cX8_looks 62 = .ok (.iaload, 1) := by decide +kernel
theorem dX8_looks_63 : decode cX8_looks 63 = .ok (.bipush 99, 2) := by decide +kernel
theorem dX8_looks_65 : decode cX8_looks 65 = .ok (.if_icmp .ge 7, 3) := by decide +kernel
theorem dX8_looks_68 : decode cX8_looks 68 = .ok (.iconst 1, 1) := by decide +kernel
theorem dX8_looks_69 : decode cX8_looks 69 = .ok (.goto 4, 3) := by decide +kernel
theorem dX8_looks_72 : decode cX8_looks 72 = .ok (.iconst 0, 1) := by decide +kernel
theorem dX8_looks_73 : decode cX8_looks 73 = .ok (.iadd, 1) := by decide +kernel
theorem dX8_looks_74 : decode cX8_looks 74 = .ok (.iastore, 1) := by decide +kernel
theorem dX8_looks_75 : decode cX8_looks 75 = .ok (.aload_n 0, 1) := by decide +kernel
theorem dX8_looks_76 : decode cX8_looks 76 = .ok (.iload_n 1, 1) := by decide +kernel
theorem dX8_looks_77 : decode cX8_looks 77 = .ok (.iload_n 2, 1) := by decide +kernel
theorem dX8_looks_78 : decode cX8_looks 78 = .ok (.iload_n 3, 1) := by decide +kernel
theorem dX8_looks_79 : decode cX8_looks 79 = .ok (.invokevirtual 153, 3) := by decide +kernel
theorem dX8_looks_82 : decode cX8_looks 82 = .ok (.ifCond .eq 59, 3) := by decide +kernel
theorem dX8_looks_85 : decode cX8_looks 85 = .ok (.aload_n 0, 1) := by decide +kernel
theorem dX8_looks_86 : decode cX8_looks 86 = .ok (.getfield 7, 3) := by decide +kernel
theorem dX8_looks_89 : decode cX8_looks 89 = .ok (.iload_n 1, 1) := by decide +kernel
theorem dX8_looks_90 : decode cX8_looks 90 = .ok (.bipush 15, 2) := by decide +kernel
theorem dX8_looks_92 : decode cX8_looks 92 = .ok (.iadd, 1) := by decide +kernel
theorem dX8_looks_93 : decode cX8_looks 93 = .ok (.iload_n 2, 1) := by decide +kernel
theorem dX8_looks_94 : decode cX8_looks 94 = .ok (.iadd, 1) := by decide +kernel
theorem dX8_looks_95 : decode cX8_looks 95 = .ok (.iload_n 3, 1) := by decide +kernel
theorem dX8_looks_96 : decode cX8_looks 96 = .ok (.iastore, 1) := by decide +kernel
theorem dX8_looks_97 : decode cX8_looks 97 = .ok (.aload_n 0, 1) := by decide +kernel
theorem dX8_looks_98 : decode cX8_looks 98 = .ok (.getfield 7, 3) := by decide +kernel
theorem dX8_looks_101 : decode cX8_looks 101 = .ok (.iload_n 1, 1) := by decide +kernel
theorem dX8_looks_102 : decode cX8_looks 102 = .ok (.bipush 33, 2) := by decide +kernel
theorem dX8_looks_104 : decode cX8_looks 104 = .ok (.iadd, 1) := by decide +kernel
theorem dX8_looks_105 : decode cX8_looks 105 = .ok (.iload_n 3, 1) := by decide +kernel
theorem dX8_looks_106 : decode cX8_looks 106 = .ok (.iadd, 1) := by decide +kernel
theorem dX8_looks_107 : decode cX8_looks 107 = .ok (.bipush 30, 2) := by decide +kernel
theorem dX8_looks_109 : decode cX8_looks 109 = .ok (.iload_n 2, 1) := by decide +kernel
theorem dX8_looks_110 : decode cX8_looks 110 = .ok (.iadd, 1) := by decide +kernel
theorem dX8_looks_111 : decode cX8_looks 111 = .ok (.iastore, 1) := by decide +kernel
theorem dX8_looks_112 : decode cX8_looks 112 = .ok (.aload_n 0, 1) := by decide +kernel
theorem dX8_looks_113 : decode cX8_looks 113 = .ok (.dup, 1) := by decide +kernel
theorem dX8_looks_114 : decode cX8_looks 114 = .ok (.getfield 156, 3) := by decide +kernel
theorem dX8_looks_117 : decode cX8_looks 117 = .ok (.iconst 1, 1) := by decide +kernel
theorem dX8_looks_118 : decode cX8_looks 118 = .ok (.iadd, 1) := by decide +kernel
theorem dX8_looks_119 : decode cX8_looks 119 = .ok (.putfield 156, 3) := by decide +kernel
theorem dX8_looks_122 : decode cX8_looks 122 = .ok (.aload_n 0, 1) := by decide +kernel
theorem dX8_looks_123 : decode cX8_looks 123 = .ok (.dup, 1) := by decide +kernel
theorem dX8_looks_124 : decode cX8_looks 124 = .ok (.getfield 159, 3) := by decide +kernel
theorem dX8_looks_127 : decode cX8_looks 127 = .ok (.iload_n 3, 1) := by decide +kernel
theorem dX8_looks_128 : decode cX8_looks 128 = .ok (.iload_n 2, 1) := by decide +kernel
theorem dX8_looks_129 : decode cX8_looks 129 = .ok (.if_icmp .ne 7, 3) := by decide +kernel
theorem dX8_looks_132 : decode cX8_looks 132 = .ok (.iconst 0, 1) := by decide +kernel
theorem dX8_looks_133 : decode cX8_looks 133 = .ok (.goto 4, 3) := by decide +kernel
theorem dX8_looks_136 : decode cX8_looks 136 = .ok (.iconst 1, 1) := by decide +kernel
theorem dX8_looks_137 : decode cX8_looks 137 = .ok (.iadd, 1) := by decide +kernel
theorem dX8_looks_138 : decode cX8_looks 138 = .ok (.putfield 159, 3) := by decide +kernel
theorem dX8_looks_141 : decode cX8_looks 141 = .ok (.return_, 1) := by decide +kernel
theorem dX8_ticksOf_0 : decode cX8_ticksOf 0 = .ok (.iconst 0, 1) := by decide +kernel
theorem dX8_ticksOf_1 : decode cX8_ticksOf 1 = .ok (.istore_n 3, 1) := by decide +kernel
theorem dX8_ticksOf_2 : decode cX8_ticksOf 2 = .ok (.iload_n 3, 1) := by decide +kernel
theorem dX8_ticksOf_3 : decode cX8_ticksOf 3 = .ok (.iload_n 2, 1) := by decide +kernel
theorem dX8_ticksOf_4 : decode cX8_ticksOf 4 = .ok (.if_icmp .ge 71, 3) := by decide +kernel
theorem dX8_ticksOf_7 : decode cX8_ticksOf 7 = .ok (.aload_n 0, 1) := by decide +kernel
theorem dX8_ticksOf_8 : decode cX8_ticksOf 8 = .ok (.iload_n 1, 1) := by decide +kernel
theorem dX8_ticksOf_9 : decode cX8_ticksOf 9 = .ok (.iconst 1, 1) := by decide +kernel
theorem dX8_ticksOf_10 : decode cX8_ticksOf 10 = .ok (.invokevirtual 162, 3) := by decide +kernel
theorem dX8_ticksOf_13 : decode cX8_ticksOf 13 = .ok (.aload_n 0, 1) := by decide +kernel
theorem dX8_ticksOf_14 : decode cX8_ticksOf 14 = .ok (.iload_n 1, 1) := by decide +kernel
theorem dX8_ticksOf_15 : decode cX8_ticksOf 15 = .ok (.invokevirtual 165, 3) := by decide +kernel
theorem dX8_ticksOf_18 : decode cX8_ticksOf 18 = .ok (.iconst 0, 1) := by decide +kernel
theorem dX8_ticksOf_19 : decode cX8_ticksOf 19 = .ok (.istore 4, 2) := by decide +kernel
theorem dX8_ticksOf_21 : decode cX8_ticksOf 21 = .ok (.iload 4, 2) := by decide +kernel
theorem dX8_ticksOf_23 : decode cX8_ticksOf 23 = .ok (.aload_n 0, 1) := by decide +kernel
theorem dX8_ticksOf_24 : decode cX8_ticksOf 24 = .ok (.getfield 7, 3) := by decide +kernel
theorem dX8_ticksOf_27 : decode cX8_ticksOf 27 = .ok (.iload_n 1, 1) := by decide +kernel
theorem dX8_ticksOf_28 : decode cX8_ticksOf 28 = .ok (.iconst 1, 1) := by decide +kernel
theorem dX8_ticksOf_29 : decode cX8_ticksOf 29 = .ok (.iadd, 1) := by decide +kernel
theorem dX8_ticksOf_30 : decode cX8_ticksOf 30 = .ok (.iaload, 1) := by decide +kernel
theorem dX8_ticksOf_31 : decode cX8_ticksOf 31 = .ok (.if_icmp .ge 26, 3) := by decide +kernel
theorem dX8_ticksOf_34 : decode cX8_ticksOf 34 = .ok (.aload_n 0, 1) := by decide +kernel
theorem dX8_ticksOf_35 : decode cX8_ticksOf 35 = .ok (.iload_n 1, 1) := by decide +kernel
theorem dX8_ticksOf_36 : decode cX8_ticksOf 36 = .ok (.iload 4, 2) := by decide +kernel
theorem dX8_ticksOf_38 : decode cX8_ticksOf 38 = .ok (.invokevirtual 141, 3) := by decide +kernel
theorem dX8_ticksOf_41 : decode cX8_ticksOf 41 = .ok (.ifCond .eq 10, 3) := by decide +kernel
theorem dX8_ticksOf_44 : decode cX8_ticksOf 44 = .ok (.aload_n 0, 1) := by decide +kernel
theorem dX8_ticksOf_45 : decode cX8_ticksOf 45 = .ok (.iload_n 1, 1) := by decide +kernel
theorem dX8_ticksOf_46 : decode cX8_ticksOf 46 = .ok (.iload 4, 2) := by decide +kernel
theorem dX8_ticksOf_48 : decode cX8_ticksOf 48 = .ok (.invokevirtual 169, 3) := by decide +kernel
theorem dX8_ticksOf_51 : decode cX8_ticksOf 51 = .ok (.iinc 4 1, 3) := by decide +kernel
theorem dX8_ticksOf_54 : decode cX8_ticksOf 54 = .ok (.goto (-33), 3) := by decide +kernel
theorem dX8_ticksOf_57 : decode cX8_ticksOf 57 = .ok (.aload_n 0, 1) := by decide +kernel
theorem dX8_ticksOf_58 : decode cX8_ticksOf 58 = .ok (.getfield 7, 3) := by decide +kernel
theorem dX8_ticksOf_61 : decode cX8_ticksOf 61 = .ok (.iload_n 1, 1) := by decide +kernel
theorem dX8_ticksOf_62 : decode cX8_ticksOf 62 = .ok (.iconst 2, 1) := by decide +kernel
theorem dX8_ticksOf_63 : decode cX8_ticksOf 63 = .ok (.iadd, 1) := by decide +kernel
theorem dX8_ticksOf_64 : decode cX8_ticksOf 64 = .ok (.dup2, 1) := by decide +kernel
theorem dX8_ticksOf_65 : decode cX8_ticksOf 65 = .ok (.iaload, 1) := by decide +kernel
theorem dX8_ticksOf_66 : decode cX8_ticksOf 66 = .ok (.iconst 1, 1) := by decide +kernel
theorem dX8_ticksOf_67 : decode cX8_ticksOf 67 = .ok (.iadd, 1) := by decide +kernel
theorem dX8_ticksOf_68 : decode cX8_ticksOf 68 = .ok (.iastore, 1) := by decide +kernel
theorem dX8_ticksOf_69 : decode cX8_ticksOf 69 = .ok (.iinc 3 1, 3) := by decide +kernel
theorem dX8_ticksOf_72 : decode cX8_ticksOf 72 = .ok (.goto (-70), 3) := by decide +kernel
theorem dX8_ticksOf_75 : decode cX8_ticksOf 75 = .ok (.return_, 1) := by decide +kernel
theorem dX8_comesBack_0 : decode cX8_comesBack 0 = .ok (.aload_n 0, 1) := by decide +kernel
theorem dX8_comesBack_1 : decode cX8_comesBack 1 = .ok (.getfield 7, 3) := by decide +kernel
theorem dX8_comesBack_4 : decode cX8_comesBack 4 = .ok (.iload_n 1, 1) := by decide +kernel
theorem dX8_comesBack_5 : decode cX8_comesBack 5 = .ok (.bipush 33, 2) := by decide +kernel
theorem dX8_comesBack_7 : decode cX8_comesBack 7 = .ok (.iadd, 1) := by decide +kernel
theorem dX8_comesBack_8 : decode cX8_comesBack 8 = .ok (.aload_n 0, 1) := by decide +kernel
theorem dX8_comesBack_9 : decode cX8_comesBack 9 = .ok (.getfield 7, 3) := by decide +kernel
theorem dX8_comesBack_12 : decode cX8_comesBack 12 = .ok (.iload_n 1, 1) := by decide +kernel
theorem dX8_comesBack_13 : decode cX8_comesBack 13 = .ok (.bipush 15, 2) := by decide +kernel
theorem dX8_comesBack_15 : decode cX8_comesBack 15 = .ok (.iadd, 1) := by decide +kernel
theorem dX8_comesBack_16 : decode cX8_comesBack 16 = .ok (.iload_n 2, 1) := by decide +kernel
theorem dX8_comesBack_17 : decode cX8_comesBack 17 = .ok (.iadd, 1) := by decide +kernel
theorem dX8_comesBack_18 : decode cX8_comesBack 18 = .ok (.iaload, 1) := by decide +kernel
theorem dX8_comesBack_19 : decode cX8_comesBack 19 = .ok (.iadd, 1) := by decide +kernel
theorem dX8_comesBack_20 : decode cX8_comesBack 20 = .ok (.bipush 20, 2) := by decide +kernel
theorem dX8_comesBack_22 : decode cX8_comesBack 22 = .ok (.iastore, 1) := by decide +kernel
theorem dX8_comesBack_23 : decode cX8_comesBack 23 = .ok (.aload_n 0, 1) := by decide +kernel
theorem dX8_comesBack_24 : decode cX8_comesBack 24 = .ok (.getfield 7, 3) := by decide +kernel
theorem dX8_comesBack_27 : decode cX8_comesBack 27 = .ok (.iload_n 1, 1) := by decide +kernel
theorem dX8_comesBack_28 : decode cX8_comesBack 28 = .ok (.bipush 15, 2) := by decide +kernel
theorem dX8_comesBack_30 : decode cX8_comesBack 30 = .ok (.iadd, 1) := by decide +kernel
theorem dX8_comesBack_31 : decode cX8_comesBack 31 = .ok (.iload_n 2, 1) := by decide +kernel
theorem dX8_comesBack_32 : decode cX8_comesBack 32 = .ok (.iadd, 1) := by decide +kernel
theorem dX8_comesBack_33 : decode cX8_comesBack 33 = .ok (.ldc 116, 2) := by decide +kernel
theorem dX8_comesBack_35 : decode cX8_comesBack 35 = .ok (.iastore, 1) := by decide +kernel
theorem dX8_comesBack_36 : decode cX8_comesBack 36 = .ok (.aload_n 0, 1) := by decide +kernel
theorem dX8_comesBack_37 : decode cX8_comesBack 37 = .ok (.getfield 7, 3) := by decide +kernel
theorem dX8_comesBack_40 : decode cX8_comesBack 40 = .ok (.iload_n 1, 1) := by decide +kernel
theorem dX8_comesBack_41 : decode cX8_comesBack 41 = .ok (.bipush 21, 2) := by decide +kernel
theorem dX8_comesBack_43 : decode cX8_comesBack 43 = .ok (.iadd, 1) := by decide +kernel
theorem dX8_comesBack_44 : decode cX8_comesBack 44 = .ok (.iload_n 2, 1) := by decide +kernel
theorem dX8_comesBack_45 : decode cX8_comesBack 45 = .ok (.iadd, 1) := by decide +kernel
theorem dX8_comesBack_46 : decode cX8_comesBack 46 = .ok (.iconst 0, 1) := by decide +kernel
theorem dX8_comesBack_47 : decode cX8_comesBack 47 = .ok (.iastore, 1) := by decide +kernel
theorem dX8_comesBack_48 : decode cX8_comesBack 48 = .ok (.return_, 1) := by decide +kernel
theorem dX8_goneOnes_0 : decode cX8_goneOnes 0 = .ok (.iconst 0, 1) := by decide +kernel
theorem dX8_goneOnes_1 : decode cX8_goneOnes 1 = .ok (.istore_n 2, 1) := by decide +kernel
theorem dX8_goneOnes_2 : decode cX8_goneOnes 2 = .ok (.iconst 0, 1) := by decide +kernel
theorem dX8_goneOnes_3 : decode cX8_goneOnes 3 = .ok (.istore_n 3, 1) := by decide +kernel
theorem dX8_goneOnes_4 : decode cX8_goneOnes 4 = .ok (.iload_n 3, 1) := by decide +kernel
theorem dX8_goneOnes_5 : decode cX8_goneOnes 5 = .ok (.aload_n 0, 1) := by decide +kernel
theorem dX8_goneOnes_6 : decode cX8_goneOnes 6 = .ok (.getfield 7, 3) := by decide +kernel
theorem dX8_goneOnes_9 : decode cX8_goneOnes 9 = .ok (.iload_n 1, 1) := by decide +kernel
theorem dX8_goneOnes_10 : decode cX8_goneOnes 10 = .ok (.iconst 1, 1) := by decide +kernel
theorem dX8_goneOnes_11 : decode cX8_goneOnes 11 = .ok (.iadd, 1) := by decide +kernel
theorem dX8_goneOnes_12 : decode cX8_goneOnes 12 = .ok (.iaload, 1) := by decide +kernel
theorem dX8_goneOnes_13 : decode cX8_goneOnes 13 = .ok (.if_icmp .ge 28, 3) := by decide +kernel
theorem dX8_goneOnes_16 : decode cX8_goneOnes 16 = .ok (.iload_n 2, 1) := by decide +kernel
theorem dX8_goneOnes_17 : decode cX8_goneOnes 17 = .ok (.aload_n 0, 1) := by decide +kernel
theorem dX8_goneOnes_18 : decode cX8_goneOnes 18 = .ok (.iload_n 1, 1) := by decide +kernel
theorem dX8_goneOnes_19 : decode cX8_goneOnes 19 = .ok (.iload_n 3, 1) := by decide +kernel
theorem dX8_goneOnes_20 : decode cX8_goneOnes 20 = .ok (.invokevirtual 141, 3) := by decide +kernel
theorem dX8_goneOnes_23 : decode cX8_goneOnes 23 = .ok (.ifCond .eq 7, 3) := by decide +kernel
theorem dX8_goneOnes_26 : decode cX8_goneOnes 26 = .ok (.iconst 0, 1) := by decide +kernel
theorem dX8_goneOnes_27 : decode cX8_goneOnes 27 = .ok (.goto 6, 3) := by decide +kernel
theorem dX8_goneOnes_30 : decode cX8_goneOnes 30 = .ok (.iconst 1, 1) := by decide +kernel
theorem dX8_goneOnes_31 : decode cX8_goneOnes 31 = .ok (.iload_n 3, 1) := by decide +kernel
theorem dX8_goneOnes_32 : decode cX8_goneOnes 32 = .ok (.ishl, 1) := by decide +kernel
theorem dX8_goneOnes_33 : decode cX8_goneOnes 33 = .ok (.ior, 1) := by decide +kernel
theorem dX8_goneOnes_34 : decode cX8_goneOnes 34 = .ok (.istore_n 2, 1) := by decide +kernel
theorem dX8_goneOnes_35 : decode cX8_goneOnes 35 = .ok (.iinc 3 1, 3) := by decide +kernel
theorem dX8_goneOnes_38 : decode cX8_goneOnes 38 = .ok (.goto (-34), 3) := by decide +kernel
theorem dX8_goneOnes_41 : decode cX8_goneOnes 41 = .ok (.iload_n 2, 1) := by decide +kernel
theorem dX8_goneOnes_42 : decode cX8_goneOnes 42 = .ok (.ireturn, 1) := by decide +kernel
theorem dX8_isWrong_0 : decode cX8_isWrong 0 = .ok (.aload_n 0, 1) := by decide +kernel
theorem dX8_isWrong_1 : decode cX8_isWrong 1 = .ok (.iload_n 1, 1) := by decide +kernel
theorem dX8_isWrong_2 : decode cX8_isWrong 2 = .ok (.iload_n 2, 1) := by decide +kernel
theorem dX8_isWrong_3 : decode cX8_isWrong 3 = .ok (.invokevirtual 141, 3) := by decide +kernel
theorem dX8_isWrong_6 : decode cX8_isWrong 6 = .ok (.ifCond .ne 22, 3) := by decide +kernel
theorem dX8_isWrong_9 : decode cX8_isWrong 9 = .ok (.aload_n 0, 1) := by decide +kernel
theorem dX8_isWrong_10 : decode cX8_isWrong 10 = .ok (.getfield 7, 3) := by decide +kernel
theorem dX8_isWrong_13 : decode cX8_isWrong 13 = .ok (.iload_n 1, 1) := by decide +kernel
theorem dX8_isWrong_14 : decode cX8_isWrong 14 = .ok (.bipush 15, 2) := by decide +kernel
theorem dX8_isWrong_16 : decode cX8_isWrong 16 = .ok (.iadd, 1) := by decide +kernel
theorem dX8_isWrong_17 : decode cX8_isWrong 17 = .ok (.iload_n 2, 1) := by decide +kernel
theorem dX8_isWrong_18 : decode cX8_isWrong 18 = .ok (.iadd, 1) := by decide +kernel
theorem dX8_isWrong_19 : decode cX8_isWrong 19 = .ok (.iaload, 1) := by decide +kernel
theorem dX8_isWrong_20 : decode cX8_isWrong 20 = .ok (.iload_n 2, 1) := by decide +kernel
theorem dX8_isWrong_21 : decode cX8_isWrong 21 = .ok (.if_icmp .eq 7, 3) := by decide +kernel
theorem dX8_isWrong_24 : decode cX8_isWrong 24 = .ok (.iconst 1, 1) := by decide +kernel
theorem dX8_isWrong_25 : decode cX8_isWrong 25 = .ok (.goto 4, 3) := by decide +kernel
theorem dX8_isWrong_28 : decode cX8_isWrong 28 = .ok (.iconst 0, 1) := by decide +kernel
theorem dX8_isWrong_29 : decode cX8_isWrong 29 = .ok (.ireturn, 1) := by decide +kernel
theorem dX8_isRobbed_0 : decode cX8_isRobbed 0 = .ok (.aload_n 0, 1) := by decide +kernel
theorem dX8_isRobbed_1 : decode cX8_isRobbed 1 = .ok (.iload_n 1, 1) := by decide +kernel
theorem dX8_isRobbed_2 : decode cX8_isRobbed 2 = .ok (.iload_n 2, 1) := by decide +kernel
theorem dX8_isRobbed_3 : decode cX8_isRobbed 3 = .ok (.invokevirtual 141, 3) := by decide +kernel
theorem dX8_isRobbed_6 : decode cX8_isRobbed 6 = .ok (.ifCond .eq 23, 3) := by decide +kernel
theorem dX8_isRobbed_9 : decode cX8_isRobbed 9 = .ok (.aload_n 0, 1) := by decide +kernel
theorem dX8_isRobbed_10 : decode cX8_isRobbed 10 = .ok (.getfield 7, 3) := by decide +kernel
theorem dX8_isRobbed_13 : decode cX8_isRobbed 13 = .ok (.iload_n 1, 1) := by decide +kernel
theorem dX8_isRobbed_14 : decode cX8_isRobbed 14 = .ok (.bipush 33, 2) := by decide +kernel
theorem dX8_isRobbed_16 : decode cX8_isRobbed 16 = .ok (.iadd, 1) := by decide +kernel
theorem dX8_isRobbed_17 : decode cX8_isRobbed 17 = .ok (.iload_n 2, 1) := by decide +kernel
theorem dX8_isRobbed_18 : decode cX8_isRobbed 18 = .ok (.iadd, 1) := by decide +kernel
theorem dX8_isRobbed_19 : decode cX8_isRobbed 19 = .ok (.iaload, 1) := by decide +kernel
theorem dX8_isRobbed_20 : decode cX8_isRobbed 20 = .ok (.bipush 30, 2) := by decide +kernel
theorem dX8_isRobbed_22 : decode cX8_isRobbed 22 = .ok (.if_icmp .lt 7, 3) := by decide +kernel
theorem dX8_isRobbed_25 : decode cX8_isRobbed 25 = .ok (.iconst 1, 1) := by decide +kernel
theorem dX8_isRobbed_26 : decode cX8_isRobbed 26 = .ok (.goto 4, 3) := by decide +kernel
theorem dX8_isRobbed_29 : decode cX8_isRobbed 29 = .ok (.iconst 0, 1) := by decide +kernel
theorem dX8_isRobbed_30 : decode cX8_isRobbed 30 = .ok (.ireturn, 1) := by decide +kernel
theorem dX8_wrongOnes_0 : decode cX8_wrongOnes 0 = .ok (.iconst 0, 1) := by decide +kernel
theorem dX8_wrongOnes_1 : decode cX8_wrongOnes 1 = .ok (.istore_n 2, 1) := by decide +kernel
theorem dX8_wrongOnes_2 : decode cX8_wrongOnes 2 = .ok (.iconst 0, 1) := by decide +kernel
theorem dX8_wrongOnes_3 : decode cX8_wrongOnes 3 = .ok (.istore_n 3, 1) := by decide +kernel
theorem dX8_wrongOnes_4 : decode cX8_wrongOnes 4 = .ok (.iload_n 3, 1) := by decide +kernel
theorem dX8_wrongOnes_5 : decode cX8_wrongOnes 5 = .ok (.aload_n 0, 1) := by decide +kernel
theorem dX8_wrongOnes_6 : decode cX8_wrongOnes 6 = .ok (.getfield 7, 3) := by decide +kernel
theorem dX8_wrongOnes_9 : decode cX8_wrongOnes 9 = .ok (.iload_n 1, 1) := by decide +kernel
theorem dX8_wrongOnes_10 : decode cX8_wrongOnes 10 = .ok (.iconst 1, 1) := by decide +kernel
theorem dX8_wrongOnes_11 : decode cX8_wrongOnes 11 = .ok (.iadd, 1) := by decide +kernel
theorem dX8_wrongOnes_12 : decode cX8_wrongOnes 12 = .ok (.iaload, 1) := by decide +kernel
theorem dX8_wrongOnes_13 : decode cX8_wrongOnes 13 = .ok (.if_icmp .ge 28, 3) := by decide +kernel
theorem dX8_wrongOnes_16 : decode cX8_wrongOnes 16 = .ok (.iload_n 2, 1) := by decide +kernel
theorem dX8_wrongOnes_17 : decode cX8_wrongOnes 17 = .ok (.aload_n 0, 1) := by decide +kernel
theorem dX8_wrongOnes_18 : decode cX8_wrongOnes 18 = .ok (.iload_n 1, 1) := by decide +kernel
theorem dX8_wrongOnes_19 : decode cX8_wrongOnes 19 = .ok (.iload_n 3, 1) := by decide +kernel
theorem dX8_wrongOnes_20 : decode cX8_wrongOnes 20 = .ok (.invokevirtual 172, 3) := by decide +kernel
theorem dX8_wrongOnes_23 : decode cX8_wrongOnes 23 = .ok (.ifCond .eq 9, 3) := by decide +kernel
theorem dX8_wrongOnes_26 : decode cX8_wrongOnes 26 = .ok (.iconst 1, 1) := by decide +kernel
theorem dX8_wrongOnes_27 : decode cX8_wrongOnes 27 = .ok (.iload_n 3, 1) := by decide +kernel
theorem dX8_wrongOnes_28 : decode cX8_wrongOnes 28 = .ok (.ishl, 1) := by decide +kernel
theorem dX8_wrongOnes_29 : decode cX8_wrongOnes 29 = .ok (.goto 4, 3) := by decide +kernel
theorem dX8_wrongOnes_32 : decode cX8_wrongOnes 32 = .ok (.iconst 0, 1) := by decide +kernel
theorem dX8_wrongOnes_33 : decode cX8_wrongOnes 33 = .ok (.ior, 1) := by decide +kernel
theorem dX8_wrongOnes_34 : decode cX8_wrongOnes 34 = .ok (.istore_n 2, 1) := by decide +kernel
theorem dX8_wrongOnes_35 : decode cX8_wrongOnes 35 = .ok (.iinc 3 1, 3) := by decide +kernel
theorem dX8_wrongOnes_38 : decode cX8_wrongOnes 38 = .ok (.goto (-34), 3) := by decide +kernel
theorem dX8_wrongOnes_41 : decode cX8_wrongOnes 41 = .ok (.iload_n 2, 1) := by decide +kernel
theorem dX8_wrongOnes_42 : decode cX8_wrongOnes 42 = .ok (.ireturn, 1) := by decide +kernel
theorem dX8_robbedOnes_0 : decode cX8_robbedOnes 0 = .ok (.iconst 0, 1) := by decide +kernel
theorem dX8_robbedOnes_1 : decode cX8_robbedOnes 1 = .ok (.istore_n 2, 1) := by decide +kernel
theorem dX8_robbedOnes_2 : decode cX8_robbedOnes 2 = .ok (.iconst 0, 1) := by decide +kernel
theorem dX8_robbedOnes_3 : decode cX8_robbedOnes 3 = .ok (.istore_n 3, 1) := by decide +kernel
theorem dX8_robbedOnes_4 : decode cX8_robbedOnes 4 = .ok (.iload_n 3, 1) := by decide +kernel
theorem dX8_robbedOnes_5 : decode cX8_robbedOnes 5 = .ok (.aload_n 0, 1) := by decide +kernel
theorem dX8_robbedOnes_6 : decode cX8_robbedOnes 6 = .ok (.getfield 7, 3) := by decide +kernel
theorem dX8_robbedOnes_9 : decode cX8_robbedOnes 9 = .ok (.iload_n 1, 1) := by decide +kernel
theorem dX8_robbedOnes_10 : decode cX8_robbedOnes 10 = .ok (.iconst 1, 1) := by decide +kernel
theorem dX8_robbedOnes_11 : decode cX8_robbedOnes 11 = .ok (.iadd, 1) := by decide +kernel
theorem dX8_robbedOnes_12 : decode cX8_robbedOnes 12 = .ok (.iaload, 1) := by decide +kernel
theorem dX8_robbedOnes_13 : decode cX8_robbedOnes 13 = .ok (.if_icmp .ge 28, 3) := by decide +kernel
theorem dX8_robbedOnes_16 : decode cX8_robbedOnes 16 = .ok (.iload_n 2, 1) := by decide +kernel
theorem dX8_robbedOnes_17 : decode cX8_robbedOnes 17 = .ok (.aload_n 0, 1) := by decide +kernel
theorem dX8_robbedOnes_18 : decode cX8_robbedOnes 18 = .ok (.iload_n 1, 1) := by decide +kernel
theorem dX8_robbedOnes_19 : decode cX8_robbedOnes 19 = .ok (.iload_n 3, 1) := by decide +kernel
theorem dX8_robbedOnes_20 : decode cX8_robbedOnes 20 = .ok (.invokevirtual 175, 3) := by decide +kernel
theorem dX8_robbedOnes_23 : decode cX8_robbedOnes 23 = .ok (.ifCond .eq 9, 3) := by decide +kernel
theorem dX8_robbedOnes_26 : decode cX8_robbedOnes 26 = .ok (.iconst 1, 1) := by decide +kernel
theorem dX8_robbedOnes_27 : decode cX8_robbedOnes 27 = .ok (.iload_n 3, 1) := by decide +kernel
theorem dX8_robbedOnes_28 : decode cX8_robbedOnes 28 = .ok (.ishl, 1) := by decide +kernel
theorem dX8_robbedOnes_29 : decode cX8_robbedOnes 29 = .ok (.goto 4, 3) := by decide +kernel
theorem dX8_robbedOnes_32 : decode cX8_robbedOnes 32 = .ok (.iconst 0, 1) := by decide +kernel
theorem dX8_robbedOnes_33 : decode cX8_robbedOnes 33 = .ok (.ior, 1) := by decide +kernel
theorem dX8_robbedOnes_34 : decode cX8_robbedOnes 34 = .ok (.istore_n 2, 1) := by decide +kernel
theorem dX8_robbedOnes_35 : decode cX8_robbedOnes 35 = .ok (.iinc 3 1, 3) := by decide +kernel
theorem dX8_robbedOnes_38 : decode cX8_robbedOnes 38 = .ok (.goto (-34), 3) := by decide +kernel
theorem dX8_robbedOnes_41 : decode cX8_robbedOnes 41 = .ok (.iload_n 2, 1) := by decide +kernel
theorem dX8_robbedOnes_42 : decode cX8_robbedOnes 42 = .ok (.ireturn, 1) := by decide +kernel
theorem dX8_allSaw_0 : decode cX8_allSaw 0 = .ok (.iconst 0, 1) := by decide +kernel
theorem dX8_allSaw_1 : decode cX8_allSaw 1 = .ok (.istore_n 2, 1) := by decide +kernel
theorem dX8_allSaw_2 : decode cX8_allSaw 2 = .ok (.iconst 0, 1) := by decide +kernel
theorem dX8_allSaw_3 : decode cX8_allSaw 3 = .ok (.istore_n 3, 1) := by decide +kernel
theorem dX8_allSaw_4 : decode cX8_allSaw 4 = .ok (.iload_n 3, 1) := by decide +kernel
theorem dX8_allSaw_5 : decode cX8_allSaw 5 = .ok (.aload_n 0, 1) := by decide +kernel
theorem dX8_allSaw_6 : decode cX8_allSaw 6 = .ok (.getfield 7, 3) := by decide +kernel
theorem dX8_allSaw_9 : decode cX8_allSaw 9 = .ok (.iload_n 1, 1) := by decide +kernel
theorem dX8_allSaw_10 : decode cX8_allSaw 10 = .ok (.iconst 1, 1) := by decide +kernel
theorem dX8_allSaw_11 : decode cX8_allSaw 11 = .ok (.iadd, 1) := by decide +kernel
theorem dX8_allSaw_12 : decode cX8_allSaw 12 = .ok (.iaload, 1) := by decide +kernel
theorem dX8_allSaw_13 : decode cX8_allSaw 13 = .ok (.if_icmp .ge 23, 3) := by decide +kernel
theorem dX8_allSaw_16 : decode cX8_allSaw 16 = .ok (.iload_n 2, 1) := by decide +kernel
theorem dX8_allSaw_17 : decode cX8_allSaw 17 = .ok (.aload_n 0, 1) := by decide +kernel
theorem dX8_allSaw_18 : decode cX8_allSaw 18 = .ok (.getfield 7, 3) := by decide +kernel
theorem dX8_allSaw_21 : decode cX8_allSaw 21 = .ok (.iload_n 1, 1) := by decide +kernel
theorem dX8_allSaw_22 : decode cX8_allSaw 22 = .ok (.bipush 21, 2) := by decide +kernel
theorem dX8_allSaw_24 : decode cX8_allSaw 24 = .ok (.iadd, 1) := by decide +kernel
theorem dX8_allSaw_25 : decode cX8_allSaw 25 = .ok (.iload_n 3, 1) := by decide +kernel
theorem dX8_allSaw_26 : decode cX8_allSaw 26 = .ok (.iadd, 1) := by decide +kernel
theorem dX8_allSaw_27 : decode cX8_allSaw 27 = .ok (.iaload, 1) := by decide +kernel
theorem dX8_allSaw_28 : decode cX8_allSaw 28 = .ok (.iadd, 1) := by decide +kernel
theorem dX8_allSaw_29 : decode cX8_allSaw 29 = .ok (.istore_n 2, 1) := by decide +kernel
theorem dX8_allSaw_30 : decode cX8_allSaw 30 = .ok (.iinc 3 1, 3) := by decide +kernel
theorem dX8_allSaw_33 : decode cX8_allSaw 33 = .ok (.goto (-29), 3) := by decide +kernel
theorem dX8_allSaw_36 : decode cX8_allSaw 36 = .ok (.iload_n 2, 1) := by decide +kernel
theorem dX8_allSaw_37 : decode cX8_allSaw 37 = .ok (.ireturn, 1) := by decide +kernel
theorem dX8_keepPast_0 : decode cX8_keepPast 0 = .ok (.iconst 0, 1) := by decide +kernel
theorem dX8_keepPast_1 : decode cX8_keepPast 1 = .ok (.istore_n 1, 1) := by decide +kernel
theorem dX8_keepPast_2 : decode cX8_keepPast 2 = .ok (.iload_n 1, 1) := by decide +kernel
theorem dX8_keepPast_3 : decode cX8_keepPast 3 = .ok (.sipush 897, 3) := by decide +kernel
theorem dX8_keepPast_6 : decode cX8_keepPast 6 = .ok (.if_icmp .ge 36, 3) := by decide +kernel
theorem dX8_keepPast_9 : decode cX8_keepPast 9 = .ok (.aload_n 0, 1) := by decide +kernel
theorem dX8_keepPast_10 : decode cX8_keepPast 10 = .ok (.getfield 135, 3) := by decide +kernel
theorem dX8_keepPast_13 : decode cX8_keepPast 13 = .ok (.bipush 24, 2) := by decide +kernel
theorem dX8_keepPast_15 : decode cX8_keepPast 15 = .ok (.if_icmp .ne 27, 3) := by decide +kernel
theorem dX8_keepPast_18 : decode cX8_keepPast 18 = .ok (.aload_n 0, 1) := by decide +kernel
theorem dX8_keepPast_19 : decode cX8_keepPast 19 = .ok (.getfield 7, 3) := by decide +kernel
theorem dX8_keepPast_22 : decode cX8_keepPast 22 = .ok (.bipush 39, 2) := by decide +kernel
theorem dX8_keepPast_24 : decode cX8_keepPast 24 = .ok (.iload_n 1, 1) := by decide +kernel
theorem dX8_keepPast_25 : decode cX8_keepPast 25 = .ok (.iadd, 1) := by decide +kernel
theorem dX8_keepPast_26 : decode cX8_keepPast 26 = .ok (.aload_n 0, 1) := by decide +kernel
theorem dX8_keepPast_27 : decode cX8_keepPast 27 = .ok (.getfield 7, 3) := by decide +kernel
theorem dX8_keepPast_30 : decode cX8_keepPast 30 = .ok (.bipush 78, 2) := by decide +kernel
theorem dX8_keepPast_32 : decode cX8_keepPast 32 = .ok (.iload_n 1, 1) := by decide +kernel
theorem dX8_keepPast_33 : decode cX8_keepPast 33 = .ok (.iadd, 1) := by decide +kernel
theorem dX8_keepPast_34 : decode cX8_keepPast 34 = .ok (.iaload, 1) := by decide +kernel
theorem dX8_keepPast_35 : decode cX8_keepPast 35 = .ok (.iastore, 1) := by decide +kernel
theorem dX8_keepPast_36 : decode cX8_keepPast 36 = .ok (.iinc 1 1, 3) := by decide +kernel
theorem dX8_keepPast_39 : decode cX8_keepPast 39 = .ok (.goto (-37), 3) := by decide +kernel
theorem dX8_keepPast_42 : decode cX8_keepPast 42 = .ok (.aload_n 0, 1) := by decide +kernel
theorem dX8_keepPast_43 : decode cX8_keepPast 43 = .ok (.dup, 1) := by decide +kernel
theorem dX8_keepPast_44 : decode cX8_keepPast 44 = .ok (.getfield 135, 3) := by decide +kernel
theorem dX8_keepPast_47 : decode cX8_keepPast 47 = .ok (.aload_n 0, 1) := by decide +kernel
theorem dX8_keepPast_48 : decode cX8_keepPast 48 = .ok (.getfield 135, 3) := by decide +kernel
theorem dX8_keepPast_51 : decode cX8_keepPast 51 = .ok (.bipush 24, 2) := by decide +kernel
theorem dX8_keepPast_53 : decode cX8_keepPast 53 = .ok (.if_icmp .ne 7, 3) := by decide +kernel
theorem dX8_keepPast_56 : decode cX8_keepPast 56 = .ok (.iconst 1, 1) := by decide +kernel
theorem dX8_keepPast_57 : decode cX8_keepPast 57 = .ok (.goto 4, 3) := by decide +kernel
theorem dX8_keepPast_60 : decode cX8_keepPast 60 = .ok (.iconst 0, 1) := by decide +kernel
theorem dX8_keepPast_61 : decode cX8_keepPast 61 = .ok (.isub, 1) := by decide +kernel
theorem dX8_keepPast_62 : decode cX8_keepPast 62 = .ok (.putfield 135, 3) := by decide +kernel
theorem dX8_keepPast_65 : decode cX8_keepPast 65 = .ok (.aload_n 0, 1) := by decide +kernel
theorem dX8_keepPast_66 : decode cX8_keepPast 66 = .ok (.iconst 0, 1) := by decide +kernel
theorem dX8_keepPast_67 : decode cX8_keepPast 67 = .ok (.bipush 39, 2) := by decide +kernel
theorem dX8_keepPast_69 : decode cX8_keepPast 69 = .ok (.bipush 39, 2) := by decide +kernel
theorem dX8_keepPast_71 : decode cX8_keepPast 71 = .ok (.aload_n 0, 1) := by decide +kernel
theorem dX8_keepPast_72 : decode cX8_keepPast 72 = .ok (.getfield 135, 3) := by decide +kernel
theorem dX8_keepPast_75 : decode cX8_keepPast 75 = .ok (.imul, 1) := by decide +kernel
theorem dX8_keepPast_76 : decode cX8_keepPast 76 = .ok (.iadd, 1) := by decide +kernel
theorem dX8_keepPast_77 : decode cX8_keepPast 77 = .ok (.invokevirtual 131, 3) := by decide +kernel
theorem dX8_keepPast_80 : decode cX8_keepPast 80 = .ok (.aload_n 0, 1) := by decide +kernel
theorem dX8_keepPast_81 : decode cX8_keepPast 81 = .ok (.dup, 1) := by decide +kernel
theorem dX8_keepPast_82 : decode cX8_keepPast 82 = .ok (.getfield 135, 3) := by decide +kernel
theorem dX8_keepPast_85 : decode cX8_keepPast 85 = .ok (.iconst 1, 1) := by decide +kernel
theorem dX8_keepPast_86 : decode cX8_keepPast 86 = .ok (.iadd, 1) := by decide +kernel
theorem dX8_keepPast_87 : decode cX8_keepPast 87 = .ok (.putfield 135, 3) := by decide +kernel
theorem dX8_keepPast_90 : decode cX8_keepPast 90 = .ok (.return_, 1) := by decide +kernel
theorem dX8_undo_0 : decode cX8_undo 0 = .ok (.aload_n 0, 1) := by decide +kernel
theorem dX8_undo_1 : decode cX8_undo 1 = .ok (.getfield 135, 3) := by decide +kernel
theorem dX8_undo_4 : decode cX8_undo 4 = .ok (.ifCond .ne 6, 3) := by decide +kernel
theorem dX8_undo_7 : decode cX8_undo 7 = .ok (.ldc 178, 2) := by decide +kernel
theorem dX8_undo_9 : decode cX8_undo 9 = .ok (.ireturn, 1) := by decide +kernel
theorem dX8_undo_10 : decode cX8_undo 10 = .ok (.aload_n 0, 1) := by decide +kernel
theorem dX8_undo_11 : decode cX8_undo 11 = .ok (.dup, 1) := by decide +kernel
theorem dX8_undo_12 : decode cX8_undo 12 = .ok (.getfield 135, 3) := by decide +kernel
theorem dX8_undo_15 : decode cX8_undo 15 = .ok (.iconst 1, 1) := by decide +kernel
theorem dX8_undo_16 : decode cX8_undo 16 = .ok (.isub, 1) := by decide +kernel
theorem dX8_undo_17 : decode cX8_undo 17 = .ok (.putfield 135, 3) := by decide +kernel
theorem dX8_undo_20 : decode cX8_undo 20 = .ok (.aload_n 0, 1) := by decide +kernel
theorem dX8_undo_21 : decode cX8_undo 21 = .ok (.bipush 39, 2) := by decide +kernel
theorem dX8_undo_23 : decode cX8_undo 23 = .ok (.bipush 39, 2) := by decide +kernel
theorem dX8_undo_25 : decode cX8_undo 25 = .ok (.aload_n 0, 1) := by decide +kernel
theorem dX8_undo_26 : decode cX8_undo 26 = .ok (.getfield 135, 3) := by decide +kernel
theorem dX8_undo_29 : decode cX8_undo 29 = .ok (.imul, 1) := by decide +kernel
theorem dX8_undo_30 : decode cX8_undo 30 = .ok (.iadd, 1) := by decide +kernel
theorem dX8_undo_31 : decode cX8_undo 31 = .ok (.iconst 0, 1) := by decide +kernel
theorem dX8_undo_32 : decode cX8_undo 32 = .ok (.invokevirtual 131, 3) := by decide +kernel
theorem dX8_undo_35 : decode cX8_undo 35 = .ok (.aload_n 0, 1) := by decide +kernel
theorem dX8_undo_36 : decode cX8_undo 36 = .ok (.getfield 135, 3) := by decide +kernel
theorem dX8_undo_39 : decode cX8_undo 39 = .ok (.ireturn, 1) := by decide +kernel
theorem dX8_ticks_0 : decode cX8_ticks 0 = .ok (.aload_n 0, 1) := by decide +kernel
theorem dX8_ticks_1 : decode cX8_ticks 1 = .ok (.invokevirtual 179, 3) := by decide +kernel
theorem dX8_ticks_4 : decode cX8_ticks 4 = .ok (.ifCond .ne 6, 3) := by decide +kernel
theorem dX8_ticks_7 : decode cX8_ticks 7 = .ok (.ldc 178, 2) := by decide +kernel
theorem dX8_ticks_9 : decode cX8_ticks 9 = .ok (.ireturn, 1) := by decide +kernel
theorem dX8_ticks_10 : decode cX8_ticks 10 = .ok (.iload_n 1, 1) := by decide +kernel
theorem dX8_ticks_11 : decode cX8_ticks 11 = .ok (.i2l, 1) := by decide +kernel
theorem dX8_ticks_12 : decode cX8_ticks 12 = .ok (.lconst 1, 1) := by decide +kernel
theorem dX8_ticks_13 : decode cX8_ticks 13 = .ok (.ldc2_w 182, 3) := by decide +kernel
theorem dX8_ticks_16 : decode cX8_ticks 16 = .ok (.invokestatic 48, 3) := by decide +kernel
theorem dX8_ticks_19 : decode cX8_ticks 19 = .ok (.ifCond .ne 6, 3) := by decide +kernel
theorem dX8_ticks_22 : decode cX8_ticks 22 = .ok (.ldc 58, 2) := by decide +kernel
theorem dX8_ticks_24 : decode cX8_ticks 24 = .ok (.ireturn, 1) := by decide +kernel
theorem dX8_ticks_25 : decode cX8_ticks 25 = .ok (.aload_n 0, 1) := by decide +kernel
theorem dX8_ticks_26 : decode cX8_ticks 26 = .ok (.getfield 7, 3) := by decide +kernel
theorem dX8_ticks_29 : decode cX8_ticks 29 = .ok (.iconst 2, 1) := by decide +kernel
theorem dX8_ticks_30 : decode cX8_ticks 30 = .ok (.iaload, 1) := by decide +kernel
theorem dX8_ticks_31 : decode cX8_ticks 31 = .ok (.iload_n 1, 1) := by decide +kernel
theorem dX8_ticks_32 : decode cX8_ticks 32 = .ok (.iadd, 1) := by decide +kernel
theorem dX8_ticks_33 : decode cX8_ticks 33 = .ok (.sipush 999, 3) := by decide +kernel
theorem dX8_ticks_36 : decode cX8_ticks 36 = .ok (.if_icmp .le 6, 3) := by decide +kernel
theorem dX8_ticks_39 : decode cX8_ticks 39 = .ok (.ldc 79, 2) := by decide +kernel
theorem dX8_ticks_41 : decode cX8_ticks 41 = .ok (.ireturn, 1) := by decide +kernel
theorem dX8_ticks_42 : decode cX8_ticks 42 = .ok (.iconst 0, 1) := by decide +kernel
theorem dX8_ticks_43 : decode cX8_ticks 43 = .ok (.istore_n 2, 1) := by decide +kernel
theorem dX8_ticks_44 : decode cX8_ticks 44 = .ok (.iload_n 2, 1) := by decide +kernel
theorem dX8_ticks_45 : decode cX8_ticks 45 = .ok (.iload_n 1, 1) := by decide +kernel
theorem dX8_ticks_46 : decode cX8_ticks 46 = .ok (.if_icmp .ge 19, 3) := by decide +kernel
theorem dX8_ticks_49 : decode cX8_ticks 49 = .ok (.aload_n 0, 1) := by decide +kernel
theorem dX8_ticks_50 : decode cX8_ticks 50 = .ok (.invokevirtual 184, 3) := by decide +kernel
theorem dX8_ticks_53 : decode cX8_ticks 53 = .ok (.aload_n 0, 1) := by decide +kernel
theorem dX8_ticks_54 : decode cX8_ticks 54 = .ok (.iconst 0, 1) := by decide +kernel
theorem dX8_ticks_55 : decode cX8_ticks 55 = .ok (.iconst 1, 1) := by decide +kernel
theorem dX8_ticks_56 : decode cX8_ticks 56 = .ok (.invokevirtual 187, 3) := by decide +kernel
theorem dX8_ticks_59 : decode cX8_ticks 59 = .ok (.iinc 2 1, 3) := by decide +kernel
theorem dX8_ticks_62 : decode cX8_ticks 62 = .ok (.goto (-18), 3) := by decide +kernel
theorem dX8_ticks_65 : decode cX8_ticks 65 = .ok (.aload_n 0, 1) := by decide +kernel
theorem dX8_ticks_66 : decode cX8_ticks 66 = .ok (.iconst 0, 1) := by decide +kernel
theorem dX8_ticks_67 : decode cX8_ticks 67 = .ok (.invokevirtual 190, 3) := by decide +kernel
theorem dX8_ticks_70 : decode cX8_ticks 70 = .ok (.ireturn, 1) := by decide +kernel
theorem dX8_move_0 : decode cX8_move 0 = .ok (.aload_n 0, 1) := by decide +kernel
theorem dX8_move_1 : decode cX8_move 1 = .ok (.iload_n 1, 1) := by decide +kernel
theorem dX8_move_2 : decode cX8_move 2 = .ok (.invokevirtual 193, 3) := by decide +kernel
theorem dX8_move_5 : decode cX8_move 5 = .ok (.ifCond .eq 11, 3) := by decide +kernel
theorem dX8_move_8 : decode cX8_move 8 = .ok (.aload_n 0, 1) := by decide +kernel
theorem dX8_move_9 : decode cX8_move 9 = .ok (.iload_n 2, 1) := by decide +kernel
theorem dX8_move_10 : decode cX8_move 10 = .ok (.invokevirtual 196, 3) := by decide +kernel
theorem dX8_move_13 : decode cX8_move 13 = .ok (.ifCond .ne 6, 3) := by decide +kernel
theorem dX8_move_16 : decode cX8_move 16 = .ok (.ldc 58, 2) := by decide +kernel
theorem dX8_move_18 : decode cX8_move 18 = .ok (.ireturn, 1) := by decide +kernel
theorem dX8_move_19 : decode cX8_move 19 = .ok (.aload_n 0, 1) := by decide +kernel
theorem dX8_move_20 : decode cX8_move 20 = .ok (.getfield 7, 3) := by decide +kernel
theorem dX8_move_23 : decode cX8_move 23 = .ok (.bipush 9, 2) := by decide +kernel
theorem dX8_move_25 : decode cX8_move 25 = .ok (.iload_n 1, 1) := by decide +kernel
theorem dX8_move_26 : decode cX8_move 26 = .ok (.iadd, 1) := by decide +kernel
theorem dX8_move_27 : decode cX8_move 27 = .ok (.iaload, 1) := by decide +kernel
theorem dX8_move_28 : decode cX8_move 28 = .ok (.istore_n 3, 1) := by decide +kernel
theorem dX8_move_29 : decode cX8_move 29 = .ok (.aload_n 0, 1) := by decide +kernel
theorem dX8_move_30 : decode cX8_move 30 = .ok (.iconst 0, 1) := by decide +kernel
theorem dX8_move_31 : decode cX8_move 31 = .ok (.iload_n 1, 1) := by decide +kernel
theorem dX8_move_32 : decode cX8_move 32 = .ok (.invokevirtual 141, 3) := by decide +kernel
theorem dX8_move_35 : decode cX8_move 35 = .ok (.ifCond .eq 8, 3) := by decide +kernel
theorem dX8_move_38 : decode cX8_move 38 = .ok (.iload_n 3, 1) := by decide +kernel
theorem dX8_move_39 : decode cX8_move 39 = .ok (.iload_n 2, 1) := by decide +kernel
theorem dX8_move_40 : decode cX8_move 40 = .ok (.if_icmp .ne 6, 3) := by decide +kernel
theorem dX8_move_43 : decode cX8_move 43 = .ok (.ldc 178, 2) := by decide +kernel
theorem dX8_move_45 : decode cX8_move 45 = .ok (.ireturn, 1) := by decide +kernel
theorem dX8_move_46 : decode cX8_move 46 = .ok (.aload_n 0, 1) := by decide +kernel
theorem dX8_move_47 : decode cX8_move 47 = .ok (.invokevirtual 184, 3) := by decide +kernel
theorem dX8_move_50 : decode cX8_move 50 = .ok (.aload_n 0, 1) := by decide +kernel
theorem dX8_move_51 : decode cX8_move 51 = .ok (.getfield 7, 3) := by decide +kernel
theorem dX8_move_54 : decode cX8_move 54 = .ok (.bipush 9, 2) := by decide +kernel
theorem dX8_move_56 : decode cX8_move 56 = .ok (.iload_n 1, 1) := by decide +kernel
theorem dX8_move_57 : decode cX8_move 57 = .ok (.iadd, 1) := by decide +kernel
theorem dX8_move_58 : decode cX8_move 58 = .ok (.iload_n 2, 1) := by decide +kernel
theorem dX8_move_59 : decode cX8_move 59 = .ok (.iastore, 1) := by decide +kernel
theorem dX8_move_60 : decode cX8_move 60 = .ok (.iload_n 3, 1) := by decide +kernel
theorem dX8_move_61 : decode cX8_move 61 = .ok (.ireturn, 1) := by decide +kernel
theorem dX8_paint_0 : decode cX8_paint 0 = .ok (.aload_n 0, 1) := by decide +kernel
theorem dX8_paint_1 : decode cX8_paint 1 = .ok (.iload_n 1, 1) := by decide +kernel
theorem dX8_paint_2 : decode cX8_paint 2 = .ok (.invokevirtual 193, 3) := by decide +kernel
theorem dX8_paint_5 : decode cX8_paint 5 = .ok (.ifCond .eq 15, 3) := by decide +kernel
theorem dX8_paint_8 : decode cX8_paint 8 = .ok (.iload_n 2, 1) := by decide +kernel
theorem dX8_paint_9 : decode cX8_paint 9 = .ok (.i2l, 1) := by decide +kernel
theorem dX8_paint_10 : decode cX8_paint 10 = .ok (.lconst 0, 1) := by decide +kernel
theorem dX8_paint_11 : decode cX8_paint 11 = .ok (.ldc2_w 199, 3) := by decide +kernel
theorem dX8_paint_14 : decode cX8_paint 14 = .ok (.invokestatic 48, 3) := by decide +kernel
theorem dX8_paint_17 : decode cX8_paint 17 = .ok (.ifCond .ne 6, 3) := by decide +kernel
theorem dX8_paint_20 : decode cX8_paint 20 = .ok (.ldc 58, 2) := by decide +kernel
theorem dX8_paint_22 : decode cX8_paint 22 = .ok (.ireturn, 1) := by decide +kernel
theorem dX8_paint_23 : decode cX8_paint 23 = .ok (.aload_n 0, 1) := by decide +kernel
theorem dX8_paint_24 : decode cX8_paint 24 = .ok (.invokevirtual 184, 3) := by decide +kernel
theorem dX8_paint_27 : decode cX8_paint 27 = .ok (.aload_n 0, 1) := by decide +kernel
theorem dX8_paint_28 : decode cX8_paint 28 = .ok (.getfield 7, 3) := by decide +kernel
theorem dX8_paint_31 : decode cX8_paint 31 = .ok (.bipush 27, 2) := by decide +kernel
theorem dX8_paint_33 : decode cX8_paint 33 = .ok (.iload_n 1, 1) := by decide +kernel
theorem dX8_paint_34 : decode cX8_paint 34 = .ok (.iadd, 1) := by decide +kernel
theorem dX8_paint_35 : decode cX8_paint 35 = .ok (.iaload, 1) := by decide +kernel
theorem dX8_paint_36 : decode cX8_paint 36 = .ok (.istore_n 3, 1) := by decide +kernel
theorem dX8_paint_37 : decode cX8_paint 37 = .ok (.aload_n 0, 1) := by decide +kernel
theorem dX8_paint_38 : decode cX8_paint 38 = .ok (.getfield 7, 3) := by decide +kernel
theorem dX8_paint_41 : decode cX8_paint 41 = .ok (.bipush 27, 2) := by decide +kernel
theorem dX8_paint_43 : decode cX8_paint 43 = .ok (.iload_n 1, 1) := by decide +kernel
theorem dX8_paint_44 : decode cX8_paint 44 = .ok (.iadd, 1) := by decide +kernel
theorem dX8_paint_45 : decode cX8_paint 45 = .ok (.iload_n 2, 1) := by decide +kernel
theorem dX8_paint_46 : decode cX8_paint 46 = .ok (.iastore, 1) := by decide +kernel
theorem dX8_paint_47 : decode cX8_paint 47 = .ok (.iload_n 3, 1) := by decide +kernel
theorem dX8_paint_48 : decode cX8_paint 48 = .ok (.ireturn, 1) := by decide +kernel
theorem dX8_back_0 : decode cX8_back 0 = .ok (.aload_n 0, 1) := by decide +kernel
theorem dX8_back_1 : decode cX8_back 1 = .ok (.iload_n 1, 1) := by decide +kernel
theorem dX8_back_2 : decode cX8_back 2 = .ok (.invokevirtual 193, 3) := by decide +kernel
theorem dX8_back_5 : decode cX8_back 5 = .ok (.ifCond .ne 6, 3) := by decide +kernel
theorem dX8_back_8 : decode cX8_back 8 = .ok (.ldc 58, 2) := by decide +kernel
theorem dX8_back_10 : decode cX8_back 10 = .ok (.ireturn, 1) := by decide +kernel
theorem dX8_back_11 : decode cX8_back 11 = .ok (.aload_n 0, 1) := by decide +kernel
theorem dX8_back_12 : decode cX8_back 12 = .ok (.iconst 0, 1) := by decide +kernel
theorem dX8_back_13 : decode cX8_back 13 = .ok (.iload_n 1, 1) := by decide +kernel
theorem dX8_back_14 : decode cX8_back 14 = .ok (.invokevirtual 141, 3) := by decide +kernel
theorem dX8_back_17 : decode cX8_back 17 = .ok (.ifCond .eq 6, 3) := by decide +kernel
theorem dX8_back_20 : decode cX8_back 20 = .ok (.ldc 178, 2) := by decide +kernel
theorem dX8_back_22 : decode cX8_back 22 = .ok (.ireturn, 1) := by decide +kernel
theorem dX8_back_23 : decode cX8_back 23 = .ok (.aload_n 0, 1) := by decide +kernel
theorem dX8_back_24 : decode cX8_back 24 = .ok (.invokevirtual 184, 3) := by decide +kernel
theorem dX8_back_27 : decode cX8_back 27 = .ok (.aload_n 0, 1) := by decide +kernel
theorem dX8_back_28 : decode cX8_back 28 = .ok (.getfield 7, 3) := by decide +kernel
theorem dX8_back_31 : decode cX8_back 31 = .ok (.bipush 15, 2) := by decide +kernel
theorem dX8_back_33 : decode cX8_back 33 = .ok (.iload_n 1, 1) := by decide +kernel
theorem dX8_back_34 : decode cX8_back 34 = .ok (.iadd, 1) := by decide +kernel
theorem dX8_back_35 : decode cX8_back 35 = .ok (.iaload, 1) := by decide +kernel
theorem dX8_back_36 : decode cX8_back 36 = .ok (.istore_n 2, 1) := by decide +kernel
theorem dX8_back_37 : decode cX8_back 37 = .ok (.aload_n 0, 1) := by decide +kernel
theorem dX8_back_38 : decode cX8_back 38 = .ok (.iconst 0, 1) := by decide +kernel
theorem dX8_back_39 : decode cX8_back 39 = .ok (.iload_n 1, 1) := by decide +kernel
theorem dX8_back_40 : decode cX8_back 40 = .ok (.invokevirtual 201, 3) := by decide +kernel
theorem dX8_back_43 : decode cX8_back 43 = .ok (.iload_n 2, 1) := by decide +kernel
theorem dX8_back_44 : decode cX8_back 44 = .ok (.ireturn, 1) := by decide +kernel
theorem dX8_onBelt_0 : decode cX8_onBelt 0 = .ok (.iconst 0, 1) := by decide +kernel
theorem dX8_onBelt_1 : decode cX8_onBelt 1 = .ok (.istore_n 2, 1) := by decide +kernel
theorem dX8_onBelt_2 : decode cX8_onBelt 2 = .ok (.iconst 0, 1) := by decide +kernel
theorem dX8_onBelt_3 : decode cX8_onBelt 3 = .ok (.istore_n 3, 1) := by decide +kernel
theorem dX8_onBelt_4 : decode cX8_onBelt 4 = .ok (.iload_n 3, 1) := by decide +kernel
theorem dX8_onBelt_5 : decode cX8_onBelt 5 = .ok (.aload_n 0, 1) := by decide +kernel
theorem dX8_onBelt_6 : decode cX8_onBelt 6 = .ok (.getfield 7, 3) := by decide +kernel
theorem dX8_onBelt_9 : decode cX8_onBelt 9 = .ok (.iload_n 1, 1) := by decide +kernel
theorem dX8_onBelt_10 : decode cX8_onBelt 10 = .ok (.iconst 1, 1) := by decide +kernel
theorem dX8_onBelt_11 : decode cX8_onBelt 11 = .ok (.iadd, 1) := by decide +kernel
theorem dX8_onBelt_12 : decode cX8_onBelt 12 = .ok (.iaload, 1) := by decide +kernel
theorem dX8_onBelt_13 : decode cX8_onBelt 13 = .ok (.if_icmp .ge 35, 3) := by decide +kernel
theorem dX8_onBelt_16 : decode cX8_onBelt 16 = .ok (.iload_n 2, 1) := by decide +kernel
theorem dX8_onBelt_17 : decode cX8_onBelt 17 = .ok (.aload_n 0, 1) := by decide +kernel
theorem dX8_onBelt_18 : decode cX8_onBelt 18 = .ok (.getfield 7, 3) := by decide +kernel
theorem dX8_onBelt_21 : decode cX8_onBelt 21 = .ok (.iload_n 1, 1) := by decide +kernel
theorem dX8_onBelt_22 : decode cX8_onBelt 22 = .ok (.bipush 33, 2) := by decide +kernel
theorem dX8_onBelt_24 : decode cX8_onBelt 24 = .ok (.iadd, 1) := by decide +kernel
theorem dX8_onBelt_25 : decode cX8_onBelt 25 = .ok (.iload_n 3, 1) := by decide +kernel
theorem dX8_onBelt_26 : decode cX8_onBelt 26 = .ok (.iadd, 1) := by decide +kernel
theorem dX8_onBelt_27 : decode cX8_onBelt 27 = .ok (.iaload, 1) := by decide +kernel
theorem dX8_onBelt_28 : decode cX8_onBelt 28 = .ok (.bipush 20, 2) := by decide +kernel
theorem dX8_onBelt_30 : decode cX8_onBelt 30 = .ok (.if_icmp .ge 9, 3) := by decide +kernel
theorem dX8_onBelt_33 : decode cX8_onBelt 33 = .ok (.iconst 1, 1) := by decide +kernel
theorem dX8_onBelt_34 : decode cX8_onBelt 34 = .ok (.iload_n 3, 1) := by decide +kernel
theorem dX8_onBelt_35 : decode cX8_onBelt 35 = .ok (.ishl, 1) := by decide +kernel
theorem dX8_onBelt_36 : decode cX8_onBelt 36 = .ok (.goto 4, 3) := by decide +kernel
theorem dX8_onBelt_39 : decode cX8_onBelt 39 = .ok (.iconst 0, 1) := by decide +kernel
theorem dX8_onBelt_40 : decode cX8_onBelt 40 = .ok (.ior, 1) := by decide +kernel
theorem dX8_onBelt_41 : decode cX8_onBelt 41 = .ok (.istore_n 2, 1) := by decide +kernel
theorem dX8_onBelt_42 : decode cX8_onBelt 42 = .ok (.iinc 3 1, 3) := by decide +kernel
theorem dX8_onBelt_45 : decode cX8_onBelt 45 = .ok (.goto (-41), 3) := by decide +kernel
theorem dX8_onBelt_48 : decode cX8_onBelt 48 = .ok (.iload_n 2, 1) := by decide +kernel
theorem dX8_onBelt_49 : decode cX8_onBelt 49 = .ok (.ireturn, 1) := by decide +kernel
theorem dX8_turn_0 : decode cX8_turn 0 = .ok (.aload_n 0, 1) := by decide +kernel
theorem dX8_turn_1 : decode cX8_turn 1 = .ok (.invokevirtual 179, 3) := by decide +kernel
theorem dX8_turn_4 : decode cX8_turn 4 = .ok (.ifCond .ne 6, 3) := by decide +kernel
theorem dX8_turn_7 : decode cX8_turn 7 = .ok (.ldc 178, 2) := by decide +kernel
theorem dX8_turn_9 : decode cX8_turn 9 = .ok (.ireturn, 1) := by decide +kernel
theorem dX8_turn_10 : decode cX8_turn 10 = .ok (.aload_n 0, 1) := by decide +kernel
theorem dX8_turn_11 : decode cX8_turn 11 = .ok (.invokevirtual 184, 3) := by decide +kernel
theorem dX8_turn_14 : decode cX8_turn 14 = .ok (.aload_n 0, 1) := by decide +kernel
theorem dX8_turn_15 : decode cX8_turn 15 = .ok (.iconst 0, 1) := by decide +kernel
theorem dX8_turn_16 : decode cX8_turn 16 = .ok (.iconst 1, 1) := by decide +kernel
theorem dX8_turn_17 : decode cX8_turn 17 = .ok (.invokevirtual 162, 3) := by decide +kernel
theorem dX8_turn_20 : decode cX8_turn 20 = .ok (.aload_n 0, 1) := by decide +kernel
theorem dX8_turn_21 : decode cX8_turn 21 = .ok (.iconst 0, 1) := by decide +kernel
theorem dX8_turn_22 : decode cX8_turn 22 = .ok (.invokevirtual 204, 3) := by decide +kernel
theorem dX8_turn_25 : decode cX8_turn 25 = .ok (.invokestatic 207, 3) := by decide +kernel
theorem dX8_turn_28 : decode cX8_turn 28 = .ok (.ireturn, 1) := by decide +kernel
theorem dX8_traveller_0 : decode cX8_traveller 0 = .ok (.aload_n 0, 1) := by decide +kernel
theorem dX8_traveller_1 : decode cX8_traveller 1 = .ok (.iload_n 1, 1) := by decide +kernel
theorem dX8_traveller_2 : decode cX8_traveller 2 = .ok (.invokevirtual 193, 3) := by decide +kernel
theorem dX8_traveller_5 : decode cX8_traveller 5 = .ok (.ifCond .ne 6, 3) := by decide +kernel
theorem dX8_traveller_8 : decode cX8_traveller 8 = .ok (.ldc 58, 2) := by decide +kernel
theorem dX8_traveller_10 : decode cX8_traveller 10 = .ok (.ireturn, 1) := by decide +kernel
theorem dX8_traveller_11 : decode cX8_traveller 11 = .ok (.iload_n 2, 1) := by decide +kernel
theorem dX8_traveller_12 : decode cX8_traveller 12 = .ok (.tableswitch 115 0 5 #[40, 50, 65, 75, 85, 100], 40) := by decide +kernel
theorem dX8_traveller_52 : decode cX8_traveller 52 = .ok (.aload_n 0, 1) := by decide +kernel
theorem dX8_traveller_53 : decode cX8_traveller 53 = .ok (.getfield 7, 3) := by decide +kernel
theorem dX8_traveller_56 : decode cX8_traveller 56 = .ok (.bipush 9, 2) := by decide +kernel
theorem dX8_traveller_58 : decode cX8_traveller 58 = .ok (.iload_n 1, 1) := by decide +kernel
theorem dX8_traveller_59 : decode cX8_traveller 59 = .ok (.iadd, 1) := by decide +kernel
theorem dX8_traveller_60 : decode cX8_traveller 60 = .ok (.iaload, 1) := by decide +kernel
theorem dX8_traveller_61 : decode cX8_traveller 61 = .ok (.ireturn, 1) := by decide +kernel
theorem dX8_traveller_62 : decode cX8_traveller 62 = .ok (.aload_n 0, 1) := by decide +kernel
theorem dX8_traveller_63 : decode cX8_traveller 63 = .ok (.iconst 0, 1) := by decide +kernel
theorem dX8_traveller_64 : decode cX8_traveller 64 = .ok (.iload_n 1, 1) := by decide +kernel
theorem dX8_traveller_65 : decode cX8_traveller 65 = .ok (.invokevirtual 141, 3) := by decide +kernel
theorem dX8_traveller_68 : decode cX8_traveller 68 = .ok (.ifCond .eq 7, 3) := by decide +kernel
theorem dX8_traveller_71 : decode cX8_traveller 71 = .ok (.iconst 1, 1) := by decide +kernel
theorem dX8_traveller_72 : decode cX8_traveller 72 = .ok (.goto 4, 3) := by decide +kernel
theorem dX8_traveller_75 : decode cX8_traveller 75 = .ok (.iconst 0, 1) := by decide +kernel
theorem dX8_traveller_76 : decode cX8_traveller 76 = .ok (.ireturn, 1) := by decide +kernel
theorem dX8_traveller_77 : decode cX8_traveller 77 = .ok (.aload_n 0, 1) := by decide +kernel
theorem dX8_traveller_78 : decode cX8_traveller 78 = .ok (.getfield 7, 3) := by decide +kernel
theorem dX8_traveller_81 : decode cX8_traveller 81 = .ok (.bipush 15, 2) := by decide +kernel
theorem dX8_traveller_83 : decode cX8_traveller 83 = .ok (.iload_n 1, 1) := by decide +kernel
theorem dX8_traveller_84 : decode cX8_traveller 84 = .ok (.iadd, 1) := by decide +kernel
theorem dX8_traveller_85 : decode cX8_traveller 85 = .ok (.iaload, 1) := by decide +kernel
theorem dX8_traveller_86 : decode cX8_traveller 86 = .ok (.ireturn, 1) := by decide +kernel
theorem dX8_traveller_87 : decode cX8_traveller 87 = .ok (.aload_n 0, 1) := by decide +kernel
theorem dX8_traveller_88 : decode cX8_traveller 88 = .ok (.getfield 7, 3) := by decide +kernel
theorem dX8_traveller_91 : decode cX8_traveller 91 = .ok (.bipush 21, 2) := by decide +kernel
theorem dX8_traveller_93 : decode cX8_traveller 93 = .ok (.iload_n 1, 1) := by decide +kernel
theorem dX8_traveller_94 : decode cX8_traveller 94 = .ok (.iadd, 1) := by decide +kernel
theorem dX8_traveller_95 : decode cX8_traveller 95 = .ok (.iaload, 1) := by decide +kernel
theorem dX8_traveller_96 : decode cX8_traveller 96 = .ok (.ireturn, 1) := by decide +kernel
theorem dX8_traveller_97 : decode cX8_traveller 97 = .ok (.aload_n 0, 1) := by decide +kernel
theorem dX8_traveller_98 : decode cX8_traveller 98 = .ok (.iconst 0, 1) := by decide +kernel
theorem dX8_traveller_99 : decode cX8_traveller 99 = .ok (.iload_n 1, 1) := by decide +kernel
theorem dX8_traveller_100 : decode cX8_traveller 100 = .ok (.invokevirtual 172, 3) := by decide +kernel
theorem dX8_traveller_103 : decode cX8_traveller 103 = .ok (.ifCond .eq 7, 3) := by decide +kernel
theorem dX8_traveller_106 : decode cX8_traveller 106 = .ok (.iconst 1, 1) := by decide +kernel
theorem dX8_traveller_107 : decode cX8_traveller 107 = .ok (.goto 4, 3) := by decide +kernel
theorem dX8_traveller_110 : decode cX8_traveller 110 = .ok (.iconst 0, 1) := by decide +kernel
theorem dX8_traveller_111 : decode cX8_traveller 111 = .ok (.ireturn, 1) := by decide +kernel
theorem dX8_traveller_112 : decode cX8_traveller 112 = .ok (.aload_n 0, 1) := by decide +kernel
theorem dX8_traveller_113 : decode cX8_traveller 113 = .ok (.iconst 0, 1) := by decide +kernel
theorem dX8_traveller_114 : decode cX8_traveller 114 = .ok (.iload_n 1, 1) := by decide +kernel
theorem dX8_traveller_115 : decode cX8_traveller 115 = .ok (.invokevirtual 175, 3) := by decide +kernel
theorem dX8_traveller_118 : decode cX8_traveller 118 = .ok (.ifCond .eq 7, 3) := by decide +kernel
theorem dX8_traveller_121 : decode cX8_traveller 121 = .ok (.iconst 1, 1) := by decide +kernel
theorem dX8_traveller_122 : decode cX8_traveller 122 = .ok (.goto 4, 3) := by decide +kernel
theorem dX8_traveller_125 : decode cX8_traveller 125 = .ok (.iconst 0, 1) := by decide +kernel
theorem dX8_traveller_126 : decode cX8_traveller 126 = .ok (.ireturn, 1) := by decide +kernel
theorem dX8_traveller_127 : decode cX8_traveller 127 = .ok (.ldc 58, 2) := by decide +kernel
theorem dX8_traveller_129 : decode cX8_traveller 129 = .ok (.ireturn, 1) := by decide +kernel
theorem dX8_bag_0 : decode cX8_bag 0 = .ok (.aload_n 0, 1) := by decide +kernel
theorem dX8_bag_1 : decode cX8_bag 1 = .ok (.iload_n 1, 1) := by decide +kernel
theorem dX8_bag_2 : decode cX8_bag 2 = .ok (.invokevirtual 193, 3) := by decide +kernel
theorem dX8_bag_5 : decode cX8_bag 5 = .ok (.ifCond .eq 13, 3) := by decide +kernel
theorem dX8_bag_8 : decode cX8_bag 8 = .ok (.iload_n 2, 1) := by decide +kernel
theorem dX8_bag_9 : decode cX8_bag 9 = .ok (.i2l, 1) := by decide +kernel
theorem dX8_bag_10 : decode cX8_bag 10 = .ok (.lconst 0, 1) := by decide +kernel
theorem dX8_bag_11 : decode cX8_bag 11 = .ok (.lconst 1, 1) := by decide +kernel
theorem dX8_bag_12 : decode cX8_bag 12 = .ok (.invokestatic 48, 3) := by decide +kernel
theorem dX8_bag_15 : decode cX8_bag 15 = .ok (.ifCond .ne 8, 3) := by decide +kernel
theorem dX8_bag_18 : decode cX8_bag 18 = .ok (.ldc 58, 2) := by decide +kernel
theorem dX8_bag_20 : decode cX8_bag 20 = .ok (.goto 28, 3) := by decide +kernel
theorem dX8_bag_23 : decode cX8_bag 23 = .ok (.iload_n 2, 1) := by decide +kernel
theorem dX8_bag_24 : decode cX8_bag 24 = .ok (.ifCond .ne 15, 3) := by decide +kernel
theorem dX8_bag_27 : decode cX8_bag 27 = .ok (.aload_n 0, 1) := by decide +kernel
theorem dX8_bag_28 : decode cX8_bag 28 = .ok (.getfield 7, 3) := by decide +kernel
theorem dX8_bag_31 : decode cX8_bag 31 = .ok (.bipush 27, 2) := by decide +kernel
theorem dX8_bag_33 : decode cX8_bag 33 = .ok (.iload_n 1, 1) := by decide +kernel
theorem dX8_bag_34 : decode cX8_bag 34 = .ok (.iadd, 1) := by decide +kernel
theorem dX8_bag_35 : decode cX8_bag 35 = .ok (.iaload, 1) := by decide +kernel
theorem dX8_bag_36 : decode cX8_bag 36 = .ok (.goto 12, 3) := by decide +kernel
theorem dX8_bag_39 : decode cX8_bag 39 = .ok (.aload_n 0, 1) := by decide +kernel
theorem dX8_bag_40 : decode cX8_bag 40 = .ok (.getfield 7, 3) := by decide +kernel
theorem dX8_bag_43 : decode cX8_bag 43 = .ok (.bipush 33, 2) := by decide +kernel
theorem dX8_bag_45 : decode cX8_bag 45 = .ok (.iload_n 1, 1) := by decide +kernel
theorem dX8_bag_46 : decode cX8_bag 46 = .ok (.iadd, 1) := by decide +kernel
theorem dX8_bag_47 : decode cX8_bag 47 = .ok (.iaload, 1) := by decide +kernel
theorem dX8_bag_48 : decode cX8_bag 48 = .ok (.ireturn, 1) := by decide +kernel
theorem dX8_takenOnes_0 : decode cX8_takenOnes 0 = .ok (.iconst 0, 1) := by decide +kernel
theorem dX8_takenOnes_1 : decode cX8_takenOnes 1 = .ok (.istore_n 1, 1) := by decide +kernel
theorem dX8_takenOnes_2 : decode cX8_takenOnes 2 = .ok (.iconst 0, 1) := by decide +kernel
theorem dX8_takenOnes_3 : decode cX8_takenOnes 3 = .ok (.istore_n 2, 1) := by decide +kernel
theorem dX8_takenOnes_4 : decode cX8_takenOnes 4 = .ok (.iload_n 2, 1) := by decide +kernel
theorem dX8_takenOnes_5 : decode cX8_takenOnes 5 = .ok (.aload_n 0, 1) := by decide +kernel
theorem dX8_takenOnes_6 : decode cX8_takenOnes 6 = .ok (.getfield 7, 3) := by decide +kernel
theorem dX8_takenOnes_9 : decode cX8_takenOnes 9 = .ok (.iconst 1, 1) := by decide +kernel
theorem dX8_takenOnes_10 : decode cX8_takenOnes 10 = .ok (.iaload, 1) := by decide +kernel
theorem dX8_takenOnes_11 : decode cX8_takenOnes 11 = .ok (.if_icmp .ge 33, 3) := by decide +kernel
theorem dX8_takenOnes_14 : decode cX8_takenOnes 14 = .ok (.iload_n 1, 1) := by decide +kernel
theorem dX8_takenOnes_15 : decode cX8_takenOnes 15 = .ok (.aload_n 0, 1) := by decide +kernel
theorem dX8_takenOnes_16 : decode cX8_takenOnes 16 = .ok (.getfield 7, 3) := by decide +kernel
theorem dX8_takenOnes_19 : decode cX8_takenOnes 19 = .ok (.bipush 33, 2) := by decide +kernel
theorem dX8_takenOnes_21 : decode cX8_takenOnes 21 = .ok (.iload_n 2, 1) := by decide +kernel
theorem dX8_takenOnes_22 : decode cX8_takenOnes 22 = .ok (.iadd, 1) := by decide +kernel
theorem dX8_takenOnes_23 : decode cX8_takenOnes 23 = .ok (.iaload, 1) := by decide +kernel
theorem dX8_takenOnes_24 : decode cX8_takenOnes 24 = .ok (.bipush 30, 2) := by decide +kernel
theorem dX8_takenOnes_26 : decode cX8_takenOnes 26 = .ok (.if_icmp .lt 9, 3) := by decide +kernel
theorem dX8_takenOnes_29 : decode cX8_takenOnes 29 = .ok (.iconst 1, 1) := by decide +kernel
theorem dX8_takenOnes_30 : decode cX8_takenOnes 30 = .ok (.iload_n 2, 1) := by decide +kernel
theorem dX8_takenOnes_31 : decode cX8_takenOnes 31 = .ok (.ishl, 1) := by decide +kernel
theorem dX8_takenOnes_32 : decode cX8_takenOnes 32 = .ok (.goto 4, 3) := by decide +kernel
theorem dX8_takenOnes_35 : decode cX8_takenOnes 35 = .ok (.iconst 0, 1) := by decide +kernel
theorem dX8_takenOnes_36 : decode cX8_takenOnes 36 = .ok (.ior, 1) := by decide +kernel
theorem dX8_takenOnes_37 : decode cX8_takenOnes 37 = .ok (.istore_n 1, 1) := by decide +kernel
theorem dX8_takenOnes_38 : decode cX8_takenOnes 38 = .ok (.iinc 2 1, 3) := by decide +kernel
theorem dX8_takenOnes_41 : decode cX8_takenOnes 41 = .ok (.goto (-37), 3) := by decide +kernel
theorem dX8_takenOnes_44 : decode cX8_takenOnes 44 = .ok (.iload_n 1, 1) := by decide +kernel
theorem dX8_takenOnes_45 : decode cX8_takenOnes 45 = .ok (.ireturn, 1) := by decide +kernel
theorem dX8_stand_0 : decode cX8_stand 0 = .ok (.aload_n 0, 1) := by decide +kernel
theorem dX8_stand_1 : decode cX8_stand 1 = .ok (.invokevirtual 179, 3) := by decide +kernel
theorem dX8_stand_4 : decode cX8_stand 4 = .ok (.ifCond .ne 6, 3) := by decide +kernel
theorem dX8_stand_7 : decode cX8_stand 7 = .ok (.ldc 178, 2) := by decide +kernel
theorem dX8_stand_9 : decode cX8_stand 9 = .ok (.ireturn, 1) := by decide +kernel
theorem dX8_stand_10 : decode cX8_stand 10 = .ok (.iconst 1, 1) := by decide +kernel
theorem dX8_stand_11 : decode cX8_stand 11 = .ok (.aload_n 0, 1) := by decide +kernel
theorem dX8_stand_12 : decode cX8_stand 12 = .ok (.getfield 7, 3) := by decide +kernel
theorem dX8_stand_15 : decode cX8_stand 15 = .ok (.iconst 1, 1) := by decide +kernel
theorem dX8_stand_16 : decode cX8_stand 16 = .ok (.iaload, 1) := by decide +kernel
theorem dX8_stand_17 : decode cX8_stand 17 = .ok (.ishl, 1) := by decide +kernel
theorem dX8_stand_18 : decode cX8_stand 18 = .ok (.iconst 1, 1) := by decide +kernel
theorem dX8_stand_19 : decode cX8_stand 19 = .ok (.isub, 1) := by decide +kernel
theorem dX8_stand_20 : decode cX8_stand 20 = .ok (.istore_n 2, 1) := by decide +kernel
theorem dX8_stand_21 : decode cX8_stand 21 = .ok (.iload_n 1, 1) := by decide +kernel
theorem dX8_stand_22 : decode cX8_stand 22 = .ok (.tableswitch 99 0 6 #[42, 49, 66, 72, 77, 87, 93], 42) := by decide +kernel
theorem dX8_stand_64 : decode cX8_stand 64 = .ok (.aload_n 0, 1) := by decide +kernel
theorem dX8_stand_65 : decode cX8_stand 65 = .ok (.getfield 7, 3) := by decide +kernel
theorem dX8_stand_68 : decode cX8_stand 68 = .ok (.iconst 0, 1) := by decide +kernel
theorem dX8_stand_69 : decode cX8_stand 69 = .ok (.iaload, 1) := by decide +kernel
theorem dX8_stand_70 : decode cX8_stand 70 = .ok (.ireturn, 1) := by decide +kernel
theorem dX8_stand_71 : decode cX8_stand 71 = .ok (.iload_n 2, 1) := by decide +kernel
theorem dX8_stand_72 : decode cX8_stand 72 = .ok (.aload_n 0, 1) := by decide +kernel
theorem dX8_stand_73 : decode cX8_stand 73 = .ok (.iconst 0, 1) := by decide +kernel
theorem dX8_stand_74 : decode cX8_stand 74 = .ok (.invokevirtual 204, 3) := by decide +kernel
theorem dX8_stand_77 : decode cX8_stand 77 = .ok (.iconst (-1), 1) := by decide +kernel
theorem dX8_stand_78 : decode cX8_stand 78 = .ok (.ixor, 1) := by decide +kernel
theorem dX8_stand_79 : decode cX8_stand 79 = .ok (.iand, 1) := by decide +kernel
theorem dX8_stand_80 : decode cX8_stand 80 = .ok (.aload_n 0, 1) := by decide +kernel
theorem dX8_stand_81 : decode cX8_stand 81 = .ok (.invokevirtual 210, 3) := by decide +kernel
theorem dX8_stand_84 : decode cX8_stand 84 = .ok (.iconst (-1), 1) := by decide +kernel
theorem dX8_stand_85 : decode cX8_stand 85 = .ok (.ixor, 1) := by decide +kernel
theorem dX8_stand_86 : decode cX8_stand 86 = .ok (.iand, 1) := by decide +kernel
theorem dX8_stand_87 : decode cX8_stand 87 = .ok (.ireturn, 1) := by decide +kernel
theorem dX8_stand_88 : decode cX8_stand 88 = .ok (.aload_n 0, 1) := by decide +kernel
theorem dX8_stand_89 : decode cX8_stand 89 = .ok (.iconst 0, 1) := by decide +kernel
theorem dX8_stand_90 : decode cX8_stand 90 = .ok (.invokevirtual 204, 3) := by decide +kernel
theorem dX8_stand_93 : decode cX8_stand 93 = .ok (.ireturn, 1) := by decide +kernel
theorem dX8_stand_94 : decode cX8_stand 94 = .ok (.aload_n 0, 1) := by decide +kernel
theorem dX8_stand_95 : decode cX8_stand 95 = .ok (.invokevirtual 210, 3) := by decide +kernel
theorem dX8_stand_98 : decode cX8_stand 98 = .ok (.ireturn, 1) := by decide +kernel
theorem dX8_stand_99 : decode cX8_stand 99 = .ok (.iload_n 2, 1) := by decide +kernel
theorem dX8_stand_100 : decode cX8_stand 100 = .ok (.aload_n 0, 1) := by decide +kernel
theorem dX8_stand_101 : decode cX8_stand 101 = .ok (.iconst 0, 1) := by decide +kernel
theorem dX8_stand_102 : decode cX8_stand 102 = .ok (.invokevirtual 190, 3) := by decide +kernel
theorem dX8_stand_105 : decode cX8_stand 105 = .ok (.iconst (-1), 1) := by decide +kernel
theorem dX8_stand_106 : decode cX8_stand 106 = .ok (.ixor, 1) := by decide +kernel
theorem dX8_stand_107 : decode cX8_stand 107 = .ok (.iand, 1) := by decide +kernel
theorem dX8_stand_108 : decode cX8_stand 108 = .ok (.ireturn, 1) := by decide +kernel
theorem dX8_stand_109 : decode cX8_stand 109 = .ok (.aload_n 0, 1) := by decide +kernel
theorem dX8_stand_110 : decode cX8_stand 110 = .ok (.iconst 0, 1) := by decide +kernel
theorem dX8_stand_111 : decode cX8_stand 111 = .ok (.invokevirtual 214, 3) := by decide +kernel
theorem dX8_stand_114 : decode cX8_stand 114 = .ok (.ireturn, 1) := by decide +kernel
theorem dX8_stand_115 : decode cX8_stand 115 = .ok (.aload_n 0, 1) := by decide +kernel
theorem dX8_stand_116 : decode cX8_stand 116 = .ok (.iconst 0, 1) := by decide +kernel
theorem dX8_stand_117 : decode cX8_stand 117 = .ok (.invokevirtual 217, 3) := by decide +kernel
theorem dX8_stand_120 : decode cX8_stand 120 = .ok (.ireturn, 1) := by decide +kernel
theorem dX8_stand_121 : decode cX8_stand 121 = .ok (.ldc 58, 2) := by decide +kernel
theorem dX8_stand_123 : decode cX8_stand 123 = .ok (.ireturn, 1) := by decide +kernel
theorem dX8_place_0 : decode cX8_place 0 = .ok (.aload_n 0, 1) := by decide +kernel
theorem dX8_place_1 : decode cX8_place 1 = .ok (.iload_n 1, 1) := by decide +kernel
theorem dX8_place_2 : decode cX8_place 2 = .ok (.invokevirtual 196, 3) := by decide +kernel
theorem dX8_place_5 : decode cX8_place 5 = .ok (.ifCond .eq 12, 3) := by decide +kernel
theorem dX8_place_8 : decode cX8_place 8 = .ok (.aload_n 0, 1) := by decide +kernel
theorem dX8_place_9 : decode cX8_place 9 = .ok (.iconst 0, 1) := by decide +kernel
theorem dX8_place_10 : decode cX8_place 10 = .ok (.iload_n 1, 1) := by decide +kernel
theorem dX8_place_11 : decode cX8_place 11 = .ok (.invokevirtual 138, 3) := by decide +kernel
theorem dX8_place_14 : decode cX8_place 14 = .ok (.goto 5, 3) := by decide +kernel
theorem dX8_place_17 : decode cX8_place 17 = .ok (.ldc 58, 2) := by decide +kernel
theorem dX8_place_19 : decode cX8_place 19 = .ok (.ireturn, 1) := by decide +kernel
theorem dX8_layTried_0 : decode cX8_layTried 0 = .ok (.aload_n 0, 1) := by decide +kernel
theorem dX8_layTried_1 : decode cX8_layTried 1 = .ok (.iconst 0, 1) := by decide +kernel
theorem dX8_layTried_2 : decode cX8_layTried 2 = .ok (.sipush 1053, 3) := by decide +kernel
theorem dX8_layTried_5 : decode cX8_layTried 5 = .ok (.invokevirtual 131, 3) := by decide +kernel
theorem dX8_layTried_8 : decode cX8_layTried 8 = .ok (.return_, 1) := by decide +kernel
theorem dX8_ahead_0 : decode cX8_ahead 0 = .ok (.aload_n 0, 1) := by decide +kernel
theorem dX8_ahead_1 : decode cX8_ahead 1 = .ok (.iload_n 1, 1) := by decide +kernel
theorem dX8_ahead_2 : decode cX8_ahead 2 = .ok (.invokevirtual 193, 3) := by decide +kernel
theorem dX8_ahead_5 : decode cX8_ahead 5 = .ok (.ifCond .eq 15, 3) := by decide +kernel
theorem dX8_ahead_8 : decode cX8_ahead 8 = .ok (.iload_n 2, 1) := by decide +kernel
theorem dX8_ahead_9 : decode cX8_ahead 9 = .ok (.i2l, 1) := by decide +kernel
theorem dX8_ahead_10 : decode cX8_ahead 10 = .ok (.lconst 0, 1) := by decide +kernel
theorem dX8_ahead_11 : decode cX8_ahead 11 = .ok (.ldc2_w 220, 3) := by decide +kernel
theorem dX8_ahead_14 : decode cX8_ahead 14 = .ok (.invokestatic 48, 3) := by decide +kernel
theorem dX8_ahead_17 : decode cX8_ahead 17 = .ok (.ifCond .ne 6, 3) := by decide +kernel
theorem dX8_ahead_20 : decode cX8_ahead 20 = .ok (.ldc 58, 2) := by decide +kernel
theorem dX8_ahead_22 : decode cX8_ahead 22 = .ok (.ireturn, 1) := by decide +kernel
theorem dX8_ahead_23 : decode cX8_ahead 23 = .ok (.aload_n 0, 1) := by decide +kernel
theorem dX8_ahead_24 : decode cX8_ahead 24 = .ok (.invokevirtual 222, 3) := by decide +kernel
theorem dX8_ahead_27 : decode cX8_ahead 27 = .ok (.aload_n 0, 1) := by decide +kernel
theorem dX8_ahead_28 : decode cX8_ahead 28 = .ok (.sipush 1053, 3) := by decide +kernel
theorem dX8_ahead_31 : decode cX8_ahead 31 = .ok (.iload_n 2, 1) := by decide +kernel
theorem dX8_ahead_32 : decode cX8_ahead 32 = .ok (.invokevirtual 187, 3) := by decide +kernel
theorem dX8_ahead_35 : decode cX8_ahead 35 = .ok (.aload_n 0, 1) := by decide +kernel
theorem dX8_ahead_36 : decode cX8_ahead 36 = .ok (.getfield 7, 3) := by decide +kernel
theorem dX8_ahead_39 : decode cX8_ahead 39 = .ok (.sipush 1086, 3) := by decide +kernel
theorem dX8_ahead_42 : decode cX8_ahead 42 = .ok (.iload_n 1, 1) := by decide +kernel
theorem dX8_ahead_43 : decode cX8_ahead 43 = .ok (.iadd, 1) := by decide +kernel
theorem dX8_ahead_44 : decode cX8_ahead 44 = .ok (.iaload, 1) := by decide +kernel
theorem dX8_ahead_45 : decode cX8_ahead 45 = .ok (.ireturn, 1) := by decide +kernel
theorem dX8_with_0 : decode cX8_with 0 = .ok (.aload_n 0, 1) := by decide +kernel
theorem dX8_with_1 : decode cX8_with 1 = .ok (.iload_n 1, 1) := by decide +kernel
theorem dX8_with_2 : decode cX8_with 2 = .ok (.invokevirtual 193, 3) := by decide +kernel
theorem dX8_with_5 : decode cX8_with 5 = .ok (.ifCond .eq 25, 3) := by decide +kernel
theorem dX8_with_8 : decode cX8_with 8 = .ok (.iload_n 2, 1) := by decide +kernel
theorem dX8_with_9 : decode cX8_with 9 = .ok (.i2l, 1) := by decide +kernel
theorem dX8_with_10 : decode cX8_with 10 = .ok (.lconst 0, 1) := by decide +kernel
theorem dX8_with_11 : decode cX8_with 11 = .ok (.ldc2_w 220, 3) := by decide +kernel
theorem dX8_with_14 : decode cX8_with 14 = .ok (.invokestatic 48, 3) := by decide +kernel
theorem dX8_with_17 : decode cX8_with 17 = .ok (.ifCond .eq 13, 3) := by decide +kernel
theorem dX8_with_20 : decode cX8_with 20 = .ok (.iload_n 3, 1) := by decide +kernel
theorem dX8_with_21 : decode cX8_with 21 = .ok (.i2l, 1) := by decide +kernel
theorem dX8_with_22 : decode cX8_with 22 = .ok (.lconst 0, 1) := by decide +kernel
theorem dX8_with_23 : decode cX8_with 23 = .ok (.lconst 1, 1) := by decide +kernel
theorem dX8_with_24 : decode cX8_with 24 = .ok (.invokestatic 48, 3) := by decide +kernel
theorem dX8_with_27 : decode cX8_with 27 = .ok (.ifCond .ne 6, 3) := by decide +kernel
theorem dX8_with_30 : decode cX8_with 30 = .ok (.ldc 58, 2) := by decide +kernel
theorem dX8_with_32 : decode cX8_with 32 = .ok (.ireturn, 1) := by decide +kernel
theorem dX8_with_33 : decode cX8_with 33 = .ok (.aload_n 0, 1) := by decide +kernel
theorem dX8_with_34 : decode cX8_with 34 = .ok (.invokevirtual 222, 3) := by decide +kernel
theorem dX8_with_37 : decode cX8_with 37 = .ok (.aload_n 0, 1) := by decide +kernel
theorem dX8_with_38 : decode cX8_with 38 = .ok (.sipush 1053, 3) := by decide +kernel
theorem dX8_with_41 : decode cX8_with 41 = .ok (.iload_n 2, 1) := by decide +kernel
theorem dX8_with_42 : decode cX8_with 42 = .ok (.invokevirtual 187, 3) := by decide +kernel
theorem dX8_with_45 : decode cX8_with 45 = .ok (.aload_n 0, 1) := by decide +kernel
theorem dX8_with_46 : decode cX8_with 46 = .ok (.getfield 7, 3) := by decide +kernel
theorem dX8_with_49 : decode cX8_with 49 = .ok (.sipush 1053, 3) := by decide +kernel
theorem dX8_with_52 : decode cX8_with 52 = .ok (.iload_n 3, 1) := by decide +kernel
theorem dX8_with_53 : decode cX8_with 53 = .ok (.ifCond .ne 8, 3) := by decide +kernel
theorem dX8_with_56 : decode cX8_with 56 = .ok (.bipush 15, 2) := by decide +kernel
theorem dX8_with_58 : decode cX8_with 58 = .ok (.goto 5, 3) := by decide +kernel
theorem dX8_with_61 : decode cX8_with 61 = .ok (.bipush 21, 2) := by decide +kernel
theorem dX8_with_63 : decode cX8_with 63 = .ok (.iadd, 1) := by decide +kernel
theorem dX8_with_64 : decode cX8_with 64 = .ok (.iload_n 1, 1) := by decide +kernel
theorem dX8_with_65 : decode cX8_with 65 = .ok (.iadd, 1) := by decide +kernel
theorem dX8_with_66 : decode cX8_with 66 = .ok (.iaload, 1) := by decide +kernel
theorem dX8_with_67 : decode cX8_with 67 = .ok (.ireturn, 1) := by decide +kernel
theorem dX8_all_0 : decode cX8_all 0 = .ok (.aload_n 0, 1) := by decide +kernel
theorem dX8_all_1 : decode cX8_all 1 = .ok (.invokevirtual 179, 3) := by decide +kernel
theorem dX8_all_4 : decode cX8_all 4 = .ok (.ifCond .ne 6, 3) := by decide +kernel
theorem dX8_all_7 : decode cX8_all 7 = .ok (.ldc 178, 2) := by decide +kernel
theorem dX8_all_9 : decode cX8_all 9 = .ok (.ireturn, 1) := by decide +kernel
theorem dX8_all_10 : decode cX8_all 10 = .ok (.iload_n 1, 1) := by decide +kernel
theorem dX8_all_11 : decode cX8_all 11 = .ok (.i2l, 1) := by decide +kernel
theorem dX8_all_12 : decode cX8_all 12 = .ok (.lconst 0, 1) := by decide +kernel
theorem dX8_all_13 : decode cX8_all 13 = .ok (.ldc2_w 220, 3) := by decide +kernel
theorem dX8_all_16 : decode cX8_all 16 = .ok (.invokestatic 48, 3) := by decide +kernel
theorem dX8_all_19 : decode cX8_all 19 = .ok (.ifCond .eq 15, 3) := by decide +kernel
theorem dX8_all_22 : decode cX8_all 22 = .ok (.iload_n 2, 1) := by decide +kernel
theorem dX8_all_23 : decode cX8_all 23 = .ok (.i2l, 1) := by decide +kernel
theorem dX8_all_24 : decode cX8_all 24 = .ok (.lconst 0, 1) := by decide +kernel
theorem dX8_all_25 : decode cX8_all 25 = .ok (.ldc2_w 56, 3) := by decide +kernel
theorem dX8_all_28 : decode cX8_all 28 = .ok (.invokestatic 48, 3) := by decide +kernel
theorem dX8_all_31 : decode cX8_all 31 = .ok (.ifCond .ne 6, 3) := by decide +kernel
theorem dX8_all_34 : decode cX8_all 34 = .ok (.ldc 58, 2) := by decide +kernel
theorem dX8_all_36 : decode cX8_all 36 = .ok (.ireturn, 1) := by decide +kernel
theorem dX8_all_37 : decode cX8_all 37 = .ok (.aload_n 0, 1) := by decide +kernel
theorem dX8_all_38 : decode cX8_all 38 = .ok (.invokevirtual 222, 3) := by decide +kernel
theorem dX8_all_41 : decode cX8_all 41 = .ok (.aload_n 0, 1) := by decide +kernel
theorem dX8_all_42 : decode cX8_all 42 = .ok (.sipush 1053, 3) := by decide +kernel
theorem dX8_all_45 : decode cX8_all 45 = .ok (.iload_n 1, 1) := by decide +kernel
theorem dX8_all_46 : decode cX8_all 46 = .ok (.invokevirtual 187, 3) := by decide +kernel
theorem dX8_all_49 : decode cX8_all 49 = .ok (.iload_n 2, 1) := by decide +kernel
theorem dX8_all_50 : decode cX8_all 50 = .ok (.ifCond .ne 13, 3) := by decide +kernel
theorem dX8_all_53 : decode cX8_all 53 = .ok (.aload_n 0, 1) := by decide +kernel
theorem dX8_all_54 : decode cX8_all 54 = .ok (.sipush 1053, 3) := by decide +kernel
theorem dX8_all_57 : decode cX8_all 57 = .ok (.invokevirtual 190, 3) := by decide +kernel
theorem dX8_all_60 : decode cX8_all 60 = .ok (.goto 25, 3) := by decide +kernel
theorem dX8_all_63 : decode cX8_all 63 = .ok (.iload_n 2, 1) := by decide +kernel
theorem dX8_all_64 : decode cX8_all 64 = .ok (.iconst 1, 1) := by decide +kernel
theorem dX8_all_65 : decode cX8_all 65 = .ok (.if_icmp .ne 13, 3) := by decide +kernel
theorem dX8_all_68 : decode cX8_all 68 = .ok (.aload_n 0, 1) := by decide +kernel
theorem dX8_all_69 : decode cX8_all 69 = .ok (.sipush 1053, 3) := by decide +kernel
theorem dX8_all_72 : decode cX8_all 72 = .ok (.invokevirtual 214, 3) := by decide +kernel
theorem dX8_all_75 : decode cX8_all 75 = .ok (.goto 10, 3) := by decide +kernel
theorem dX8_all_78 : decode cX8_all 78 = .ok (.aload_n 0, 1) := by decide +kernel
theorem dX8_all_79 : decode cX8_all 79 = .ok (.sipush 1053, 3) := by decide +kernel
theorem dX8_all_82 : decode cX8_all 82 = .ok (.invokevirtual 217, 3) := by decide +kernel
theorem dX8_all_85 : decode cX8_all 85 = .ok (.ireturn, 1) := by decide +kernel
theorem dX8_when_0 : decode cX8_when 0 = .ok (.aload_n 0, 1) := by decide +kernel
theorem dX8_when_1 : decode cX8_when 1 = .ok (.iload_n 1, 1) := by decide +kernel
theorem dX8_when_2 : decode cX8_when 2 = .ok (.invokevirtual 193, 3) := by decide +kernel
theorem dX8_when_5 : decode cX8_when 5 = .ok (.ifCond .ne 6, 3) := by decide +kernel
theorem dX8_when_8 : decode cX8_when 8 = .ok (.ldc 58, 2) := by decide +kernel
theorem dX8_when_10 : decode cX8_when 10 = .ok (.ireturn, 1) := by decide +kernel
theorem dX8_when_11 : decode cX8_when 11 = .ok (.aload_n 0, 1) := by decide +kernel
theorem dX8_when_12 : decode cX8_when 12 = .ok (.invokevirtual 222, 3) := by decide +kernel
theorem dX8_when_15 : decode cX8_when 15 = .ok (.iconst 0, 1) := by decide +kernel
theorem dX8_when_16 : decode cX8_when 16 = .ok (.istore_n 2, 1) := by decide +kernel
theorem dX8_when_17 : decode cX8_when 17 = .ok (.iload_n 2, 1) := by decide +kernel
theorem dX8_when_18 : decode cX8_when 18 = .ok (.bipush 61, 2) := by decide +kernel
theorem dX8_when_20 : decode cX8_when 20 = .ok (.if_icmp .ge 30, 3) := by decide +kernel
theorem dX8_when_23 : decode cX8_when 23 = .ok (.aload_n 0, 1) := by decide +kernel
theorem dX8_when_24 : decode cX8_when 24 = .ok (.sipush 1053, 3) := by decide +kernel
theorem dX8_when_27 : decode cX8_when 27 = .ok (.iload_n 1, 1) := by decide +kernel
theorem dX8_when_28 : decode cX8_when 28 = .ok (.invokevirtual 141, 3) := by decide +kernel
theorem dX8_when_31 : decode cX8_when 31 = .ok (.ifCond .ne 5, 3) := by decide +kernel
theorem dX8_when_34 : decode cX8_when 34 = .ok (.iload_n 2, 1) := by decide +kernel
theorem dX8_when_35 : decode cX8_when 35 = .ok (.ireturn, 1) := by decide +kernel
theorem dX8_when_36 : decode cX8_when 36 = .ok (.aload_n 0, 1) := by decide +kernel
theorem dX8_when_37 : decode cX8_when 37 = .ok (.sipush 1053, 3) := by decide +kernel
theorem dX8_when_40 : decode cX8_when 40 = .ok (.iconst 1, 1) := by decide +kernel
theorem dX8_when_41 : decode cX8_when 41 = .ok (.invokevirtual 187, 3) := by decide +kernel
theorem dX8_when_44 : decode cX8_when 44 = .ok (.iinc 2 1, 3) := by decide +kernel
theorem dX8_when_47 : decode cX8_when 47 = .ok (.goto (-30), 3) := by decide +kernel
theorem dX8_when_50 : decode cX8_when 50 = .ok (.ldc 116, 2) := by decide +kernel
theorem dX8_when_52 : decode cX8_when 52 = .ok (.ireturn, 1) := by decide +kernel
theorem dX8_empty_0 : decode cX8_empty 0 = .ok (.aload_n 0, 1) := by decide +kernel
theorem dX8_empty_1 : decode cX8_empty 1 = .ok (.invokevirtual 179, 3) := by decide +kernel
theorem dX8_empty_4 : decode cX8_empty 4 = .ok (.ifCond .ne 6, 3) := by decide +kernel
theorem dX8_empty_7 : decode cX8_empty 7 = .ok (.ldc 178, 2) := by decide +kernel
theorem dX8_empty_9 : decode cX8_empty 9 = .ok (.ireturn, 1) := by decide +kernel
theorem dX8_empty_10 : decode cX8_empty 10 = .ok (.aload_n 0, 1) := by decide +kernel
theorem dX8_empty_11 : decode cX8_empty 11 = .ok (.invokevirtual 222, 3) := by decide +kernel
theorem dX8_empty_14 : decode cX8_empty 14 = .ok (.iconst 0, 1) := by decide +kernel
theorem dX8_empty_15 : decode cX8_empty 15 = .ok (.istore_n 1, 1) := by decide +kernel
theorem dX8_empty_16 : decode cX8_empty 16 = .ok (.iload_n 1, 1) := by decide +kernel
theorem dX8_empty_17 : decode cX8_empty 17 = .ok (.bipush 61, 2) := by decide +kernel
theorem dX8_empty_19 : decode cX8_empty 19 = .ok (.if_icmp .ge 68, 3) := by decide +kernel
theorem dX8_empty_22 : decode cX8_empty 22 = .ok (.iconst 1, 1) := by decide +kernel
theorem dX8_empty_23 : decode cX8_empty 23 = .ok (.istore_n 2, 1) := by decide +kernel
theorem dX8_empty_24 : decode cX8_empty 24 = .ok (.iconst 0, 1) := by decide +kernel
theorem dX8_empty_25 : decode cX8_empty 25 = .ok (.istore_n 3, 1) := by decide +kernel
theorem dX8_empty_26 : decode cX8_empty 26 = .ok (.iload_n 3, 1) := by decide +kernel
theorem dX8_empty_27 : decode cX8_empty 27 = .ok (.aload_n 0, 1) := by decide +kernel
theorem dX8_empty_28 : decode cX8_empty 28 = .ok (.getfield 7, 3) := by decide +kernel
theorem dX8_empty_31 : decode cX8_empty 31 = .ok (.iconst 1, 1) := by decide +kernel
theorem dX8_empty_32 : decode cX8_empty 32 = .ok (.iaload, 1) := by decide +kernel
theorem dX8_empty_33 : decode cX8_empty 33 = .ok (.if_icmp .ge 34, 3) := by decide +kernel
theorem dX8_empty_36 : decode cX8_empty 36 = .ok (.iload_n 2, 1) := by decide +kernel
theorem dX8_empty_37 : decode cX8_empty 37 = .ok (.ifCond .eq 22, 3) := by decide +kernel
theorem dX8_empty_40 : decode cX8_empty 40 = .ok (.aload_n 0, 1) := by decide +kernel
theorem dX8_empty_41 : decode cX8_empty 41 = .ok (.getfield 7, 3) := by decide +kernel
theorem dX8_empty_44 : decode cX8_empty 44 = .ok (.sipush 1086, 3) := by decide +kernel
theorem dX8_empty_47 : decode cX8_empty 47 = .ok (.iload_n 3, 1) := by decide +kernel
theorem dX8_empty_48 : decode cX8_empty 48 = .ok (.iadd, 1) := by decide +kernel
theorem dX8_empty_49 : decode cX8_empty 49 = .ok (.iaload, 1) := by decide +kernel
theorem dX8_empty_50 : decode cX8_empty 50 = .ok (.bipush 30, 2) := by decide +kernel
theorem dX8_empty_52 : decode cX8_empty 52 = .ok (.if_icmp .lt 7, 3) := by decide +kernel
theorem dX8_empty_55 : decode cX8_empty 55 = .ok (.iconst 1, 1) := by decide +kernel
theorem dX8_empty_56 : decode cX8_empty 56 = .ok (.goto 4, 3) := by decide +kernel
theorem dX8_empty_59 : decode cX8_empty 59 = .ok (.iconst 0, 1) := by decide +kernel
theorem dX8_empty_60 : decode cX8_empty 60 = .ok (.istore_n 2, 1) := by decide +kernel
theorem dX8_empty_61 : decode cX8_empty 61 = .ok (.iinc 3 1, 3) := by decide +kernel
theorem dX8_empty_64 : decode cX8_empty 64 = .ok (.goto (-38), 3) := by decide +kernel
theorem dX8_empty_67 : decode cX8_empty 67 = .ok (.iload_n 2, 1) := by decide +kernel
theorem dX8_empty_68 : decode cX8_empty 68 = .ok (.ifCond .eq 5, 3) := by decide +kernel
theorem dX8_empty_71 : decode cX8_empty 71 = .ok (.iload_n 1, 1) := by decide +kernel
theorem dX8_empty_72 : decode cX8_empty 72 = .ok (.ireturn, 1) := by decide +kernel
theorem dX8_empty_73 : decode cX8_empty 73 = .ok (.aload_n 0, 1) := by decide +kernel
theorem dX8_empty_74 : decode cX8_empty 74 = .ok (.sipush 1053, 3) := by decide +kernel
theorem dX8_empty_77 : decode cX8_empty 77 = .ok (.iconst 1, 1) := by decide +kernel
theorem dX8_empty_78 : decode cX8_empty 78 = .ok (.invokevirtual 187, 3) := by decide +kernel
theorem dX8_empty_81 : decode cX8_empty 81 = .ok (.iinc 1 1, 3) := by decide +kernel
theorem dX8_empty_84 : decode cX8_empty 84 = .ok (.goto (-68), 3) := by decide +kernel
theorem dX8_empty_87 : decode cX8_empty 87 = .ok (.ldc 116, 2) := by decide +kernel
theorem dX8_empty_89 : decode cX8_empty 89 = .ok (.ireturn, 1) := by decide +kernel
theorem dX8_goneFrom_0 : decode cX8_goneFrom 0 = .ok (.aload_n 0, 1) := by decide +kernel
theorem dX8_goneFrom_1 : decode cX8_goneFrom 1 = .ok (.invokevirtual 222, 3) := by decide +kernel
theorem dX8_goneFrom_4 : decode cX8_goneFrom 4 = .ok (.aload_n 0, 1) := by decide +kernel
theorem dX8_goneFrom_5 : decode cX8_goneFrom 5 = .ok (.getfield 7, 3) := by decide +kernel
theorem dX8_goneFrom_8 : decode cX8_goneFrom 8 = .ok (.sipush 1062, 3) := by decide +kernel
theorem dX8_goneFrom_11 : decode cX8_goneFrom 11 = .ok (.iload_n 1, 1) := by decide +kernel
theorem dX8_goneFrom_12 : decode cX8_goneFrom 12 = .ok (.iadd, 1) := by decide +kernel
theorem dX8_goneFrom_13 : decode cX8_goneFrom 13 = .ok (.iload_n 2, 1) := by decide +kernel
theorem dX8_goneFrom_14 : decode cX8_goneFrom 14 = .ok (.iastore, 1) := by decide +kernel
theorem dX8_goneFrom_15 : decode cX8_goneFrom 15 = .ok (.iconst 0, 1) := by decide +kernel
theorem dX8_goneFrom_16 : decode cX8_goneFrom 16 = .ok (.istore 4, 2) := by decide +kernel
theorem dX8_goneFrom_18 : decode cX8_goneFrom 18 = .ok (.iload 4, 2) := by decide +kernel
theorem dX8_goneFrom_20 : decode cX8_goneFrom 20 = .ok (.iload_n 3, 1) := by decide +kernel
theorem dX8_goneFrom_21 : decode cX8_goneFrom 21 = .ok (.if_icmp .gt 31, 3) := by decide +kernel
theorem dX8_goneFrom_24 : decode cX8_goneFrom 24 = .ok (.aload_n 0, 1) := by decide +kernel
theorem dX8_goneFrom_25 : decode cX8_goneFrom 25 = .ok (.getfield 7, 3) := by decide +kernel
theorem dX8_goneFrom_28 : decode cX8_goneFrom 28 = .ok (.sipush 1068, 3) := by decide +kernel
theorem dX8_goneFrom_31 : decode cX8_goneFrom 31 = .ok (.iload_n 1, 1) := by decide +kernel
theorem dX8_goneFrom_32 : decode cX8_goneFrom 32 = .ok (.iadd, 1) := by decide +kernel
theorem dX8_goneFrom_33 : decode cX8_goneFrom 33 = .ok (.iaload, 1) := by decide +kernel
theorem dX8_goneFrom_34 : decode cX8_goneFrom 34 = .ok (.iload_n 1, 1) := by decide +kernel
theorem dX8_goneFrom_35 : decode cX8_goneFrom 35 = .ok (.if_icmp .eq 17, 3) := by decide +kernel
theorem dX8_goneFrom_38 : decode cX8_goneFrom 38 = .ok (.aload_n 0, 1) := by decide +kernel
theorem dX8_goneFrom_39 : decode cX8_goneFrom 39 = .ok (.sipush 1053, 3) := by decide +kernel
theorem dX8_goneFrom_42 : decode cX8_goneFrom 42 = .ok (.iconst 1, 1) := by decide +kernel
theorem dX8_goneFrom_43 : decode cX8_goneFrom 43 = .ok (.invokevirtual 187, 3) := by decide +kernel
theorem dX8_goneFrom_46 : decode cX8_goneFrom 46 = .ok (.iinc 4 1, 3) := by decide +kernel
theorem dX8_goneFrom_49 : decode cX8_goneFrom 49 = .ok (.goto (-31), 3) := by decide +kernel
theorem dX8_goneFrom_52 : decode cX8_goneFrom 52 = .ok (.iload 4, 2) := by decide +kernel
theorem dX8_goneFrom_54 : decode cX8_goneFrom 54 = .ok (.ireturn, 1) := by decide +kernel
theorem dX8_best_0 : decode cX8_best 0 = .ok (.aload_n 0, 1) := by decide +kernel
theorem dX8_best_1 : decode cX8_best 1 = .ok (.iload_n 1, 1) := by decide +kernel
theorem dX8_best_2 : decode cX8_best 2 = .ok (.invokevirtual 193, 3) := by decide +kernel
theorem dX8_best_5 : decode cX8_best 5 = .ok (.ifCond .eq 25, 3) := by decide +kernel
theorem dX8_best_8 : decode cX8_best 8 = .ok (.iload_n 2, 1) := by decide +kernel
theorem dX8_best_9 : decode cX8_best 9 = .ok (.i2l, 1) := by decide +kernel
theorem dX8_best_10 : decode cX8_best 10 = .ok (.lconst 1, 1) := by decide +kernel
theorem dX8_best_11 : decode cX8_best 11 = .ok (.ldc2_w 220, 3) := by decide +kernel
theorem dX8_best_14 : decode cX8_best 14 = .ok (.invokestatic 48, 3) := by decide +kernel
theorem dX8_best_17 : decode cX8_best 17 = .ok (.ifCond .eq 13, 3) := by decide +kernel
theorem dX8_best_20 : decode cX8_best 20 = .ok (.iload_n 3, 1) := by decide +kernel
theorem dX8_best_21 : decode cX8_best 21 = .ok (.i2l, 1) := by decide +kernel
theorem dX8_best_22 : decode cX8_best 22 = .ok (.lconst 0, 1) := by decide +kernel
theorem dX8_best_23 : decode cX8_best 23 = .ok (.lconst 1, 1) := by decide +kernel
theorem dX8_best_24 : decode cX8_best 24 = .ok (.invokestatic 48, 3) := by decide +kernel
theorem dX8_best_27 : decode cX8_best 27 = .ok (.ifCond .ne 6, 3) := by decide +kernel
theorem dX8_best_30 : decode cX8_best 30 = .ok (.ldc 58, 2) := by decide +kernel
theorem dX8_best_32 : decode cX8_best 32 = .ok (.ireturn, 1) := by decide +kernel
theorem dX8_best_33 : decode cX8_best 33 = .ok (.aload_n 0, 1) := by decide +kernel
theorem dX8_best_34 : decode cX8_best 34 = .ok (.iconst 0, 1) := by decide +kernel
theorem dX8_best_35 : decode cX8_best 35 = .ok (.iload_n 1, 1) := by decide +kernel
theorem dX8_best_36 : decode cX8_best 36 = .ok (.invokevirtual 141, 3) := by decide +kernel
theorem dX8_best_39 : decode cX8_best 39 = .ok (.ifCond .ne 6, 3) := by decide +kernel
theorem dX8_best_42 : decode cX8_best 42 = .ok (.ldc 178, 2) := by decide +kernel
theorem dX8_best_44 : decode cX8_best 44 = .ok (.ireturn, 1) := by decide +kernel
theorem dX8_best_45 : decode cX8_best 45 = .ok (.ldc 116, 2) := by decide +kernel
theorem dX8_best_47 : decode cX8_best 47 = .ok (.istore 4, 2) := by decide +kernel
theorem dX8_best_49 : decode cX8_best 49 = .ok (.iload_n 2, 1) := by decide +kernel
theorem dX8_best_50 : decode cX8_best 50 = .ok (.iconst 1, 1) := by decide +kernel
theorem dX8_best_51 : decode cX8_best 51 = .ok (.iadd, 1) := by decide +kernel
theorem dX8_best_52 : decode cX8_best 52 = .ok (.istore 5, 2) := by decide +kernel
theorem dX8_best_54 : decode cX8_best 54 = .ok (.iconst 0, 1) := by decide +kernel
theorem dX8_best_55 : decode cX8_best 55 = .ok (.istore 6, 2) := by decide +kernel
theorem dX8_best_57 : decode cX8_best 57 = .ok (.iload 6, 2) := by decide +kernel
theorem dX8_best_59 : decode cX8_best 59 = .ok (.aload_n 0, 1) := by decide +kernel
theorem dX8_best_60 : decode cX8_best 60 = .ok (.getfield 7, 3) := by decide +kernel
theorem dX8_best_63 : decode cX8_best 63 = .ok (.iconst 0, 1) := by decide +kernel
theorem dX8_best_64 : decode cX8_best 64 = .ok (.iaload, 1) := by decide +kernel
theorem dX8_best_65 : decode cX8_best 65 = .ok (.if_icmp .ge 51, 3) := by decide +kernel
theorem dX8_best_68 : decode cX8_best 68 = .ok (.aload_n 0, 1) := by decide +kernel
theorem dX8_best_69 : decode cX8_best 69 = .ok (.iload_n 1, 1) := by decide +kernel
theorem dX8_best_70 : decode cX8_best 70 = .ok (.iload 6, 2) := by decide +kernel
theorem dX8_best_72 : decode cX8_best 72 = .ok (.iload_n 2, 1) := by decide +kernel
theorem dX8_best_73 : decode cX8_best 73 = .ok (.invokevirtual 225, 3) := by decide +kernel
theorem dX8_best_76 : decode cX8_best 76 = .ok (.istore 7, 2) := by decide +kernel
theorem dX8_best_78 : decode cX8_best 78 = .ok (.iload 7, 2) := by decide +kernel
theorem dX8_best_80 : decode cX8_best 80 = .ok (.iload 5, 2) := by decide +kernel
theorem dX8_best_82 : decode cX8_best 82 = .ok (.if_icmp .ge 8, 3) := by decide +kernel
theorem dX8_best_85 : decode cX8_best 85 = .ok (.iload 6, 2) := by decide +kernel
theorem dX8_best_87 : decode cX8_best 87 = .ok (.goto 5, 3) := by decide +kernel
theorem dX8_best_90 : decode cX8_best 90 = .ok (.iload 4, 2) := by decide +kernel
theorem dX8_best_92 : decode cX8_best 92 = .ok (.istore 4, 2) := by decide +kernel
theorem dX8_best_94 : decode cX8_best 94 = .ok (.iload 7, 2) := by decide +kernel
theorem dX8_best_96 : decode cX8_best 96 = .ok (.iload 5, 2) := by decide +kernel
theorem dX8_best_98 : decode cX8_best 98 = .ok (.if_icmp .ge 8, 3) := by decide +kernel
theorem dX8_best_101 : decode cX8_best 101 = .ok (.iload 7, 2) := by decide +kernel
theorem dX8_best_103 : decode cX8_best 103 = .ok (.goto 5, 3) := by decide +kernel
theorem dX8_best_106 : decode cX8_best 106 = .ok (.iload 5, 2) := by decide +kernel
theorem dX8_best_108 : decode cX8_best 108 = .ok (.istore 5, 2) := by decide +kernel
theorem dX8_best_110 : decode cX8_best 110 = .ok (.iinc 6 1, 3) := by decide +kernel
theorem dX8_best_113 : decode cX8_best 113 = .ok (.goto (-56), 3) := by decide +kernel
theorem dX8_best_116 : decode cX8_best 116 = .ok (.iload 4, 2) := by decide +kernel
theorem dX8_best_118 : decode cX8_best 118 = .ok (.ldc 116, 2) := by decide +kernel
theorem dX8_best_120 : decode cX8_best 120 = .ok (.if_icmp .eq 7, 3) := by decide +kernel
theorem dX8_best_123 : decode cX8_best 123 = .ok (.iload_n 3, 1) := by decide +kernel
theorem dX8_best_124 : decode cX8_best 124 = .ok (.ifCond .ne 8, 3) := by decide +kernel
theorem dX8_best_127 : decode cX8_best 127 = .ok (.iload 4, 2) := by decide +kernel
theorem dX8_best_129 : decode cX8_best 129 = .ok (.goto 5, 3) := by decide +kernel
theorem dX8_best_132 : decode cX8_best 132 = .ok (.iload 5, 2) := by decide +kernel
theorem dX8_best_134 : decode cX8_best 134 = .ok (.ireturn, 1) := by decide +kernel
theorem dX8_swapRanks_0 : decode cX8_swapRanks 0 = .ok (.aload_n 0, 1) := by decide +kernel
theorem dX8_swapRanks_1 : decode cX8_swapRanks 1 = .ok (.getfield 32, 3) := by decide +kernel
theorem dX8_swapRanks_4 : decode cX8_swapRanks 4 = .ok (.iload_n 1, 1) := by decide +kernel
theorem dX8_swapRanks_5 : decode cX8_swapRanks 5 = .ok (.iaload, 1) := by decide +kernel
theorem dX8_swapRanks_6 : decode cX8_swapRanks 6 = .ok (.istore_n 3, 1) := by decide +kernel
theorem dX8_swapRanks_7 : decode cX8_swapRanks 7 = .ok (.aload_n 0, 1) := by decide +kernel
theorem dX8_swapRanks_8 : decode cX8_swapRanks 8 = .ok (.getfield 32, 3) := by decide +kernel
theorem dX8_swapRanks_11 : decode cX8_swapRanks 11 = .ok (.iload_n 1, 1) := by decide +kernel
theorem dX8_swapRanks_12 : decode cX8_swapRanks 12 = .ok (.aload_n 0, 1) := by decide +kernel
theorem dX8_swapRanks_13 : decode cX8_swapRanks 13 = .ok (.getfield 32, 3) := by decide +kernel
theorem dX8_swapRanks_16 : decode cX8_swapRanks 16 = .ok (.iload_n 2, 1) := by decide +kernel
theorem dX8_swapRanks_17 : decode cX8_swapRanks 17 = .ok (.iaload, 1) := by decide +kernel
theorem dX8_swapRanks_18 : decode cX8_swapRanks 18 = .ok (.iastore, 1) := by decide +kernel
theorem dX8_swapRanks_19 : decode cX8_swapRanks 19 = .ok (.aload_n 0, 1) := by decide +kernel
theorem dX8_swapRanks_20 : decode cX8_swapRanks 20 = .ok (.getfield 32, 3) := by decide +kernel
theorem dX8_swapRanks_23 : decode cX8_swapRanks 23 = .ok (.iload_n 2, 1) := by decide +kernel
theorem dX8_swapRanks_24 : decode cX8_swapRanks 24 = .ok (.iload_n 3, 1) := by decide +kernel
theorem dX8_swapRanks_25 : decode cX8_swapRanks 25 = .ok (.iastore, 1) := by decide +kernel
theorem dX8_swapRanks_26 : decode cX8_swapRanks 26 = .ok (.return_, 1) := by decide +kernel
theorem dX8_nextRanks_0 : decode cX8_nextRanks 0 = .ok (.iload_n 1, 1) := by decide +kernel
theorem dX8_nextRanks_1 : decode cX8_nextRanks 1 = .ok (.iconst 2, 1) := by decide +kernel
theorem dX8_nextRanks_2 : decode cX8_nextRanks 2 = .ok (.isub, 1) := by decide +kernel
theorem dX8_nextRanks_3 : decode cX8_nextRanks 3 = .ok (.istore_n 2, 1) := by decide +kernel
theorem dX8_nextRanks_4 : decode cX8_nextRanks 4 = .ok (.iload_n 2, 1) := by decide +kernel
theorem dX8_nextRanks_5 : decode cX8_nextRanks 5 = .ok (.ifCond .lt 26, 3) := by decide +kernel
theorem dX8_nextRanks_8 : decode cX8_nextRanks 8 = .ok (.aload_n 0, 1) := by decide +kernel
theorem dX8_nextRanks_9 : decode cX8_nextRanks 9 = .ok (.getfield 32, 3) := by decide +kernel
theorem dX8_nextRanks_12 : decode cX8_nextRanks 12 = .ok (.iload_n 2, 1) := by decide +kernel
theorem dX8_nextRanks_13 : decode cX8_nextRanks 13 = .ok (.iaload, 1) := by decide +kernel
theorem dX8_nextRanks_14 : decode cX8_nextRanks 14 = .ok (.aload_n 0, 1) := by decide +kernel
theorem dX8_nextRanks_15 : decode cX8_nextRanks 15 = .ok (.getfield 32, 3) := by decide +kernel
theorem dX8_nextRanks_18 : decode cX8_nextRanks 18 = .ok (.iload_n 2, 1) := by decide +kernel
theorem dX8_nextRanks_19 : decode cX8_nextRanks 19 = .ok (.iconst 1, 1) := by decide +kernel
theorem dX8_nextRanks_20 : decode cX8_nextRanks 20 = .ok (.iadd, 1) := by decide +kernel
theorem dX8_nextRanks_21 : decode cX8_nextRanks 21 = .ok (.iaload, 1) := by decide +kernel
theorem dX8_nextRanks_22 : decode cX8_nextRanks 22 = .ok (.if_icmp .le 9, 3) := by decide +kernel
theorem dX8_nextRanks_25 : decode cX8_nextRanks 25 = .ok (.iinc 2 (-1), 3) := by decide +kernel
theorem dX8_nextRanks_28 : decode cX8_nextRanks 28 = .ok (.goto (-24), 3) := by decide +kernel
theorem dX8_nextRanks_31 : decode cX8_nextRanks 31 = .ok (.iload_n 2, 1) := by decide +kernel
theorem dX8_nextRanks_32 : decode cX8_nextRanks 32 = .ok (.ifCond .ge 5, 3) := by decide +kernel
theorem dX8_nextRanks_35 : decode cX8_nextRanks 35 = .ok (.iconst 0, 1) := by decide +kernel
theorem dX8_nextRanks_36 : decode cX8_nextRanks 36 = .ok (.ireturn, 1) := by decide +kernel
theorem dX8_nextRanks_37 : decode cX8_nextRanks 37 = .ok (.iload_n 1, 1) := by decide +kernel
theorem dX8_nextRanks_38 : decode cX8_nextRanks 38 = .ok (.iconst 1, 1) := by decide +kernel
theorem dX8_nextRanks_39 : decode cX8_nextRanks 39 = .ok (.isub, 1) := by decide +kernel
theorem dX8_nextRanks_40 : decode cX8_nextRanks 40 = .ok (.istore_n 3, 1) := by decide +kernel
theorem dX8_nextRanks_41 : decode cX8_nextRanks 41 = .ok (.aload_n 0, 1) := by decide +kernel
theorem dX8_nextRanks_42 : decode cX8_nextRanks 42 = .ok (.getfield 32, 3) := by decide +kernel
theorem dX8_nextRanks_45 : decode cX8_nextRanks 45 = .ok (.iload_n 3, 1) := by decide +kernel
theorem dX8_nextRanks_46 : decode cX8_nextRanks 46 = .ok (.iaload, 1) := by decide +kernel
theorem dX8_nextRanks_47 : decode cX8_nextRanks 47 = .ok (.aload_n 0, 1) := by decide +kernel
theorem dX8_nextRanks_48 : decode cX8_nextRanks 48 = .ok (.getfield 32, 3) := by decide +kernel
theorem dX8_nextRanks_51 : decode cX8_nextRanks 51 = .ok (.iload_n 2, 1) := by decide +kernel
theorem dX8_nextRanks_52 : decode cX8_nextRanks 52 = .ok (.iaload, 1) := by decide +kernel
theorem dX8_nextRanks_53 : decode cX8_nextRanks 53 = .ok (.if_icmp .ge 9, 3) := by decide +kernel
theorem dX8_nextRanks_56 : decode cX8_nextRanks 56 = .ok (.iinc 3 (-1), 3) := by decide +kernel
theorem dX8_nextRanks_59 : decode cX8_nextRanks 59 = .ok (.goto (-18), 3) := by decide +kernel
theorem dX8_nextRanks_62 : decode cX8_nextRanks 62 = .ok (.aload_n 0, 1) := by decide +kernel
theorem dX8_nextRanks_63 : decode cX8_nextRanks 63 = .ok (.iload_n 2, 1) := by decide +kernel
theorem dX8_nextRanks_64 : decode cX8_nextRanks 64 = .ok (.iload_n 3, 1) := by decide +kernel
theorem dX8_nextRanks_65 : decode cX8_nextRanks 65 = .ok (.invokevirtual 229, 3) := by decide +kernel
theorem dX8_nextRanks_68 : decode cX8_nextRanks 68 = .ok (.iload_n 2, 1) := by decide +kernel
theorem dX8_nextRanks_69 : decode cX8_nextRanks 69 = .ok (.iconst 1, 1) := by decide +kernel
theorem dX8_nextRanks_70 : decode cX8_nextRanks 70 = .ok (.iadd, 1) := by decide +kernel
theorem dX8_nextRanks_71 : decode cX8_nextRanks 71 = .ok (.istore 4, 2) := by decide +kernel
theorem dX8_nextRanks_73 : decode cX8_nextRanks 73 = .ok (.iload_n 1, 1) := by decide +kernel
theorem dX8_nextRanks_74 : decode cX8_nextRanks 74 = .ok (.iconst 1, 1) := by decide +kernel
theorem dX8_nextRanks_75 : decode cX8_nextRanks 75 = .ok (.isub, 1) := by decide +kernel
theorem dX8_nextRanks_76 : decode cX8_nextRanks 76 = .ok (.istore 5, 2) := by decide +kernel
theorem dX8_nextRanks_78 : decode cX8_nextRanks 78 = .ok (.iload 4, 2) := by decide +kernel
theorem dX8_nextRanks_80 : decode cX8_nextRanks 80 = .ok (.iload 5, 2) := by decide +kernel
theorem dX8_nextRanks_82 : decode cX8_nextRanks 82 = .ok (.if_icmp .ge 20, 3) := by decide +kernel
theorem dX8_nextRanks_85 : decode cX8_nextRanks 85 = .ok (.aload_n 0, 1) := by decide +kernel
theorem dX8_nextRanks_86 : decode cX8_nextRanks 86 = .ok (.iload 4, 2) := by decide +kernel
theorem dX8_nextRanks_88 : decode cX8_nextRanks 88 = .ok (.iload 5, 2) := by decide +kernel
theorem dX8_nextRanks_90 : decode cX8_nextRanks 90 = .ok (.invokevirtual 229, 3) := by decide +kernel
theorem dX8_nextRanks_93 : decode cX8_nextRanks 93 = .ok (.iinc 4 1, 3) := by decide +kernel
theorem dX8_nextRanks_96 : decode cX8_nextRanks 96 = .ok (.iinc 5 (-1), 3) := by decide +kernel
theorem dX8_nextRanks_99 : decode cX8_nextRanks 99 = .ok (.goto (-21), 3) := by decide +kernel
theorem dX8_nextRanks_102 : decode cX8_nextRanks 102 = .ok (.iconst 1, 1) := by decide +kernel
theorem dX8_nextRanks_103 : decode cX8_nextRanks 103 = .ok (.ireturn, 1) := by decide +kernel
theorem dX8_order_0 : decode cX8_order 0 = .ok (.aload_n 0, 1) := by decide +kernel
theorem dX8_order_1 : decode cX8_order 1 = .ok (.invokevirtual 179, 3) := by decide +kernel
theorem dX8_order_4 : decode cX8_order 4 = .ok (.ifCond .ne 6, 3) := by decide +kernel
theorem dX8_order_7 : decode cX8_order 7 = .ok (.ldc 178, 2) := by decide +kernel
theorem dX8_order_9 : decode cX8_order 9 = .ok (.ireturn, 1) := by decide +kernel
theorem dX8_order_10 : decode cX8_order 10 = .ok (.iload_n 1, 1) := by decide +kernel
theorem dX8_order_11 : decode cX8_order 11 = .ok (.i2l, 1) := by decide +kernel
theorem dX8_order_12 : decode cX8_order 12 = .ok (.lconst 1, 1) := by decide +kernel
theorem dX8_order_13 : decode cX8_order 13 = .ok (.ldc2_w 232, 3) := by decide +kernel
theorem dX8_order_16 : decode cX8_order 16 = .ok (.invokestatic 48, 3) := by decide +kernel
theorem dX8_order_19 : decode cX8_order 19 = .ok (.ifCond .eq 8, 3) := by decide +kernel
theorem dX8_order_22 : decode cX8_order 22 = .ok (.iload_n 2, 1) := by decide +kernel
theorem dX8_order_23 : decode cX8_order 23 = .ok (.iconst (-1), 1) := by decide +kernel
theorem dX8_order_24 : decode cX8_order 24 = .ok (.if_icmp .ge 6, 3) := by decide +kernel
theorem dX8_order_27 : decode cX8_order 27 = .ok (.ldc 58, 2) := by decide +kernel
theorem dX8_order_29 : decode cX8_order 29 = .ok (.ireturn, 1) := by decide +kernel
theorem dX8_order_30 : decode cX8_order 30 = .ok (.iconst (-1), 1) := by decide +kernel
theorem dX8_order_31 : decode cX8_order 31 = .ok (.istore_n 3, 1) := by decide +kernel
theorem dX8_order_32 : decode cX8_order 32 = .ok (.iconst 0, 1) := by decide +kernel
theorem dX8_order_33 : decode cX8_order 33 = .ok (.istore 4, 2) := by decide +kernel
theorem dX8_order_35 : decode cX8_order 35 = .ok (.iconst 1, 1) := by decide +kernel
theorem dX8_order_36 : decode cX8_order 36 = .ok (.istore 5, 2) := by decide +kernel
theorem dX8_order_38 : decode cX8_order 38 = .ok (.iload 5, 2) := by decide +kernel
theorem dX8_order_40 : decode cX8_order 40 = .ok (.ifCond .eq 117, 3) := by decide +kernel
theorem dX8_order_43 : decode cX8_order 43 = .ok (.aload_n 0, 1) := by decide +kernel
theorem dX8_order_44 : decode cX8_order 44 = .ok (.invokevirtual 222, 3) := by decide +kernel
theorem dX8_order_47 : decode cX8_order 47 = .ok (.aload_n 0, 1) := by decide +kernel
theorem dX8_order_48 : decode cX8_order 48 = .ok (.sipush 1053, 3) := by decide +kernel
theorem dX8_order_51 : decode cX8_order 51 = .ok (.iload_n 1, 1) := by decide +kernel
theorem dX8_order_52 : decode cX8_order 52 = .ok (.invokevirtual 187, 3) := by decide +kernel
theorem dX8_order_55 : decode cX8_order 55 = .ok (.aload_n 0, 1) := by decide +kernel
theorem dX8_order_56 : decode cX8_order 56 = .ok (.sipush 1053, 3) := by decide +kernel
theorem dX8_order_59 : decode cX8_order 59 = .ok (.invokevirtual 190, 3) := by decide +kernel
theorem dX8_order_62 : decode cX8_order 62 = .ok (.aload_n 0, 1) := by decide +kernel
theorem dX8_order_63 : decode cX8_order 63 = .ok (.sipush 1053, 3) := by decide +kernel
theorem dX8_order_66 : decode cX8_order 66 = .ok (.invokevirtual 214, 3) := by decide +kernel
theorem dX8_order_69 : decode cX8_order 69 = .ok (.iconst (-1), 1) := by decide +kernel
theorem dX8_order_70 : decode cX8_order 70 = .ok (.ixor, 1) := by decide +kernel
theorem dX8_order_71 : decode cX8_order 71 = .ok (.iand, 1) := by decide +kernel
theorem dX8_order_72 : decode cX8_order 72 = .ok (.invokestatic 207, 3) := by decide +kernel
theorem dX8_order_75 : decode cX8_order 75 = .ok (.istore 6, 2) := by decide +kernel
theorem dX8_order_77 : decode cX8_order 77 = .ok (.aload_n 0, 1) := by decide +kernel
theorem dX8_order_78 : decode cX8_order 78 = .ok (.sipush 1053, 3) := by decide +kernel
theorem dX8_order_81 : decode cX8_order 81 = .ok (.invokevirtual 234, 3) := by decide +kernel
theorem dX8_order_84 : decode cX8_order 84 = .ok (.istore 7, 2) := by decide +kernel
theorem dX8_order_86 : decode cX8_order 86 = .ok (.iload 6, 2) := by decide +kernel
theorem dX8_order_88 : decode cX8_order 88 = .ok (.iload_n 3, 1) := by decide +kernel
theorem dX8_order_89 : decode cX8_order 89 = .ok (.if_icmp .gt 16, 3) := by decide +kernel
theorem dX8_order_92 : decode cX8_order 92 = .ok (.iload 6, 2) := by decide +kernel
theorem dX8_order_94 : decode cX8_order 94 = .ok (.iload_n 3, 1) := by decide +kernel
theorem dX8_order_95 : decode cX8_order 95 = .ok (.if_icmp .ne 47, 3) := by decide +kernel
theorem dX8_order_98 : decode cX8_order 98 = .ok (.iload 7, 2) := by decide +kernel
theorem dX8_order_100 : decode cX8_order 100 = .ok (.iload 4, 2) := by decide +kernel
theorem dX8_order_102 : decode cX8_order 102 = .ok (.if_icmp .ge 40, 3) := by decide +kernel
theorem dX8_order_105 : decode cX8_order 105 = .ok (.iload 6, 2) := by decide +kernel
theorem dX8_order_107 : decode cX8_order 107 = .ok (.istore_n 3, 1) := by decide +kernel
theorem dX8_order_108 : decode cX8_order 108 = .ok (.iload 7, 2) := by decide +kernel
theorem dX8_order_110 : decode cX8_order 110 = .ok (.istore 4, 2) := by decide +kernel
theorem dX8_order_112 : decode cX8_order 112 = .ok (.iconst 0, 1) := by decide +kernel
theorem dX8_order_113 : decode cX8_order 113 = .ok (.istore 8, 2) := by decide +kernel
theorem dX8_order_115 : decode cX8_order 115 = .ok (.iload 8, 2) := by decide +kernel
theorem dX8_order_117 : decode cX8_order 117 = .ok (.bipush 6, 2) := by decide +kernel
theorem dX8_order_119 : decode cX8_order 119 = .ok (.if_icmp .ge 23, 3) := by decide +kernel
theorem dX8_order_122 : decode cX8_order 122 = .ok (.aload_n 0, 1) := by decide +kernel
theorem dX8_order_123 : decode cX8_order 123 = .ok (.getfield 35, 3) := by decide +kernel
theorem dX8_order_126 : decode cX8_order 126 = .ok (.iload 8, 2) := by decide +kernel
theorem dX8_order_128 : decode cX8_order 128 = .ok (.aload_n 0, 1) := by decide +kernel
theorem dX8_order_129 : decode cX8_order 129 = .ok (.getfield 32, 3) := by decide +kernel
theorem dX8_order_132 : decode cX8_order 132 = .ok (.iload 8, 2) := by decide +kernel
theorem dX8_order_134 : decode cX8_order 134 = .ok (.iaload, 1) := by decide +kernel
theorem dX8_order_135 : decode cX8_order 135 = .ok (.iastore, 1) := by decide +kernel
theorem dX8_order_136 : decode cX8_order 136 = .ok (.iinc 8 1, 3) := by decide +kernel
theorem dX8_order_139 : decode cX8_order 139 = .ok (.goto (-24), 3) := by decide +kernel
theorem dX8_order_142 : decode cX8_order 142 = .ok (.aload_n 0, 1) := by decide +kernel
theorem dX8_order_143 : decode cX8_order 143 = .ok (.aload_n 0, 1) := by decide +kernel
theorem dX8_order_144 : decode cX8_order 144 = .ok (.getfield 7, 3) := by decide +kernel
theorem dX8_order_147 : decode cX8_order 147 = .ok (.iconst 1, 1) := by decide +kernel
theorem dX8_order_148 : decode cX8_order 148 = .ok (.iaload, 1) := by decide +kernel
theorem dX8_order_149 : decode cX8_order 149 = .ok (.invokevirtual 237, 3) := by decide +kernel
theorem dX8_order_152 : decode cX8_order 152 = .ok (.istore 5, 2) := by decide +kernel
theorem dX8_order_154 : decode cX8_order 154 = .ok (.goto (-116), 3) := by decide +kernel
theorem dX8_order_157 : decode cX8_order 157 = .ok (.iconst 0, 1) := by decide +kernel
theorem dX8_order_158 : decode cX8_order 158 = .ok (.istore 6, 2) := by decide +kernel
theorem dX8_order_160 : decode cX8_order 160 = .ok (.iload 6, 2) := by decide +kernel
theorem dX8_order_162 : decode cX8_order 162 = .ok (.bipush 6, 2) := by decide +kernel
theorem dX8_order_164 : decode cX8_order 164 = .ok (.if_icmp .ge 18, 3) := by decide +kernel
theorem dX8_order_167 : decode cX8_order 167 = .ok (.aload_n 0, 1) := by decide +kernel
theorem dX8_order_168 : decode cX8_order 168 = .ok (.getfield 32, 3) := by decide +kernel
theorem dX8_order_171 : decode cX8_order 171 = .ok (.iload 6, 2) := by decide +kernel
theorem dX8_order_173 : decode cX8_order 173 = .ok (.iload 6, 2) := by decide +kernel
theorem dX8_order_175 : decode cX8_order 175 = .ok (.iastore, 1) := by decide +kernel
theorem dX8_order_176 : decode cX8_order 176 = .ok (.iinc 6 1, 3) := by decide +kernel
theorem dX8_order_179 : decode cX8_order 179 = .ok (.goto (-19), 3) := by decide +kernel
theorem dX8_order_182 : decode cX8_order 182 = .ok (.iload_n 2, 1) := by decide +kernel
theorem dX8_order_183 : decode cX8_order 183 = .ok (.iconst (-1), 1) := by decide +kernel
theorem dX8_order_184 : decode cX8_order 184 = .ok (.if_icmp .ne 7, 3) := by decide +kernel
theorem dX8_order_187 : decode cX8_order 187 = .ok (.iload_n 3, 1) := by decide +kernel
theorem dX8_order_188 : decode cX8_order 188 = .ok (.goto 24, 3) := by decide +kernel
theorem dX8_order_191 : decode cX8_order 191 = .ok (.iload_n 2, 1) := by decide +kernel
theorem dX8_order_192 : decode cX8_order 192 = .ok (.aload_n 0, 1) := by decide +kernel
theorem dX8_order_193 : decode cX8_order 193 = .ok (.getfield 7, 3) := by decide +kernel
theorem dX8_order_196 : decode cX8_order 196 = .ok (.iconst 1, 1) := by decide +kernel
theorem dX8_order_197 : decode cX8_order 197 = .ok (.iaload, 1) := by decide +kernel
theorem dX8_order_198 : decode cX8_order 198 = .ok (.if_icmp .ge 12, 3) := by decide +kernel
theorem dX8_order_201 : decode cX8_order 201 = .ok (.aload_n 0, 1) := by decide +kernel
theorem dX8_order_202 : decode cX8_order 202 = .ok (.getfield 35, 3) := by decide +kernel
theorem dX8_order_205 : decode cX8_order 205 = .ok (.iload_n 2, 1) := by decide +kernel
theorem dX8_order_206 : decode cX8_order 206 = .ok (.iaload, 1) := by decide +kernel
theorem dX8_order_207 : decode cX8_order 207 = .ok (.goto 5, 3) := by decide +kernel
theorem dX8_order_210 : decode cX8_order 210 = .ok (.ldc 116, 2) := by decide +kernel
theorem dX8_order_212 : decode cX8_order 212 = .ok (.ireturn, 1) := by decide +kernel
theorem dX8_marks_0 : decode cX8_marks 0 = .ok (.aload_n 0, 1) := by decide +kernel
theorem dX8_marks_1 : decode cX8_marks 1 = .ok (.invokevirtual 179, 3) := by decide +kernel
theorem dX8_marks_4 : decode cX8_marks 4 = .ok (.ifCond .ne 6, 3) := by decide +kernel
theorem dX8_marks_7 : decode cX8_marks 7 = .ok (.ldc 178, 2) := by decide +kernel
theorem dX8_marks_9 : decode cX8_marks 9 = .ok (.ireturn, 1) := by decide +kernel
theorem dX8_marks_10 : decode cX8_marks 10 = .ok (.iload_n 1, 1) := by decide +kernel
theorem dX8_marks_11 : decode cX8_marks 11 = .ok (.i2l, 1) := by decide +kernel
theorem dX8_marks_12 : decode cX8_marks 12 = .ok (.lconst 1, 1) := by decide +kernel
theorem dX8_marks_13 : decode cX8_marks 13 = .ok (.ldc2_w 232, 3) := by decide +kernel
theorem dX8_marks_16 : decode cX8_marks 16 = .ok (.invokestatic 48, 3) := by decide +kernel
theorem dX8_marks_19 : decode cX8_marks 19 = .ok (.ifCond .eq 13, 3) := by decide +kernel
theorem dX8_marks_22 : decode cX8_marks 22 = .ok (.iload_n 2, 1) := by decide +kernel
theorem dX8_marks_23 : decode cX8_marks 23 = .ok (.i2l, 1) := by decide +kernel
theorem dX8_marks_24 : decode cX8_marks 24 = .ok (.lconst 0, 1) := by decide +kernel
theorem dX8_marks_25 : decode cX8_marks 25 = .ok (.lconst 1, 1) := by decide +kernel
theorem dX8_marks_26 : decode cX8_marks 26 = .ok (.invokestatic 48, 3) := by decide +kernel
theorem dX8_marks_29 : decode cX8_marks 29 = .ok (.ifCond .ne 6, 3) := by decide +kernel
theorem dX8_marks_32 : decode cX8_marks 32 = .ok (.ldc 58, 2) := by decide +kernel
theorem dX8_marks_34 : decode cX8_marks 34 = .ok (.ireturn, 1) := by decide +kernel
theorem dX8_marks_35 : decode cX8_marks 35 = .ok (.iconst (-1), 1) := by decide +kernel
theorem dX8_marks_36 : decode cX8_marks 36 = .ok (.istore_n 3, 1) := by decide +kernel
theorem dX8_marks_37 : decode cX8_marks 37 = .ok (.iconst 0, 1) := by decide +kernel
theorem dX8_marks_38 : decode cX8_marks 38 = .ok (.istore 4, 2) := by decide +kernel
theorem dX8_marks_40 : decode cX8_marks 40 = .ok (.iload 4, 2) := by decide +kernel
theorem dX8_marks_42 : decode cX8_marks 42 = .ok (.iconst 1, 1) := by decide +kernel
theorem dX8_marks_43 : decode cX8_marks 43 = .ok (.aload_n 0, 1) := by decide +kernel
theorem dX8_marks_44 : decode cX8_marks 44 = .ok (.getfield 7, 3) := by decide +kernel
theorem dX8_marks_47 : decode cX8_marks 47 = .ok (.iconst 1, 1) := by decide +kernel
theorem dX8_marks_48 : decode cX8_marks 48 = .ok (.iaload, 1) := by decide +kernel
theorem dX8_marks_49 : decode cX8_marks 49 = .ok (.ishl, 1) := by decide +kernel
theorem dX8_marks_50 : decode cX8_marks 50 = .ok (.if_icmp .ge 122, 3) := by decide +kernel
theorem dX8_marks_53 : decode cX8_marks 53 = .ok (.iload_n 3, 1) := by decide +kernel
theorem dX8_marks_54 : decode cX8_marks 54 = .ok (.ifCond .lt 15, 3) := by decide +kernel
theorem dX8_marks_57 : decode cX8_marks 57 = .ok (.iload 4, 2) := by decide +kernel
theorem dX8_marks_59 : decode cX8_marks 59 = .ok (.invokestatic 207, 3) := by decide +kernel
theorem dX8_marks_62 : decode cX8_marks 62 = .ok (.iload_n 3, 1) := by decide +kernel
theorem dX8_marks_63 : decode cX8_marks 63 = .ok (.invokestatic 207, 3) := by decide +kernel
theorem dX8_marks_66 : decode cX8_marks 66 = .ok (.if_icmp .ge 100, 3) := by decide +kernel
theorem dX8_marks_69 : decode cX8_marks 69 = .ok (.aload_n 0, 1) := by decide +kernel
theorem dX8_marks_70 : decode cX8_marks 70 = .ok (.invokevirtual 222, 3) := by decide +kernel
theorem dX8_marks_73 : decode cX8_marks 73 = .ok (.iconst 0, 1) := by decide +kernel
theorem dX8_marks_74 : decode cX8_marks 74 = .ok (.istore 5, 2) := by decide +kernel
theorem dX8_marks_76 : decode cX8_marks 76 = .ok (.iload 5, 2) := by decide +kernel
theorem dX8_marks_78 : decode cX8_marks 78 = .ok (.aload_n 0, 1) := by decide +kernel
theorem dX8_marks_79 : decode cX8_marks 79 = .ok (.getfield 7, 3) := by decide +kernel
theorem dX8_marks_82 : decode cX8_marks 82 = .ok (.iconst 1, 1) := by decide +kernel
theorem dX8_marks_83 : decode cX8_marks 83 = .ok (.iaload, 1) := by decide +kernel
theorem dX8_marks_84 : decode cX8_marks 84 = .ok (.if_icmp .ge 49, 3) := by decide +kernel
theorem dX8_marks_87 : decode cX8_marks 87 = .ok (.aload_n 0, 1) := by decide +kernel
theorem dX8_marks_88 : decode cX8_marks 88 = .ok (.getfield 7, 3) := by decide +kernel
theorem dX8_marks_91 : decode cX8_marks 91 = .ok (.sipush 1080, 3) := by decide +kernel
theorem dX8_marks_94 : decode cX8_marks 94 = .ok (.iload 5, 2) := by decide +kernel
theorem dX8_marks_96 : decode cX8_marks 96 = .ok (.iadd, 1) := by decide +kernel
theorem dX8_marks_97 : decode cX8_marks 97 = .ok (.iload 4, 2) := by decide +kernel
theorem dX8_marks_99 : decode cX8_marks 99 = .ok (.iload 5, 2) := by decide +kernel
theorem dX8_marks_101 : decode cX8_marks 101 = .ok (.invokestatic 150, 3) := by decide +kernel
theorem dX8_marks_104 : decode cX8_marks 104 = .ok (.ifCond .eq 11, 3) := by decide +kernel
theorem dX8_marks_107 : decode cX8_marks 107 = .ok (.bipush 10, 2) := by decide +kernel
theorem dX8_marks_109 : decode cX8_marks 109 = .ok (.iload 5, 2) := by decide +kernel
theorem dX8_marks_111 : decode cX8_marks 111 = .ok (.iadd, 1) := by decide +kernel
theorem dX8_marks_112 : decode cX8_marks 112 = .ok (.goto 14, 3) := by decide +kernel
theorem dX8_marks_115 : decode cX8_marks 115 = .ok (.aload_n 0, 1) := by decide +kernel
theorem dX8_marks_116 : decode cX8_marks 116 = .ok (.getfield 7, 3) := by decide +kernel
theorem dX8_marks_119 : decode cX8_marks 119 = .ok (.sipush 1080, 3) := by decide +kernel
theorem dX8_marks_122 : decode cX8_marks 122 = .ok (.iload 5, 2) := by decide +kernel
theorem dX8_marks_124 : decode cX8_marks 124 = .ok (.iadd, 1) := by decide +kernel
theorem dX8_marks_125 : decode cX8_marks 125 = .ok (.iaload, 1) := by decide +kernel
theorem dX8_marks_126 : decode cX8_marks 126 = .ok (.iastore, 1) := by decide +kernel
theorem dX8_marks_127 : decode cX8_marks 127 = .ok (.iinc 5 1, 3) := by decide +kernel
theorem dX8_marks_130 : decode cX8_marks 130 = .ok (.goto (-54), 3) := by decide +kernel
theorem dX8_marks_133 : decode cX8_marks 133 = .ok (.aload_n 0, 1) := by decide +kernel
theorem dX8_marks_134 : decode cX8_marks 134 = .ok (.sipush 1053, 3) := by decide +kernel
theorem dX8_marks_137 : decode cX8_marks 137 = .ok (.iload_n 1, 1) := by decide +kernel
theorem dX8_marks_138 : decode cX8_marks 138 = .ok (.invokevirtual 187, 3) := by decide +kernel
theorem dX8_marks_141 : decode cX8_marks 141 = .ok (.aload_n 0, 1) := by decide +kernel
theorem dX8_marks_142 : decode cX8_marks 142 = .ok (.sipush 1053, 3) := by decide +kernel
theorem dX8_marks_145 : decode cX8_marks 145 = .ok (.invokevirtual 214, 3) := by decide +kernel
theorem dX8_marks_148 : decode cX8_marks 148 = .ok (.aload_n 0, 1) := by decide +kernel
theorem dX8_marks_149 : decode cX8_marks 149 = .ok (.iconst 0, 1) := by decide +kernel
theorem dX8_marks_150 : decode cX8_marks 150 = .ok (.invokevirtual 214, 3) := by decide +kernel
theorem dX8_marks_153 : decode cX8_marks 153 = .ok (.iconst (-1), 1) := by decide +kernel
theorem dX8_marks_154 : decode cX8_marks 154 = .ok (.ixor, 1) := by decide +kernel
theorem dX8_marks_155 : decode cX8_marks 155 = .ok (.iand, 1) := by decide +kernel
theorem dX8_marks_156 : decode cX8_marks 156 = .ok (.ifCond .ne 8, 3) := by decide +kernel
theorem dX8_marks_159 : decode cX8_marks 159 = .ok (.iload 4, 2) := by decide +kernel
theorem dX8_marks_161 : decode cX8_marks 161 = .ok (.goto 4, 3) := by decide +kernel
theorem dX8_marks_164 : decode cX8_marks 164 = .ok (.iload_n 3, 1) := by decide +kernel
theorem dX8_marks_165 : decode cX8_marks 165 = .ok (.istore_n 3, 1) := by decide +kernel
theorem dX8_marks_166 : decode cX8_marks 166 = .ok (.iinc 4 1, 3) := by decide +kernel
theorem dX8_marks_169 : decode cX8_marks 169 = .ok (.goto (-129), 3) := by decide +kernel
theorem dX8_marks_172 : decode cX8_marks 172 = .ok (.iload_n 2, 1) := by decide +kernel
theorem dX8_marks_173 : decode cX8_marks 173 = .ok (.ifCond .ne 10, 3) := by decide +kernel
theorem dX8_marks_176 : decode cX8_marks 176 = .ok (.iload_n 3, 1) := by decide +kernel
theorem dX8_marks_177 : decode cX8_marks 177 = .ok (.invokestatic 207, 3) := by decide +kernel
theorem dX8_marks_180 : decode cX8_marks 180 = .ok (.goto 4, 3) := by decide +kernel
theorem dX8_marks_183 : decode cX8_marks 183 = .ok (.iload_n 3, 1) := by decide +kernel
theorem dX8_marks_184 : decode cX8_marks 184 = .ok (.ireturn, 1) := by decide +kernel
theorem dX8_sawOf_0 : decode cX8_sawOf 0 = .ok (.iconst 0, 1) := by decide +kernel
theorem dX8_sawOf_1 : decode cX8_sawOf 1 = .ok (.istore_n 2, 1) := by decide +kernel
theorem dX8_sawOf_2 : decode cX8_sawOf 2 = .ok (.iconst 0, 1) := by decide +kernel
theorem dX8_sawOf_3 : decode cX8_sawOf 3 = .ok (.istore_n 3, 1) := by decide +kernel
theorem dX8_sawOf_4 : decode cX8_sawOf 4 = .ok (.iload_n 3, 1) := by decide +kernel
theorem dX8_sawOf_5 : decode cX8_sawOf 5 = .ok (.aload_n 0, 1) := by decide +kernel
theorem dX8_sawOf_6 : decode cX8_sawOf 6 = .ok (.getfield 7, 3) := by decide +kernel
theorem dX8_sawOf_9 : decode cX8_sawOf 9 = .ok (.iconst 1, 1) := by decide +kernel
theorem dX8_sawOf_10 : decode cX8_sawOf 10 = .ok (.iaload, 1) := by decide +kernel
theorem dX8_sawOf_11 : decode cX8_sawOf 11 = .ok (.if_icmp .ge 33, 3) := by decide +kernel
theorem dX8_sawOf_14 : decode cX8_sawOf 14 = .ok (.iload_n 2, 1) := by decide +kernel
theorem dX8_sawOf_15 : decode cX8_sawOf 15 = .ok (.iload_n 1, 1) := by decide +kernel
theorem dX8_sawOf_16 : decode cX8_sawOf 16 = .ok (.iload_n 3, 1) := by decide +kernel
theorem dX8_sawOf_17 : decode cX8_sawOf 17 = .ok (.invokestatic 150, 3) := by decide +kernel
theorem dX8_sawOf_20 : decode cX8_sawOf 20 = .ok (.ifCond .eq 15, 3) := by decide +kernel
theorem dX8_sawOf_23 : decode cX8_sawOf 23 = .ok (.aload_n 0, 1) := by decide +kernel
theorem dX8_sawOf_24 : decode cX8_sawOf 24 = .ok (.getfield 7, 3) := by decide +kernel
theorem dX8_sawOf_27 : decode cX8_sawOf 27 = .ok (.bipush 21, 2) := by decide +kernel
theorem dX8_sawOf_29 : decode cX8_sawOf 29 = .ok (.iload_n 3, 1) := by decide +kernel
theorem dX8_sawOf_30 : decode cX8_sawOf 30 = .ok (.iadd, 1) := by decide +kernel
theorem dX8_sawOf_31 : decode cX8_sawOf 31 = .ok (.iaload, 1) := by decide +kernel
theorem dX8_sawOf_32 : decode cX8_sawOf 32 = .ok (.goto 4, 3) := by decide +kernel
theorem dX8_sawOf_35 : decode cX8_sawOf 35 = .ok (.iconst 0, 1) := by decide +kernel
theorem dX8_sawOf_36 : decode cX8_sawOf 36 = .ok (.iadd, 1) := by decide +kernel
theorem dX8_sawOf_37 : decode cX8_sawOf 37 = .ok (.istore_n 2, 1) := by decide +kernel
theorem dX8_sawOf_38 : decode cX8_sawOf 38 = .ok (.iinc 3 1, 3) := by decide +kernel
theorem dX8_sawOf_41 : decode cX8_sawOf 41 = .ok (.goto (-37), 3) := by decide +kernel
theorem dX8_sawOf_44 : decode cX8_sawOf 44 = .ok (.iload_n 2, 1) := by decide +kernel
theorem dX8_sawOf_45 : decode cX8_sawOf 45 = .ok (.ireturn, 1) := by decide +kernel
theorem dX8_sets_0 : decode cX8_sets 0 = .ok (.aload_n 0, 1) := by decide +kernel
theorem dX8_sets_1 : decode cX8_sets 1 = .ok (.invokevirtual 179, 3) := by decide +kernel
theorem dX8_sets_4 : decode cX8_sets 4 = .ok (.ifCond .ne 6, 3) := by decide +kernel
theorem dX8_sets_7 : decode cX8_sets 7 = .ok (.ldc 178, 2) := by decide +kernel
theorem dX8_sets_9 : decode cX8_sets 9 = .ok (.ireturn, 1) := by decide +kernel
theorem dX8_sets_10 : decode cX8_sets 10 = .ok (.iload_n 1, 1) := by decide +kernel
theorem dX8_sets_11 : decode cX8_sets 11 = .ok (.i2l, 1) := by decide +kernel
theorem dX8_sets_12 : decode cX8_sets 12 = .ok (.lconst 0, 1) := by decide +kernel
theorem dX8_sets_13 : decode cX8_sets 13 = .ok (.ldc2_w 240, 3) := by decide +kernel
theorem dX8_sets_16 : decode cX8_sets 16 = .ok (.invokestatic 48, 3) := by decide +kernel
theorem dX8_sets_19 : decode cX8_sets 19 = .ok (.ifCond .eq 15, 3) := by decide +kernel
theorem dX8_sets_22 : decode cX8_sets 22 = .ok (.iload_n 2, 1) := by decide +kernel
theorem dX8_sets_23 : decode cX8_sets 23 = .ok (.i2l, 1) := by decide +kernel
theorem dX8_sets_24 : decode cX8_sets 24 = .ok (.lconst 0, 1) := by decide +kernel
theorem dX8_sets_25 : decode cX8_sets 25 = .ok (.ldc2_w 56, 3) := by decide +kernel
theorem dX8_sets_28 : decode cX8_sets 28 = .ok (.invokestatic 48, 3) := by decide +kernel
theorem dX8_sets_31 : decode cX8_sets 31 = .ok (.ifCond .ne 6, 3) := by decide +kernel
theorem dX8_sets_34 : decode cX8_sets 34 = .ok (.ldc 58, 2) := by decide +kernel
theorem dX8_sets_36 : decode cX8_sets 36 = .ok (.ireturn, 1) := by decide +kernel
theorem dX8_sets_37 : decode cX8_sets 37 = .ok (.iconst 1, 1) := by decide +kernel
theorem dX8_sets_38 : decode cX8_sets 38 = .ok (.aload_n 0, 1) := by decide +kernel
theorem dX8_sets_39 : decode cX8_sets 39 = .ok (.getfield 7, 3) := by decide +kernel
theorem dX8_sets_42 : decode cX8_sets 42 = .ok (.iconst 1, 1) := by decide +kernel
theorem dX8_sets_43 : decode cX8_sets 43 = .ok (.iaload, 1) := by decide +kernel
theorem dX8_sets_44 : decode cX8_sets 44 = .ok (.ishl, 1) := by decide +kernel
theorem dX8_sets_45 : decode cX8_sets 45 = .ok (.iconst 1, 1) := by decide +kernel
theorem dX8_sets_46 : decode cX8_sets 46 = .ok (.isub, 1) := by decide +kernel
theorem dX8_sets_47 : decode cX8_sets 47 = .ok (.aload_n 0, 1) := by decide +kernel
theorem dX8_sets_48 : decode cX8_sets 48 = .ok (.iconst 0, 1) := by decide +kernel
theorem dX8_sets_49 : decode cX8_sets 49 = .ok (.invokevirtual 190, 3) := by decide +kernel
theorem dX8_sets_52 : decode cX8_sets 52 = .ok (.iconst (-1), 1) := by decide +kernel
theorem dX8_sets_53 : decode cX8_sets 53 = .ok (.ixor, 1) := by decide +kernel
theorem dX8_sets_54 : decode cX8_sets 54 = .ok (.iand, 1) := by decide +kernel
theorem dX8_sets_55 : decode cX8_sets 55 = .ok (.istore_n 3, 1) := by decide +kernel
theorem dX8_sets_56 : decode cX8_sets 56 = .ok (.iconst 0, 1) := by decide +kernel
theorem dX8_sets_57 : decode cX8_sets 57 = .ok (.istore 4, 2) := by decide +kernel
theorem dX8_sets_59 : decode cX8_sets 59 = .ok (.iload_n 3, 1) := by decide +kernel
theorem dX8_sets_60 : decode cX8_sets 60 = .ok (.istore 5, 2) := by decide +kernel
theorem dX8_sets_62 : decode cX8_sets 62 = .ok (.iconst 0, 1) := by decide +kernel
theorem dX8_sets_63 : decode cX8_sets 63 = .ok (.istore 6, 2) := by decide +kernel
theorem dX8_sets_65 : decode cX8_sets 65 = .ok (.iconst 0, 1) := by decide +kernel
theorem dX8_sets_66 : decode cX8_sets 66 = .ok (.istore 7, 2) := by decide +kernel
theorem dX8_sets_68 : decode cX8_sets 68 = .ok (.iload 7, 2) := by decide +kernel
theorem dX8_sets_70 : decode cX8_sets 70 = .ok (.iload_n 3, 1) := by decide +kernel
theorem dX8_sets_71 : decode cX8_sets 71 = .ok (.if_icmp .gt 45, 3) := by decide +kernel
theorem dX8_sets_74 : decode cX8_sets 74 = .ok (.iload 7, 2) := by decide +kernel
theorem dX8_sets_76 : decode cX8_sets 76 = .ok (.iload_n 3, 1) := by decide +kernel
theorem dX8_sets_77 : decode cX8_sets 77 = .ok (.iconst (-1), 1) := by decide +kernel
theorem dX8_sets_78 : decode cX8_sets 78 = .ok (.ixor, 1) := by decide +kernel
theorem dX8_sets_79 : decode cX8_sets 79 = .ok (.iand, 1) := by decide +kernel
theorem dX8_sets_80 : decode cX8_sets 80 = .ok (.ifCond .ne 30, 3) := by decide +kernel
theorem dX8_sets_83 : decode cX8_sets 83 = .ok (.aload_n 0, 1) := by decide +kernel
theorem dX8_sets_84 : decode cX8_sets 84 = .ok (.iload 7, 2) := by decide +kernel
theorem dX8_sets_86 : decode cX8_sets 86 = .ok (.invokevirtual 242, 3) := by decide +kernel
theorem dX8_sets_89 : decode cX8_sets 89 = .ok (.iload_n 1, 1) := by decide +kernel
theorem dX8_sets_90 : decode cX8_sets 90 = .ok (.if_icmp .ne 20, 3) := by decide +kernel
theorem dX8_sets_93 : decode cX8_sets 93 = .ok (.iinc 4 1, 3) := by decide +kernel
theorem dX8_sets_96 : decode cX8_sets 96 = .ok (.iload 5, 2) := by decide +kernel
theorem dX8_sets_98 : decode cX8_sets 98 = .ok (.iload 7, 2) := by decide +kernel
theorem dX8_sets_100 : decode cX8_sets 100 = .ok (.iand, 1) := by decide +kernel
theorem dX8_sets_101 : decode cX8_sets 101 = .ok (.istore 5, 2) := by decide +kernel
theorem dX8_sets_103 : decode cX8_sets 103 = .ok (.iload 6, 2) := by decide +kernel
theorem dX8_sets_105 : decode cX8_sets 105 = .ok (.iload 7, 2) := by decide +kernel
theorem dX8_sets_107 : decode cX8_sets 107 = .ok (.ior, 1) := by decide +kernel
theorem dX8_sets_108 : decode cX8_sets 108 = .ok (.istore 6, 2) := by decide +kernel
theorem dX8_sets_110 : decode cX8_sets 110 = .ok (.iinc 7 1, 3) := by decide +kernel
theorem dX8_sets_113 : decode cX8_sets 113 = .ok (.goto (-45), 3) := by decide +kernel
theorem dX8_sets_116 : decode cX8_sets 116 = .ok (.iload_n 2, 1) := by decide +kernel
theorem dX8_sets_117 : decode cX8_sets 117 = .ok (.ifCond .ne 8, 3) := by decide +kernel
theorem dX8_sets_120 : decode cX8_sets 120 = .ok (.iload 4, 2) := by decide +kernel
theorem dX8_sets_122 : decode cX8_sets 122 = .ok (.goto 24, 3) := by decide +kernel
theorem dX8_sets_125 : decode cX8_sets 125 = .ok (.iload_n 2, 1) := by decide +kernel
theorem dX8_sets_126 : decode cX8_sets 126 = .ok (.iconst 2, 1) := by decide +kernel
theorem dX8_sets_127 : decode cX8_sets 127 = .ok (.if_icmp .ne 8, 3) := by decide +kernel
theorem dX8_sets_130 : decode cX8_sets 130 = .ok (.iload 6, 2) := by decide +kernel
theorem dX8_sets_132 : decode cX8_sets 132 = .ok (.goto 14, 3) := by decide +kernel
theorem dX8_sets_135 : decode cX8_sets 135 = .ok (.iload 4, 2) := by decide +kernel
theorem dX8_sets_137 : decode cX8_sets 137 = .ok (.ifCond .ne 7, 3) := by decide +kernel
theorem dX8_sets_140 : decode cX8_sets 140 = .ok (.iconst 0, 1) := by decide +kernel
theorem dX8_sets_141 : decode cX8_sets 141 = .ok (.goto 5, 3) := by decide +kernel
theorem dX8_sets_144 : decode cX8_sets 144 = .ok (.iload 5, 2) := by decide +kernel
theorem dX8_sets_146 : decode cX8_sets 146 = .ok (.ireturn, 1) := by decide +kernel
theorem dX8_share_0 : decode cX8_share 0 = .ok (.aload_n 0, 1) := by decide +kernel
theorem dX8_share_1 : decode cX8_share 1 = .ok (.iload_n 1, 1) := by decide +kernel
theorem dX8_share_2 : decode cX8_share 2 = .ok (.invokevirtual 193, 3) := by decide +kernel
theorem dX8_share_5 : decode cX8_share 5 = .ok (.ifCond .eq 15, 3) := by decide +kernel
theorem dX8_share_8 : decode cX8_share 8 = .ok (.iload_n 2, 1) := by decide +kernel
theorem dX8_share_9 : decode cX8_share 9 = .ok (.i2l, 1) := by decide +kernel
theorem dX8_share_10 : decode cX8_share 10 = .ok (.lconst 0, 1) := by decide +kernel
theorem dX8_share_11 : decode cX8_share 11 = .ok (.ldc2_w 245, 3) := by decide +kernel
theorem dX8_share_14 : decode cX8_share 14 = .ok (.invokestatic 48, 3) := by decide +kernel
theorem dX8_share_17 : decode cX8_share 17 = .ok (.ifCond .ne 6, 3) := by decide +kernel
theorem dX8_share_20 : decode cX8_share 20 = .ok (.ldc 58, 2) := by decide +kernel
theorem dX8_share_22 : decode cX8_share 22 = .ok (.ireturn, 1) := by decide +kernel
theorem dX8_share_23 : decode cX8_share 23 = .ok (.aload_n 0, 1) := by decide +kernel
theorem dX8_share_24 : decode cX8_share 24 = .ok (.iconst 0, 1) := by decide +kernel
theorem dX8_share_25 : decode cX8_share 25 = .ok (.invokevirtual 234, 3) := by decide +kernel
theorem dX8_share_28 : decode cX8_share 28 = .ok (.istore_n 3, 1) := by decide +kernel
theorem dX8_share_29 : decode cX8_share 29 = .ok (.iload_n 3, 1) := by decide +kernel
theorem dX8_share_30 : decode cX8_share 30 = .ok (.ifCond .ne 5, 3) := by decide +kernel
theorem dX8_share_33 : decode cX8_share 33 = .ok (.iconst 0, 1) := by decide +kernel
theorem dX8_share_34 : decode cX8_share 34 = .ok (.ireturn, 1) := by decide +kernel
theorem dX8_share_35 : decode cX8_share 35 = .ok (.iload_n 2, 1) := by decide +kernel
theorem dX8_share_36 : decode cX8_share 36 = .ok (.istore 4, 2) := by decide +kernel
theorem dX8_share_38 : decode cX8_share 38 = .ok (.iconst 0, 1) := by decide +kernel
theorem dX8_share_39 : decode cX8_share 39 = .ok (.istore 5, 2) := by decide +kernel
theorem dX8_share_41 : decode cX8_share 41 = .ok (.iconst 0, 1) := by decide +kernel
theorem dX8_share_42 : decode cX8_share 42 = .ok (.istore 6, 2) := by decide +kernel
theorem dX8_share_44 : decode cX8_share 44 = .ok (.iload 6, 2) := by decide +kernel
theorem dX8_share_46 : decode cX8_share 46 = .ok (.aload_n 0, 1) := by decide +kernel
theorem dX8_share_47 : decode cX8_share 47 = .ok (.getfield 7, 3) := by decide +kernel
theorem dX8_share_50 : decode cX8_share 50 = .ok (.iconst 1, 1) := by decide +kernel
theorem dX8_share_51 : decode cX8_share 51 = .ok (.iaload, 1) := by decide +kernel
theorem dX8_share_52 : decode cX8_share 52 = .ok (.if_icmp .ge 57, 3) := by decide +kernel
theorem dX8_share_55 : decode cX8_share 55 = .ok (.iload 4, 2) := by decide +kernel
theorem dX8_share_57 : decode cX8_share 57 = .ok (.iload_n 2, 1) := by decide +kernel
theorem dX8_share_58 : decode cX8_share 58 = .ok (.aload_n 0, 1) := by decide +kernel
theorem dX8_share_59 : decode cX8_share 59 = .ok (.getfield 7, 3) := by decide +kernel
theorem dX8_share_62 : decode cX8_share 62 = .ok (.bipush 21, 2) := by decide +kernel
theorem dX8_share_64 : decode cX8_share 64 = .ok (.iload 6, 2) := by decide +kernel
theorem dX8_share_66 : decode cX8_share 66 = .ok (.iadd, 1) := by decide +kernel
theorem dX8_share_67 : decode cX8_share 67 = .ok (.iaload, 1) := by decide +kernel
theorem dX8_share_68 : decode cX8_share 68 = .ok (.imul, 1) := by decide +kernel
theorem dX8_share_69 : decode cX8_share 69 = .ok (.iload_n 3, 1) := by decide +kernel
theorem dX8_share_70 : decode cX8_share 70 = .ok (.idiv, 1) := by decide +kernel
theorem dX8_share_71 : decode cX8_share 71 = .ok (.isub, 1) := by decide +kernel
theorem dX8_share_72 : decode cX8_share 72 = .ok (.istore 4, 2) := by decide +kernel
theorem dX8_share_74 : decode cX8_share 74 = .ok (.iload 5, 2) := by decide +kernel
theorem dX8_share_76 : decode cX8_share 76 = .ok (.iload 6, 2) := by decide +kernel
theorem dX8_share_78 : decode cX8_share 78 = .ok (.iload_n 1, 1) := by decide +kernel
theorem dX8_share_79 : decode cX8_share 79 = .ok (.if_icmp .ge 20, 3) := by decide +kernel
theorem dX8_share_82 : decode cX8_share 82 = .ok (.aload_n 0, 1) := by decide +kernel
theorem dX8_share_83 : decode cX8_share 83 = .ok (.getfield 7, 3) := by decide +kernel
theorem dX8_share_86 : decode cX8_share 86 = .ok (.bipush 21, 2) := by decide +kernel
theorem dX8_share_88 : decode cX8_share 88 = .ok (.iload 6, 2) := by decide +kernel
theorem dX8_share_90 : decode cX8_share 90 = .ok (.iadd, 1) := by decide +kernel
theorem dX8_share_91 : decode cX8_share 91 = .ok (.iaload, 1) := by decide +kernel
theorem dX8_share_92 : decode cX8_share 92 = .ok (.ifCond .le 7, 3) := by decide +kernel
theorem dX8_share_95 : decode cX8_share 95 = .ok (.iconst 1, 1) := by decide +kernel
theorem dX8_share_96 : decode cX8_share 96 = .ok (.goto 4, 3) := by decide +kernel
theorem dX8_share_99 : decode cX8_share 99 = .ok (.iconst 0, 1) := by decide +kernel
theorem dX8_share_100 : decode cX8_share 100 = .ok (.iadd, 1) := by decide +kernel
theorem dX8_share_101 : decode cX8_share 101 = .ok (.istore 5, 2) := by decide +kernel
theorem dX8_share_103 : decode cX8_share 103 = .ok (.iinc 6 1, 3) := by decide +kernel
theorem dX8_share_106 : decode cX8_share 106 = .ok (.goto (-62), 3) := by decide +kernel
theorem dX8_share_109 : decode cX8_share 109 = .ok (.iload_n 2, 1) := by decide +kernel
theorem dX8_share_110 : decode cX8_share 110 = .ok (.aload_n 0, 1) := by decide +kernel
theorem dX8_share_111 : decode cX8_share 111 = .ok (.getfield 7, 3) := by decide +kernel
theorem dX8_share_114 : decode cX8_share 114 = .ok (.bipush 21, 2) := by decide +kernel
theorem dX8_share_116 : decode cX8_share 116 = .ok (.iload_n 1, 1) := by decide +kernel
theorem dX8_share_117 : decode cX8_share 117 = .ok (.iadd, 1) := by decide +kernel
theorem dX8_share_118 : decode cX8_share 118 = .ok (.iaload, 1) := by decide +kernel
theorem dX8_share_119 : decode cX8_share 119 = .ok (.imul, 1) := by decide +kernel
theorem dX8_share_120 : decode cX8_share 120 = .ok (.iload_n 3, 1) := by decide +kernel
theorem dX8_share_121 : decode cX8_share 121 = .ok (.idiv, 1) := by decide +kernel
theorem dX8_share_122 : decode cX8_share 122 = .ok (.aload_n 0, 1) := by decide +kernel
theorem dX8_share_123 : decode cX8_share 123 = .ok (.getfield 7, 3) := by decide +kernel
theorem dX8_share_126 : decode cX8_share 126 = .ok (.bipush 21, 2) := by decide +kernel
theorem dX8_share_128 : decode cX8_share 128 = .ok (.iload_n 1, 1) := by decide +kernel
theorem dX8_share_129 : decode cX8_share 129 = .ok (.iadd, 1) := by decide +kernel
theorem dX8_share_130 : decode cX8_share 130 = .ok (.iaload, 1) := by decide +kernel
theorem dX8_share_131 : decode cX8_share 131 = .ok (.ifCond .le 14, 3) := by decide +kernel
theorem dX8_share_134 : decode cX8_share 134 = .ok (.iload 5, 2) := by decide +kernel
theorem dX8_share_136 : decode cX8_share 136 = .ok (.iload 4, 2) := by decide +kernel
theorem dX8_share_138 : decode cX8_share 138 = .ok (.if_icmp .ge 7, 3) := by decide +kernel
theorem dX8_share_141 : decode cX8_share 141 = .ok (.iconst 1, 1) := by decide +kernel
theorem dX8_share_142 : decode cX8_share 142 = .ok (.goto 4, 3) := by decide +kernel
theorem dX8_share_145 : decode cX8_share 145 = .ok (.iconst 0, 1) := by decide +kernel
theorem dX8_share_146 : decode cX8_share 146 = .ok (.iadd, 1) := by decide +kernel
theorem dX8_share_147 : decode cX8_share 147 = .ok (.ireturn, 1) := by decide +kernel
theorem dX8_byTurns_0 : decode cX8_byTurns 0 = .ok (.aload_n 0, 1) := by decide +kernel
theorem dX8_byTurns_1 : decode cX8_byTurns 1 = .ok (.invokevirtual 179, 3) := by decide +kernel
theorem dX8_byTurns_4 : decode cX8_byTurns 4 = .ok (.ifCond .ne 6, 3) := by decide +kernel
theorem dX8_byTurns_7 : decode cX8_byTurns 7 = .ok (.ldc 178, 2) := by decide +kernel
theorem dX8_byTurns_9 : decode cX8_byTurns 9 = .ok (.ireturn, 1) := by decide +kernel
theorem dX8_byTurns_10 : decode cX8_byTurns 10 = .ok (.iload_n 1, 1) := by decide +kernel
theorem dX8_byTurns_11 : decode cX8_byTurns 11 = .ok (.i2l, 1) := by decide +kernel
theorem dX8_byTurns_12 : decode cX8_byTurns 12 = .ok (.lconst 0, 1) := by decide +kernel
theorem dX8_byTurns_13 : decode cX8_byTurns 13 = .ok (.ldc2_w 247, 3) := by decide +kernel
theorem dX8_byTurns_16 : decode cX8_byTurns 16 = .ok (.invokestatic 48, 3) := by decide +kernel
theorem dX8_byTurns_19 : decode cX8_byTurns 19 = .ok (.ifCond .eq 15, 3) := by decide +kernel
theorem dX8_byTurns_22 : decode cX8_byTurns 22 = .ok (.iload_n 2, 1) := by decide +kernel
theorem dX8_byTurns_23 : decode cX8_byTurns 23 = .ok (.i2l, 1) := by decide +kernel
theorem dX8_byTurns_24 : decode cX8_byTurns 24 = .ok (.lconst 1, 1) := by decide +kernel
theorem dX8_byTurns_25 : decode cX8_byTurns 25 = .ok (.ldc2_w 114, 3) := by decide +kernel
theorem dX8_byTurns_28 : decode cX8_byTurns 28 = .ok (.invokestatic 48, 3) := by decide +kernel
theorem dX8_byTurns_31 : decode cX8_byTurns 31 = .ok (.ifCond .ne 6, 3) := by decide +kernel
theorem dX8_byTurns_34 : decode cX8_byTurns 34 = .ok (.ldc 58, 2) := by decide +kernel
theorem dX8_byTurns_36 : decode cX8_byTurns 36 = .ok (.ireturn, 1) := by decide +kernel
theorem dX8_byTurns_37 : decode cX8_byTurns 37 = .ok (.iconst 0, 1) := by decide +kernel
theorem dX8_byTurns_38 : decode cX8_byTurns 38 = .ok (.istore_n 3, 1) := by decide +kernel
theorem dX8_byTurns_39 : decode cX8_byTurns 39 = .ok (.iload_n 3, 1) := by decide +kernel
theorem dX8_byTurns_40 : decode cX8_byTurns 40 = .ok (.iconst 1, 1) := by decide +kernel
theorem dX8_byTurns_41 : decode cX8_byTurns 41 = .ok (.iload_n 1, 1) := by decide +kernel
theorem dX8_byTurns_42 : decode cX8_byTurns 42 = .ok (.ishl, 1) := by decide +kernel
theorem dX8_byTurns_43 : decode cX8_byTurns 43 = .ok (.if_icmp .ge 84, 3) := by decide +kernel
theorem dX8_byTurns_46 : decode cX8_byTurns 46 = .ok (.aload_n 0, 1) := by decide +kernel
theorem dX8_byTurns_47 : decode cX8_byTurns 47 = .ok (.invokevirtual 222, 3) := by decide +kernel
theorem dX8_byTurns_50 : decode cX8_byTurns 50 = .ok (.iconst 0, 1) := by decide +kernel
theorem dX8_byTurns_51 : decode cX8_byTurns 51 = .ok (.istore 4, 2) := by decide +kernel
theorem dX8_byTurns_53 : decode cX8_byTurns 53 = .ok (.iload 4, 2) := by decide +kernel
theorem dX8_byTurns_55 : decode cX8_byTurns 55 = .ok (.iload_n 1, 1) := by decide +kernel
theorem dX8_byTurns_56 : decode cX8_byTurns 56 = .ok (.if_icmp .ge 41, 3) := by decide +kernel
theorem dX8_byTurns_59 : decode cX8_byTurns 59 = .ok (.iload_n 3, 1) := by decide +kernel
theorem dX8_byTurns_60 : decode cX8_byTurns 60 = .ok (.iload_n 1, 1) := by decide +kernel
theorem dX8_byTurns_61 : decode cX8_byTurns 61 = .ok (.iconst 1, 1) := by decide +kernel
theorem dX8_byTurns_62 : decode cX8_byTurns 62 = .ok (.isub, 1) := by decide +kernel
theorem dX8_byTurns_63 : decode cX8_byTurns 63 = .ok (.iload 4, 2) := by decide +kernel
theorem dX8_byTurns_65 : decode cX8_byTurns 65 = .ok (.isub, 1) := by decide +kernel
theorem dX8_byTurns_66 : decode cX8_byTurns 66 = .ok (.invokestatic 150, 3) := by decide +kernel
theorem dX8_byTurns_69 : decode cX8_byTurns 69 = .ok (.ifCond .eq 22, 3) := by decide +kernel
theorem dX8_byTurns_72 : decode cX8_byTurns 72 = .ok (.aload_n 0, 1) := by decide +kernel
theorem dX8_byTurns_73 : decode cX8_byTurns 73 = .ok (.sipush 1053, 3) := by decide +kernel
theorem dX8_byTurns_76 : decode cX8_byTurns 76 = .ok (.iload 4, 2) := by decide +kernel
theorem dX8_byTurns_78 : decode cX8_byTurns 78 = .ok (.iconst 2, 1) := by decide +kernel
theorem dX8_byTurns_79 : decode cX8_byTurns 79 = .ok (.irem, 1) := by decide +kernel
theorem dX8_byTurns_80 : decode cX8_byTurns 80 = .ok (.ifCond .ne 7, 3) := by decide +kernel
theorem dX8_byTurns_83 : decode cX8_byTurns 83 = .ok (.iconst 1, 1) := by decide +kernel
theorem dX8_byTurns_84 : decode cX8_byTurns 84 = .ok (.goto 4, 3) := by decide +kernel
theorem dX8_byTurns_87 : decode cX8_byTurns 87 = .ok (.iconst (-1), 1) := by decide +kernel
theorem dX8_byTurns_88 : decode cX8_byTurns 88 = .ok (.invokevirtual 162, 3) := by decide +kernel
theorem dX8_byTurns_91 : decode cX8_byTurns 91 = .ok (.iinc 4 1, 3) := by decide +kernel
theorem dX8_byTurns_94 : decode cX8_byTurns 94 = .ok (.goto (-41), 3) := by decide +kernel
theorem dX8_byTurns_97 : decode cX8_byTurns 97 = .ok (.aload_n 0, 1) := by decide +kernel
theorem dX8_byTurns_98 : decode cX8_byTurns 98 = .ok (.sipush 1053, 3) := by decide +kernel
theorem dX8_byTurns_101 : decode cX8_byTurns 101 = .ok (.iload_n 2, 1) := by decide +kernel
theorem dX8_byTurns_102 : decode cX8_byTurns 102 = .ok (.invokevirtual 187, 3) := by decide +kernel
theorem dX8_byTurns_105 : decode cX8_byTurns 105 = .ok (.aload_n 0, 1) := by decide +kernel
theorem dX8_byTurns_106 : decode cX8_byTurns 106 = .ok (.getfield 38, 3) := by decide +kernel
theorem dX8_byTurns_109 : decode cX8_byTurns 109 = .ok (.iload_n 3, 1) := by decide +kernel
theorem dX8_byTurns_110 : decode cX8_byTurns 110 = .ok (.aload_n 0, 1) := by decide +kernel
theorem dX8_byTurns_111 : decode cX8_byTurns 111 = .ok (.sipush 1053, 3) := by decide +kernel
theorem dX8_byTurns_114 : decode cX8_byTurns 114 = .ok (.invokevirtual 190, 3) := by decide +kernel
theorem dX8_byTurns_117 : decode cX8_byTurns 117 = .ok (.invokestatic 207, 3) := by decide +kernel
theorem dX8_byTurns_120 : decode cX8_byTurns 120 = .ok (.iastore, 1) := by decide +kernel
theorem dX8_byTurns_121 : decode cX8_byTurns 121 = .ok (.iinc 3 1, 3) := by decide +kernel
theorem dX8_byTurns_124 : decode cX8_byTurns 124 = .ok (.goto (-85), 3) := by decide +kernel
theorem dX8_byTurns_127 : decode cX8_byTurns 127 = .ok (.iload_n 1, 1) := by decide +kernel
theorem dX8_byTurns_128 : decode cX8_byTurns 128 = .ok (.iconst 1, 1) := by decide +kernel
theorem dX8_byTurns_129 : decode cX8_byTurns 129 = .ok (.isub, 1) := by decide +kernel
theorem dX8_byTurns_130 : decode cX8_byTurns 130 = .ok (.istore_n 3, 1) := by decide +kernel
theorem dX8_byTurns_131 : decode cX8_byTurns 131 = .ok (.iload_n 3, 1) := by decide +kernel
theorem dX8_byTurns_132 : decode cX8_byTurns 132 = .ok (.ifCond .lt 102, 3) := by decide +kernel
theorem dX8_byTurns_135 : decode cX8_byTurns 135 = .ok (.iconst 0, 1) := by decide +kernel
theorem dX8_byTurns_136 : decode cX8_byTurns 136 = .ok (.istore 4, 2) := by decide +kernel
theorem dX8_byTurns_138 : decode cX8_byTurns 138 = .ok (.iload 4, 2) := by decide +kernel
theorem dX8_byTurns_140 : decode cX8_byTurns 140 = .ok (.iconst 1, 1) := by decide +kernel
theorem dX8_byTurns_141 : decode cX8_byTurns 141 = .ok (.iload_n 3, 1) := by decide +kernel
theorem dX8_byTurns_142 : decode cX8_byTurns 142 = .ok (.ishl, 1) := by decide +kernel
theorem dX8_byTurns_143 : decode cX8_byTurns 143 = .ok (.if_icmp .ge 85, 3) := by decide +kernel
theorem dX8_byTurns_146 : decode cX8_byTurns 146 = .ok (.aload_n 0, 1) := by decide +kernel
theorem dX8_byTurns_147 : decode cX8_byTurns 147 = .ok (.getfield 38, 3) := by decide +kernel
theorem dX8_byTurns_150 : decode cX8_byTurns 150 = .ok (.iconst 2, 1) := by decide +kernel
theorem dX8_byTurns_151 : decode cX8_byTurns 151 = .ok (.iload 4, 2) := by decide +kernel
theorem dX8_byTurns_153 : decode cX8_byTurns 153 = .ok (.imul, 1) := by decide +kernel
theorem dX8_byTurns_154 : decode cX8_byTurns 154 = .ok (.iconst 1, 1) := by decide +kernel
theorem dX8_byTurns_155 : decode cX8_byTurns 155 = .ok (.iadd, 1) := by decide +kernel
theorem dX8_byTurns_156 : decode cX8_byTurns 156 = .ok (.iaload, 1) := by decide +kernel
theorem dX8_byTurns_157 : decode cX8_byTurns 157 = .ok (.aload_n 0, 1) := by decide +kernel
theorem dX8_byTurns_158 : decode cX8_byTurns 158 = .ok (.getfield 38, 3) := by decide +kernel
theorem dX8_byTurns_161 : decode cX8_byTurns 161 = .ok (.iconst 2, 1) := by decide +kernel
theorem dX8_byTurns_162 : decode cX8_byTurns 162 = .ok (.iload 4, 2) := by decide +kernel
theorem dX8_byTurns_164 : decode cX8_byTurns 164 = .ok (.imul, 1) := by decide +kernel
theorem dX8_byTurns_165 : decode cX8_byTurns 165 = .ok (.iaload, 1) := by decide +kernel
theorem dX8_byTurns_166 : decode cX8_byTurns 166 = .ok (.if_icmp .le 7, 3) := by decide +kernel
theorem dX8_byTurns_169 : decode cX8_byTurns 169 = .ok (.iconst 1, 1) := by decide +kernel
theorem dX8_byTurns_170 : decode cX8_byTurns 170 = .ok (.goto 4, 3) := by decide +kernel
theorem dX8_byTurns_173 : decode cX8_byTurns 173 = .ok (.iconst 0, 1) := by decide +kernel
theorem dX8_byTurns_174 : decode cX8_byTurns 174 = .ok (.istore 5, 2) := by decide +kernel
theorem dX8_byTurns_176 : decode cX8_byTurns 176 = .ok (.aload_n 0, 1) := by decide +kernel
theorem dX8_byTurns_177 : decode cX8_byTurns 177 = .ok (.getfield 38, 3) := by decide +kernel
theorem dX8_byTurns_180 : decode cX8_byTurns 180 = .ok (.iload 4, 2) := by decide +kernel
theorem dX8_byTurns_182 : decode cX8_byTurns 182 = .ok (.iload 5, 2) := by decide +kernel
theorem dX8_byTurns_184 : decode cX8_byTurns 184 = .ok (.iload_n 3, 1) := by decide +kernel
theorem dX8_byTurns_185 : decode cX8_byTurns 185 = .ok (.iconst 2, 1) := by decide +kernel
theorem dX8_byTurns_186 : decode cX8_byTurns 186 = .ok (.irem, 1) := by decide +kernel
theorem dX8_byTurns_187 : decode cX8_byTurns 187 = .ok (.ifCond .ne 7, 3) := by decide +kernel
theorem dX8_byTurns_190 : decode cX8_byTurns 190 = .ok (.iconst 1, 1) := by decide +kernel
theorem dX8_byTurns_191 : decode cX8_byTurns 191 = .ok (.goto 4, 3) := by decide +kernel
theorem dX8_byTurns_194 : decode cX8_byTurns 194 = .ok (.iconst 0, 1) := by decide +kernel
theorem dX8_byTurns_195 : decode cX8_byTurns 195 = .ok (.if_icmp .ne 17, 3) := by decide +kernel
theorem dX8_byTurns_198 : decode cX8_byTurns 198 = .ok (.aload_n 0, 1) := by decide +kernel
theorem dX8_byTurns_199 : decode cX8_byTurns 199 = .ok (.getfield 38, 3) := by decide +kernel
theorem dX8_byTurns_202 : decode cX8_byTurns 202 = .ok (.iconst 2, 1) := by decide +kernel
theorem dX8_byTurns_203 : decode cX8_byTurns 203 = .ok (.iload 4, 2) := by decide +kernel
theorem dX8_byTurns_205 : decode cX8_byTurns 205 = .ok (.imul, 1) := by decide +kernel
theorem dX8_byTurns_206 : decode cX8_byTurns 206 = .ok (.iconst 1, 1) := by decide +kernel
theorem dX8_byTurns_207 : decode cX8_byTurns 207 = .ok (.iadd, 1) := by decide +kernel
theorem dX8_byTurns_208 : decode cX8_byTurns 208 = .ok (.iaload, 1) := by decide +kernel
theorem dX8_byTurns_209 : decode cX8_byTurns 209 = .ok (.goto 12, 3) := by decide +kernel
theorem dX8_byTurns_212 : decode cX8_byTurns 212 = .ok (.aload_n 0, 1) := by decide +kernel
theorem dX8_byTurns_213 : decode cX8_byTurns 213 = .ok (.getfield 38, 3) := by decide +kernel
theorem dX8_byTurns_216 : decode cX8_byTurns 216 = .ok (.iconst 2, 1) := by decide +kernel
theorem dX8_byTurns_217 : decode cX8_byTurns 217 = .ok (.iload 4, 2) := by decide +kernel
theorem dX8_byTurns_219 : decode cX8_byTurns 219 = .ok (.imul, 1) := by decide +kernel
theorem dX8_byTurns_220 : decode cX8_byTurns 220 = .ok (.iaload, 1) := by decide +kernel
theorem dX8_byTurns_221 : decode cX8_byTurns 221 = .ok (.iastore, 1) := by decide +kernel
theorem dX8_byTurns_222 : decode cX8_byTurns 222 = .ok (.iinc 4 1, 3) := by decide +kernel
theorem dX8_byTurns_225 : decode cX8_byTurns 225 = .ok (.goto (-87), 3) := by decide +kernel
theorem dX8_byTurns_228 : decode cX8_byTurns 228 = .ok (.iinc 3 (-1), 3) := by decide +kernel
theorem dX8_byTurns_231 : decode cX8_byTurns 231 = .ok (.goto (-100), 3) := by decide +kernel
theorem dX8_byTurns_234 : decode cX8_byTurns 234 = .ok (.aload_n 0, 1) := by decide +kernel
theorem dX8_byTurns_235 : decode cX8_byTurns 235 = .ok (.getfield 38, 3) := by decide +kernel
theorem dX8_byTurns_238 : decode cX8_byTurns 238 = .ok (.iconst 0, 1) := by decide +kernel
theorem dX8_byTurns_239 : decode cX8_byTurns 239 = .ok (.iaload, 1) := by decide +kernel
theorem dX8_byTurns_240 : decode cX8_byTurns 240 = .ok (.ireturn, 1) := by decide +kernel
theorem dX8_isSo_0 : decode cX8_isSo 0 = .ok (.iconst 1, 1) := by decide +kernel
theorem dX8_isSo_1 : decode cX8_isSo 1 = .ok (.istore 4, 2) := by decide +kernel
theorem dX8_isSo_3 : decode cX8_isSo 3 = .ok (.iconst 0, 1) := by decide +kernel
theorem dX8_isSo_4 : decode cX8_isSo 4 = .ok (.istore 5, 2) := by decide +kernel
theorem dX8_isSo_6 : decode cX8_isSo 6 = .ok (.iload 5, 2) := by decide +kernel
theorem dX8_isSo_8 : decode cX8_isSo 8 = .ok (.iload_n 3, 1) := by decide +kernel
theorem dX8_isSo_9 : decode cX8_isSo 9 = .ok (.if_icmp .ge 51, 3) := by decide +kernel
theorem dX8_isSo_12 : decode cX8_isSo 12 = .ok (.aload_n 0, 1) := by decide +kernel
theorem dX8_isSo_13 : decode cX8_isSo 13 = .ok (.sipush 1053, 3) := by decide +kernel
theorem dX8_isSo_16 : decode cX8_isSo 16 = .ok (.iconst 1, 1) := by decide +kernel
theorem dX8_isSo_17 : decode cX8_isSo 17 = .ok (.invokevirtual 187, 3) := by decide +kernel
theorem dX8_isSo_20 : decode cX8_isSo 20 = .ok (.iload 4, 2) := by decide +kernel
theorem dX8_isSo_22 : decode cX8_isSo 22 = .ok (.ifCond .eq 29, 3) := by decide +kernel
theorem dX8_isSo_25 : decode cX8_isSo 25 = .ok (.aload_n 0, 1) := by decide +kernel
theorem dX8_isSo_26 : decode cX8_isSo 26 = .ok (.getfield 7, 3) := by decide +kernel
theorem dX8_isSo_29 : decode cX8_isSo 29 = .ok (.sipush 1086, 3) := by decide +kernel
theorem dX8_isSo_32 : decode cX8_isSo 32 = .ok (.iload_n 1, 1) := by decide +kernel
theorem dX8_isSo_33 : decode cX8_isSo 33 = .ok (.iadd, 1) := by decide +kernel
theorem dX8_isSo_34 : decode cX8_isSo 34 = .ok (.iaload, 1) := by decide +kernel
theorem dX8_isSo_35 : decode cX8_isSo 35 = .ok (.aload_n 0, 1) := by decide +kernel
theorem dX8_isSo_36 : decode cX8_isSo 36 = .ok (.getfield 23, 3) := by decide +kernel
theorem dX8_isSo_39 : decode cX8_isSo 39 = .ok (.iload_n 2, 1) := by decide +kernel
theorem dX8_isSo_40 : decode cX8_isSo 40 = .ok (.iload 5, 2) := by decide +kernel
theorem dX8_isSo_42 : decode cX8_isSo 42 = .ok (.iadd, 1) := by decide +kernel
theorem dX8_isSo_43 : decode cX8_isSo 43 = .ok (.iaload, 1) := by decide +kernel
theorem dX8_isSo_44 : decode cX8_isSo 44 = .ok (.if_icmp .ne 7, 3) := by decide +kernel
theorem dX8_isSo_47 : decode cX8_isSo 47 = .ok (.iconst 1, 1) := by decide +kernel
theorem dX8_isSo_48 : decode cX8_isSo 48 = .ok (.goto 4, 3) := by decide +kernel
theorem dX8_isSo_51 : decode cX8_isSo 51 = .ok (.iconst 0, 1) := by decide +kernel
theorem dX8_isSo_52 : decode cX8_isSo 52 = .ok (.istore 4, 2) := by decide +kernel
theorem dX8_isSo_54 : decode cX8_isSo 54 = .ok (.iinc 5 1, 3) := by decide +kernel
theorem dX8_isSo_57 : decode cX8_isSo 57 = .ok (.goto (-51), 3) := by decide +kernel
theorem dX8_isSo_60 : decode cX8_isSo 60 = .ok (.iload 4, 2) := by decide +kernel
theorem dX8_isSo_62 : decode cX8_isSo 62 = .ok (.ireturn, 1) := by decide +kernel
theorem dX8_refusal_0 : decode cX8_refusal 0 = .ok (.aload_n 0, 1) := by decide +kernel
theorem dX8_refusal_1 : decode cX8_refusal 1 = .ok (.getfield 20, 3) := by decide +kernel
theorem dX8_refusal_4 : decode cX8_refusal 4 = .ok (.iload_n 1, 1) := by decide +kernel
theorem dX8_refusal_5 : decode cX8_refusal 5 = .ok (.iaload, 1) := by decide +kernel
theorem dX8_refusal_6 : decode cX8_refusal 6 = .ok (.ifCond .ge 11, 3) := by decide +kernel
theorem dX8_refusal_9 : decode cX8_refusal 9 = .ok (.aload_n 0, 1) := by decide +kernel
theorem dX8_refusal_10 : decode cX8_refusal 10 = .ok (.iconst 1, 1) := by decide +kernel
theorem dX8_refusal_11 : decode cX8_refusal 11 = .ok (.invokevirtual 59, 3) := by decide +kernel
theorem dX8_refusal_14 : decode cX8_refusal 14 = .ok (.goto 22, 3) := by decide +kernel
theorem dX8_refusal_17 : decode cX8_refusal 17 = .ok (.aload_n 0, 1) := by decide +kernel
theorem dX8_refusal_18 : decode cX8_refusal 18 = .ok (.iload_n 1, 1) := by decide +kernel
theorem dX8_refusal_19 : decode cX8_refusal 19 = .ok (.iload_n 2, 1) := by decide +kernel
theorem dX8_refusal_20 : decode cX8_refusal 20 = .ok (.iload_n 3, 1) := by decide +kernel
theorem dX8_refusal_21 : decode cX8_refusal 21 = .ok (.invokevirtual 70, 3) := by decide +kernel
theorem dX8_refusal_24 : decode cX8_refusal 24 = .ok (.ifCond .ne 11, 3) := by decide +kernel
theorem dX8_refusal_27 : decode cX8_refusal 27 = .ok (.aload_n 0, 1) := by decide +kernel
theorem dX8_refusal_28 : decode cX8_refusal 28 = .ok (.iconst 2, 1) := by decide +kernel
theorem dX8_refusal_29 : decode cX8_refusal 29 = .ok (.invokevirtual 59, 3) := by decide +kernel
theorem dX8_refusal_32 : decode cX8_refusal 32 = .ok (.goto 4, 3) := by decide +kernel
theorem dX8_refusal_35 : decode cX8_refusal 35 = .ok (.iconst 0, 1) := by decide +kernel
theorem dX8_refusal_36 : decode cX8_refusal 36 = .ok (.ireturn, 1) := by decide +kernel
theorem dX8_who_0 : decode cX8_who 0 = .ok (.aload_n 0, 1) := by decide +kernel
theorem dX8_who_1 : decode cX8_who 1 = .ok (.iload_n 1, 1) := by decide +kernel
theorem dX8_who_2 : decode cX8_who 2 = .ok (.invokevirtual 193, 3) := by decide +kernel
theorem dX8_who_5 : decode cX8_who 5 = .ok (.ifCond .eq 42, 3) := by decide +kernel
theorem dX8_who_8 : decode cX8_who 8 = .ok (.iload_n 2, 1) := by decide +kernel
theorem dX8_who_9 : decode cX8_who 9 = .ok (.i2l, 1) := by decide +kernel
theorem dX8_who_10 : decode cX8_who 10 = .ok (.lconst 0, 1) := by decide +kernel
theorem dX8_who_11 : decode cX8_who 11 = .ok (.lconst 1, 1) := by decide +kernel
theorem dX8_who_12 : decode cX8_who 12 = .ok (.invokestatic 48, 3) := by decide +kernel
theorem dX8_who_15 : decode cX8_who 15 = .ok (.ifCond .eq 32, 3) := by decide +kernel
theorem dX8_who_18 : decode cX8_who 18 = .ok (.aload_n 0, 1) := by decide +kernel
theorem dX8_who_19 : decode cX8_who 19 = .ok (.iload_n 3, 1) := by decide +kernel
theorem dX8_who_20 : decode cX8_who 20 = .ok (.invokevirtual 193, 3) := by decide +kernel
theorem dX8_who_23 : decode cX8_who 23 = .ok (.ifCond .eq 24, 3) := by decide +kernel
theorem dX8_who_26 : decode cX8_who 26 = .ok (.iload 4, 2) := by decide +kernel
theorem dX8_who_28 : decode cX8_who 28 = .ok (.invokestatic 52, 3) := by decide +kernel
theorem dX8_who_31 : decode cX8_who 31 = .ok (.ifCond .eq 16, 3) := by decide +kernel
theorem dX8_who_34 : decode cX8_who 34 = .ok (.iload 6, 2) := by decide +kernel
theorem dX8_who_36 : decode cX8_who 36 = .ok (.i2l, 1) := by decide +kernel
theorem dX8_who_37 : decode cX8_who 37 = .ok (.lconst 1, 1) := by decide +kernel
theorem dX8_who_38 : decode cX8_who 38 = .ok (.ldc2_w 249, 3) := by decide +kernel
theorem dX8_who_41 : decode cX8_who 41 = .ok (.invokestatic 48, 3) := by decide +kernel
theorem dX8_who_44 : decode cX8_who 44 = .ok (.ifCond .ne 6, 3) := by decide +kernel
theorem dX8_who_47 : decode cX8_who 47 = .ok (.ldc 58, 2) := by decide +kernel
theorem dX8_who_49 : decode cX8_who 49 = .ok (.ireturn, 1) := by decide +kernel
theorem dX8_who_50 : decode cX8_who 50 = .ok (.aload_n 0, 1) := by decide +kernel
theorem dX8_who_51 : decode cX8_who 51 = .ok (.iload 4, 2) := by decide +kernel
theorem dX8_who_53 : decode cX8_who 53 = .ok (.iload 5, 2) := by decide +kernel
theorem dX8_who_55 : decode cX8_who 55 = .ok (.iload 6, 2) := by decide +kernel
theorem dX8_who_57 : decode cX8_who 57 = .ok (.invokevirtual 251, 3) := by decide +kernel
theorem dX8_who_60 : decode cX8_who 60 = .ok (.istore 7, 2) := by decide +kernel
theorem dX8_who_62 : decode cX8_who 62 = .ok (.iload 7, 2) := by decide +kernel
theorem dX8_who_64 : decode cX8_who 64 = .ok (.ifCond .eq 6, 3) := by decide +kernel
theorem dX8_who_67 : decode cX8_who 67 = .ok (.iload 7, 2) := by decide +kernel
theorem dX8_who_69 : decode cX8_who 69 = .ok (.ireturn, 1) := by decide +kernel
theorem dX8_who_70 : decode cX8_who 70 = .ok (.iconst 0, 1) := by decide +kernel
theorem dX8_who_71 : decode cX8_who 71 = .ok (.istore 8, 2) := by decide +kernel
theorem dX8_who_73 : decode cX8_who 73 = .ok (.iconst 1, 1) := by decide +kernel
theorem dX8_who_74 : decode cX8_who 74 = .ok (.iload_n 2, 1) := by decide +kernel
theorem dX8_who_75 : decode cX8_who 75 = .ok (.isub, 1) := by decide +kernel
theorem dX8_who_76 : decode cX8_who 76 = .ok (.istore 9, 2) := by decide +kernel
theorem dX8_who_78 : decode cX8_who 78 = .ok (.iload 9, 2) := by decide +kernel
theorem dX8_who_80 : decode cX8_who 80 = .ok (.iload_n 2, 1) := by decide +kernel
theorem dX8_who_81 : decode cX8_who 81 = .ok (.ifCond .ne 8, 3) := by decide +kernel
theorem dX8_who_84 : decode cX8_who 84 = .ok (.bipush 6, 2) := by decide +kernel
theorem dX8_who_86 : decode cX8_who 86 = .ok (.goto 9, 3) := by decide +kernel
theorem dX8_who_89 : decode cX8_who 89 = .ok (.aload_n 0, 1) := by decide +kernel
theorem dX8_who_90 : decode cX8_who 90 = .ok (.getfield 7, 3) := by decide +kernel
theorem dX8_who_93 : decode cX8_who 93 = .ok (.iconst 0, 1) := by decide +kernel
theorem dX8_who_94 : decode cX8_who 94 = .ok (.iaload, 1) := by decide +kernel
theorem dX8_who_95 : decode cX8_who 95 = .ok (.if_icmp .ge 67, 3) := by decide +kernel
theorem dX8_who_98 : decode cX8_who 98 = .ok (.aload_n 0, 1) := by decide +kernel
theorem dX8_who_99 : decode cX8_who 99 = .ok (.invokevirtual 222, 3) := by decide +kernel
theorem dX8_who_102 : decode cX8_who 102 = .ok (.aload_n 0, 1) := by decide +kernel
theorem dX8_who_103 : decode cX8_who 103 = .ok (.getfield 7, 3) := by decide +kernel
theorem dX8_who_106 : decode cX8_who 106 = .ok (.sipush 1053, 3) := by decide +kernel
theorem dX8_who_109 : decode cX8_who 109 = .ok (.iload_n 2, 1) := by decide +kernel
theorem dX8_who_110 : decode cX8_who 110 = .ok (.ifCond .ne 7, 3) := by decide +kernel
theorem dX8_who_113 : decode cX8_who 113 = .ok (.iconst 3, 1) := by decide +kernel
theorem dX8_who_114 : decode cX8_who 114 = .ok (.goto 5, 3) := by decide +kernel
theorem dX8_who_117 : decode cX8_who 117 = .ok (.bipush 9, 2) := by decide +kernel
theorem dX8_who_119 : decode cX8_who 119 = .ok (.iadd, 1) := by decide +kernel
theorem dX8_who_120 : decode cX8_who 120 = .ok (.iload_n 1, 1) := by decide +kernel
theorem dX8_who_121 : decode cX8_who 121 = .ok (.iadd, 1) := by decide +kernel
theorem dX8_who_122 : decode cX8_who 122 = .ok (.iload 9, 2) := by decide +kernel
theorem dX8_who_124 : decode cX8_who 124 = .ok (.iastore, 1) := by decide +kernel
theorem dX8_who_125 : decode cX8_who 125 = .ok (.iload 8, 2) := by decide +kernel
theorem dX8_who_127 : decode cX8_who 127 = .ok (.aload_n 0, 1) := by decide +kernel
theorem dX8_who_128 : decode cX8_who 128 = .ok (.iload_n 3, 1) := by decide +kernel
theorem dX8_who_129 : decode cX8_who 129 = .ok (.bipush 40, 2) := by decide +kernel
theorem dX8_who_131 : decode cX8_who 131 = .ok (.iload 4, 2) := by decide +kernel
theorem dX8_who_133 : decode cX8_who 133 = .ok (.imul, 1) := by decide +kernel
theorem dX8_who_134 : decode cX8_who 134 = .ok (.iload 5, 2) := by decide +kernel
theorem dX8_who_136 : decode cX8_who 136 = .ok (.iadd, 1) := by decide +kernel
theorem dX8_who_137 : decode cX8_who 137 = .ok (.iload 6, 2) := by decide +kernel
theorem dX8_who_139 : decode cX8_who 139 = .ok (.invokevirtual 254, 3) := by decide +kernel
theorem dX8_who_142 : decode cX8_who 142 = .ok (.ifCond .eq 10, 3) := by decide +kernel
theorem dX8_who_145 : decode cX8_who 145 = .ok (.iconst 1, 1) := by decide +kernel
theorem dX8_who_146 : decode cX8_who 146 = .ok (.iload 9, 2) := by decide +kernel
theorem dX8_who_148 : decode cX8_who 148 = .ok (.ishl, 1) := by decide +kernel
theorem dX8_who_149 : decode cX8_who 149 = .ok (.goto 4, 3) := by decide +kernel
theorem dX8_who_152 : decode cX8_who 152 = .ok (.iconst 0, 1) := by decide +kernel
theorem dX8_who_153 : decode cX8_who 153 = .ok (.ior, 1) := by decide +kernel
theorem dX8_who_154 : decode cX8_who 154 = .ok (.istore 8, 2) := by decide +kernel
theorem dX8_who_156 : decode cX8_who 156 = .ok (.iinc 9 1, 3) := by decide +kernel
theorem dX8_who_159 : decode cX8_who 159 = .ok (.goto (-81), 3) := by decide +kernel
theorem dX8_who_162 : decode cX8_who 162 = .ok (.aload_n 0, 1) := by decide +kernel
theorem dX8_who_163 : decode cX8_who 163 = .ok (.iload 8, 2) := by decide +kernel
theorem dX8_who_165 : decode cX8_who 165 = .ok (.invokevirtual 63, 3) := by decide +kernel
theorem dX8_who_168 : decode cX8_who 168 = .ok (.ireturn, 1) := by decide +kernel
theorem dX8_colours_0 : decode cX8_colours 0 = .ok (.aload_n 0, 1) := by decide +kernel
theorem dX8_colours_1 : decode cX8_colours 1 = .ok (.iload_n 1, 1) := by decide +kernel
theorem dX8_colours_2 : decode cX8_colours 2 = .ok (.invokevirtual 193, 3) := by decide +kernel
theorem dX8_colours_5 : decode cX8_colours 5 = .ok (.ifCond .eq 23, 3) := by decide +kernel
theorem dX8_colours_8 : decode cX8_colours 8 = .ok (.iload_n 2, 1) := by decide +kernel
theorem dX8_colours_9 : decode cX8_colours 9 = .ok (.invokestatic 52, 3) := by decide +kernel
theorem dX8_colours_12 : decode cX8_colours 12 = .ok (.ifCond .eq 16, 3) := by decide +kernel
theorem dX8_colours_15 : decode cX8_colours 15 = .ok (.iload 4, 2) := by decide +kernel
theorem dX8_colours_17 : decode cX8_colours 17 = .ok (.i2l, 1) := by decide +kernel
theorem dX8_colours_18 : decode cX8_colours 18 = .ok (.lconst 1, 1) := by decide +kernel
theorem dX8_colours_19 : decode cX8_colours 19 = .ok (.ldc2_w 249, 3) := by decide +kernel
theorem dX8_colours_22 : decode cX8_colours 22 = .ok (.invokestatic 48, 3) := by decide +kernel
theorem dX8_colours_25 : decode cX8_colours 25 = .ok (.ifCond .ne 6, 3) := by decide +kernel
theorem dX8_colours_28 : decode cX8_colours 28 = .ok (.ldc 58, 2) := by decide +kernel
theorem dX8_colours_30 : decode cX8_colours 30 = .ok (.ireturn, 1) := by decide +kernel
theorem dX8_colours_31 : decode cX8_colours 31 = .ok (.aload_n 0, 1) := by decide +kernel
theorem dX8_colours_32 : decode cX8_colours 32 = .ok (.iload_n 2, 1) := by decide +kernel
theorem dX8_colours_33 : decode cX8_colours 33 = .ok (.iload_n 3, 1) := by decide +kernel
theorem dX8_colours_34 : decode cX8_colours 34 = .ok (.iload 4, 2) := by decide +kernel
theorem dX8_colours_36 : decode cX8_colours 36 = .ok (.invokevirtual 251, 3) := by decide +kernel
theorem dX8_colours_39 : decode cX8_colours 39 = .ok (.istore 5, 2) := by decide +kernel
theorem dX8_colours_41 : decode cX8_colours 41 = .ok (.iload 5, 2) := by decide +kernel
theorem dX8_colours_43 : decode cX8_colours 43 = .ok (.ifCond .eq 6, 3) := by decide +kernel
theorem dX8_colours_46 : decode cX8_colours 46 = .ok (.iload 5, 2) := by decide +kernel
theorem dX8_colours_48 : decode cX8_colours 48 = .ok (.ireturn, 1) := by decide +kernel
theorem dX8_colours_49 : decode cX8_colours 49 = .ok (.iconst 0, 1) := by decide +kernel
theorem dX8_colours_50 : decode cX8_colours 50 = .ok (.istore 6, 2) := by decide +kernel
theorem dX8_colours_52 : decode cX8_colours 52 = .ok (.iconst 0, 1) := by decide +kernel
theorem dX8_colours_53 : decode cX8_colours 53 = .ok (.istore 7, 2) := by decide +kernel
theorem dX8_colours_55 : decode cX8_colours 55 = .ok (.iload 7, 2) := by decide +kernel
theorem dX8_colours_57 : decode cX8_colours 57 = .ok (.iconst 4, 1) := by decide +kernel
theorem dX8_colours_58 : decode cX8_colours 58 = .ok (.if_icmp .ge 54, 3) := by decide +kernel
theorem dX8_colours_61 : decode cX8_colours 61 = .ok (.aload_n 0, 1) := by decide +kernel
theorem dX8_colours_62 : decode cX8_colours 62 = .ok (.invokevirtual 222, 3) := by decide +kernel
theorem dX8_colours_65 : decode cX8_colours 65 = .ok (.aload_n 0, 1) := by decide +kernel
theorem dX8_colours_66 : decode cX8_colours 66 = .ok (.getfield 7, 3) := by decide +kernel
theorem dX8_colours_69 : decode cX8_colours 69 = .ok (.sipush 1080, 3) := by decide +kernel
theorem dX8_colours_72 : decode cX8_colours 72 = .ok (.iload_n 1, 1) := by decide +kernel
theorem dX8_colours_73 : decode cX8_colours 73 = .ok (.iadd, 1) := by decide +kernel
theorem dX8_colours_74 : decode cX8_colours 74 = .ok (.iload 7, 2) := by decide +kernel
theorem dX8_colours_76 : decode cX8_colours 76 = .ok (.iastore, 1) := by decide +kernel
theorem dX8_colours_77 : decode cX8_colours 77 = .ok (.iload 6, 2) := by decide +kernel
theorem dX8_colours_79 : decode cX8_colours 79 = .ok (.aload_n 0, 1) := by decide +kernel
theorem dX8_colours_80 : decode cX8_colours 80 = .ok (.iload_n 1, 1) := by decide +kernel
theorem dX8_colours_81 : decode cX8_colours 81 = .ok (.bipush 40, 2) := by decide +kernel
theorem dX8_colours_83 : decode cX8_colours 83 = .ok (.iload_n 2, 1) := by decide +kernel
theorem dX8_colours_84 : decode cX8_colours 84 = .ok (.imul, 1) := by decide +kernel
theorem dX8_colours_85 : decode cX8_colours 85 = .ok (.iload_n 3, 1) := by decide +kernel
theorem dX8_colours_86 : decode cX8_colours 86 = .ok (.iadd, 1) := by decide +kernel
theorem dX8_colours_87 : decode cX8_colours 87 = .ok (.iload 4, 2) := by decide +kernel
theorem dX8_colours_89 : decode cX8_colours 89 = .ok (.invokevirtual 254, 3) := by decide +kernel
theorem dX8_colours_92 : decode cX8_colours 92 = .ok (.ifCond .eq 10, 3) := by decide +kernel
theorem dX8_colours_95 : decode cX8_colours 95 = .ok (.iconst 1, 1) := by decide +kernel
theorem dX8_colours_96 : decode cX8_colours 96 = .ok (.iload 7, 2) := by decide +kernel
theorem dX8_colours_98 : decode cX8_colours 98 = .ok (.ishl, 1) := by decide +kernel
theorem dX8_colours_99 : decode cX8_colours 99 = .ok (.goto 4, 3) := by decide +kernel
theorem dX8_colours_102 : decode cX8_colours 102 = .ok (.iconst 0, 1) := by decide +kernel
theorem dX8_colours_103 : decode cX8_colours 103 = .ok (.ior, 1) := by decide +kernel
theorem dX8_colours_104 : decode cX8_colours 104 = .ok (.istore 6, 2) := by decide +kernel
theorem dX8_colours_106 : decode cX8_colours 106 = .ok (.iinc 7 1, 3) := by decide +kernel
theorem dX8_colours_109 : decode cX8_colours 109 = .ok (.goto (-54), 3) := by decide +kernel
theorem dX8_colours_112 : decode cX8_colours 112 = .ok (.aload_n 0, 1) := by decide +kernel
theorem dX8_colours_113 : decode cX8_colours 113 = .ok (.iload 6, 2) := by decide +kernel
theorem dX8_colours_115 : decode cX8_colours 115 = .ok (.invokevirtual 63, 3) := by decide +kernel
theorem dX8_colours_118 : decode cX8_colours 118 = .ok (.ireturn, 1) := by decide +kernel
theorem dX8_sleep_0 : decode cX8_sleep 0 = .ok (.aload_n 0, 1) := by decide +kernel
theorem dX8_sleep_1 : decode cX8_sleep 1 = .ok (.iload_n 1, 1) := by decide +kernel
theorem dX8_sleep_2 : decode cX8_sleep 2 = .ok (.invokevirtual 193, 3) := by decide +kernel
theorem dX8_sleep_5 : decode cX8_sleep 5 = .ok (.ifCond .eq 38, 3) := by decide +kernel
theorem dX8_sleep_8 : decode cX8_sleep 8 = .ok (.iload_n 2, 1) := by decide +kernel
theorem dX8_sleep_9 : decode cX8_sleep 9 = .ok (.i2l, 1) := by decide +kernel
theorem dX8_sleep_10 : decode cX8_sleep 10 = .ok (.lconst 0, 1) := by decide +kernel
theorem dX8_sleep_11 : decode cX8_sleep 11 = .ok (.ldc2_w 220, 3) := by decide +kernel
theorem dX8_sleep_14 : decode cX8_sleep 14 = .ok (.invokestatic 48, 3) := by decide +kernel
theorem dX8_sleep_17 : decode cX8_sleep 17 = .ok (.ifCond .eq 26, 3) := by decide +kernel
theorem dX8_sleep_20 : decode cX8_sleep 20 = .ok (.iload_n 3, 1) := by decide +kernel
theorem dX8_sleep_21 : decode cX8_sleep 21 = .ok (.i2l, 1) := by decide +kernel
theorem dX8_sleep_22 : decode cX8_sleep 22 = .ok (.lconst 0, 1) := by decide +kernel
theorem dX8_sleep_23 : decode cX8_sleep 23 = .ok (.ldc2_w 257, 3) := by decide +kernel
theorem dX8_sleep_26 : decode cX8_sleep 26 = .ok (.invokestatic 48, 3) := by decide +kernel
theorem dX8_sleep_29 : decode cX8_sleep 29 = .ok (.ifCond .eq 14, 3) := by decide +kernel
theorem dX8_sleep_32 : decode cX8_sleep 32 = .ok (.iload 4, 2) := by decide +kernel
theorem dX8_sleep_34 : decode cX8_sleep 34 = .ok (.i2l, 1) := by decide +kernel
theorem dX8_sleep_35 : decode cX8_sleep 35 = .ok (.lconst 0, 1) := by decide +kernel
theorem dX8_sleep_36 : decode cX8_sleep 36 = .ok (.lconst 1, 1) := by decide +kernel
theorem dX8_sleep_37 : decode cX8_sleep 37 = .ok (.invokestatic 48, 3) := by decide +kernel
theorem dX8_sleep_40 : decode cX8_sleep 40 = .ok (.ifCond .ne 7, 3) := by decide +kernel
theorem dX8_sleep_43 : decode cX8_sleep 43 = .ok (.ldc2_w 259, 3) := by decide +kernel
theorem dX8_sleep_46 : decode cX8_sleep 46 = .ok (.lreturn, 1) := by decide +kernel
theorem dX8_sleep_47 : decode cX8_sleep 47 = .ok (.iconst 1, 1) := by decide +kernel
theorem dX8_sleep_48 : decode cX8_sleep 48 = .ok (.aload_n 0, 1) := by decide +kernel
theorem dX8_sleep_49 : decode cX8_sleep 49 = .ok (.getfield 7, 3) := by decide +kernel
theorem dX8_sleep_52 : decode cX8_sleep 52 = .ok (.iconst 1, 1) := by decide +kernel
theorem dX8_sleep_53 : decode cX8_sleep 53 = .ok (.iaload, 1) := by decide +kernel
theorem dX8_sleep_54 : decode cX8_sleep 54 = .ok (.ishl, 1) := by decide +kernel
theorem dX8_sleep_55 : decode cX8_sleep 55 = .ok (.iconst 1, 1) := by decide +kernel
theorem dX8_sleep_56 : decode cX8_sleep 56 = .ok (.isub, 1) := by decide +kernel
theorem dX8_sleep_57 : decode cX8_sleep 57 = .ok (.aload_n 0, 1) := by decide +kernel
theorem dX8_sleep_58 : decode cX8_sleep 58 = .ok (.iconst 0, 1) := by decide +kernel
theorem dX8_sleep_59 : decode cX8_sleep 59 = .ok (.invokevirtual 190, 3) := by decide +kernel
theorem dX8_sleep_62 : decode cX8_sleep 62 = .ok (.iconst (-1), 1) := by decide +kernel
theorem dX8_sleep_63 : decode cX8_sleep 63 = .ok (.ixor, 1) := by decide +kernel
theorem dX8_sleep_64 : decode cX8_sleep 64 = .ok (.iand, 1) := by decide +kernel
theorem dX8_sleep_65 : decode cX8_sleep 65 = .ok (.istore 5, 2) := by decide +kernel
theorem dX8_sleep_67 : decode cX8_sleep 67 = .ok (.lconst 0, 1) := by decide +kernel
theorem dX8_sleep_68 : decode cX8_sleep 68 = .ok (.lstore 6, 2) := by decide +kernel
theorem dX8_sleep_70 : decode cX8_sleep 70 = .ok (.lconst 0, 1) := by decide +kernel
theorem dX8_sleep_71 : decode cX8_sleep 71 = .ok (.lstore 8, 2) := by decide +kernel
theorem dX8_sleep_73 : decode cX8_sleep 73 = .ok (.iconst 0, 1) := by decide +kernel
theorem dX8_sleep_74 : decode cX8_sleep 74 = .ok (.istore 10, 2) := by decide +kernel
theorem dX8_sleep_76 : decode cX8_sleep 76 = .ok (.iload 10, 2) := by decide +kernel
theorem dX8_sleep_78 : decode cX8_sleep 78 = .ok (.iload 5, 2) := by decide +kernel
theorem dX8_sleep_80 : decode cX8_sleep 80 = .ok (.if_icmp .gt 137, 3) := by decide +kernel
theorem dX8_sleep_83 : decode cX8_sleep 83 = .ok (.iload 10, 2) := by decide +kernel
theorem dX8_sleep_85 : decode cX8_sleep 85 = .ok (.iload 5, 2) := by decide +kernel
theorem dX8_sleep_87 : decode cX8_sleep 87 = .ok (.iconst (-1), 1) := by decide +kernel
theorem dX8_sleep_88 : decode cX8_sleep 88 = .ok (.ixor, 1) := by decide +kernel
theorem dX8_sleep_89 : decode cX8_sleep 89 = .ok (.iand, 1) := by decide +kernel
theorem dX8_sleep_90 : decode cX8_sleep 90 = .ok (.ifCond .ne 121, 3) := by decide +kernel
theorem dX8_sleep_93 : decode cX8_sleep 93 = .ok (.lconst 1, 1) := by decide +kernel
theorem dX8_sleep_94 : decode cX8_sleep 94 = .ok (.lstore 11, 2) := by decide +kernel
theorem dX8_sleep_96 : decode cX8_sleep 96 = .ok (.iconst 0, 1) := by decide +kernel
theorem dX8_sleep_97 : decode cX8_sleep 97 = .ok (.istore 13, 2) := by decide +kernel
theorem dX8_sleep_99 : decode cX8_sleep 99 = .ok (.iload 13, 2) := by decide +kernel
theorem dX8_sleep_101 : decode cX8_sleep 101 = .ok (.aload_n 0, 1) := by decide +kernel
theorem dX8_sleep_102 : decode cX8_sleep 102 = .ok (.getfield 7, 3) := by decide +kernel
theorem dX8_sleep_105 : decode cX8_sleep 105 = .ok (.iconst 1, 1) := by decide +kernel
theorem dX8_sleep_106 : decode cX8_sleep 106 = .ok (.iaload, 1) := by decide +kernel
theorem dX8_sleep_107 : decode cX8_sleep 107 = .ok (.if_icmp .ge 48, 3) := by decide +kernel
theorem dX8_sleep_110 : decode cX8_sleep 110 = .ok (.lload 11, 2) := by decide +kernel
theorem dX8_sleep_112 : decode cX8_sleep 112 = .ok (.iload 5, 2) := by decide +kernel
theorem dX8_sleep_114 : decode cX8_sleep 114 = .ok (.iload 13, 2) := by decide +kernel
theorem dX8_sleep_116 : decode cX8_sleep 116 = .ok (.invokestatic 150, 3) := by decide +kernel
theorem dX8_sleep_119 : decode cX8_sleep 119 = .ok (.ifCond .ne 7, 3) := by decide +kernel
theorem dX8_sleep_122 : decode cX8_sleep 122 = .ok (.lconst 1, 1) := by decide +kernel
theorem dX8_sleep_123 : decode cX8_sleep 123 = .ok (.goto 23, 3) := by decide +kernel
theorem dX8_sleep_126 : decode cX8_sleep 126 = .ok (.iload 10, 2) := by decide +kernel
theorem dX8_sleep_128 : decode cX8_sleep 128 = .ok (.iload 13, 2) := by decide +kernel
theorem dX8_sleep_130 : decode cX8_sleep 130 = .ok (.invokestatic 150, 3) := by decide +kernel
theorem dX8_sleep_133 : decode cX8_sleep 133 = .ok (.ifCond .eq 8, 3) := by decide +kernel
theorem dX8_sleep_136 : decode cX8_sleep 136 = .ok (.iload_n 3, 1) := by decide +kernel
theorem dX8_sleep_137 : decode cX8_sleep 137 = .ok (.i2l, 1) := by decide +kernel
theorem dX8_sleep_138 : decode cX8_sleep 138 = .ok (.goto 8, 3) := by decide +kernel
theorem dX8_sleep_141 : decode cX8_sleep 141 = .ok (.bipush 10, 2) := by decide +kernel
theorem dX8_sleep_143 : decode cX8_sleep 143 = .ok (.iload_n 3, 1) := by decide +kernel
theorem dX8_sleep_144 : decode cX8_sleep 144 = .ok (.isub, 1) := by decide +kernel
theorem dX8_sleep_145 : decode cX8_sleep 145 = .ok (.i2l, 1) := by decide +kernel
theorem dX8_sleep_146 : decode cX8_sleep 146 = .ok (.lmul, 1) := by decide +kernel
theorem dX8_sleep_147 : decode cX8_sleep 147 = .ok (.lstore 11, 2) := by decide +kernel
theorem dX8_sleep_149 : decode cX8_sleep 149 = .ok (.iinc 13 1, 3) := by decide +kernel
theorem dX8_sleep_152 : decode cX8_sleep 152 = .ok (.goto (-53), 3) := by decide +kernel
theorem dX8_sleep_155 : decode cX8_sleep 155 = .ok (.aload_n 0, 1) := by decide +kernel
theorem dX8_sleep_156 : decode cX8_sleep 156 = .ok (.invokevirtual 222, 3) := by decide +kernel
theorem dX8_sleep_159 : decode cX8_sleep 159 = .ok (.aload_n 0, 1) := by decide +kernel
theorem dX8_sleep_160 : decode cX8_sleep 160 = .ok (.iload 10, 2) := by decide +kernel
theorem dX8_sleep_162 : decode cX8_sleep 162 = .ok (.putfield 147, 3) := by decide +kernel
theorem dX8_sleep_165 : decode cX8_sleep 165 = .ok (.aload_n 0, 1) := by decide +kernel
theorem dX8_sleep_166 : decode cX8_sleep 166 = .ok (.sipush 1053, 3) := by decide +kernel
theorem dX8_sleep_169 : decode cX8_sleep 169 = .ok (.iload_n 2, 1) := by decide +kernel
theorem dX8_sleep_170 : decode cX8_sleep 170 = .ok (.invokevirtual 187, 3) := by decide +kernel
theorem dX8_sleep_173 : decode cX8_sleep 173 = .ok (.aload_n 0, 1) := by decide +kernel
theorem dX8_sleep_174 : decode cX8_sleep 174 = .ok (.iconst 0, 1) := by decide +kernel
theorem dX8_sleep_175 : decode cX8_sleep 175 = .ok (.putfield 147, 3) := by decide +kernel
theorem dX8_sleep_178 : decode cX8_sleep 178 = .ok (.lload 6, 2) := by decide +kernel
theorem dX8_sleep_180 : decode cX8_sleep 180 = .ok (.aload_n 0, 1) := by decide +kernel
theorem dX8_sleep_181 : decode cX8_sleep 181 = .ok (.getfield 7, 3) := by decide +kernel
theorem dX8_sleep_184 : decode cX8_sleep 184 = .ok (.sipush 1086, 3) := by decide +kernel
theorem dX8_sleep_187 : decode cX8_sleep 187 = .ok (.iload_n 1, 1) := by decide +kernel
theorem dX8_sleep_188 : decode cX8_sleep 188 = .ok (.iadd, 1) := by decide +kernel
theorem dX8_sleep_189 : decode cX8_sleep 189 = .ok (.iaload, 1) := by decide +kernel
theorem dX8_sleep_190 : decode cX8_sleep 190 = .ok (.bipush 20, 2) := by decide +kernel
theorem dX8_sleep_192 : decode cX8_sleep 192 = .ok (.if_icmp .ge 8, 3) := by decide +kernel
theorem dX8_sleep_195 : decode cX8_sleep 195 = .ok (.lload 11, 2) := by decide +kernel
theorem dX8_sleep_197 : decode cX8_sleep 197 = .ok (.goto 4, 3) := by decide +kernel
theorem dX8_sleep_200 : decode cX8_sleep 200 = .ok (.lconst 0, 1) := by decide +kernel
theorem dX8_sleep_201 : decode cX8_sleep 201 = .ok (.ladd, 1) := by decide +kernel
theorem dX8_sleep_202 : decode cX8_sleep 202 = .ok (.lstore 6, 2) := by decide +kernel
theorem dX8_sleep_204 : decode cX8_sleep 204 = .ok (.lload 8, 2) := by decide +kernel
theorem dX8_sleep_206 : decode cX8_sleep 206 = .ok (.lload 11, 2) := by decide +kernel
theorem dX8_sleep_208 : decode cX8_sleep 208 = .ok (.ladd, 1) := by decide +kernel
theorem dX8_sleep_209 : decode cX8_sleep 209 = .ok (.lstore 8, 2) := by decide +kernel
theorem dX8_sleep_211 : decode cX8_sleep 211 = .ok (.iinc 10 1, 3) := by decide +kernel
theorem dX8_sleep_214 : decode cX8_sleep 214 = .ok (.goto (-138), 3) := by decide +kernel
theorem dX8_sleep_217 : decode cX8_sleep 217 = .ok (.lload 6, 2) := by decide +kernel
theorem dX8_sleep_219 : decode cX8_sleep 219 = .ok (.lstore 10, 2) := by decide +kernel
theorem dX8_sleep_221 : decode cX8_sleep 221 = .ok (.lload 8, 2) := by decide +kernel
theorem dX8_sleep_223 : decode cX8_sleep 223 = .ok (.lstore 12, 2) := by decide +kernel
theorem dX8_sleep_225 : decode cX8_sleep 225 = .ok (.lload 12, 2) := by decide +kernel
theorem dX8_sleep_227 : decode cX8_sleep 227 = .ok (.lconst 0, 1) := by decide +kernel
theorem dX8_sleep_228 : decode cX8_sleep 228 = .ok (.lcmp, 1) := by decide +kernel
theorem dX8_sleep_229 : decode cX8_sleep 229 = .ok (.ifCond .eq 21, 3) := by decide +kernel
theorem dX8_sleep_232 : decode cX8_sleep 232 = .ok (.lload 10, 2) := by decide +kernel
theorem dX8_sleep_234 : decode cX8_sleep 234 = .ok (.lload 12, 2) := by decide +kernel
theorem dX8_sleep_236 : decode cX8_sleep 236 = .ok (.lrem, 1) := by decide +kernel
theorem dX8_sleep_237 : decode cX8_sleep 237 = .ok (.lstore 14, 2) := by decide +kernel
theorem dX8_sleep_239 : decode cX8_sleep 239 = .ok (.lload 12, 2) := by decide +kernel
theorem dX8_sleep_241 : decode cX8_sleep 241 = .ok (.lstore 10, 2) := by decide +kernel
theorem dX8_sleep_243 : decode cX8_sleep 243 = .ok (.lload 14, 2) := by decide +kernel
theorem dX8_sleep_245 : decode cX8_sleep 245 = .ok (.lstore 12, 2) := by decide +kernel
theorem dX8_sleep_247 : decode cX8_sleep 247 = .ok (.goto (-22), 3) := by decide +kernel
theorem dX8_sleep_250 : decode cX8_sleep 250 = .ok (.iload 4, 2) := by decide +kernel
theorem dX8_sleep_252 : decode cX8_sleep 252 = .ok (.ifCond .ne 11, 3) := by decide +kernel
theorem dX8_sleep_255 : decode cX8_sleep 255 = .ok (.lload 6, 2) := by decide +kernel
theorem dX8_sleep_257 : decode cX8_sleep 257 = .ok (.lload 10, 2) := by decide +kernel
theorem dX8_sleep_259 : decode cX8_sleep 259 = .ok (.ldiv, 1) := by decide +kernel
theorem dX8_sleep_260 : decode cX8_sleep 260 = .ok (.goto 8, 3) := by decide +kernel
theorem dX8_sleep_263 : decode cX8_sleep 263 = .ok (.lload 8, 2) := by decide +kernel
theorem dX8_sleep_265 : decode cX8_sleep 265 = .ok (.lload 10, 2) := by decide +kernel
theorem dX8_sleep_267 : decode cX8_sleep 267 = .ok (.ldiv, 1) := by decide +kernel
theorem dX8_sleep_268 : decode cX8_sleep 268 = .ok (.lreturn, 1) := by decide +kernel
theorem dX8_drawn_0 : decode cX8_drawn 0 = .ok (.aload_n 0, 1) := by decide +kernel
theorem dX8_drawn_1 : decode cX8_drawn 1 = .ok (.invokevirtual 179, 3) := by decide +kernel
theorem dX8_drawn_4 : decode cX8_drawn 4 = .ok (.ifCond .ne 6, 3) := by decide +kernel
theorem dX8_drawn_7 : decode cX8_drawn 7 = .ok (.ldc 178, 2) := by decide +kernel
theorem dX8_drawn_9 : decode cX8_drawn 9 = .ok (.ireturn, 1) := by decide +kernel
theorem dX8_drawn_10 : decode cX8_drawn 10 = .ok (.iload_n 1, 1) := by decide +kernel
theorem dX8_drawn_11 : decode cX8_drawn 11 = .ok (.i2l, 1) := by decide +kernel
theorem dX8_drawn_12 : decode cX8_drawn 12 = .ok (.lconst 0, 1) := by decide +kernel
theorem dX8_drawn_13 : decode cX8_drawn 13 = .ok (.ldc2_w 220, 3) := by decide +kernel
theorem dX8_drawn_16 : decode cX8_drawn 16 = .ok (.invokestatic 48, 3) := by decide +kernel
theorem dX8_drawn_19 : decode cX8_drawn 19 = .ok (.ifCond .eq 25, 3) := by decide +kernel
theorem dX8_drawn_22 : decode cX8_drawn 22 = .ok (.iload_n 2, 1) := by decide +kernel
theorem dX8_drawn_23 : decode cX8_drawn 23 = .ok (.i2l, 1) := by decide +kernel
theorem dX8_drawn_24 : decode cX8_drawn 24 = .ok (.lconst 1, 1) := by decide +kernel
theorem dX8_drawn_25 : decode cX8_drawn 25 = .ok (.ldc2_w 261, 3) := by decide +kernel
theorem dX8_drawn_28 : decode cX8_drawn 28 = .ok (.invokestatic 48, 3) := by decide +kernel
theorem dX8_drawn_31 : decode cX8_drawn 31 = .ok (.ifCond .eq 13, 3) := by decide +kernel
theorem dX8_drawn_34 : decode cX8_drawn 34 = .ok (.iload_n 3, 1) := by decide +kernel
theorem dX8_drawn_35 : decode cX8_drawn 35 = .ok (.i2l, 1) := by decide +kernel
theorem dX8_drawn_36 : decode cX8_drawn 36 = .ok (.lconst 0, 1) := by decide +kernel
theorem dX8_drawn_37 : decode cX8_drawn 37 = .ok (.lconst 1, 1) := by decide +kernel
theorem dX8_drawn_38 : decode cX8_drawn 38 = .ok (.invokestatic 48, 3) := by decide +kernel
theorem dX8_drawn_41 : decode cX8_drawn 41 = .ok (.ifCond .ne 6, 3) := by decide +kernel
theorem dX8_drawn_44 : decode cX8_drawn 44 = .ok (.ldc 58, 2) := by decide +kernel
theorem dX8_drawn_46 : decode cX8_drawn 46 = .ok (.ireturn, 1) := by decide +kernel
theorem dX8_drawn_47 : decode cX8_drawn 47 = .ok (.aload_n 0, 1) := by decide +kernel
theorem dX8_drawn_48 : decode cX8_drawn 48 = .ok (.invokevirtual 222, 3) := by decide +kernel
theorem dX8_drawn_51 : decode cX8_drawn 51 = .ok (.aload_n 0, 1) := by decide +kernel
theorem dX8_drawn_52 : decode cX8_drawn 52 = .ok (.iconst 0, 1) := by decide +kernel
theorem dX8_drawn_53 : decode cX8_drawn 53 = .ok (.putfield 156, 3) := by decide +kernel
theorem dX8_drawn_56 : decode cX8_drawn 56 = .ok (.aload_n 0, 1) := by decide +kernel
theorem dX8_drawn_57 : decode cX8_drawn 57 = .ok (.iconst 0, 1) := by decide +kernel
theorem dX8_drawn_58 : decode cX8_drawn 58 = .ok (.putfield 159, 3) := by decide +kernel
theorem dX8_drawn_61 : decode cX8_drawn 61 = .ok (.iload_n 2, 1) := by decide +kernel
theorem dX8_drawn_62 : decode cX8_drawn 62 = .ok (.i2l, 1) := by decide +kernel
theorem dX8_drawn_63 : decode cX8_drawn 63 = .ok (.lstore 4, 2) := by decide +kernel
theorem dX8_drawn_65 : decode cX8_drawn 65 = .ok (.iconst 0, 1) := by decide +kernel
theorem dX8_drawn_66 : decode cX8_drawn 66 = .ok (.istore 6, 2) := by decide +kernel
theorem dX8_drawn_68 : decode cX8_drawn 68 = .ok (.iload 6, 2) := by decide +kernel
theorem dX8_drawn_70 : decode cX8_drawn 70 = .ok (.iload_n 1, 1) := by decide +kernel
theorem dX8_drawn_71 : decode cX8_drawn 71 = .ok (.if_icmp .ge 99, 3) := by decide +kernel
theorem dX8_drawn_74 : decode cX8_drawn 74 = .ok (.lload 4, 2) := by decide +kernel
theorem dX8_drawn_76 : decode cX8_drawn 76 = .ok (.ldc2_w 263, 3) := by decide +kernel
theorem dX8_drawn_79 : decode cX8_drawn 79 = .ok (.lmul, 1) := by decide +kernel
theorem dX8_drawn_80 : decode cX8_drawn 80 = .ok (.ldc2_w 265, 3) := by decide +kernel
theorem dX8_drawn_83 : decode cX8_drawn 83 = .ok (.lrem, 1) := by decide +kernel
theorem dX8_drawn_84 : decode cX8_drawn 84 = .ok (.lstore 4, 2) := by decide +kernel
theorem dX8_drawn_86 : decode cX8_drawn 86 = .ok (.lload 4, 2) := by decide +kernel
theorem dX8_drawn_88 : decode cX8_drawn 88 = .ok (.aload_n 0, 1) := by decide +kernel
theorem dX8_drawn_89 : decode cX8_drawn 89 = .ok (.getfield 7, 3) := by decide +kernel
theorem dX8_drawn_92 : decode cX8_drawn 92 = .ok (.iconst 1, 1) := by decide +kernel
theorem dX8_drawn_93 : decode cX8_drawn 93 = .ok (.iaload, 1) := by decide +kernel
theorem dX8_drawn_94 : decode cX8_drawn 94 = .ok (.i2l, 1) := by decide +kernel
theorem dX8_drawn_95 : decode cX8_drawn 95 = .ok (.lrem, 1) := by decide +kernel
theorem dX8_drawn_96 : decode cX8_drawn 96 = .ok (.l2i, 1) := by decide +kernel
theorem dX8_drawn_97 : decode cX8_drawn 97 = .ok (.istore 7, 2) := by decide +kernel
theorem dX8_drawn_99 : decode cX8_drawn 99 = .ok (.aload_n 0, 1) := by decide +kernel
theorem dX8_drawn_100 : decode cX8_drawn 100 = .ok (.sipush 1053, 3) := by decide +kernel
theorem dX8_drawn_103 : decode cX8_drawn 103 = .ok (.iload 7, 2) := by decide +kernel
theorem dX8_drawn_105 : decode cX8_drawn 105 = .ok (.invokevirtual 141, 3) := by decide +kernel
theorem dX8_drawn_108 : decode cX8_drawn 108 = .ok (.ifCond .ne 15, 3) := by decide +kernel
theorem dX8_drawn_111 : decode cX8_drawn 111 = .ok (.aload_n 0, 1) := by decide +kernel
theorem dX8_drawn_112 : decode cX8_drawn 112 = .ok (.sipush 1053, 3) := by decide +kernel
theorem dX8_drawn_115 : decode cX8_drawn 115 = .ok (.iload 7, 2) := by decide +kernel
theorem dX8_drawn_117 : decode cX8_drawn 117 = .ok (.invokevirtual 201, 3) := by decide +kernel
theorem dX8_drawn_120 : decode cX8_drawn 120 = .ok (.goto 36, 3) := by decide +kernel
theorem dX8_drawn_123 : decode cX8_drawn 123 = .ok (.lload 4, 2) := by decide +kernel
theorem dX8_drawn_125 : decode cX8_drawn 125 = .ok (.ldc2_w 199, 3) := by decide +kernel
theorem dX8_drawn_128 : decode cX8_drawn 128 = .ok (.lrem, 1) := by decide +kernel
theorem dX8_drawn_129 : decode cX8_drawn 129 = .ok (.lconst 0, 1) := by decide +kernel
theorem dX8_drawn_130 : decode cX8_drawn 130 = .ok (.lcmp, 1) := by decide +kernel
theorem dX8_drawn_131 : decode cX8_drawn 131 = .ok (.ifCond .ne 25, 3) := by decide +kernel
theorem dX8_drawn_134 : decode cX8_drawn 134 = .ok (.aload_n 0, 1) := by decide +kernel
theorem dX8_drawn_135 : decode cX8_drawn 135 = .ok (.getfield 7, 3) := by decide +kernel
theorem dX8_drawn_138 : decode cX8_drawn 138 = .ok (.sipush 1062, 3) := by decide +kernel
theorem dX8_drawn_141 : decode cX8_drawn 141 = .ok (.iload 7, 2) := by decide +kernel
theorem dX8_drawn_143 : decode cX8_drawn 143 = .ok (.iadd, 1) := by decide +kernel
theorem dX8_drawn_144 : decode cX8_drawn 144 = .ok (.lload 4, 2) := by decide +kernel
theorem dX8_drawn_146 : decode cX8_drawn 146 = .ok (.aload_n 0, 1) := by decide +kernel
theorem dX8_drawn_147 : decode cX8_drawn 147 = .ok (.getfield 7, 3) := by decide +kernel
theorem dX8_drawn_150 : decode cX8_drawn 150 = .ok (.iconst 0, 1) := by decide +kernel
theorem dX8_drawn_151 : decode cX8_drawn 151 = .ok (.iaload, 1) := by decide +kernel
theorem dX8_drawn_152 : decode cX8_drawn 152 = .ok (.i2l, 1) := by decide +kernel
theorem dX8_drawn_153 : decode cX8_drawn 153 = .ok (.lrem, 1) := by decide +kernel
theorem dX8_drawn_154 : decode cX8_drawn 154 = .ok (.l2i, 1) := by decide +kernel
theorem dX8_drawn_155 : decode cX8_drawn 155 = .ok (.iastore, 1) := by decide +kernel
theorem dX8_drawn_156 : decode cX8_drawn 156 = .ok (.aload_n 0, 1) := by decide +kernel
theorem dX8_drawn_157 : decode cX8_drawn 157 = .ok (.sipush 1053, 3) := by decide +kernel
theorem dX8_drawn_160 : decode cX8_drawn 160 = .ok (.iconst 1, 1) := by decide +kernel
theorem dX8_drawn_161 : decode cX8_drawn 161 = .ok (.invokevirtual 187, 3) := by decide +kernel
theorem dX8_drawn_164 : decode cX8_drawn 164 = .ok (.iinc 6 1, 3) := by decide +kernel
theorem dX8_drawn_167 : decode cX8_drawn 167 = .ok (.goto (-99), 3) := by decide +kernel
theorem dX8_drawn_170 : decode cX8_drawn 170 = .ok (.iload_n 3, 1) := by decide +kernel
theorem dX8_drawn_171 : decode cX8_drawn 171 = .ok (.ifCond .ne 10, 3) := by decide +kernel
theorem dX8_drawn_174 : decode cX8_drawn 174 = .ok (.aload_n 0, 1) := by decide +kernel
theorem dX8_drawn_175 : decode cX8_drawn 175 = .ok (.getfield 156, 3) := by decide +kernel
theorem dX8_drawn_178 : decode cX8_drawn 178 = .ok (.goto 7, 3) := by decide +kernel
theorem dX8_drawn_181 : decode cX8_drawn 181 = .ok (.aload_n 0, 1) := by decide +kernel
theorem dX8_drawn_182 : decode cX8_drawn 182 = .ok (.getfield 159, 3) := by decide +kernel
theorem dX8_drawn_185 : decode cX8_drawn 185 = .ok (.ireturn, 1) := by decide +kernel
theorem dX8_image_0 : decode cX8_image 0 = .ok (.iload_n 1, 1) := by decide +kernel
theorem dX8_image_1 : decode cX8_image 1 = .ok (.i2l, 1) := by decide +kernel
theorem dX8_image_2 : decode cX8_image 2 = .ok (.lconst 0, 1) := by decide +kernel
theorem dX8_image_3 : decode cX8_image 3 = .ok (.lconst 1, 1) := by decide +kernel
theorem dX8_image_4 : decode cX8_image 4 = .ok (.invokestatic 48, 3) := by decide +kernel
theorem dX8_image_7 : decode cX8_image 7 = .ok (.ifCond .ne 6, 3) := by decide +kernel
theorem dX8_image_10 : decode cX8_image 10 = .ok (.ldc 58, 2) := by decide +kernel
theorem dX8_image_12 : decode cX8_image 12 = .ok (.ireturn, 1) := by decide +kernel
theorem dX8_image_13 : decode cX8_image 13 = .ok (.aload_n 0, 1) := by decide +kernel
theorem dX8_image_14 : decode cX8_image 14 = .ok (.invokevirtual 179, 3) := by decide +kernel
theorem dX8_image_17 : decode cX8_image 17 = .ok (.ifCond .ne 6, 3) := by decide +kernel
theorem dX8_image_20 : decode cX8_image 20 = .ok (.ldc 178, 2) := by decide +kernel
theorem dX8_image_22 : decode cX8_image 22 = .ok (.ireturn, 1) := by decide +kernel
theorem dX8_image_23 : decode cX8_image 23 = .ok (.aload_n 0, 1) := by decide +kernel
theorem dX8_image_24 : decode cX8_image 24 = .ok (.iconst 0, 1) := by decide +kernel
theorem dX8_image_25 : decode cX8_image 25 = .ok (.sipush 975, 3) := by decide +kernel
theorem dX8_image_28 : decode cX8_image 28 = .ok (.bipush 39, 2) := by decide +kernel
theorem dX8_image_30 : decode cX8_image 30 = .ok (.iload_n 1, 1) := by decide +kernel
theorem dX8_image_31 : decode cX8_image 31 = .ok (.imul, 1) := by decide +kernel
theorem dX8_image_32 : decode cX8_image 32 = .ok (.iadd, 1) := by decide +kernel
theorem dX8_image_33 : decode cX8_image 33 = .ok (.invokevirtual 131, 3) := by decide +kernel
theorem dX8_image_36 : decode cX8_image 36 = .ok (.aload_n 0, 1) := by decide +kernel
theorem dX8_image_37 : decode cX8_image 37 = .ok (.getfield 13, 3) := by decide +kernel
theorem dX8_image_40 : decode cX8_image 40 = .ok (.iload_n 1, 1) := by decide +kernel
theorem dX8_image_41 : decode cX8_image 41 = .ok (.iconst 1, 1) := by decide +kernel
theorem dX8_image_42 : decode cX8_image 42 = .ok (.bastore, 1) := by decide +kernel
theorem dX8_image_43 : decode cX8_image 43 = .ok (.iconst 1, 1) := by decide +kernel
theorem dX8_image_44 : decode cX8_image 44 = .ok (.ireturn, 1) := by decide +kernel
theorem dX8_restore_0 : decode cX8_restore 0 = .ok (.iload_n 1, 1) := by decide +kernel
theorem dX8_restore_1 : decode cX8_restore 1 = .ok (.i2l, 1) := by decide +kernel
theorem dX8_restore_2 : decode cX8_restore 2 = .ok (.lconst 0, 1) := by decide +kernel
theorem dX8_restore_3 : decode cX8_restore 3 = .ok (.lconst 1, 1) := by decide +kernel
theorem dX8_restore_4 : decode cX8_restore 4 = .ok (.invokestatic 48, 3) := by decide +kernel
theorem dX8_restore_7 : decode cX8_restore 7 = .ok (.ifCond .ne 6, 3) := by decide +kernel
theorem dX8_restore_10 : decode cX8_restore 10 = .ok (.ldc 58, 2) := by decide +kernel
theorem dX8_restore_12 : decode cX8_restore 12 = .ok (.ireturn, 1) := by decide +kernel
theorem dX8_restore_13 : decode cX8_restore 13 = .ok (.aload_n 0, 1) := by decide +kernel
theorem dX8_restore_14 : decode cX8_restore 14 = .ok (.getfield 13, 3) := by decide +kernel
theorem dX8_restore_17 : decode cX8_restore 17 = .ok (.iload_n 1, 1) := by decide +kernel
theorem dX8_restore_18 : decode cX8_restore 18 = .ok (.baload, 1) := by decide +kernel
theorem dX8_restore_19 : decode cX8_restore 19 = .ok (.ifCond .ne 6, 3) := by decide +kernel
theorem dX8_restore_22 : decode cX8_restore 22 = .ok (.ldc 178, 2) := by decide +kernel
theorem dX8_restore_24 : decode cX8_restore 24 = .ok (.ireturn, 1) := by decide +kernel
theorem dX8_restore_25 : decode cX8_restore 25 = .ok (.aload_n 0, 1) := by decide +kernel
theorem dX8_restore_26 : decode cX8_restore 26 = .ok (.sipush 975, 3) := by decide +kernel
theorem dX8_restore_29 : decode cX8_restore 29 = .ok (.bipush 39, 2) := by decide +kernel
theorem dX8_restore_31 : decode cX8_restore 31 = .ok (.iload_n 1, 1) := by decide +kernel
theorem dX8_restore_32 : decode cX8_restore 32 = .ok (.imul, 1) := by decide +kernel
theorem dX8_restore_33 : decode cX8_restore 33 = .ok (.iadd, 1) := by decide +kernel
theorem dX8_restore_34 : decode cX8_restore 34 = .ok (.iconst 0, 1) := by decide +kernel
theorem dX8_restore_35 : decode cX8_restore 35 = .ok (.invokevirtual 131, 3) := by decide +kernel
theorem dX8_restore_38 : decode cX8_restore 38 = .ok (.aload_n 0, 1) := by decide +kernel
theorem dX8_restore_39 : decode cX8_restore 39 = .ok (.iconst 0, 1) := by decide +kernel
theorem dX8_restore_40 : decode cX8_restore 40 = .ok (.putfield 135, 3) := by decide +kernel
theorem dX8_restore_43 : decode cX8_restore 43 = .ok (.iconst 1, 1) := by decide +kernel
theorem dX8_restore_44 : decode cX8_restore 44 = .ok (.ireturn, 1) := by decide +kernel
theorem dX8_kind_0 : decode cX8_kind 0 = .ok (.aload_n 0, 1) := by decide +kernel
theorem dX8_kind_1 : decode cX8_kind 1 = .ok (.iload_n 1, 1) := by decide +kernel
theorem dX8_kind_2 : decode cX8_kind 2 = .ok (.invokevirtual 193, 3) := by decide +kernel
theorem dX8_kind_5 : decode cX8_kind 5 = .ok (.ifCond .eq 14, 3) := by decide +kernel
theorem dX8_kind_8 : decode cX8_kind 8 = .ok (.aload_n 0, 1) := by decide +kernel
theorem dX8_kind_9 : decode cX8_kind 9 = .ok (.getfield 7, 3) := by decide +kernel
theorem dX8_kind_12 : decode cX8_kind 12 = .ok (.iconst 3, 1) := by decide +kernel
theorem dX8_kind_13 : decode cX8_kind 13 = .ok (.iload_n 1, 1) := by decide +kernel
theorem dX8_kind_14 : decode cX8_kind 14 = .ok (.iadd, 1) := by decide +kernel
theorem dX8_kind_15 : decode cX8_kind 15 = .ok (.iaload, 1) := by decide +kernel
theorem dX8_kind_16 : decode cX8_kind 16 = .ok (.goto 5, 3) := by decide +kernel
theorem dX8_kind_19 : decode cX8_kind 19 = .ok (.ldc 58, 2) := by decide +kernel
theorem dX8_kind_21 : decode cX8_kind 21 = .ok (.ireturn, 1) := by decide +kernel
theorem dX8_isOf_0 : decode cX8_isOf 0 = .ok (.aload_n 0, 1) := by decide +kernel
theorem dX8_isOf_1 : decode cX8_isOf 1 = .ok (.getfield 7, 3) := by decide +kernel
theorem dX8_isOf_4 : decode cX8_isOf 4 = .ok (.iconst 3, 1) := by decide +kernel
theorem dX8_isOf_5 : decode cX8_isOf 5 = .ok (.iload_n 1, 1) := by decide +kernel
theorem dX8_isOf_6 : decode cX8_isOf 6 = .ok (.iadd, 1) := by decide +kernel
theorem dX8_isOf_7 : decode cX8_isOf 7 = .ok (.iaload, 1) := by decide +kernel
theorem dX8_isOf_8 : decode cX8_isOf 8 = .ok (.istore_n 3, 1) := by decide +kernel
theorem dX8_isOf_9 : decode cX8_isOf 9 = .ok (.iload_n 2, 1) := by decide +kernel
theorem dX8_isOf_10 : decode cX8_isOf 10 = .ok (.ifCond .eq 28, 3) := by decide +kernel
theorem dX8_isOf_13 : decode cX8_isOf 13 = .ok (.iload_n 2, 1) := by decide +kernel
theorem dX8_isOf_14 : decode cX8_isOf 14 = .ok (.iload_n 3, 1) := by decide +kernel
theorem dX8_isOf_15 : decode cX8_isOf 15 = .ok (.if_icmp .eq 23, 3) := by decide +kernel
theorem dX8_isOf_18 : decode cX8_isOf 18 = .ok (.iload_n 2, 1) := by decide +kernel
theorem dX8_isOf_19 : decode cX8_isOf 19 = .ok (.iconst 1, 1) := by decide +kernel
theorem dX8_isOf_20 : decode cX8_isOf 20 = .ok (.if_icmp .ne 8, 3) := by decide +kernel
theorem dX8_isOf_23 : decode cX8_isOf 23 = .ok (.iload_n 3, 1) := by decide +kernel
theorem dX8_isOf_24 : decode cX8_isOf 24 = .ok (.iconst 4, 1) := by decide +kernel
theorem dX8_isOf_25 : decode cX8_isOf 25 = .ok (.if_icmp .lt 13, 3) := by decide +kernel
theorem dX8_isOf_28 : decode cX8_isOf 28 = .ok (.iload_n 2, 1) := by decide +kernel
theorem dX8_isOf_29 : decode cX8_isOf 29 = .ok (.iconst 4, 1) := by decide +kernel
theorem dX8_isOf_30 : decode cX8_isOf 30 = .ok (.if_icmp .ne 12, 3) := by decide +kernel
theorem dX8_isOf_33 : decode cX8_isOf 33 = .ok (.iload_n 3, 1) := by decide +kernel
theorem dX8_isOf_34 : decode cX8_isOf 34 = .ok (.iconst 5, 1) := by decide +kernel
theorem dX8_isOf_35 : decode cX8_isOf 35 = .ok (.if_icmp .ne 7, 3) := by decide +kernel
theorem dX8_isOf_38 : decode cX8_isOf 38 = .ok (.iconst 1, 1) := by decide +kernel
theorem dX8_isOf_39 : decode cX8_isOf 39 = .ok (.goto 4, 3) := by decide +kernel
theorem dX8_isOf_42 : decode cX8_isOf 42 = .ok (.iconst 0, 1) := by decide +kernel
theorem dX8_isOf_43 : decode cX8_isOf 43 = .ok (.ireturn, 1) := by decide +kernel
theorem dX8_as_0 : decode cX8_as 0 = .ok (.aload_n 0, 1) := by decide +kernel
theorem dX8_as_1 : decode cX8_as 1 = .ok (.iload_n 1, 1) := by decide +kernel
theorem dX8_as_2 : decode cX8_as 2 = .ok (.invokevirtual 193, 3) := by decide +kernel
theorem dX8_as_5 : decode cX8_as 5 = .ok (.ifCond .eq 15, 3) := by decide +kernel
theorem dX8_as_8 : decode cX8_as 8 = .ok (.iload_n 2, 1) := by decide +kernel
theorem dX8_as_9 : decode cX8_as 9 = .ok (.i2l, 1) := by decide +kernel
theorem dX8_as_10 : decode cX8_as 10 = .ok (.lconst 0, 1) := by decide +kernel
theorem dX8_as_11 : decode cX8_as 11 = .ok (.ldc2_w 267, 3) := by decide +kernel
theorem dX8_as_14 : decode cX8_as 14 = .ok (.invokestatic 48, 3) := by decide +kernel
theorem dX8_as_17 : decode cX8_as 17 = .ok (.ifCond .ne 6, 3) := by decide +kernel
theorem dX8_as_20 : decode cX8_as 20 = .ok (.ldc 58, 2) := by decide +kernel
theorem dX8_as_22 : decode cX8_as 22 = .ok (.ireturn, 1) := by decide +kernel
theorem dX8_as_23 : decode cX8_as 23 = .ok (.aload_n 0, 1) := by decide +kernel
theorem dX8_as_24 : decode cX8_as 24 = .ok (.iload_n 1, 1) := by decide +kernel
theorem dX8_as_25 : decode cX8_as 25 = .ok (.iload_n 2, 1) := by decide +kernel
theorem dX8_as_26 : decode cX8_as 26 = .ok (.invokevirtual 269, 3) := by decide +kernel
theorem dX8_as_29 : decode cX8_as 29 = .ok (.ifCond .eq 11, 3) := by decide +kernel
theorem dX8_as_32 : decode cX8_as 32 = .ok (.aload_n 0, 1) := by decide +kernel
theorem dX8_as_33 : decode cX8_as 33 = .ok (.iload_n 1, 1) := by decide +kernel
theorem dX8_as_34 : decode cX8_as 34 = .ok (.invokevirtual 63, 3) := by decide +kernel
theorem dX8_as_37 : decode cX8_as 37 = .ok (.goto 8, 3) := by decide +kernel
theorem dX8_as_40 : decode cX8_as 40 = .ok (.aload_n 0, 1) := by decide +kernel
theorem dX8_as_41 : decode cX8_as 41 = .ok (.iconst 3, 1) := by decide +kernel
theorem dX8_as_42 : decode cX8_as 42 = .ok (.invokevirtual 59, 3) := by decide +kernel
theorem dX8_as_45 : decode cX8_as 45 = .ok (.ireturn, 1) := by decide +kernel
theorem dX8_begin_0 : decode cX8_begin 0 = .ok (.aload_n 0, 1) := by decide +kernel
theorem dX8_begin_1 : decode cX8_begin 1 = .ok (.getfield 272, 3) := by decide +kernel
theorem dX8_begin_4 : decode cX8_begin 4 = .ok (.bipush 16, 2) := by decide +kernel
theorem dX8_begin_6 : decode cX8_begin 6 = .ok (.if_icmp .ge 23, 3) := by decide +kernel
theorem dX8_begin_9 : decode cX8_begin 9 = .ok (.aload_n 0, 1) := by decide +kernel
theorem dX8_begin_10 : decode cX8_begin 10 = .ok (.getfield 29, 3) := by decide +kernel
theorem dX8_begin_13 : decode cX8_begin 13 = .ok (.aload_n 0, 1) := by decide +kernel
theorem dX8_begin_14 : decode cX8_begin 14 = .ok (.getfield 272, 3) := by decide +kernel
theorem dX8_begin_17 : decode cX8_begin 17 = .ok (.iload_n 1, 1) := by decide +kernel
theorem dX8_begin_18 : decode cX8_begin 18 = .ok (.iastore, 1) := by decide +kernel
theorem dX8_begin_19 : decode cX8_begin 19 = .ok (.aload_n 0, 1) := by decide +kernel
theorem dX8_begin_20 : decode cX8_begin 20 = .ok (.dup, 1) := by decide +kernel
theorem dX8_begin_21 : decode cX8_begin 21 = .ok (.getfield 272, 3) := by decide +kernel
theorem dX8_begin_24 : decode cX8_begin 24 = .ok (.iconst 1, 1) := by decide +kernel
theorem dX8_begin_25 : decode cX8_begin 25 = .ok (.iadd, 1) := by decide +kernel
theorem dX8_begin_26 : decode cX8_begin 26 = .ok (.putfield 272, 3) := by decide +kernel
theorem dX8_begin_29 : decode cX8_begin 29 = .ok (.return_, 1) := by decide +kernel
theorem dX8_lentSize_0 : decode cX8_lentSize 0 = .ok (.aload_n 0, 1) := by decide +kernel
theorem dX8_lentSize_1 : decode cX8_lentSize 1 = .ok (.bipush 10, 2) := by decide +kernel
theorem dX8_lentSize_3 : decode cX8_lentSize 3 = .ok (.invokevirtual 275, 3) := by decide +kernel
theorem dX8_lentSize_6 : decode cX8_lentSize 6 = .ok (.aload_n 0, 1) := by decide +kernel
theorem dX8_lentSize_7 : decode cX8_lentSize 7 = .ok (.getfield 7, 3) := by decide +kernel
theorem dX8_lentSize_10 : decode cX8_lentSize 10 = .ok (.bipush 9, 2) := by decide +kernel
theorem dX8_lentSize_12 : decode cX8_lentSize 12 = .ok (.iload_n 1, 1) := by decide +kernel
theorem dX8_lentSize_13 : decode cX8_lentSize 13 = .ok (.iadd, 1) := by decide +kernel
theorem dX8_lentSize_14 : decode cX8_lentSize 14 = .ok (.iaload, 1) := by decide +kernel
theorem dX8_lentSize_15 : decode cX8_lentSize 15 = .ok (.ireturn, 1) := by decide +kernel
theorem dX8_calmSize_0 : decode cX8_calmSize 0 = .ok (.aload_n 0, 1) := by decide +kernel
theorem dX8_calmSize_1 : decode cX8_calmSize 1 = .ok (.bipush 11, 2) := by decide +kernel
theorem dX8_calmSize_3 : decode cX8_calmSize 3 = .ok (.invokevirtual 275, 3) := by decide +kernel
theorem dX8_calmSize_6 : decode cX8_calmSize 6 = .ok (.aload_n 0, 1) := by decide +kernel
theorem dX8_calmSize_7 : decode cX8_calmSize 7 = .ok (.iload_n 1, 1) := by decide +kernel
theorem dX8_calmSize_8 : decode cX8_calmSize 8 = .ok (.invokevirtual 278, 3) := by decide +kernel
theorem dX8_calmSize_11 : decode cX8_calmSize 11 = .ok (.istore_n 2, 1) := by decide +kernel
theorem dX8_calmSize_12 : decode cX8_calmSize 12 = .ok (.iload_n 2, 1) := by decide +kernel
theorem dX8_calmSize_13 : decode cX8_calmSize 13 = .ok (.aload_n 0, 1) := by decide +kernel
theorem dX8_calmSize_14 : decode cX8_calmSize 14 = .ok (.iload_n 1, 1) := by decide +kernel
theorem dX8_calmSize_15 : decode cX8_calmSize 15 = .ok (.invokevirtual 281, 3) := by decide +kernel
theorem dX8_calmSize_18 : decode cX8_calmSize 18 = .ok (.iadd, 1) := by decide +kernel
theorem dX8_calmSize_19 : decode cX8_calmSize 19 = .ok (.ireturn, 1) := by decide +kernel
theorem dX8_slowSize_0 : decode cX8_slowSize 0 = .ok (.aload_n 0, 1) := by decide +kernel
theorem dX8_slowSize_1 : decode cX8_slowSize 1 = .ok (.bipush 13, 2) := by decide +kernel
theorem dX8_slowSize_3 : decode cX8_slowSize 3 = .ok (.invokevirtual 275, 3) := by decide +kernel
theorem dX8_slowSize_6 : decode cX8_slowSize 6 = .ok (.aload_n 0, 1) := by decide +kernel
theorem dX8_slowSize_7 : decode cX8_slowSize 7 = .ok (.iload_n 1, 1) := by decide +kernel
theorem dX8_slowSize_8 : decode cX8_slowSize 8 = .ok (.invokevirtual 278, 3) := by decide +kernel
theorem dX8_slowSize_11 : decode cX8_slowSize 11 = .ok (.bipush 100, 2) := by decide +kernel
theorem dX8_slowSize_13 : decode cX8_slowSize 13 = .ok (.isub, 1) := by decide +kernel
theorem dX8_slowSize_14 : decode cX8_slowSize 14 = .ok (.ireturn, 1) := by decide +kernel
theorem dX8_sizeOf_0 : decode cX8_sizeOf 0 = .ok (.aload_n 0, 1) := by decide +kernel
theorem dX8_sizeOf_1 : decode cX8_sizeOf 1 = .ok (.getfield 7, 3) := by decide +kernel
theorem dX8_sizeOf_4 : decode cX8_sizeOf 4 = .ok (.iconst 3, 1) := by decide +kernel
theorem dX8_sizeOf_5 : decode cX8_sizeOf 5 = .ok (.iload_n 1, 1) := by decide +kernel
theorem dX8_sizeOf_6 : decode cX8_sizeOf 6 = .ok (.iadd, 1) := by decide +kernel
theorem dX8_sizeOf_7 : decode cX8_sizeOf 7 = .ok (.iaload, 1) := by decide +kernel
theorem dX8_sizeOf_8 : decode cX8_sizeOf 8 = .ok (.tableswitch 65 2 5 #[32, 65, 45, 51], 32) := by decide +kernel
theorem dX8_sizeOf_40 : decode cX8_sizeOf 40 = .ok (.aload_n 0, 1) := by decide +kernel
theorem dX8_sizeOf_41 : decode cX8_sizeOf 41 = .ok (.bipush 12, 2) := by decide +kernel
theorem dX8_sizeOf_43 : decode cX8_sizeOf 43 = .ok (.invokevirtual 275, 3) := by decide +kernel
theorem dX8_sizeOf_46 : decode cX8_sizeOf 46 = .ok (.aload_n 0, 1) := by decide +kernel
theorem dX8_sizeOf_47 : decode cX8_sizeOf 47 = .ok (.iload_n 1, 1) := by decide +kernel
theorem dX8_sizeOf_48 : decode cX8_sizeOf 48 = .ok (.invokevirtual 284, 3) := by decide +kernel
theorem dX8_sizeOf_51 : decode cX8_sizeOf 51 = .ok (.ineg, 1) := by decide +kernel
theorem dX8_sizeOf_52 : decode cX8_sizeOf 52 = .ok (.ireturn, 1) := by decide +kernel
theorem dX8_sizeOf_53 : decode cX8_sizeOf 53 = .ok (.aload_n 0, 1) := by decide +kernel
theorem dX8_sizeOf_54 : decode cX8_sizeOf 54 = .ok (.iload_n 1, 1) := by decide +kernel
theorem dX8_sizeOf_55 : decode cX8_sizeOf 55 = .ok (.invokevirtual 287, 3) := by decide +kernel
theorem dX8_sizeOf_58 : decode cX8_sizeOf 58 = .ok (.ireturn, 1) := by decide +kernel
theorem dX8_sizeOf_59 : decode cX8_sizeOf 59 = .ok (.aload_n 0, 1) := by decide +kernel
theorem dX8_sizeOf_60 : decode cX8_sizeOf 60 = .ok (.bipush 14, 2) := by decide +kernel
theorem dX8_sizeOf_62 : decode cX8_sizeOf 62 = .ok (.invokevirtual 275, 3) := by decide +kernel
theorem dX8_sizeOf_65 : decode cX8_sizeOf 65 = .ok (.iconst 2, 1) := by decide +kernel
theorem dX8_sizeOf_66 : decode cX8_sizeOf 66 = .ok (.aload_n 0, 1) := by decide +kernel
theorem dX8_sizeOf_67 : decode cX8_sizeOf 67 = .ok (.iload_n 1, 1) := by decide +kernel
theorem dX8_sizeOf_68 : decode cX8_sizeOf 68 = .ok (.invokevirtual 287, 3) := by decide +kernel
theorem dX8_sizeOf_71 : decode cX8_sizeOf 71 = .ok (.imul, 1) := by decide +kernel
theorem dX8_sizeOf_72 : decode cX8_sizeOf 72 = .ok (.ireturn, 1) := by decide +kernel
theorem dX8_sizeOf_73 : decode cX8_sizeOf 73 = .ok (.aload_n 0, 1) := by decide +kernel
theorem dX8_sizeOf_74 : decode cX8_sizeOf 74 = .ok (.iload_n 1, 1) := by decide +kernel
theorem dX8_sizeOf_75 : decode cX8_sizeOf 75 = .ok (.invokevirtual 284, 3) := by decide +kernel
theorem dX8_sizeOf_78 : decode cX8_sizeOf 78 = .ok (.ireturn, 1) := by decide +kernel
theorem dX8_lentMark_0 : decode cX8_lentMark 0 = .ok (.aload_n 0, 1) := by decide +kernel
theorem dX8_lentMark_1 : decode cX8_lentMark 1 = .ok (.bipush 20, 2) := by decide +kernel
theorem dX8_lentMark_3 : decode cX8_lentMark 3 = .ok (.invokevirtual 275, 3) := by decide +kernel
theorem dX8_lentMark_6 : decode cX8_lentMark 6 = .ok (.iload_n 1, 1) := by decide +kernel
theorem dX8_lentMark_7 : decode cX8_lentMark 7 = .ok (.ireturn, 1) := by decide +kernel
theorem dX8_calmMark_0 : decode cX8_calmMark 0 = .ok (.aload_n 0, 1) := by decide +kernel
theorem dX8_calmMark_1 : decode cX8_calmMark 1 = .ok (.bipush 21, 2) := by decide +kernel
theorem dX8_calmMark_3 : decode cX8_calmMark 3 = .ok (.invokevirtual 275, 3) := by decide +kernel
theorem dX8_calmMark_6 : decode cX8_calmMark 6 = .ok (.aload_n 0, 1) := by decide +kernel
theorem dX8_calmMark_7 : decode cX8_calmMark 7 = .ok (.iload_n 1, 1) := by decide +kernel
theorem dX8_calmMark_8 : decode cX8_calmMark 8 = .ok (.invokevirtual 290, 3) := by decide +kernel
theorem dX8_calmMark_11 : decode cX8_calmMark 11 = .ok (.aload_n 0, 1) := by decide +kernel
theorem dX8_calmMark_12 : decode cX8_calmMark 12 = .ok (.getfield 7, 3) := by decide +kernel
theorem dX8_calmMark_15 : decode cX8_calmMark 15 = .ok (.bipush 21, 2) := by decide +kernel
theorem dX8_calmMark_17 : decode cX8_calmMark 17 = .ok (.iload_n 1, 1) := by decide +kernel
theorem dX8_calmMark_18 : decode cX8_calmMark 18 = .ok (.iadd, 1) := by decide +kernel
theorem dX8_calmMark_19 : decode cX8_calmMark 19 = .ok (.iaload, 1) := by decide +kernel
theorem dX8_calmMark_20 : decode cX8_calmMark 20 = .ok (.iadd, 1) := by decide +kernel
theorem dX8_calmMark_21 : decode cX8_calmMark 21 = .ok (.ireturn, 1) := by decide +kernel
theorem dX8_calmerMark_0 : decode cX8_calmerMark 0 = .ok (.aload_n 0, 1) := by decide +kernel
theorem dX8_calmerMark_1 : decode cX8_calmerMark 1 = .ok (.getfield 7, 3) := by decide +kernel
theorem dX8_calmerMark_4 : decode cX8_calmerMark 4 = .ok (.iconst 3, 1) := by decide +kernel
theorem dX8_calmerMark_5 : decode cX8_calmerMark 5 = .ok (.iload_n 1, 1) := by decide +kernel
theorem dX8_calmerMark_6 : decode cX8_calmerMark 6 = .ok (.iadd, 1) := by decide +kernel
theorem dX8_calmerMark_7 : decode cX8_calmerMark 7 = .ok (.iaload, 1) := by decide +kernel
theorem dX8_calmerMark_8 : decode cX8_calmerMark 8 = .ok (.lookupswitch 58 #[(2, 44), (3, 28)], 28) := by decide +kernel
theorem dX8_calmerMark_36 : decode cX8_calmerMark 36 = .ok (.aload_n 0, 1) := by decide +kernel
theorem dX8_calmerMark_37 : decode cX8_calmerMark 37 = .ok (.bipush 22, 2) := by decide +kernel
theorem dX8_calmerMark_39 : decode cX8_calmerMark 39 = .ok (.invokevirtual 275, 3) := by decide +kernel
theorem dX8_calmerMark_42 : decode cX8_calmerMark 42 = .ok (.aload_n 0, 1) := by decide +kernel
theorem dX8_calmerMark_43 : decode cX8_calmerMark 43 = .ok (.iload_n 1, 1) := by decide +kernel
theorem dX8_calmerMark_44 : decode cX8_calmerMark 44 = .ok (.invokevirtual 293, 3) := by decide +kernel
theorem dX8_calmerMark_47 : decode cX8_calmerMark 47 = .ok (.sipush 1000, 3) := by decide +kernel
theorem dX8_calmerMark_50 : decode cX8_calmerMark 50 = .ok (.isub, 1) := by decide +kernel
theorem dX8_calmerMark_51 : decode cX8_calmerMark 51 = .ok (.ireturn, 1) := by decide +kernel
theorem dX8_calmerMark_52 : decode cX8_calmerMark 52 = .ok (.aload_n 0, 1) := by decide +kernel
theorem dX8_calmerMark_53 : decode cX8_calmerMark 53 = .ok (.bipush 24, 2) := by decide +kernel
theorem dX8_calmerMark_55 : decode cX8_calmerMark 55 = .ok (.invokevirtual 275, 3) := by decide +kernel
theorem dX8_calmerMark_58 : decode cX8_calmerMark 58 = .ok (.iconst 2, 1) := by decide +kernel
theorem dX8_calmerMark_59 : decode cX8_calmerMark 59 = .ok (.aload_n 0, 1) := by decide +kernel
theorem dX8_calmerMark_60 : decode cX8_calmerMark 60 = .ok (.iload_n 1, 1) := by decide +kernel
theorem dX8_calmerMark_61 : decode cX8_calmerMark 61 = .ok (.invokevirtual 293, 3) := by decide +kernel
theorem dX8_calmerMark_64 : decode cX8_calmerMark 64 = .ok (.imul, 1) := by decide +kernel
theorem dX8_calmerMark_65 : decode cX8_calmerMark 65 = .ok (.ireturn, 1) := by decide +kernel
theorem dX8_calmerMark_66 : decode cX8_calmerMark 66 = .ok (.aload_n 0, 1) := by decide +kernel
theorem dX8_calmerMark_67 : decode cX8_calmerMark 67 = .ok (.iload_n 1, 1) := by decide +kernel
theorem dX8_calmerMark_68 : decode cX8_calmerMark 68 = .ok (.invokevirtual 293, 3) := by decide +kernel
theorem dX8_calmerMark_71 : decode cX8_calmerMark 71 = .ok (.ireturn, 1) := by decide +kernel
theorem dX8_slowMark_0 : decode cX8_slowMark 0 = .ok (.aload_n 0, 1) := by decide +kernel
theorem dX8_slowMark_1 : decode cX8_slowMark 1 = .ok (.bipush 23, 2) := by decide +kernel
theorem dX8_slowMark_3 : decode cX8_slowMark 3 = .ok (.invokevirtual 275, 3) := by decide +kernel
theorem dX8_slowMark_6 : decode cX8_slowMark 6 = .ok (.aload_n 0, 1) := by decide +kernel
theorem dX8_slowMark_7 : decode cX8_slowMark 7 = .ok (.iload_n 1, 1) := by decide +kernel
theorem dX8_slowMark_8 : decode cX8_slowMark 8 = .ok (.invokevirtual 290, 3) := by decide +kernel
theorem dX8_slowMark_11 : decode cX8_slowMark 11 = .ok (.istore_n 2, 1) := by decide +kernel
theorem dX8_slowMark_12 : decode cX8_slowMark 12 = .ok (.iload_n 2, 1) := by decide +kernel
theorem dX8_slowMark_13 : decode cX8_slowMark 13 = .ok (.aload_n 0, 1) := by decide +kernel
theorem dX8_slowMark_14 : decode cX8_slowMark 14 = .ok (.iload_n 1, 1) := by decide +kernel
theorem dX8_slowMark_15 : decode cX8_slowMark 15 = .ok (.invokevirtual 296, 3) := by decide +kernel
theorem dX8_slowMark_18 : decode cX8_slowMark 18 = .ok (.isub, 1) := by decide +kernel
theorem dX8_slowMark_19 : decode cX8_slowMark 19 = .ok (.ireturn, 1) := by decide +kernel
theorem dX8_ask_0 : decode cX8_ask 0 = .ok (.aload_n 0, 1) := by decide +kernel
theorem dX8_ask_1 : decode cX8_ask 1 = .ok (.iload_n 1, 1) := by decide +kernel
theorem dX8_ask_2 : decode cX8_ask 2 = .ok (.invokevirtual 193, 3) := by decide +kernel
theorem dX8_ask_5 : decode cX8_ask 5 = .ok (.ifCond .eq 13, 3) := by decide +kernel
theorem dX8_ask_8 : decode cX8_ask 8 = .ok (.iload_n 2, 1) := by decide +kernel
theorem dX8_ask_9 : decode cX8_ask 9 = .ok (.i2l, 1) := by decide +kernel
theorem dX8_ask_10 : decode cX8_ask 10 = .ok (.lconst 0, 1) := by decide +kernel
theorem dX8_ask_11 : decode cX8_ask 11 = .ok (.lconst 1, 1) := by decide +kernel
theorem dX8_ask_12 : decode cX8_ask 12 = .ok (.invokestatic 48, 3) := by decide +kernel
theorem dX8_ask_15 : decode cX8_ask 15 = .ok (.ifCond .ne 6, 3) := by decide +kernel
theorem dX8_ask_18 : decode cX8_ask 18 = .ok (.ldc 58, 2) := by decide +kernel
theorem dX8_ask_20 : decode cX8_ask 20 = .ok (.ireturn, 1) := by decide +kernel
theorem dX8_ask_21 : decode cX8_ask 21 = .ok (.aload_n 0, 1) := by decide +kernel
theorem dX8_ask_22 : decode cX8_ask 22 = .ok (.iconst 0, 1) := by decide +kernel
theorem dX8_ask_23 : decode cX8_ask 23 = .ok (.putfield 272, 3) := by decide +kernel
theorem dX8_ask_26 : decode cX8_ask 26 = .ok (.iload_n 2, 1) := by decide +kernel
theorem dX8_ask_27 : decode cX8_ask 27 = .ok (.ifCond .ne 11, 3) := by decide +kernel
theorem dX8_ask_30 : decode cX8_ask 30 = .ok (.aload_n 0, 1) := by decide +kernel
theorem dX8_ask_31 : decode cX8_ask 31 = .ok (.iload_n 1, 1) := by decide +kernel
theorem dX8_ask_32 : decode cX8_ask 32 = .ok (.invokevirtual 296, 3) := by decide +kernel
theorem dX8_ask_35 : decode cX8_ask 35 = .ok (.goto 25, 3) := by decide +kernel
theorem dX8_ask_38 : decode cX8_ask 38 = .ok (.aload_n 0, 1) := by decide +kernel
theorem dX8_ask_39 : decode cX8_ask 39 = .ok (.iload_n 1, 1) := by decide +kernel
theorem dX8_ask_40 : decode cX8_ask 40 = .ok (.iconst 4, 1) := by decide +kernel
theorem dX8_ask_41 : decode cX8_ask 41 = .ok (.invokevirtual 269, 3) := by decide +kernel
theorem dX8_ask_44 : decode cX8_ask 44 = .ok (.ifCond .eq 11, 3) := by decide +kernel
theorem dX8_ask_47 : decode cX8_ask 47 = .ok (.aload_n 0, 1) := by decide +kernel
theorem dX8_ask_48 : decode cX8_ask 48 = .ok (.iload_n 1, 1) := by decide +kernel
theorem dX8_ask_49 : decode cX8_ask 49 = .ok (.invokevirtual 299, 3) := by decide +kernel
theorem dX8_ask_52 : decode cX8_ask 52 = .ok (.goto 8, 3) := by decide +kernel
theorem dX8_ask_55 : decode cX8_ask 55 = .ok (.aload_n 0, 1) := by decide +kernel
theorem dX8_ask_56 : decode cX8_ask 56 = .ok (.iload_n 1, 1) := by decide +kernel
theorem dX8_ask_57 : decode cX8_ask 57 = .ok (.invokevirtual 281, 3) := by decide +kernel
theorem dX8_ask_60 : decode cX8_ask 60 = .ok (.ireturn, 1) := by decide +kernel
theorem dX8_trace_0 : decode cX8_trace 0 = .ok (.iload_n 1, 1) := by decide +kernel
theorem dX8_trace_1 : decode cX8_trace 1 = .ok (.i2l, 1) := by decide +kernel
theorem dX8_trace_2 : decode cX8_trace 2 = .ok (.lconst 0, 1) := by decide +kernel
theorem dX8_trace_3 : decode cX8_trace 3 = .ok (.aload_n 0, 1) := by decide +kernel
theorem dX8_trace_4 : decode cX8_trace 4 = .ok (.getfield 272, 3) := by decide +kernel
theorem dX8_trace_7 : decode cX8_trace 7 = .ok (.iconst 1, 1) := by decide +kernel
theorem dX8_trace_8 : decode cX8_trace 8 = .ok (.isub, 1) := by decide +kernel
theorem dX8_trace_9 : decode cX8_trace 9 = .ok (.i2l, 1) := by decide +kernel
theorem dX8_trace_10 : decode cX8_trace 10 = .ok (.invokestatic 48, 3) := by decide +kernel
theorem dX8_trace_13 : decode cX8_trace 13 = .ok (.ifCond .eq 12, 3) := by decide +kernel
theorem dX8_trace_16 : decode cX8_trace 16 = .ok (.aload_n 0, 1) := by decide +kernel
theorem dX8_trace_17 : decode cX8_trace 17 = .ok (.getfield 29, 3) := by decide +kernel
theorem dX8_trace_20 : decode cX8_trace 20 = .ok (.iload_n 1, 1) := by decide +kernel
theorem dX8_trace_21 : decode cX8_trace 21 = .ok (.iaload, 1) := by decide +kernel
theorem dX8_trace_22 : decode cX8_trace 22 = .ok (.goto 5, 3) := by decide +kernel
theorem dX8_trace_25 : decode cX8_trace 25 = .ok (.ldc 116, 2) := by decide +kernel
theorem dX8_trace_27 : decode cX8_trace 27 = .ok (.ireturn, 1) := by decide +kernel
theorem dX8_count_0 : decode cX8_count 0 = .ok (.iconst 0, 1) := by decide +kernel
theorem dX8_count_1 : decode cX8_count 1 = .ok (.istore_n 2, 1) := by decide +kernel
theorem dX8_count_2 : decode cX8_count 2 = .ok (.iload_n 1, 1) := by decide +kernel
theorem dX8_count_3 : decode cX8_count 3 = .ok (.tableswitch 124 0 7 #[45, 78, 85, 92, 99, 108, 114, 119], 45) := by decide +kernel
theorem dX8_count_48 : decode cX8_count 48 = .ok (.iconst 0, 1) := by decide +kernel
theorem dX8_count_49 : decode cX8_count 49 = .ok (.istore_n 3, 1) := by decide +kernel
theorem dX8_count_50 : decode cX8_count 50 = .ok (.iload_n 3, 1) := by decide +kernel
theorem dX8_count_51 : decode cX8_count 51 = .ok (.bipush 8, 2) := by decide +kernel
theorem dX8_count_53 : decode cX8_count 53 = .ok (.if_icmp .ge 26, 3) := by decide +kernel
theorem dX8_count_56 : decode cX8_count 56 = .ok (.iload_n 2, 1) := by decide +kernel
theorem dX8_count_57 : decode cX8_count 57 = .ok (.aload_n 0, 1) := by decide +kernel
theorem dX8_count_58 : decode cX8_count 58 = .ok (.getfield 20, 3) := by decide +kernel
theorem dX8_count_61 : decode cX8_count 61 = .ok (.iload_n 3, 1) := by decide +kernel
theorem dX8_count_62 : decode cX8_count 62 = .ok (.iaload, 1) := by decide +kernel
theorem dX8_count_63 : decode cX8_count 63 = .ok (.ifCond .ge 7, 3) := by decide +kernel
theorem dX8_count_66 : decode cX8_count 66 = .ok (.iconst 0, 1) := by decide +kernel
theorem dX8_count_67 : decode cX8_count 67 = .ok (.goto 4, 3) := by decide +kernel
theorem dX8_count_70 : decode cX8_count 70 = .ok (.iconst 1, 1) := by decide +kernel
theorem dX8_count_71 : decode cX8_count 71 = .ok (.iadd, 1) := by decide +kernel
theorem dX8_count_72 : decode cX8_count 72 = .ok (.istore_n 2, 1) := by decide +kernel
theorem dX8_count_73 : decode cX8_count 73 = .ok (.iinc 3 1, 3) := by decide +kernel
theorem dX8_count_76 : decode cX8_count 76 = .ok (.goto (-26), 3) := by decide +kernel
theorem dX8_count_79 : decode cX8_count 79 = .ok (.iload_n 2, 1) := by decide +kernel
theorem dX8_count_80 : decode cX8_count 80 = .ok (.ireturn, 1) := by decide +kernel
theorem dX8_count_81 : decode cX8_count 81 = .ok (.aload_n 0, 1) := by decide +kernel
theorem dX8_count_82 : decode cX8_count 82 = .ok (.getfield 7, 3) := by decide +kernel
theorem dX8_count_85 : decode cX8_count 85 = .ok (.iconst 1, 1) := by decide +kernel
theorem dX8_count_86 : decode cX8_count 86 = .ok (.iaload, 1) := by decide +kernel
theorem dX8_count_87 : decode cX8_count 87 = .ok (.ireturn, 1) := by decide +kernel
theorem dX8_count_88 : decode cX8_count 88 = .ok (.aload_n 0, 1) := by decide +kernel
theorem dX8_count_89 : decode cX8_count 89 = .ok (.getfield 7, 3) := by decide +kernel
theorem dX8_count_92 : decode cX8_count 92 = .ok (.iconst 0, 1) := by decide +kernel
theorem dX8_count_93 : decode cX8_count 93 = .ok (.iaload, 1) := by decide +kernel
theorem dX8_count_94 : decode cX8_count 94 = .ok (.ireturn, 1) := by decide +kernel
theorem dX8_count_95 : decode cX8_count 95 = .ok (.aload_n 0, 1) := by decide +kernel
theorem dX8_count_96 : decode cX8_count 96 = .ok (.getfield 7, 3) := by decide +kernel
theorem dX8_count_99 : decode cX8_count 99 = .ok (.iconst 2, 1) := by decide +kernel
theorem dX8_count_100 : decode cX8_count 100 = .ok (.iaload, 1) := by decide +kernel
theorem dX8_count_101 : decode cX8_count 101 = .ok (.ireturn, 1) := by decide +kernel
theorem dX8_count_102 : decode cX8_count 102 = .ok (.aload_n 0, 1) := by decide +kernel
theorem dX8_count_103 : decode cX8_count 103 = .ok (.iconst 0, 1) := by decide +kernel
theorem dX8_count_104 : decode cX8_count 104 = .ok (.invokevirtual 190, 3) := by decide +kernel
theorem dX8_count_107 : decode cX8_count 107 = .ok (.invokestatic 207, 3) := by decide +kernel
theorem dX8_count_110 : decode cX8_count 110 = .ok (.ireturn, 1) := by decide +kernel
theorem dX8_count_111 : decode cX8_count 111 = .ok (.aload_n 0, 1) := by decide +kernel
theorem dX8_count_112 : decode cX8_count 112 = .ok (.iconst 0, 1) := by decide +kernel
theorem dX8_count_113 : decode cX8_count 113 = .ok (.invokevirtual 234, 3) := by decide +kernel
theorem dX8_count_116 : decode cX8_count 116 = .ok (.ireturn, 1) := by decide +kernel
theorem dX8_count_117 : decode cX8_count 117 = .ok (.aload_n 0, 1) := by decide +kernel
theorem dX8_count_118 : decode cX8_count 118 = .ok (.getfield 135, 3) := by decide +kernel
theorem dX8_count_121 : decode cX8_count 121 = .ok (.ireturn, 1) := by decide +kernel
theorem dX8_count_122 : decode cX8_count 122 = .ok (.aload_n 0, 1) := by decide +kernel
theorem dX8_count_123 : decode cX8_count 123 = .ok (.getfield 76, 3) := by decide +kernel
theorem dX8_count_126 : decode cX8_count 126 = .ok (.ireturn, 1) := by decide +kernel
theorem dX8_count_127 : decode cX8_count 127 = .ok (.ldc 58, 2) := by decide +kernel
theorem dX8_count_129 : decode cX8_count 129 = .ok (.ireturn, 1) := by decide +kernel
theorem dX8_status_0 : decode cX8_status 0 = .ok (.aload_n 0, 1) := by decide +kernel
theorem dX8_status_1 : decode cX8_status 1 = .ok (.getfield 41, 3) := by decide +kernel
theorem dX8_status_4 : decode cX8_status 4 = .ok (.ireturn, 1) := by decide +kernel
end
section
theorem dJ6_bitCount_0f7a4_0 : decode cJ6_bitCount_0f7a4 0 = .ok (.iload_n 0, 1) := by decide +kernel
theorem dJ6_bitCount_0f7a4_1 : decode cJ6_bitCount_0f7a4 1 = .ok (.iload_n 0, 1) := by decide +kernel
theorem dJ6_bitCount_0f7a4_2 : decode cJ6_bitCount_0f7a4 2 = .ok (.iconst 1, 1) := by decide +kernel
theorem dJ6_bitCount_0f7a4_3 : decode cJ6_bitCount_0f7a4 3 = .ok (.iushr, 1) := by decide +kernel
theorem dJ6_bitCount_0f7a4_4 : decode cJ6_bitCount_0f7a4 4 = .ok (.ldc_w 265, 3) := by decide +kernel
theorem dJ6_bitCount_0f7a4_7 : decode cJ6_bitCount_0f7a4 7 = .ok (.iand, 1) := by decide +kernel
theorem dJ6_bitCount_0f7a4_8 : decode cJ6_bitCount_0f7a4 8 = .ok (.isub, 1) := by decide +kernel
theorem dJ6_bitCount_0f7a4_9 : decode cJ6_bitCount_0f7a4 9 = .ok (.istore_n 0, 1) := by decide +kernel
theorem dJ6_bitCount_0f7a4_10 : decode cJ6_bitCount_0f7a4 10 = .ok (.iload_n 0, 1) := by decide +kernel
theorem dJ6_bitCount_0f7a4_11 : decode cJ6_bitCount_0f7a4 11 = .ok (.ldc_w 266, 3) := by decide +kernel
theorem dJ6_bitCount_0f7a4_14 : decode cJ6_bitCount_0f7a4 14 = .ok (.iand, 1) := by decide +kernel
theorem dJ6_bitCount_0f7a4_15 : decode cJ6_bitCount_0f7a4 15 = .ok (.iload_n 0, 1) := by decide +kernel
theorem dJ6_bitCount_0f7a4_16 : decode cJ6_bitCount_0f7a4 16 = .ok (.iconst 2, 1) := by decide +kernel
theorem dJ6_bitCount_0f7a4_17 : decode cJ6_bitCount_0f7a4 17 = .ok (.iushr, 1) := by decide +kernel
theorem dJ6_bitCount_0f7a4_18 : decode cJ6_bitCount_0f7a4 18 = .ok (.ldc_w 266, 3) := by decide +kernel
theorem dJ6_bitCount_0f7a4_21 : decode cJ6_bitCount_0f7a4 21 = .ok (.iand, 1) := by decide +kernel
theorem dJ6_bitCount_0f7a4_22 : decode cJ6_bitCount_0f7a4 22 = .ok (.iadd, 1) := by decide +kernel
theorem dJ6_bitCount_0f7a4_23 : decode cJ6_bitCount_0f7a4 23 = .ok (.istore_n 0, 1) := by decide +kernel
theorem dJ6_bitCount_0f7a4_24 : decode cJ6_bitCount_0f7a4 24 = .ok (.iload_n 0, 1) := by decide +kernel
theorem dJ6_bitCount_0f7a4_25 : decode cJ6_bitCount_0f7a4 25 = .ok (.iload_n 0, 1) := by decide +kernel
theorem dJ6_bitCount_0f7a4_26 : decode cJ6_bitCount_0f7a4 26 = .ok (.iconst 4, 1) := by decide +kernel
theorem dJ6_bitCount_0f7a4_27 : decode cJ6_bitCount_0f7a4 27 = .ok (.iushr, 1) := by decide +kernel
theorem dJ6_bitCount_0f7a4_28 : decode cJ6_bitCount_0f7a4 28 = .ok (.iadd, 1) := by decide +kernel
theorem dJ6_bitCount_0f7a4_29 : decode cJ6_bitCount_0f7a4 29 = .ok (.ldc_w 267, 3) := by decide +kernel
theorem dJ6_bitCount_0f7a4_32 : decode cJ6_bitCount_0f7a4 32 = .ok (.iand, 1) := by decide +kernel
theorem dJ6_bitCount_0f7a4_33 : decode cJ6_bitCount_0f7a4 33 = .ok (.istore_n 0, 1) := by decide +kernel
theorem dJ6_bitCount_0f7a4_34 : decode cJ6_bitCount_0f7a4 34 = .ok (.iload_n 0, 1) := by decide +kernel
theorem dJ6_bitCount_0f7a4_35 : decode cJ6_bitCount_0f7a4 35 = .ok (.iload_n 0, 1) := by decide +kernel
theorem dJ6_bitCount_0f7a4_36 : decode cJ6_bitCount_0f7a4 36 = .ok (.bipush 8, 2) := by decide +kernel
theorem dJ6_bitCount_0f7a4_38 : decode cJ6_bitCount_0f7a4 38 = .ok (.iushr, 1) := by decide +kernel
theorem dJ6_bitCount_0f7a4_39 : decode cJ6_bitCount_0f7a4 39 = .ok (.iadd, 1) := by decide +kernel
theorem dJ6_bitCount_0f7a4_40 : decode cJ6_bitCount_0f7a4 40 = .ok (.istore_n 0, 1) := by decide +kernel
theorem dJ6_bitCount_0f7a4_41 : decode cJ6_bitCount_0f7a4 41 = .ok (.iload_n 0, 1) := by decide +kernel
theorem dJ6_bitCount_0f7a4_42 : decode cJ6_bitCount_0f7a4 42 = .ok (.iload_n 0, 1) := by decide +kernel
theorem dJ6_bitCount_0f7a4_43 : decode cJ6_bitCount_0f7a4 43 = .ok (.bipush 16, 2) := by decide +kernel
theorem dJ6_bitCount_0f7a4_45 : decode cJ6_bitCount_0f7a4 45 = .ok (.iushr, 1) := by decide +kernel
theorem dJ6_bitCount_0f7a4_46 : decode cJ6_bitCount_0f7a4 46 = .ok (.iadd, 1) := by decide +kernel
theorem dJ6_bitCount_0f7a4_47 : decode cJ6_bitCount_0f7a4 47 = .ok (.istore_n 0, 1) := by decide +kernel
theorem dJ6_bitCount_0f7a4_48 : decode cJ6_bitCount_0f7a4 48 = .ok (.iload_n 0, 1) := by decide +kernel
theorem dJ6_bitCount_0f7a4_49 : decode cJ6_bitCount_0f7a4 49 = .ok (.bipush 63, 2) := by decide +kernel
theorem dJ6_bitCount_0f7a4_51 : decode cJ6_bitCount_0f7a4 51 = .ok (.iand, 1) := by decide +kernel
theorem dJ6_bitCount_0f7a4_52 : decode cJ6_bitCount_0f7a4 52 = .ok (.ireturn, 1) := by decide +kernel
theorem dJ9_floorMod_7cf53_0 : decode cJ9_floorMod_7cf53 0 = .ok (.iload_n 0, 1) := by decide +kernel
theorem dJ9_floorMod_7cf53_1 : decode cJ9_floorMod_7cf53 1 = .ok (.iload_n 1, 1) := by decide +kernel
theorem dJ9_floorMod_7cf53_2 : decode cJ9_floorMod_7cf53 2 = .ok (.irem, 1) := by decide +kernel
theorem dJ9_floorMod_7cf53_3 : decode cJ9_floorMod_7cf53 3 = .ok (.istore_n 2, 1) := by decide +kernel
theorem dJ9_floorMod_7cf53_4 : decode cJ9_floorMod_7cf53 4 = .ok (.iload_n 0, 1) := by decide +kernel
theorem dJ9_floorMod_7cf53_5 : decode cJ9_floorMod_7cf53 5 = .ok (.iload_n 1, 1) := by decide +kernel
theorem dJ9_floorMod_7cf53_6 : decode cJ9_floorMod_7cf53 6 = .ok (.ixor, 1) := by decide +kernel
theorem dJ9_floorMod_7cf53_7 : decode cJ9_floorMod_7cf53 7 = .ok (.ifCond .ge 11, 3) := by decide +kernel
theorem dJ9_floorMod_7cf53_10 : decode cJ9_floorMod_7cf53 10 = .ok (.iload_n 2, 1) := by decide +kernel
theorem dJ9_floorMod_7cf53_11 : decode cJ9_floorMod_7cf53 11 = .ok (.ifCond .eq 7, 3) := by decide +kernel
theorem dJ9_floorMod_7cf53_14 : decode cJ9_floorMod_7cf53 14 = .ok (.iload_n 2, 1) := by decide +kernel
theorem dJ9_floorMod_7cf53_15 : decode cJ9_floorMod_7cf53 15 = .ok (.iload_n 1, 1) := by decide +kernel
theorem dJ9_floorMod_7cf53_16 : decode cJ9_floorMod_7cf53 16 = .ok (.iadd, 1) := by decide +kernel
theorem dJ9_floorMod_7cf53_17 : decode cJ9_floorMod_7cf53 17 = .ok (.ireturn, 1) := by decide +kernel
theorem dJ9_floorMod_7cf53_18 : decode cJ9_floorMod_7cf53 18 = .ok (.iload_n 2, 1) := by decide +kernel
theorem dJ9_floorMod_7cf53_19 : decode cJ9_floorMod_7cf53 19 = .ok (.ireturn, 1) := by decide +kernel
theorem dJ9_max_7cf53_0 : decode cJ9_max_7cf53 0 = .ok (.iload_n 0, 1) := by decide +kernel
theorem dJ9_max_7cf53_1 : decode cJ9_max_7cf53 1 = .ok (.iload_n 1, 1) := by decide +kernel
theorem dJ9_max_7cf53_2 : decode cJ9_max_7cf53 2 = .ok (.if_icmp .lt 7, 3) := by decide +kernel
theorem dJ9_max_7cf53_5 : decode cJ9_max_7cf53 5 = .ok (.iload_n 0, 1) := by decide +kernel
theorem dJ9_max_7cf53_6 : decode cJ9_max_7cf53 6 = .ok (.goto 4, 3) := by decide +kernel
theorem dJ9_max_7cf53_9 : decode cJ9_max_7cf53 9 = .ok (.iload_n 1, 1) := by decide +kernel
theorem dJ9_max_7cf53_10 : decode cJ9_max_7cf53 10 = .ok (.ireturn, 1) := by decide +kernel
theorem dJ9_min_7cf53_0 : decode cJ9_min_7cf53 0 = .ok (.iload_n 0, 1) := by decide +kernel
theorem dJ9_min_7cf53_1 : decode cJ9_min_7cf53 1 = .ok (.iload_n 1, 1) := by decide +kernel
theorem dJ9_min_7cf53_2 : decode cJ9_min_7cf53 2 = .ok (.if_icmp .gt 7, 3) := by decide +kernel
theorem dJ9_min_7cf53_5 : decode cJ9_min_7cf53 5 = .ok (.iload_n 0, 1) := by decide +kernel
theorem dJ9_min_7cf53_6 : decode cJ9_min_7cf53 6 = .ok (.goto 4, 3) := by decide +kernel
theorem dJ9_min_7cf53_9 : decode cJ9_min_7cf53 9 = .ok (.iload_n 1, 1) := by decide +kernel
theorem dJ9_min_7cf53_10 : decode cJ9_min_7cf53 10 = .ok (.ireturn, 1) := by decide +kernel
theorem dJ7_fill_53178_0 : decode cJ7_fill_53178 0 = .ok (.iconst 0, 1) := by decide +kernel
theorem dJ7_fill_53178_1 : decode cJ7_fill_53178 1 = .ok (.istore_n 2, 1) := by decide +kernel
theorem dJ7_fill_53178_2 : decode cJ7_fill_53178 2 = .ok (.aload_n 0, 1) := by decide +kernel
theorem dJ7_fill_53178_3 : decode cJ7_fill_53178 3 = .ok (.arraylength, 1) := by decide +kernel
theorem dJ7_fill_53178_4 : decode cJ7_fill_53178 4 = .ok (.istore_n 3, 1) := by decide +kernel
theorem dJ7_fill_53178_5 : decode cJ7_fill_53178 5 = .ok (.iload_n 2, 1) := by decide +kernel
theorem dJ7_fill_53178_6 : decode cJ7_fill_53178 6 = .ok (.iload_n 3, 1) := by decide +kernel
theorem dJ7_fill_53178_7 : decode cJ7_fill_53178 7 = .ok (.if_icmp .ge 13, 3) := by decide +kernel
theorem dJ7_fill_53178_10 : decode cJ7_fill_53178 10 = .ok (.aload_n 0, 1) := by decide +kernel
theorem dJ7_fill_53178_11 : decode cJ7_fill_53178 11 = .ok (.iload_n 2, 1) := by decide +kernel
theorem dJ7_fill_53178_12 : decode cJ7_fill_53178 12 = .ok (.iload_n 1, 1) := by decide +kernel
theorem dJ7_fill_53178_13 : decode cJ7_fill_53178 13 = .ok (.iastore, 1) := by decide +kernel
theorem dJ7_fill_53178_14 : decode cJ7_fill_53178 14 = .ok (.iinc 2 1, 3) := by decide +kernel
theorem dJ7_fill_53178_17 : decode cJ7_fill_53178 17 = .ok (.goto (-12), 3) := by decide +kernel
theorem dJ7_fill_53178_20 : decode cJ7_fill_53178 20 = .ok (.return_, 1) := by decide +kernel
theorem dJ0_length_8abf5_0 : decode cJ0_length_8abf5 0 = .ok (.aload_n 0, 1) := by decide +kernel
theorem dJ0_length_8abf5_1 : decode cJ0_length_8abf5 1 = .ok (.getfield 9, 3) := by decide +kernel
theorem dJ0_length_8abf5_4 : decode cJ0_length_8abf5 4 = .ok (.arraylength, 1) := by decide +kernel
theorem dJ0_length_8abf5_5 : decode cJ0_length_8abf5 5 = .ok (.aload_n 0, 1) := by decide +kernel
theorem dJ0_length_8abf5_6 : decode cJ0_length_8abf5 6 = .ok (.invokevirtual 335, 3) := by decide +kernel
theorem dJ0_length_8abf5_9 : decode cJ0_length_8abf5 9 = .ok (.ishr, 1) := by decide +kernel
theorem dJ0_length_8abf5_10 : decode cJ0_length_8abf5 10 = .ok (.ireturn, 1) := by decide +kernel
theorem dJ0_indexOf_0f7a4_0 : decode cJ0_indexOf_0f7a4 0 = .ok (.aload_n 0, 1) := by decide +kernel
theorem dJ0_indexOf_0f7a4_1 : decode cJ0_indexOf_0f7a4 1 = .ok (.iload_n 1, 1) := by decide +kernel
theorem dJ0_indexOf_0f7a4_2 : decode cJ0_indexOf_0f7a4 2 = .ok (.iconst 0, 1) := by decide +kernel
theorem dJ0_indexOf_0f7a4_3 : decode cJ0_indexOf_0f7a4 3 = .ok (.invokevirtual 633, 3) := by decide +kernel
theorem dJ0_indexOf_0f7a4_6 : decode cJ0_indexOf_0f7a4 6 = .ok (.ireturn, 1) := by decide +kernel
theorem dJ0_indexOf_7cf53_0 : decode cJ0_indexOf_7cf53 0 = .ok (.aload_n 0, 1) := by decide +kernel
theorem dJ0_indexOf_7cf53_1 : decode cJ0_indexOf_7cf53 1 = .ok (.invokevirtual 492, 3) := by decide +kernel
theorem dJ0_indexOf_7cf53_4 : decode cJ0_indexOf_7cf53 4 = .ok (.ifCond .eq 19, 3) := by decide +kernel
theorem dJ0_indexOf_7cf53_7 : decode cJ0_indexOf_7cf53 7 = .ok (.aload_n 0, 1) := by decide +kernel
theorem dJ0_indexOf_7cf53_8 : decode cJ0_indexOf_7cf53 8 = .ok (.getfield 9, 3) := by decide +kernel
theorem dJ0_indexOf_7cf53_11 : decode cJ0_indexOf_7cf53 11 = .ok (.iload_n 1, 1) := by decide +kernel
theorem dJ0_indexOf_7cf53_12 : decode cJ0_indexOf_7cf53 12 = .ok (.iload_n 2, 1) := by decide +kernel
theorem dJ0_indexOf_7cf53_13 : decode cJ0_indexOf_7cf53 13 = .ok (.aload_n 0, 1) := by decide +kernel
theorem dJ0_indexOf_7cf53_14 : decode cJ0_indexOf_7cf53 14 = .ok (.invokevirtual 505, 3) := by decide +kernel
theorem dJ0_indexOf_7cf53_17 : decode cJ0_indexOf_7cf53 17 = .ok (.invokestatic 637, 3) := by decide +kernel
theorem dJ0_indexOf_7cf53_20 : decode cJ0_indexOf_7cf53 20 = .ok (.goto 16, 3) := by decide +kernel
theorem dJ0_indexOf_7cf53_23 : decode cJ0_indexOf_7cf53 23 = .ok (.aload_n 0, 1) := by decide +kernel
theorem dJ0_indexOf_7cf53_24 : decode cJ0_indexOf_7cf53 24 = .ok (.getfield 9, 3) := by decide +kernel
theorem dJ0_indexOf_7cf53_27 : decode cJ0_indexOf_7cf53 27 = .ok (.iload_n 1, 1) := by decide +kernel
theorem dJ0_indexOf_7cf53_28 : decode cJ0_indexOf_7cf53 28 = .ok (.iload_n 2, 1) := by decide +kernel
theorem dJ0_indexOf_7cf53_29 : decode cJ0_indexOf_7cf53 29 = .ok (.aload_n 0, 1) := by decide +kernel
theorem dJ0_indexOf_7cf53_30 : decode cJ0_indexOf_7cf53 30 = .ok (.invokevirtual 505, 3) := by decide +kernel
theorem dJ0_indexOf_7cf53_33 : decode cJ0_indexOf_7cf53 33 = .ok (.invokestatic 640, 3) := by decide +kernel
theorem dJ0_indexOf_7cf53_36 : decode cJ0_indexOf_7cf53 36 = .ok (.ireturn, 1) := by decide +kernel
theorem dJ0_coder_7d493_0 : decode cJ0_coder_7d493 0 = .ok (.getstatic 38, 3) := by decide +kernel
theorem dJ0_coder_7d493_3 : decode cJ0_coder_7d493 3 = .ok (.ifCond .eq 10, 3) := by decide +kernel
theorem dJ0_coder_7d493_6 : decode cJ0_coder_7d493 6 = .ok (.aload_n 0, 1) := by decide +kernel
theorem dJ0_coder_7d493_7 : decode cJ0_coder_7d493 7 = .ok (.getfield 15, 3) := by decide +kernel
theorem dJ0_coder_7d493_10 : decode cJ0_coder_7d493 10 = .ok (.goto 4, 3) := by decide +kernel
theorem dJ0_coder_7d493_13 : decode cJ0_coder_7d493 13 = .ok (.iconst 1, 1) := by decide +kernel
theorem dJ0_coder_7d493_14 : decode cJ0_coder_7d493 14 = .ok (.ireturn, 1) := by decide +kernel
theorem dJ0_isLatin1_aae02_0 : decode cJ0_isLatin1_aae02 0 = .ok (.getstatic 38, 3) := by decide +kernel
theorem dJ0_isLatin1_aae02_3 : decode cJ0_isLatin1_aae02 3 = .ok (.ifCond .eq 14, 3) := by decide +kernel
theorem dJ0_isLatin1_aae02_6 : decode cJ0_isLatin1_aae02 6 = .ok (.aload_n 0, 1) := by decide +kernel
theorem dJ0_isLatin1_aae02_7 : decode cJ0_isLatin1_aae02 7 = .ok (.getfield 15, 3) := by decide +kernel
theorem dJ0_isLatin1_aae02_10 : decode cJ0_isLatin1_aae02 10 = .ok (.ifCond .ne 7, 3) := by decide +kernel
theorem dJ0_isLatin1_aae02_13 : decode cJ0_isLatin1_aae02 13 = .ok (.iconst 1, 1) := by decide +kernel
theorem dJ0_isLatin1_aae02_14 : decode cJ0_isLatin1_aae02 14 = .ok (.goto 4, 3) := by decide +kernel
theorem dJ0_isLatin1_aae02_17 : decode cJ0_isLatin1_aae02 17 = .ok (.iconst 0, 1) := by decide +kernel
theorem dJ0_isLatin1_aae02_18 : decode cJ0_isLatin1_aae02 18 = .ok (.ireturn, 1) := by decide +kernel
theorem dJ0_checkBoundsBeginEnd_23922_0 : decode cJ0_checkBoundsBeginEnd_23922 0 = .ok (.iload_n 0, 1) := by decide +kernel
theorem dJ0_checkBoundsBeginEnd_23922_1 : decode cJ0_checkBoundsBeginEnd_23922 1 = .ok (.iload_n 1, 1) := by decide +kernel
theorem dJ0_checkBoundsBeginEnd_23922_2 : decode cJ0_checkBoundsBeginEnd_23922 2 = .ok (.iload_n 2, 1) := by decide +kernel
theorem dJ0_checkBoundsBeginEnd_23922_3 : decode cJ0_checkBoundsBeginEnd_23922 3 = .ok (.getstatic 1053, 3) := by decide +kernel
theorem dJ0_checkBoundsBeginEnd_23922_6 : decode cJ0_checkBoundsBeginEnd_23922 6 = .ok (.invokestatic 1062, 3) := by decide +kernel
theorem dJ0_checkBoundsBeginEnd_23922_9 : decode cJ0_checkBoundsBeginEnd_23922 9 = .ok (.pop, 1) := by decide +kernel
theorem dJ0_checkBoundsBeginEnd_23922_10 : decode cJ0_checkBoundsBeginEnd_23922 10 = .ok (.return_, 1) := by decide +kernel
theorem dJ1_canEncode_9a6ad_0 : decode cJ1_canEncode_9a6ad 0 = .ok (.iload_n 0, 1) := by decide +kernel
theorem dJ1_canEncode_9a6ad_1 : decode cJ1_canEncode_9a6ad 1 = .ok (.ifCond .lt 14, 3) := by decide +kernel
theorem dJ1_canEncode_9a6ad_4 : decode cJ1_canEncode_9a6ad 4 = .ok (.iload_n 0, 1) := by decide +kernel
theorem dJ1_canEncode_9a6ad_5 : decode cJ1_canEncode_9a6ad 5 = .ok (.sipush 255, 3) := by decide +kernel
theorem dJ1_canEncode_9a6ad_8 : decode cJ1_canEncode_9a6ad 8 = .ok (.if_icmp .gt 7, 3) := by decide +kernel
theorem dJ1_canEncode_9a6ad_11 : decode cJ1_canEncode_9a6ad 11 = .ok (.iconst 1, 1) := by decide +kernel
theorem dJ1_canEncode_9a6ad_12 : decode cJ1_canEncode_9a6ad 12 = .ok (.goto 4, 3) := by decide +kernel
theorem dJ1_canEncode_9a6ad_15 : decode cJ1_canEncode_9a6ad 15 = .ok (.iconst 0, 1) := by decide +kernel
theorem dJ1_canEncode_9a6ad_16 : decode cJ1_canEncode_9a6ad 16 = .ok (.ireturn, 1) := by decide +kernel
theorem dJ1_indexOf_4cfef_0 : decode cJ1_indexOf_4cfef 0 = .ok (.iload_n 1, 1) := by decide +kernel
theorem dJ1_indexOf_4cfef_1 : decode cJ1_indexOf_4cfef 1 = .ok (.invokestatic 88, 3) := by decide +kernel
theorem dJ1_indexOf_4cfef_4 : decode cJ1_indexOf_4cfef 4 = .ok (.ifCond .ne 5, 3) := by decide +kernel
theorem dJ1_indexOf_4cfef_7 : decode cJ1_indexOf_4cfef 7 = .ok (.iconst (-1), 1) := by decide +kernel
theorem dJ1_indexOf_4cfef_8 : decode cJ1_indexOf_4cfef 8 = .ok (.ireturn, 1) := by decide +kernel
theorem dJ1_indexOf_4cfef_9 : decode cJ1_indexOf_4cfef 9 = .ok (.iload_n 2, 1) := by decide +kernel
theorem dJ1_indexOf_4cfef_10 : decode cJ1_indexOf_4cfef 10 = .ok (.iconst 0, 1) := by decide +kernel
theorem dJ1_indexOf_4cfef_11 : decode cJ1_indexOf_4cfef 11 = .ok (.invokestatic 92, 3) := by decide +kernel
theorem dJ1_indexOf_4cfef_14 : decode cJ1_indexOf_4cfef 14 = .ok (.istore_n 2, 1) := by decide +kernel
theorem dJ1_indexOf_4cfef_15 : decode cJ1_indexOf_4cfef 15 = .ok (.iload_n 3, 1) := by decide +kernel
theorem dJ1_indexOf_4cfef_16 : decode cJ1_indexOf_4cfef 16 = .ok (.aload_n 0, 1) := by decide +kernel
theorem dJ1_indexOf_4cfef_17 : decode cJ1_indexOf_4cfef 17 = .ok (.arraylength, 1) := by decide +kernel
theorem dJ1_indexOf_4cfef_18 : decode cJ1_indexOf_4cfef 18 = .ok (.invokestatic 38, 3) := by decide +kernel
theorem dJ1_indexOf_4cfef_21 : decode cJ1_indexOf_4cfef 21 = .ok (.istore_n 3, 1) := by decide +kernel
theorem dJ1_indexOf_4cfef_22 : decode cJ1_indexOf_4cfef 22 = .ok (.iload_n 2, 1) := by decide +kernel
theorem dJ1_indexOf_4cfef_23 : decode cJ1_indexOf_4cfef 23 = .ok (.iload_n 3, 1) := by decide +kernel
theorem dJ1_indexOf_4cfef_24 : decode cJ1_indexOf_4cfef 24 = .ok (.if_icmp .lt 5, 3) := by decide +kernel
theorem dJ1_indexOf_4cfef_27 : decode cJ1_indexOf_4cfef 27 = .ok (.iconst (-1), 1) := by decide +kernel
theorem dJ1_indexOf_4cfef_28 : decode cJ1_indexOf_4cfef 28 = .ok (.ireturn, 1) := by decide +kernel
theorem dJ1_indexOf_4cfef_29 : decode cJ1_indexOf_4cfef 29 = .ok (.aload_n 0, 1) := by decide +kernel
theorem dJ1_indexOf_4cfef_30 : decode cJ1_indexOf_4cfef 30 = .ok (.iload_n 1, 1) := by decide +kernel
theorem dJ1_indexOf_4cfef_31 : decode cJ1_indexOf_4cfef 31 = .ok (.iload_n 2, 1) := by decide +kernel
theorem dJ1_indexOf_4cfef_32 : decode cJ1_indexOf_4cfef 32 = .ok (.iload_n 3, 1) := by decide +kernel
theorem dJ1_indexOf_4cfef_33 : decode cJ1_indexOf_4cfef 33 = .ok (.invokestatic 95, 3) := by decide +kernel
theorem dJ1_indexOf_4cfef_36 : decode cJ1_indexOf_4cfef 36 = .ok (.ireturn, 1) := by decide +kernel
theorem dJ1_indexOfChar_4cfef_0 : decode cJ1_indexOfChar_4cfef 0 = .ok (.iload_n 1, 1) := by decide +kernel
theorem dJ1_indexOfChar_4cfef_1 : decode cJ1_indexOfChar_4cfef 1 = .ok (.i2b, 1) := by decide +kernel
theorem dJ1_indexOfChar_4cfef_2 : decode cJ1_indexOfChar_4cfef 2 = .ok (.istore 4, 2) := by decide +kernel
theorem dJ1_indexOfChar_4cfef_4 : decode cJ1_indexOfChar_4cfef 4 = .ok (.iload_n 2, 1) := by decide +kernel
theorem dJ1_indexOfChar_4cfef_5 : decode cJ1_indexOfChar_4cfef 5 = .ok (.istore 5, 2) := by decide +kernel
theorem dJ1_indexOfChar_4cfef_7 : decode cJ1_indexOfChar_4cfef 7 = .ok (.iload 5, 2) := by decide +kernel
theorem dJ1_indexOfChar_4cfef_9 : decode cJ1_indexOfChar_4cfef 9 = .ok (.iload_n 3, 1) := by decide +kernel
theorem dJ1_indexOfChar_4cfef_10 : decode cJ1_indexOfChar_4cfef 10 = .ok (.if_icmp .ge 21, 3) := by decide +kernel
theorem dJ1_indexOfChar_4cfef_13 : decode cJ1_indexOfChar_4cfef 13 = .ok (.aload_n 0, 1) := by decide +kernel
theorem dJ1_indexOfChar_4cfef_14 : decode cJ1_indexOfChar_4cfef 14 = .ok (.iload 5, 2) := by decide +kernel
theorem dJ1_indexOfChar_4cfef_16 : decode cJ1_indexOfChar_4cfef 16 = .ok (.baload, 1) := by decide +kernel
theorem dJ1_indexOfChar_4cfef_17 : decode cJ1_indexOfChar_4cfef 17 = .ok (.iload 4, 2) := by decide +kernel
theorem dJ1_indexOfChar_4cfef_19 : decode cJ1_indexOfChar_4cfef 19 = .ok (.if_icmp .ne 6, 3) := by decide +kernel
theorem dJ1_indexOfChar_4cfef_22 : decode cJ1_indexOfChar_4cfef 22 = .ok (.iload 5, 2) := by decide +kernel
theorem dJ1_indexOfChar_4cfef_24 : decode cJ1_indexOfChar_4cfef 24 = .ok (.ireturn, 1) := by decide +kernel
theorem dJ1_indexOfChar_4cfef_25 : decode cJ1_indexOfChar_4cfef 25 = .ok (.iinc 5 1, 3) := by decide +kernel
theorem dJ1_indexOfChar_4cfef_28 : decode cJ1_indexOfChar_4cfef 28 = .ok (.goto (-21), 3) := by decide +kernel
theorem dJ1_indexOfChar_4cfef_31 : decode cJ1_indexOfChar_4cfef 31 = .ok (.iconst (-1), 1) := by decide +kernel
theorem dJ1_indexOfChar_4cfef_32 : decode cJ1_indexOfChar_4cfef 32 = .ok (.ireturn, 1) := by decide +kernel
theorem dJ11_isValidCodePoint_9a6ad_0 : decode cJ11_isValidCodePoint_9a6ad 0 = .ok (.iload_n 0, 1) := by decide +kernel
theorem dJ11_isValidCodePoint_9a6ad_1 : decode cJ11_isValidCodePoint_9a6ad 1 = .ok (.bipush 16, 2) := by decide +kernel
theorem dJ11_isValidCodePoint_9a6ad_3 : decode cJ11_isValidCodePoint_9a6ad 3 = .ok (.iushr, 1) := by decide +kernel
theorem dJ11_isValidCodePoint_9a6ad_4 : decode cJ11_isValidCodePoint_9a6ad 4 = .ok (.istore_n 1, 1) := by decide +kernel
theorem dJ11_isValidCodePoint_9a6ad_5 : decode cJ11_isValidCodePoint_9a6ad 5 = .ok (.iload_n 1, 1) := by decide +kernel
theorem dJ11_isValidCodePoint_9a6ad_6 : decode cJ11_isValidCodePoint_9a6ad 6 = .ok (.bipush 17, 2) := by decide +kernel
theorem dJ11_isValidCodePoint_9a6ad_8 : decode cJ11_isValidCodePoint_9a6ad 8 = .ok (.if_icmp .ge 7, 3) := by decide +kernel
theorem dJ11_isValidCodePoint_9a6ad_11 : decode cJ11_isValidCodePoint_9a6ad 11 = .ok (.iconst 1, 1) := by decide +kernel
theorem dJ11_isValidCodePoint_9a6ad_12 : decode cJ11_isValidCodePoint_9a6ad 12 = .ok (.goto 4, 3) := by decide +kernel
theorem dJ11_isValidCodePoint_9a6ad_15 : decode cJ11_isValidCodePoint_9a6ad 15 = .ok (.iconst 0, 1) := by decide +kernel
theorem dJ11_isValidCodePoint_9a6ad_16 : decode cJ11_isValidCodePoint_9a6ad 16 = .ok (.ireturn, 1) := by decide +kernel
theorem dJ11_highSurrogate_5068e_0 : decode cJ11_highSurrogate_5068e 0 = .ok (.iload_n 0, 1) := by decide +kernel
theorem dJ11_highSurrogate_5068e_1 : decode cJ11_highSurrogate_5068e 1 = .ok (.bipush 10, 2) := by decide +kernel
theorem dJ11_highSurrogate_5068e_3 : decode cJ11_highSurrogate_5068e 3 = .ok (.iushr, 1) := by decide +kernel
theorem dJ11_highSurrogate_5068e_4 : decode cJ11_highSurrogate_5068e 4 = .ok (.ldc 110, 2) := by decide +kernel
theorem dJ11_highSurrogate_5068e_6 : decode cJ11_highSurrogate_5068e 6 = .ok (.iadd, 1) := by decide +kernel
theorem dJ11_highSurrogate_5068e_7 : decode cJ11_highSurrogate_5068e 7 = .ok (.i2c, 1) := by decide +kernel
theorem dJ11_highSurrogate_5068e_8 : decode cJ11_highSurrogate_5068e 8 = .ok (.ireturn, 1) := by decide +kernel
theorem dJ11_lowSurrogate_5068e_0 : decode cJ11_lowSurrogate_5068e 0 = .ok (.iload_n 0, 1) := by decide +kernel
theorem dJ11_lowSurrogate_5068e_1 : decode cJ11_lowSurrogate_5068e 1 = .ok (.sipush 1023, 3) := by decide +kernel
theorem dJ11_lowSurrogate_5068e_4 : decode cJ11_lowSurrogate_5068e 4 = .ok (.iand, 1) := by decide +kernel
theorem dJ11_lowSurrogate_5068e_5 : decode cJ11_lowSurrogate_5068e 5 = .ok (.ldc 76, 2) := by decide +kernel
theorem dJ11_lowSurrogate_5068e_7 : decode cJ11_lowSurrogate_5068e 7 = .ok (.iadd, 1) := by decide +kernel
theorem dJ11_lowSurrogate_5068e_8 : decode cJ11_lowSurrogate_5068e 8 = .ok (.i2c, 1) := by decide +kernel
theorem dJ11_lowSurrogate_5068e_9 : decode cJ11_lowSurrogate_5068e 9 = .ok (.ireturn, 1) := by decide +kernel
end
section
/-! THE ABSTRACT WORLD: places instead of addresses. A layout says of each place what lies there (an object with its constant references; a row of ints, of booleans, of rows); a memory holds the ints. -/
abbrev Mem : Type := Nat → Nat → Int32
abbrev lyE : Type := (Nat × List (Option Nat)) ⊕ (Nat ⊕ (Nat ⊕ List Nat))
abbrev amK : Type := ClassId × ClassId × ClassId
def mset (M : Mem) (p : Nat) (f : Nat → Int32) : Mem := fun q => if q = p then f else M q
theorem mset_self (M : Mem) (p : Nat) (f : Nat → Int32) : mset M p f p = f := if_pos rfl
theorem mset_ne (M : Mem) {p q : Nat} (f : Nat → Int32) (h : q ≠ p) : mset M p f q = M q := if_neg h
def ly_fv (ad : Nat → Nat) (row : Nat → Int32) : Nat → List (Option Nat) → List Value
  | _, [] => []
  | j, none :: r => .int (row j) :: ly_fv ad row (j + 1) r
  | j, some q :: r => .ref (ad q) :: ly_fv ad row (j + 1) r
def ly_v (ad : Nat → Nat) (row : Nat → Int32) (j : Nat) (o : Option Nat) : Value := match o with
  | none => .int (row j)
  | some q => .ref (ad q)
theorem ly_fv_get (ad : Nat → Nat) (row : Nat → Int32) : ∀ (fs : List (Option Nat)) (j k : Nat), (ly_fv ad row j fs)[k]? = (fs[k]?).map (ly_v ad row (j + k))
  | [], j, k => by simp [ly_fv]
  | none :: r, j, 0 => by simp [ly_fv, ly_v]
  | some q :: r, j, 0 => by simp [ly_fv, ly_v]
  | none :: r, j, k + 1 => by
    simp only [ly_fv, List.getElem?_cons_succ, ly_fv_get ad row r]
    rw [show j + 1 + k = j + (k + 1) by omega]
  | some q :: r, j, k + 1 => by
    simp only [ly_fv, List.getElem?_cons_succ, ly_fv_get ad row r]
    rw [show j + 1 + k = j + (k + 1) by omega]
theorem ly_fv_len (ad : Nat → Nat) (row : Nat → Int32) : ∀ (fs : List (Option Nat)) (j : Nat), (ly_fv ad row j fs).length = fs.length
  | [], j => rfl
  | none :: r, j => by simp [ly_fv, ly_fv_len ad row r]
  | some q :: r, j => by simp [ly_fv, ly_fv_len ad row r]
theorem ly_fv_set (ad : Nat → Nat) (row : Nat → Int32) (fs : List (Option Nat)) (k : Nat) (v : Int32) (h : fs[k]? = some none) : (ly_fv ad row 0 fs).set k (.int v) = ly_fv ad (upd row k v) 0 fs := by
  apply List.ext_getElem?
  intro i
  rw [List.getElem?_set, ly_fv_get, ly_fv_get, ly_fv_len]
  by_cases hi : k = i
  · subst hi
    have hk : k < fs.length := (List.getElem?_eq_some_iff.mp h).1
    rw [if_pos rfl, if_pos hk, h]
    simp [ly_v, upd]
  · rw [if_neg hi]
    cases he : fs[i]? with
    | none => rfl
    | some o =>
      cases o with
      | none => simp [ly_v, upd, show ¬ i = k from fun q => hi q.symm]
      | some q => rfl
def ly_c (K : amK) (ad : Nat → Nat) (M : Mem) (k : Nat) (e : lyE) : va_E := match e with
  | .inl o => .inr (o.1, ly_fv ad (M k) 0 o.2)
  | .inr (.inl n) => .inl (K.1, n, .inl (M k))
  | .inr (.inr (.inl n)) => .inl (K.2.1, n, .inl (M k))
  | .inr (.inr (.inr qs)) => .inl (K.2.2, qs.length, .inr (.inr (.inr (.inr (fun j => (qs[j]?).map ad)))))
def ly_w (K : amK) (ad : Nat → Nat) (M : Mem) (lay : List lyE) : va_W := lay.mapIdx (fun k e => (ad k, ly_c K ad M k e))
theorem ly_w_get (K : amK) (ad : Nat → Nat) (M : Mem) (lay : List lyE) (k : Nat) : (ly_w K ad M lay)[k]? = (lay[k]?).map (fun e => (ad k, ly_c K ad M k e)) := by
  unfold ly_w
  rw [List.getElem?_mapIdx]
theorem ly_w_at {K : amK} {ad : Nat → Nat} {M : Mem} {lay : List lyE} {k : Nat} {e : lyE} (h : lay[k]? = some e) : (ly_w K ad M lay)[k]? = some (ad k, ly_c K ad M k e) := by
  rw [ly_w_get, h]; rfl
theorem ly_c_ne {K : amK} {ad : Nat → Nat} {M : Mem} {p k : Nat} {f : Nat → Int32} {e : lyE} (h : k ≠ p) : ly_c K ad (mset M p f) k e = ly_c K ad M k e := by
  unfold ly_c
  rw [mset_ne M f h]
theorem ly_w_set {K : amK} {ad : Nat → Nat} {M : Mem} {lay : List lyE} {p : Nat} {e : lyE} {f : Nat → Int32} (h : lay[p]? = some e) : (ly_w K ad M lay).set p (ad p, ly_c K ad (mset M p f) p e) = ly_w K ad (mset M p f) lay := by
  apply List.ext_getElem?
  intro i
  rw [List.getElem?_set, ly_w_get, ly_w_get]
  by_cases hi : p = i
  · subst hi
    have hk : p < (ly_w K ad M lay).length := by
      have := (List.getElem?_eq_some_iff.mp h).1
      simpa [ly_w] using this
    simp [hk, h]
  · rw [if_neg hi]
    cases he : lay[i]? with
    | none => rfl
    | some o => simp only [Option.map_some]; rw [ly_c_ne (fun q => hi q.symm)]
def cv (ad : Nat → Nat) (v : Value) : Value := match v with
  | .ref k => .ref (ad k)
  | w => w
theorem cv_cat (ad : Nat → Nat) (v : Value) : (cv ad v).category = v.category := by cases v <;> rfl
def am_tys (K : amK) : List (ClassId × FieldType) := [(K.1, .int), (K.2.1, .boolean), (K.2.2, .array .int)]
def am_in (i : Int32) (n : Nat) : Bool := !(decide (i < 0)) && decide (i.toNatClampNeg < n)
theorem am_in_vp {i : Int32} {n : Nat} (h : am_in i n = true) : vp_in i n := by
  unfold am_in at h
  unfold vp_in
  simp only [Bool.and_eq_true, Bool.not_eq_true', decide_eq_false_iff_not, decide_eq_true_eq] at h
  rintro (q | q)
  · exact h.1 q
  · exact absurd h.2 (Nat.not_lt.mpr q)
theorem am_in_nI {j n : Nat} (h : j < n) (hn : n < 2 ^ 31) : am_in (nI j) n = true := by
  unfold am_in
  rw [nI_clamp (by omega)]
  simp [nI_pos (show j < 2 ^ 31 by omega), h]
/-- the names of the static rows and of the text: the places from 1000 on -/
def am_St (ad : Nat → Nat) (A : Nat → Prop) (U : State) (H : Heap) : Prop :=
  (va_Z "LuggageBelt$Asks" "KIND_ABOVE" "[I" (.ref (ad 1000)) A U H ∧ va_T .int (ad 1000) 6 (fun j => .int (([-1, 0, 1, 1, 0, 4] : List Int32).getD j 0)) A U H) ∧
  (va_Z "LuggageBelt$Asks" "SIZE_BODIES" "[I" (.ref (ad 1001)) A U H ∧ va_T .int (ad 1001) 6 (fun j => .int (([10, 11, 12, -1000000, 13, 14] : List Int32).getD j 0)) A U H) ∧
  (va_Z "LuggageBelt$Asks" "MARK_BODIES" "[I" (.ref (ad 1002)) A U H ∧ va_T .int (ad 1002) 6 (fun j => .int (([20, 21, 24, 22, 23, -1000000] : List Int32).getD j 0)) A U H) ∧
  vk_R "LuggageBelt$Tape" 59 "cshld" (ad 1003) U ∧ vk_S 1 [5] [[99, 115, 104, 108, 100]] (fun _ => ad 1003) (fun _ => ad 1004) A U H ∧ va_Z "java/lang/String" "COMPACT_STRINGS" "Z" (.int 1) A U H
theorem am_St.go {ad : Nat → Nat} {A B : Nat → Prop} {u U : State} {H H1 : Heap} (h : am_St ad A u H) (hW : u.WarmedH U.vm) (hq : ∀ a : Nat, a < H.size → ¬ A a → H1[a]? = H[a]?) (hAB : ∀ q, B q → A q) : am_St ad B U H1 := by
  obtain ⟨⟨a1, a2⟩, ⟨b1, b2⟩, ⟨c1, c2⟩, d1, d2, e1⟩ := h
  have hv := hW.alike
  exact ⟨⟨((a1.kept hq).moved hv).narrow hAB, ((a2.kept hq).moved hv).narrow hAB⟩, ⟨((b1.kept hq).moved hv).narrow hAB, ((b2.kept hq).moved hv).narrow hAB⟩, ⟨((c1.kept hq).moved hv).narrow hAB, ((c2.kept hq).moved hv).narrow hAB⟩, d1.warm hW, ((d2.kept hq).moved hv).narrow hAB, ((e1.kept hq).moved hv).narrow hAB⟩
theorem am_St.same {ad : Nat → Nat} {A : Nat → Prop} {u U : State} {H : Heap} (h : am_St ad A u H) (hv : U.vm = u.vm) : am_St ad A U H := by
  obtain ⟨⟨a1, a2⟩, ⟨b1, b2⟩, ⟨c1, c2⟩, d1, d2, e1⟩ := h
  have hw : u.vm.Alike U.vm := by rw [hv]; exact Vm.Alike.refl _
  exact ⟨⟨a1.moved hw, a2.moved hw⟩, ⟨b1.moved hw, b2.moved hw⟩, ⟨c1.moved hw, c2.moved hw⟩, d1.same hv, d2.moved hw, e1.moved hw⟩
/-- the words of every method: its code, and the tables (those that a callee may ask for) -/
def lw_t : List Cond := lw_tbl.filter goodWord
theorem lw_in {w : Cond} (h : w ∈ lw_tbl) (hg : goodWord w = true) : w ∈ lw_t := List.mem_filter.mpr ⟨h, hg⟩
def wT (y : MethodName) (b : ByteArray) (n : Nat) (ret : Option FieldType) : List Cond := .code y b n ret :: lw_t
def rmD (d : Nat) : Room := { frames := d, cells := 0, slots := 0, locals := 64 * d }
theorem wT_good {y : MethodName} {b : ByteArray} {n : Nat} {ret : Option FieldType} (h : Cond.code y b n ret ∈ lw_t) : GoodIn lw_t (wT y b n ret) := by
  intro w hw
  rcases List.mem_cons.mp hw with rfl | hw
  · exact ⟨h, good_of_word (List.mem_filter.mp h).2⟩
  · exact ⟨hw, good_of_word (List.mem_filter.mp hw).2⟩
/-! THE JUDGEMENT: from here on the method answers what F says -/
abbrev amE : Type := Program × Launch × Env × Room × State × MethodId × Array Value × List Frame × Method × Code × va_G × amK × (Nat → Prop) × (Nat → Nat)
abbrev eP (E : amE) : Program := E.1
abbrev eL (E : amE) : Launch := E.2.1
abbrev eE (E : amE) : Env := E.2.2.1
abbrev eR (E : amE) : Room := E.2.2.2.1
abbrev eS (E : amE) : State := E.2.2.2.2.1
abbrev eM (E : amE) : MethodId := E.2.2.2.2.2.1
abbrev eA (E : amE) : Array Value := E.2.2.2.2.2.2.1
abbrev eB (E : amE) : List Frame := E.2.2.2.2.2.2.2.1
abbrev eH (E : amE) : Method := E.2.2.2.2.2.2.2.2.1
abbrev eC (E : amE) : Code := E.2.2.2.2.2.2.2.2.2.1
abbrev eD (E : amE) : va_G := E.2.2.2.2.2.2.2.2.2.2.1
abbrev eK (E : amE) : amK := E.2.2.2.2.2.2.2.2.2.2.2.1
abbrev eF (E : amE) : Nat → Prop := E.2.2.2.2.2.2.2.2.2.2.2.2.1
abbrev eX (E : amE) : Nat → Nat := E.2.2.2.2.2.2.2.2.2.2.2.2.2
def amC (E : amE) (d : Nat) (cc : ByteArray) (nL : Nat) (own : String) : Prop :=
  (eP E).tables.exec = Jvm.exec ∧ (eC E).code = cc ∧ (eC E).maxLocals = nL ∧ (eS E).vm.findClass own = some (eM E).cls ∧ (∀ w ∈ lw_t, w.before (eA E) (eS E) = true) ∧ (eH E).locks = false ∧ va_K (eD E) vwCl (am_tys (eK E)) (eS E) ∧ (∀ q, (eS E).heap.size ≤ q → eF E q) ∧ am_St (eX E) (eF E) (eS E) (eS E).heap ∧ d ≤ (eR E).frames ∧ 64 * d ≤ (eR E).locals
def amS (E : amE) (lay : List lyE) (M : Mem) (H : Heap) (locs : List Loc) : Prop :=
  va_P (eD E) vwCl (ly_w (eK E) (eX E) M lay) H ∧ va_D (eF E) (ly_w (eK E) (eX E) M lay) ∧ va_S (eF E) (eS E).heap H locs
/-- a method's end: by the tables, the array classes, what may have changed, the addresses, and what is answered -/
abbrev amQ (ρ : Type) : Type := va_G → amK → (Nat → Prop) → (Nat → Nat) → ρ → Array Value → State → Outcome → State → Prop
def AW (E : amE) (lay : List lyE) (nL : Nat) {ρ : Type} (Qc : amQ ρ) (F : Option ρ) (pc : Nat) (lv : List (Nat × Value)) (st : List Value) (M : Mem) : Prop :=
  ∀ (t : ρ), F = some t → ∀ (H : Heap) (locs : List Loc) (ls : Array Slot), amS E lay M H locs → lv_has ls nL (lv.map (fun q => (q.1, cv (eX E) q.2))) →
    W (eP E) (eL E) (eE E) (eR E) (eS E) (eM E) (eA E) (eB E) (eH E) (eC E) H locs 0 0 (MQ (eB E) (Qc (eD E) (eK E) (eF E) (eX E) t) (eA E) (eS E) 0 0 (eF E)) (F0 (eM E) pc ls (st.map (cv (eX E))))
section AR
variable {E : amE} {lay : List lyE} {d nL : Nat} {cc : ByteArray} {own : String} {ρ : Type} {Qc : amQ ρ} {F F1 F2 : Option ρ} {pc : Nat} {lv : List (Nat × Value)} {st : List Value} {M : Mem}
theorem aw_none : AW E lay nL Qc none pc lv st M := fun t h => by cases h
theorem aw_eq {F' : Option ρ} (h : F' = F) (k : AW E lay nL Qc F pc lv st M) : AW E lay nL Qc F' pc lv st M := h ▸ k
theorem aw_ite {P : Prop} [Decidable P] (k1 : P → AW E lay nL Qc F1 pc lv st M) (k2 : ¬ P → AW E lay nL Qc F2 pc lv st M) : AW E lay nL Qc (if P then F1 else F2) pc lv st M := by
  by_cases h : P
  · rw [if_pos h]; exact k1 h
  · rw [if_neg h]; exact k2 h
theorem aw_sub {lv' : List (Nat × Value)} (ks : List Nat) (hl : lv_pick lv ks = lv') (k : AW E lay nL Qc F pc lv' st M) : AW E lay nL Qc F pc lv st M := by
  intro t ht H locs ls hS hh
  refine k t ht H locs ls hS (lv_sub hh ks ?_)
  rw [← hl]
  unfold lv_pick
  rw [List.map_filterMap]
  congr 1
  funext i
  simp
theorem aw_lv {lv' : List (Nat × Value)} (h : lv = lv') (k : AW E lay nL Qc F pc lv' st M) : AW E lay nL Qc F pc lv st M := h ▸ k
theorem am_at {ls : Array Slot} {ad : Nat → Nat} (hh : lv_has ls nL (lv.map (fun q => (q.1, cv ad q.2)))) {i : Nat} {v : Value} (h : lv.find? (fun q => q.1 == i) = some (i, v)) : ls[i]? = some (.val (cv ad v)) := by
  have hm := List.mem_of_find?_eq_some h
  exact hh.2.2 (i, cv ad v) (List.mem_map.mpr ⟨(i, v), hm, rfl⟩)
theorem am_filt (ad : Nat → Nat) (i : Nat) (g : Nat × Value → Bool) (hg : ∀ q : Nat × Value, g (q.1, cv ad q.2) = g q) (lv : List (Nat × Value)) : (lv.map (fun q => (q.1, cv ad q.2))).filter g = (lv.filter g).map (fun q => (q.1, cv ad q.2)) := by
  rw [List.filter_map]
  congr 1
  apply List.filter_congr
  intro q _
  exact hg q
theorem aw_iconst (C : amC E d cc nL own) {n : Int} (v : Int32) (hd : decode cc pc = .ok (.iconst n, 1)) (hv : Int32.ofInt n = v) (k : AW E lay nL Qc F (pc + 1) lv (.int v :: st) M) : AW E lay nL Qc F pc lv st M := fun t ht H locs ls hS hh => lv_iconst C.1 C.2.1 hd hv (k t ht H locs ls hS hh)
theorem aw_bipush (C : amC E d cc nL own) {n : Int} (v : Int32) (hd : decode cc pc = .ok (.bipush n, 2)) (hv : (Int8.ofInt n).toInt32 = v) (k : AW E lay nL Qc F (pc + 2) lv (.int v :: st) M) : AW E lay nL Qc F pc lv st M := fun t ht H locs ls hS hh => lv_bipush C.1 C.2.1 hd hv (k t ht H locs ls hS hh)
theorem aw_sipush (C : amC E d cc nL own) {n : Int} (v : Int32) (hd : decode cc pc = .ok (.sipush n, 3)) (hv : (Int16.ofInt n).toInt32 = v) (k : AW E lay nL Qc F (pc + 3) lv (.int v :: st) M) : AW E lay nL Qc F pc lv st M := fun t ht H locs ls hS hh => lv_sipush C.1 C.2.1 hd hv (k t ht H locs ls hS hh)
theorem aw_lconst (C : amC E d cc nL own) {n : Fin 2} (v : Int64) (hd : decode cc pc = .ok (.lconst n, 1)) (hv : Int64.ofNat (n : Nat) = v) (k : AW E lay nL Qc F (pc + 1) lv (.long v :: st) M) : AW E lay nL Qc F pc lv st M := fun t ht H locs ls hS hh => lv_lconst C.1 C.2.1 hd hv (k t ht H locs ls hS hh)
theorem aw_ldc (C : amC E d cc nL own) {idx : Nat} {v : Int32} (hc : Cond.constant own idx v ∈ lw_t) (hd : decode cc pc = .ok (.ldc idx, 2)) (k : AW E lay nL Qc F (pc + 2) lv (.int v :: st) M) : AW E lay nL Qc F pc lv st M := fun t ht H locs ls hS hh => lv_ldc C.1 C.2.1 C.2.2.2.1 (C.2.2.2.2.1 _ hc) hd (k t ht H locs ls hS hh)
theorem aw_ldc2 (C : amC E d cc nL own) {idx : Nat} {v : Int64} (hc : Cond.constantLong own idx v ∈ lw_t) (hd : decode cc pc = .ok (.ldc2_w idx, 3)) (k : AW E lay nL Qc F (pc + 3) lv (.long v :: st) M) : AW E lay nL Qc F pc lv st M := fun t ht H locs ls hS hh => lv_ldc2 C.1 C.2.1 C.2.2.2.1 (C.2.2.2.2.1 _ hc) hd (k t ht H locs ls hS hh)
theorem aw_iload_n (C : amC E d cc nL own) {i : Fin 4} {x : Int32} (hd : decode cc pc = .ok (.iload_n i, 1)) (h : lv.find? (fun q => q.1 == (i : Nat)) = some ((i : Nat), .int x)) (k : AW E lay nL Qc F (pc + 1) lv (.int x :: st) M) : AW E lay nL Qc F pc lv st M := fun t ht H locs ls hS hh => lv_iload_n C.1 C.2.1 hd rfl (am_at hh h) (k t ht H locs ls hS hh)
theorem aw_iload (C : amC E d cc nL own) {i : Nat} {x : Int32} (hd : decode cc pc = .ok (.iload i, 2)) (h : lv.find? (fun q => q.1 == i) = some (i, .int x)) (k : AW E lay nL Qc F (pc + 2) lv (.int x :: st) M) : AW E lay nL Qc F pc lv st M := fun t ht H locs ls hS hh => lv_iload C.1 C.2.1 hd (am_at hh h) (k t ht H locs ls hS hh)
theorem aw_lload_n (C : amC E d cc nL own) {i : Fin 4} {x : Int64} (hd : decode cc pc = .ok (.lload_n i, 1)) (h : lv.find? (fun q => q.1 == (i : Nat)) = some ((i : Nat), .long x)) (k : AW E lay nL Qc F (pc + 1) lv (.long x :: st) M) : AW E lay nL Qc F pc lv st M := fun t ht H locs ls hS hh => lv_lload_n C.1 C.2.1 hd rfl (am_at hh h) (k t ht H locs ls hS hh)
theorem aw_lload (C : amC E d cc nL own) {i : Nat} {x : Int64} (hd : decode cc pc = .ok (.lload i, 2)) (h : lv.find? (fun q => q.1 == i) = some (i, .long x)) (k : AW E lay nL Qc F (pc + 2) lv (.long x :: st) M) : AW E lay nL Qc F pc lv st M := fun t ht H locs ls hS hh => lv_lload C.1 C.2.1 hd (am_at hh h) (k t ht H locs ls hS hh)
theorem aw_aload_n (C : amC E d cc nL own) {i : Fin 4} {x : Nat} (hd : decode cc pc = .ok (.aload_n i, 1)) (h : lv.find? (fun q => q.1 == (i : Nat)) = some ((i : Nat), .ref x)) (k : AW E lay nL Qc F (pc + 1) lv (.ref x :: st) M) : AW E lay nL Qc F pc lv st M := fun t ht H locs ls hS hh => lv_aload_n C.1 C.2.1 hd rfl (am_at hh h) (k t ht H locs ls hS hh)
theorem aw_aload (C : amC E d cc nL own) {i : Nat} {x : Nat} (hd : decode cc pc = .ok (.aload i, 2)) (h : lv.find? (fun q => q.1 == i) = some (i, .ref x)) (k : AW E lay nL Qc F (pc + 2) lv (.ref x :: st) M) : AW E lay nL Qc F pc lv st M := fun t ht H locs ls hS hh => lv_aload C.1 C.2.1 hd (am_at hh h) (k t ht H locs ls hS hh)
theorem am_st1 {ad : Nat → Nat} {i : Nat} {v : Value} {lv' : List (Nat × Value)} (hl : (i, v) :: lv.filter (fun q => !(q.1 == i) && !(q.1 + 1 == i && q.2.category == 2)) = lv') : (i, cv ad v) :: (lv.map (fun q => (q.1, cv ad q.2))).filter (fun q => !(q.1 == i) && !(q.1 + 1 == i && q.2.category == 2)) = lv'.map (fun q => (q.1, cv ad q.2)) := by
  rw [am_filt ad i _ (fun q => by simp only [cv_cat]) lv, ← hl]
  rfl
theorem am_st2 {ad : Nat → Nat} {i : Nat} {v : Value} {lv' : List (Nat × Value)} (hl : (i, v) :: lv.filter (fun q => !(q.1 == i) && (!(q.1 == i + 1) && !(q.1 + 1 == i && q.2.category == 2))) = lv') : (i, cv ad v) :: (lv.map (fun q => (q.1, cv ad q.2))).filter (fun q => !(q.1 == i) && (!(q.1 == i + 1) && !(q.1 + 1 == i && q.2.category == 2))) = lv'.map (fun q => (q.1, cv ad q.2)) := by
  rw [am_filt ad i _ (fun q => by simp only [cv_cat]) lv, ← hl]
  rfl
theorem aw_istore_n (C : amC E d cc nL own) {i : Fin 4} {x : Int32} (lv' : List (Nat × Value)) (hd : decode cc pc = .ok (.istore_n i, 1)) (hn : (i : Nat) < nL) (hl : ((i : Nat), Value.int x) :: lv.filter (fun q => !(q.1 == (i : Nat)) && !(q.1 + 1 == (i : Nat) && q.2.category == 2)) = lv') (k : AW E lay nL Qc F (pc + 1) lv' st M) : AW E lay nL Qc F pc lv (.int x :: st) M := fun t ht H locs ls hS hh => lv_istore_n C.1 C.2.1 hd rfl hh hn (am_st1 (v := .int x) hl) (fun ls' hh' => k t ht H locs ls' hS hh')
theorem aw_istore (C : amC E d cc nL own) {i : Nat} {x : Int32} (lv' : List (Nat × Value)) (hd : decode cc pc = .ok (.istore i, 2)) (hn : i < nL) (hl : (i, Value.int x) :: lv.filter (fun q => !(q.1 == i) && !(q.1 + 1 == i && q.2.category == 2)) = lv') (k : AW E lay nL Qc F (pc + 2) lv' st M) : AW E lay nL Qc F pc lv (.int x :: st) M := fun t ht H locs ls hS hh => lv_istore C.1 C.2.1 hd hh hn (am_st1 (v := .int x) hl) (fun ls' hh' => k t ht H locs ls' hS hh')
theorem aw_astore_n (C : amC E d cc nL own) {i : Fin 4} {x : Nat} (lv' : List (Nat × Value)) (hd : decode cc pc = .ok (.astore_n i, 1)) (hn : (i : Nat) < nL) (hl : ((i : Nat), Value.ref x) :: lv.filter (fun q => !(q.1 == (i : Nat)) && !(q.1 + 1 == (i : Nat) && q.2.category == 2)) = lv') (k : AW E lay nL Qc F (pc + 1) lv' st M) : AW E lay nL Qc F pc lv (.ref x :: st) M := fun t ht H locs ls hS hh => lv_astore_n C.1 C.2.1 hd rfl hh hn (am_st1 (v := .ref x) hl) (fun ls' hh' => k t ht H locs ls' hS hh')
theorem aw_astore (C : amC E d cc nL own) {i : Nat} {x : Nat} (lv' : List (Nat × Value)) (hd : decode cc pc = .ok (.astore i, 2)) (hn : i < nL) (hl : (i, Value.ref x) :: lv.filter (fun q => !(q.1 == i) && !(q.1 + 1 == i && q.2.category == 2)) = lv') (k : AW E lay nL Qc F (pc + 2) lv' st M) : AW E lay nL Qc F pc lv (.ref x :: st) M := fun t ht H locs ls hS hh => lv_astore C.1 C.2.1 hd hh hn (am_st1 (v := .ref x) hl) (fun ls' hh' => k t ht H locs ls' hS hh')
theorem aw_lstore_n (C : amC E d cc nL own) {i : Fin 4} {x : Int64} (lv' : List (Nat × Value)) (hd : decode cc pc = .ok (.lstore_n i, 1)) (hn : (i : Nat) + 1 < nL) (hl : ((i : Nat), Value.long x) :: lv.filter (fun q => !(q.1 == (i : Nat)) && (!(q.1 == (i : Nat) + 1) && !(q.1 + 1 == (i : Nat) && q.2.category == 2))) = lv') (k : AW E lay nL Qc F (pc + 1) lv' st M) : AW E lay nL Qc F pc lv (.long x :: st) M := fun t ht H locs ls hS hh => lv_lstore_n C.1 C.2.1 hd rfl hh hn (am_st2 (v := .long x) hl) (fun ls' hh' => k t ht H locs ls' hS hh')
theorem aw_lstore (C : amC E d cc nL own) {i : Nat} {x : Int64} (lv' : List (Nat × Value)) (hd : decode cc pc = .ok (.lstore i, 2)) (hn : i + 1 < nL) (hl : (i, Value.long x) :: lv.filter (fun q => !(q.1 == i) && (!(q.1 == i + 1) && !(q.1 + 1 == i && q.2.category == 2))) = lv') (k : AW E lay nL Qc F (pc + 2) lv' st M) : AW E lay nL Qc F pc lv (.long x :: st) M := fun t ht H locs ls hS hh => lv_lstore C.1 C.2.1 hd hh hn (am_st2 (v := .long x) hl) (fun ls' hh' => k t ht H locs ls' hS hh')
theorem aw_iinc (C : amC E d cc nL own) {i : Nat} {n : Int} {x v : Int32} (lv' : List (Nat × Value)) (hd : decode cc pc = .ok (.iinc i n, 3)) (h : lv.find? (fun q => q.1 == i) = some (i, .int x)) (hn : i < nL) (hv : Int32.ofInt n = v) (hl : (i, Value.int (x + v)) :: lv.filter (fun q => !(q.1 == i) && !(q.1 + 1 == i && q.2.category == 2)) = lv') (k : AW E lay nL Qc F (pc + 3) lv' st M) : AW E lay nL Qc F pc lv st M := by
  intro t ht H locs ls hS hh
  obtain ⟨j, hj⟩ : ∃ j, (lv.map (fun q => (q.1, cv (eX E) q.2)))[j]? = some (i, Value.int x) := by
    have hm := List.mem_of_find?_eq_some h
    obtain ⟨j, hj, e⟩ := List.mem_iff_getElem.mp (List.mem_map.mpr ⟨(i, Value.int x), hm, rfl⟩ : (i, cv (eX E) (.int x)) ∈ lv.map (fun q => (q.1, cv (eX E) q.2)))
    exact ⟨j, by rw [List.getElem?_eq_getElem hj, e]; rfl⟩
  exact lv_iinc C.1 C.2.1 hd hh hj (by rw [hv]) hn (am_st1 (v := .int (x + v)) hl) (fun ls' hh' => k t ht H locs ls' hS hh')
end AR
end
section
section AR
variable {E : amE} {lay : List lyE} {d nL : Nat} {cc : ByteArray} {own : String} {ρ : Type} {Qc : amQ ρ} {F F1 F2 : Option ρ} {pc : Nat} {lv : List (Nat × Value)} {st : List Value} {M : Mem}
theorem aw_iadd (C : amC E d cc nL own) {x y : Int32} (dg : decode cc pc = .ok (.iadd, 1)) (k : AW E lay nL Qc F (pc + 1) lv (.int (x + y) :: st) M) : AW E lay nL Qc F pc lv (.int y :: .int x :: st) M := fun t ht H locs ls hS hh => lv_iadd C.1 C.2.1 dg (k t ht H locs ls hS hh)
theorem aw_isub (C : amC E d cc nL own) {x y : Int32} (dg : decode cc pc = .ok (.isub, 1)) (k : AW E lay nL Qc F (pc + 1) lv (.int (x - y) :: st) M) : AW E lay nL Qc F pc lv (.int y :: .int x :: st) M := fun t ht H locs ls hS hh => lv_isub C.1 C.2.1 dg (k t ht H locs ls hS hh)
theorem aw_imul (C : amC E d cc nL own) {x y : Int32} (dg : decode cc pc = .ok (.imul, 1)) (k : AW E lay nL Qc F (pc + 1) lv (.int (x * y) :: st) M) : AW E lay nL Qc F pc lv (.int y :: .int x :: st) M := fun t ht H locs ls hS hh => lv_imul C.1 C.2.1 dg (k t ht H locs ls hS hh)
theorem aw_iand (C : amC E d cc nL own) {x y : Int32} (dg : decode cc pc = .ok (.iand, 1)) (k : AW E lay nL Qc F (pc + 1) lv (.int (x &&& y) :: st) M) : AW E lay nL Qc F pc lv (.int y :: .int x :: st) M := fun t ht H locs ls hS hh => lv_iand C.1 C.2.1 dg (k t ht H locs ls hS hh)
theorem aw_ior (C : amC E d cc nL own) {x y : Int32} (dg : decode cc pc = .ok (.ior, 1)) (k : AW E lay nL Qc F (pc + 1) lv (.int (x ||| y) :: st) M) : AW E lay nL Qc F pc lv (.int y :: .int x :: st) M := fun t ht H locs ls hS hh => lv_ior C.1 C.2.1 dg (k t ht H locs ls hS hh)
theorem aw_ixor (C : amC E d cc nL own) {x y : Int32} (dg : decode cc pc = .ok (.ixor, 1)) (k : AW E lay nL Qc F (pc + 1) lv (.int (x ^^^ y) :: st) M) : AW E lay nL Qc F pc lv (.int y :: .int x :: st) M := fun t ht H locs ls hS hh => lv_ixor C.1 C.2.1 dg (k t ht H locs ls hS hh)
theorem aw_ishl (C : amC E d cc nL own) {x y : Int32} (dg : decode cc pc = .ok (.ishl, 1)) (k : AW E lay nL Qc F (pc + 1) lv (.int (x <<< (y &&& 31)) :: st) M) : AW E lay nL Qc F pc lv (.int y :: .int x :: st) M := fun t ht H locs ls hS hh => lv_ishl C.1 C.2.1 dg (k t ht H locs ls hS hh)
theorem aw_ishr (C : amC E d cc nL own) {x y : Int32} (dg : decode cc pc = .ok (.ishr, 1)) (k : AW E lay nL Qc F (pc + 1) lv (.int (x >>> (y &&& 31)) :: st) M) : AW E lay nL Qc F pc lv (.int y :: .int x :: st) M := fun t ht H locs ls hS hh => lv_ishr C.1 C.2.1 dg (k t ht H locs ls hS hh)
theorem aw_ladd (C : amC E d cc nL own) {x y : Int64} (dg : decode cc pc = .ok (.ladd, 1)) (k : AW E lay nL Qc F (pc + 1) lv (.long (x + y) :: st) M) : AW E lay nL Qc F pc lv (.long y :: .long x :: st) M := fun t ht H locs ls hS hh => lv_ladd C.1 C.2.1 dg (k t ht H locs ls hS hh)
theorem aw_lsub (C : amC E d cc nL own) {x y : Int64} (dg : decode cc pc = .ok (.lsub, 1)) (k : AW E lay nL Qc F (pc + 1) lv (.long (x - y) :: st) M) : AW E lay nL Qc F pc lv (.long y :: .long x :: st) M := fun t ht H locs ls hS hh => lv_lsub C.1 C.2.1 dg (k t ht H locs ls hS hh)
theorem aw_lmul (C : amC E d cc nL own) {x y : Int64} (dg : decode cc pc = .ok (.lmul, 1)) (k : AW E lay nL Qc F (pc + 1) lv (.long (x * y) :: st) M) : AW E lay nL Qc F pc lv (.long y :: .long x :: st) M := fun t ht H locs ls hS hh => lv_lmul C.1 C.2.1 dg (k t ht H locs ls hS hh)
theorem aw_idiv (C : amC E d cc nL own) {x y : Int32} (dg : decode cc pc = .ok (.idiv, 1)) (k : AW E lay nL Qc F (pc + 1) lv (.int (x / y) :: st) M) : AW E lay nL Qc (if y = 0 then none else F) pc lv (.int y :: .int x :: st) M := by
  refine aw_ite (fun _ => aw_none) (fun hy => ?_)
  exact fun t ht H locs ls hS hh => lv_idiv C.1 C.2.1 dg hy (k t ht H locs ls hS hh)
theorem aw_irem (C : amC E d cc nL own) {x y : Int32} (dg : decode cc pc = .ok (.irem, 1)) (k : AW E lay nL Qc F (pc + 1) lv (.int (x - x / y * y) :: st) M) : AW E lay nL Qc (if y = 0 then none else F) pc lv (.int y :: .int x :: st) M := by
  refine aw_ite (fun _ => aw_none) (fun hy => ?_)
  exact fun t ht H locs ls hS hh => lv_irem C.1 C.2.1 dg hy (k t ht H locs ls hS hh)
theorem aw_ldiv (C : amC E d cc nL own) {x y : Int64} (dg : decode cc pc = .ok (.ldiv, 1)) (k : AW E lay nL Qc F (pc + 1) lv (.long (x / y) :: st) M) : AW E lay nL Qc (if y = 0 then none else F) pc lv (.long y :: .long x :: st) M := by
  refine aw_ite (fun _ => aw_none) (fun hy => ?_)
  exact fun t ht H locs ls hS hh => lv_ldiv C.1 C.2.1 dg hy (k t ht H locs ls hS hh)
theorem aw_lrem (C : amC E d cc nL own) {x y : Int64} (dg : decode cc pc = .ok (.lrem, 1)) (k : AW E lay nL Qc F (pc + 1) lv (.long (x - x / y * y) :: st) M) : AW E lay nL Qc (if y = 0 then none else F) pc lv (.long y :: .long x :: st) M := by
  refine aw_ite (fun _ => aw_none) (fun hy => ?_)
  exact fun t ht H locs ls hS hh => lv_lrem C.1 C.2.1 dg hy (k t ht H locs ls hS hh)
theorem aw_ineg (C : amC E d cc nL own) {x : Int32} (dg : decode cc pc = .ok (.ineg, 1)) (k : AW E lay nL Qc F (pc + 1) lv (.int (-x) :: st) M) : AW E lay nL Qc F pc lv (.int x :: st) M := fun t ht H locs ls hS hh => lv_ineg C.1 C.2.1 dg (k t ht H locs ls hS hh)
theorem aw_i2l (C : amC E d cc nL own) {x : Int32} (dg : decode cc pc = .ok (.i2l, 1)) (k : AW E lay nL Qc F (pc + 1) lv (.long (x.toInt64) :: st) M) : AW E lay nL Qc F pc lv (.int x :: st) M := fun t ht H locs ls hS hh => lv_i2l C.1 C.2.1 dg rfl (k t ht H locs ls hS hh)
theorem aw_l2i (C : amC E d cc nL own) {x : Int64} (dg : decode cc pc = .ok (.l2i, 1)) (k : AW E lay nL Qc F (pc + 1) lv (.int (x.toInt32) :: st) M) : AW E lay nL Qc F pc lv (.long x :: st) M := fun t ht H locs ls hS hh => lv_l2i C.1 C.2.1 dg rfl (k t ht H locs ls hS hh)
theorem aw_i2b (C : amC E d cc nL own) {x : Int32} (dg : decode cc pc = .ok (.i2b, 1)) (k : AW E lay nL Qc F (pc + 1) lv (.int (x.toInt8.toInt32) :: st) M) : AW E lay nL Qc F pc lv (.int x :: st) M := fun t ht H locs ls hS hh => lv_i2b C.1 C.2.1 dg rfl (k t ht H locs ls hS hh)
theorem aw_i2s (C : amC E d cc nL own) {x : Int32} (dg : decode cc pc = .ok (.i2s, 1)) (k : AW E lay nL Qc F (pc + 1) lv (.int (x.toInt16.toInt32) :: st) M) : AW E lay nL Qc F pc lv (.int x :: st) M := fun t ht H locs ls hS hh => lv_i2s C.1 C.2.1 dg rfl (k t ht H locs ls hS hh)
theorem aw_i2c (C : amC E d cc nL own) {x : Int32} (dg : decode cc pc = .ok (.i2c, 1)) (k : AW E lay nL Qc F (pc + 1) lv (.int ((x.toUInt32 % 65536).toInt32) :: st) M) : AW E lay nL Qc F pc lv (.int x :: st) M := fun t ht H locs ls hS hh => lv_i2c C.1 C.2.1 dg rfl (k t ht H locs ls hS hh)
theorem aw_iushr (C : amC E d cc nL own) {x y : Int32} (dg : decode cc pc = .ok (.iushr, 1)) (k : AW E lay nL Qc F (pc + 1) lv (.int ((x.toUInt32 >>> (y.toUInt32 &&& Int32.toUInt32 31)).toInt32) :: st) M) : AW E lay nL Qc F pc lv (.int y :: .int x :: st) M := fun t ht H locs ls hS hh => lv_iushr C.1 C.2.1 dg rfl (k t ht H locs ls hS hh)
theorem aw_lcmp (C : amC E d cc nL own) {x y : Int64} (dg : decode cc pc = .ok (.lcmp, 1)) (k : AW E lay nL Qc F (pc + 1) lv (.int (lg_cmp x y) :: st) M) : AW E lay nL Qc F pc lv (.long y :: .long x :: st) M := fun t ht H locs ls hS hh => W.lcmp C.1 C.2.1 dg (k t ht H locs ls hS hh)
theorem aw_dup (C : amC E d cc nL own) {v : Value} (dg : decode cc pc = .ok (.dup, 1)) (hv : v.category = 1) (k : AW E lay nL Qc F (pc + 1) lv (v :: v :: st) M) : AW E lay nL Qc F pc lv (v :: st) M := fun t ht H locs ls hS hh => lv_dup C.1 C.2.1 dg ((cv_cat _ _).trans hv) (k t ht H locs ls hS hh)
theorem aw_pop (C : amC E d cc nL own) {v : Value} (dg : decode cc pc = .ok (.pop, 1)) (hv : v.category = 1) (k : AW E lay nL Qc F (pc + 1) lv st M) : AW E lay nL Qc F pc lv (v :: st) M := fun t ht H locs ls hS hh => lv_pop C.1 C.2.1 dg ((cv_cat _ _).trans hv) (k t ht H locs ls hS hh)
theorem aw_dup2 (C : amC E d cc nL own) {v w : Value} (dg : decode cc pc = .ok (.dup2, 1)) (hv : v.category = 1) (hw : w.category = 1) (k : AW E lay nL Qc F (pc + 1) lv (v :: w :: v :: w :: st) M) : AW E lay nL Qc F pc lv (v :: w :: st) M := fun t ht H locs ls hS hh => lv_dup2_11 C.1 C.2.1 dg ((cv_cat _ _).trans hv) ((cv_cat _ _).trans hw) (k t ht H locs ls hS hh)
end AR
end
section
theorem am_nlt {x y : Int32} (h : y ≤ x) : ¬ x < y := by rw [Int32.lt_iff_toInt_lt]; rw [Int32.le_iff_toInt_le] at h; omega
theorem am_lt {x y : Int32} (h : ¬ y ≤ x) : x < y := by rw [Int32.lt_iff_toInt_lt]; rw [Int32.le_iff_toInt_le] at h; omega
section AR
variable {E : amE} {lay : List lyE} {d nL : Nat} {cc : ByteArray} {own : String} {ρ : Type} {Qc : amQ ρ} {F F1 F2 : Option ρ} {pc : Nat} {lv : List (Nat × Value)} {st : List Value} {M : Mem}
theorem aw_if_eq (C : amC E d cc nL own) {x : Int32} {off : Int} {tgt : Nat} (dg : decode cc pc = .ok (.ifCond .eq off, 3)) (htg : (pc : Int) + off = (tgt : Int)) (k1 : AW E lay nL Qc F1 tgt lv st M) (k2 : AW E lay nL Qc F2 (pc + 3) lv st M) : AW E lay nL Qc (if x = 0 then F1 else F2) pc lv (.int x :: st) M := by
  intro t ht H locs ls hS hh
  exact lv_if_eq C.1 C.2.1 dg htg (fun h => k1 t (by rw [if_pos h] at ht; exact ht) H locs ls hS hh) (fun h => k2 t (by rw [if_neg h] at ht; exact ht) H locs ls hS hh)
theorem aw_if_ne (C : amC E d cc nL own) {x : Int32} {off : Int} {tgt : Nat} (dg : decode cc pc = .ok (.ifCond .ne off, 3)) (htg : (pc : Int) + off = (tgt : Int)) (k1 : AW E lay nL Qc F1 (pc + 3) lv st M) (k2 : AW E lay nL Qc F2 tgt lv st M) : AW E lay nL Qc (if x = 0 then F1 else F2) pc lv (.int x :: st) M := by
  intro t ht H locs ls hS hh
  exact lv_if_ne C.1 C.2.1 dg htg (fun h => k2 t (by rw [if_neg h] at ht; exact ht) H locs ls hS hh) (fun h => k1 t (by rw [if_pos h] at ht; exact ht) H locs ls hS hh)
theorem aw_if_lt (C : amC E d cc nL own) {x : Int32} {off : Int} {tgt : Nat} (dg : decode cc pc = .ok (.ifCond .lt off, 3)) (htg : (pc : Int) + off = (tgt : Int)) (k1 : AW E lay nL Qc F1 tgt lv st M) (k2 : AW E lay nL Qc F2 (pc + 3) lv st M) : AW E lay nL Qc (if x < 0 then F1 else F2) pc lv (.int x :: st) M := by
  intro t ht H locs ls hS hh
  exact lv_if_lt C.1 C.2.1 dg htg (fun h => k1 t (by rw [if_pos h] at ht; exact ht) H locs ls hS hh) (fun h => k2 t (by rw [if_neg h] at ht; exact ht) H locs ls hS hh)
theorem aw_if_ge (C : amC E d cc nL own) {x : Int32} {off : Int} {tgt : Nat} (dg : decode cc pc = .ok (.ifCond .ge off, 3)) (htg : (pc : Int) + off = (tgt : Int)) (k1 : AW E lay nL Qc F1 (pc + 3) lv st M) (k2 : AW E lay nL Qc F2 tgt lv st M) : AW E lay nL Qc (if x < 0 then F1 else F2) pc lv (.int x :: st) M := by
  intro t ht H locs ls hS hh
  exact lv_if_ge C.1 C.2.1 dg htg (fun h => k2 t (by rw [if_neg (am_nlt h)] at ht; exact ht) H locs ls hS hh) (fun h => k1 t (by rw [if_pos (am_lt h)] at ht; exact ht) H locs ls hS hh)
theorem aw_if_gt (C : amC E d cc nL own) {x : Int32} {off : Int} {tgt : Nat} (dg : decode cc pc = .ok (.ifCond .gt off, 3)) (htg : (pc : Int) + off = (tgt : Int)) (k1 : AW E lay nL Qc F1 tgt lv st M) (k2 : AW E lay nL Qc F2 (pc + 3) lv st M) : AW E lay nL Qc (if 0 < x then F1 else F2) pc lv (.int x :: st) M := by
  intro t ht H locs ls hS hh
  exact lv_if_gt C.1 C.2.1 dg htg (fun h => k1 t (by rw [if_pos h] at ht; exact ht) H locs ls hS hh) (fun h => k2 t (by rw [if_neg h] at ht; exact ht) H locs ls hS hh)
theorem aw_if_le (C : amC E d cc nL own) {x : Int32} {off : Int} {tgt : Nat} (dg : decode cc pc = .ok (.ifCond .le off, 3)) (htg : (pc : Int) + off = (tgt : Int)) (k1 : AW E lay nL Qc F1 (pc + 3) lv st M) (k2 : AW E lay nL Qc F2 tgt lv st M) : AW E lay nL Qc (if 0 < x then F1 else F2) pc lv (.int x :: st) M := by
  intro t ht H locs ls hS hh
  exact lv_if_le C.1 C.2.1 dg htg (fun h => k2 t (by rw [if_neg (am_nlt h)] at ht; exact ht) H locs ls hS hh) (fun h => k1 t (by rw [if_pos (am_lt h)] at ht; exact ht) H locs ls hS hh)
theorem aw_icmp_eq (C : amC E d cc nL own) {x y : Int32} {off : Int} {tgt : Nat} (dg : decode cc pc = .ok (.if_icmp .eq off, 3)) (htg : (pc : Int) + off = (tgt : Int)) (k1 : AW E lay nL Qc F1 tgt lv st M) (k2 : AW E lay nL Qc F2 (pc + 3) lv st M) : AW E lay nL Qc (if x = y then F1 else F2) pc lv (.int y :: .int x :: st) M := by
  intro t ht H locs ls hS hh
  exact lv_icmp_eq C.1 C.2.1 dg htg (fun h => k1 t (by rw [if_pos h] at ht; exact ht) H locs ls hS hh) (fun h => k2 t (by rw [if_neg h] at ht; exact ht) H locs ls hS hh)
theorem aw_icmp_ne (C : amC E d cc nL own) {x y : Int32} {off : Int} {tgt : Nat} (dg : decode cc pc = .ok (.if_icmp .ne off, 3)) (htg : (pc : Int) + off = (tgt : Int)) (k1 : AW E lay nL Qc F1 (pc + 3) lv st M) (k2 : AW E lay nL Qc F2 tgt lv st M) : AW E lay nL Qc (if x = y then F1 else F2) pc lv (.int y :: .int x :: st) M := by
  intro t ht H locs ls hS hh
  exact lv_icmp_ne C.1 C.2.1 dg htg (fun h => k2 t (by rw [if_neg h] at ht; exact ht) H locs ls hS hh) (fun h => k1 t (by rw [if_pos h] at ht; exact ht) H locs ls hS hh)
theorem aw_icmp_lt (C : amC E d cc nL own) {x y : Int32} {off : Int} {tgt : Nat} (dg : decode cc pc = .ok (.if_icmp .lt off, 3)) (htg : (pc : Int) + off = (tgt : Int)) (k1 : AW E lay nL Qc F1 tgt lv st M) (k2 : AW E lay nL Qc F2 (pc + 3) lv st M) : AW E lay nL Qc (if x < y then F1 else F2) pc lv (.int y :: .int x :: st) M := by
  intro t ht H locs ls hS hh
  exact lv_icmp_lt C.1 C.2.1 dg htg (fun h => k1 t (by rw [if_pos h] at ht; exact ht) H locs ls hS hh) (fun h => k2 t (by rw [if_neg h] at ht; exact ht) H locs ls hS hh)
theorem aw_icmp_ge (C : amC E d cc nL own) {x y : Int32} {off : Int} {tgt : Nat} (dg : decode cc pc = .ok (.if_icmp .ge off, 3)) (htg : (pc : Int) + off = (tgt : Int)) (k1 : AW E lay nL Qc F1 (pc + 3) lv st M) (k2 : AW E lay nL Qc F2 tgt lv st M) : AW E lay nL Qc (if x < y then F1 else F2) pc lv (.int y :: .int x :: st) M := by
  intro t ht H locs ls hS hh
  exact lv_icmp_ge C.1 C.2.1 dg htg (fun h => k2 t (by rw [if_neg (am_nlt h)] at ht; exact ht) H locs ls hS hh) (fun h => k1 t (by rw [if_pos (am_lt h)] at ht; exact ht) H locs ls hS hh)
theorem aw_icmp_gt (C : amC E d cc nL own) {x y : Int32} {off : Int} {tgt : Nat} (dg : decode cc pc = .ok (.if_icmp .gt off, 3)) (htg : (pc : Int) + off = (tgt : Int)) (k1 : AW E lay nL Qc F1 tgt lv st M) (k2 : AW E lay nL Qc F2 (pc + 3) lv st M) : AW E lay nL Qc (if y < x then F1 else F2) pc lv (.int y :: .int x :: st) M := by
  intro t ht H locs ls hS hh
  exact lv_icmp_gt C.1 C.2.1 dg htg (fun h => k1 t (by rw [if_pos h] at ht; exact ht) H locs ls hS hh) (fun h => k2 t (by rw [if_neg h] at ht; exact ht) H locs ls hS hh)
theorem aw_icmp_le (C : amC E d cc nL own) {x y : Int32} {off : Int} {tgt : Nat} (dg : decode cc pc = .ok (.if_icmp .le off, 3)) (htg : (pc : Int) + off = (tgt : Int)) (k1 : AW E lay nL Qc F1 (pc + 3) lv st M) (k2 : AW E lay nL Qc F2 tgt lv st M) : AW E lay nL Qc (if y < x then F1 else F2) pc lv (.int y :: .int x :: st) M := by
  intro t ht H locs ls hS hh
  exact lv_icmp_le C.1 C.2.1 dg htg (fun h => k2 t (by rw [if_neg (am_nlt h)] at ht; exact ht) H locs ls hS hh) (fun h => k1 t (by rw [if_pos (am_lt h)] at ht; exact ht) H locs ls hS hh)
theorem aw_goto (C : amC E d cc nL own) {off : Int} {tgt : Nat} (dg : decode cc pc = .ok (.goto off, 3)) (htg : (pc : Int) + off = (tgt : Int)) (k : AW E lay nL Qc F tgt lv st M) : AW E lay nL Qc F pc lv st M := fun t ht H locs ls hS hh => lv_goto C.1 C.2.1 dg htg (k t ht H locs ls hS hh)
theorem aw_tswIn (C : amC E d cc nL own) {dflt lo hi off : Int} {offs : Array Int} {len tgt : Nat} {x : Int32} (z : Int32) (hx : x = z) (dg : decode cc pc = .ok (.tableswitch dflt lo hi offs, len)) (h1 : ¬ z.toInt < lo) (h2 : ¬ hi < z.toInt) (ho : offs[(z.toInt - lo).toNat]? = some off) (htg : (pc : Int) + off = (tgt : Int)) (k : AW E lay nL Qc F tgt lv st M) : AW E lay nL Qc F pc lv (.int x :: st) M := fun t ht H locs ls hS hh => lv_tableIn C.1 C.2.1 dg (by rw [hx]; exact h1) (by rw [hx]; exact h2) (by rw [hx]; exact ho) htg (k t ht H locs ls hS hh)
theorem aw_tswOut (C : amC E d cc nL own) {dflt lo hi : Int} {offs : Array Int} {len tgt : Nat} {x : Int32} (dg : decode cc pc = .ok (.tableswitch dflt lo hi offs, len)) (h : x.toInt < lo ∨ hi < x.toInt) (htg : (pc : Int) + dflt = (tgt : Int)) (k : AW E lay nL Qc F tgt lv st M) : AW E lay nL Qc F pc lv (.int x :: st) M := fun t ht H locs ls hS hh => lv_tableOut C.1 C.2.1 dg h htg (k t ht H locs ls hS hh)
theorem aw_lsw (C : amC E d cc nL own) {dflt off : Int} {ps : Array (Int × Int)} {len tgt : Nat} {x : Int32} (dg : decode cc pc = .ok (.lookupswitch dflt ps, len)) (hp : (ps.toList.zip (ps.toList.drop 1)).all (fun (a, next) => a.1 < next.1) = true) (ho : Op.lookupswitch.offset ps.toList dflt x.toInt = off) (htg : (pc : Int) + off = (tgt : Int)) (k : AW E lay nL Qc F tgt lv st M) : AW E lay nL Qc F pc lv (.int x :: st) M := fun t ht H locs ls hS hh => lv_lookup C.1 C.2.1 dg hp ho htg (k t ht H locs ls hS hh)
/-! fields -/
def amCls (ci : Nat) (Cn : String) (T : u_T) (N : Nat) (ty : Nat → FieldType) : Prop := vwCl[ci]? = some (Cn, T, N) ∧ (∀ w ∈ u_ws Cn T N, w ∈ lw_t) ∧ (∀ k, k < N → parseFieldDescriptor (T k).2.2.1 = some (ty k)) ∧ ∀ a, a < N → ∀ b, b < N → a ≠ b → (T a).2.1 ≠ (T b).2.1
theorem aw_getI (C : amC E d cc nL own) {ci N idx q : Nat} {Cn : String} {T : u_T} {ty : Nat → FieldType} {fs : List (Option Nat)} (cl : amCls ci Cn T N ty) (hq : lay[q]? = some (.inl (ci, fs))) (j : Nat) (hk : fs[j]? = some none) (hN : j < N) (hl : Cond.fieldLink own idx (T j).1 (T j).2.1 (T j).2.2.1 ∈ lw_t) (dg : decode cc pc = .ok (.getfield idx, 3)) (k : AW E lay nL Qc F (pc + 3) lv (.int (M q j) :: st) M) : AW E lay nL Qc F pc lv (.ref q :: st) M := by
  intro t ht H locs ls hS hh
  refine va_get C.1 C.2.1 C.2.2.2.2.1 cl.2.1 C.2.2.2.1 C.2.2.2.2.2.2.1 hS.1 q (ly_w_at hq) cl.1 j hN (C.2.2.2.2.1 _ hl) (fun _ h9 => h9) (v := .int (M q j)) ?_ dg (k t ht H locs ls hS hh)
  show (ly_fv (eX E) (M q) 0 fs)[j]? = _
  rw [ly_fv_get, hk]
  simp [ly_v]
theorem aw_getR (C : amC E d cc nL own) {ci N idx q r : Nat} {Cn : String} {T : u_T} {ty : Nat → FieldType} {fs : List (Option Nat)} (cl : amCls ci Cn T N ty) (hq : lay[q]? = some (.inl (ci, fs))) (j : Nat) (hk : fs[j]? = some (some r)) (hN : j < N) (hl : Cond.fieldLink own idx (T j).1 (T j).2.1 (T j).2.2.1 ∈ lw_t) (dg : decode cc pc = .ok (.getfield idx, 3)) (k : AW E lay nL Qc F (pc + 3) lv (.ref r :: st) M) : AW E lay nL Qc F pc lv (.ref q :: st) M := by
  intro t ht H locs ls hS hh
  refine va_get C.1 C.2.1 C.2.2.2.2.1 cl.2.1 C.2.2.2.1 C.2.2.2.2.2.2.1 hS.1 q (ly_w_at hq) cl.1 j hN (C.2.2.2.2.1 _ hl) (fun _ h9 => h9) (v := .ref (eX E r)) ?_ dg (k t ht H locs ls hS hh)
  show (ly_fv (eX E) (M q) 0 fs)[j]? = _
  rw [ly_fv_get, hk]
  rfl
theorem aw_putI (C : amC E d cc nL own) {ci N idx q : Nat} {Cn : String} {T : u_T} {ty : Nat → FieldType} {fs : List (Option Nat)} {v : Int32} (cl : amCls ci Cn T N ty) (hq : lay[q]? = some (.inl (ci, fs))) (j : Nat) (hk : fs[j]? = some none) (hN : j < N) (hty : ty j = .int) (hf : (T j).2.2.2 = false) (hl : Cond.fieldLink own idx (T j).1 (T j).2.1 (T j).2.2.1 ∈ lw_t) (dg : decode cc pc = .ok (.putfield idx, 3)) (k : AW E lay nL Qc F (pc + 3) lv st (mset M q (upd (M q) j v))) : AW E lay nL Qc F pc lv (.int v :: .ref q :: st) M := by
  intro t ht H locs ls hS hh
  have hd : parseFieldDescriptor (T j).2.2.1 = some .int := by rw [cl.2.2.1 j hN, hty]
  refine va_put C.1 C.2.1 C.2.2.2.2.1 cl.2.1 ty cl.2.2.1 cl.2.2.2 C.2.2.2.1 C.2.2.2.2.2.2.1 hS.1 hS.2.1 hS.2.2 q (ly_w_at hq) cl.1 j hN (C.2.2.2.2.1 _ hl) (fun _ h9 => h9) hf (v := .int v) hd rfl rfl ?_ dg (fun H1 locs1 hP hD hS1 => ?_)
  · show j < (ly_fv (eX E) (M q) 0 fs).length
    rw [ly_fv_len]
    exact (List.getElem?_eq_some_iff.mp hk).1
  · have e1 : (ly_w (eK E) (eX E) M lay).set q (eX E q, .inr (ci, (ly_fv (eX E) (M q) 0 fs).set j (.int v))) = ly_w (eK E) (eX E) (mset M q (upd (M q) j v)) lay := by
      rw [← ly_w_set hq]
      simp only [ly_c, mset_self]
      rw [ly_fv_set _ _ _ _ _ hk]
    rw [e1] at hP hD
    exact k t ht H1 locs1 ls ⟨hP, hD, hS1⟩ hh
/-! rows -/
theorem am_in_or {i : Int32} {n : Nat} (h : ¬ am_in i n = true) : i < 0 ∨ n ≤ i.toNatClampNeg := by
  unfold am_in at h
  simp only [Bool.and_eq_true, Bool.not_eq_true', decide_eq_false_iff_not, decide_eq_true_eq] at h
  by_cases q : i < 0
  · exact Or.inl q
  · exact Or.inr (Nat.le_of_not_lt (fun q2 => h ⟨q, q2⟩))
theorem aw_iald (C : amC E d cc nL own) {q n : Nat} {i : Int32} (hq : lay[q]? = some (.inr (.inl n))) (dg : decode cc pc = .ok (.iaload, 1)) (k : AW E lay nL Qc F (pc + 1) lv (.int (M q i.toNatClampNeg) :: st) M) : AW E lay nL Qc (if am_in i n = true then F else none) pc lv (.int i :: .ref q :: st) M := by
  refine aw_ite (fun hi => ?_) (fun _ => aw_none)
  exact fun t ht H locs ls hS hh => va_iald C.1 C.2.1 C.2.2.2.2.2.2.1 hS.1 q 0 (ly_w_at hq) rfl (am_in_vp hi) dg (k t ht H locs ls hS hh)
theorem aw_iast (C : amC E d cc nL own) {q n : Nat} {i v : Int32} (hq : lay[q]? = some (.inr (.inl n))) (dg : decode cc pc = .ok (.iastore, 1)) (k : AW E lay nL Qc F (pc + 1) lv st (mset M q (upd (M q) i.toNatClampNeg v))) : AW E lay nL Qc (if am_in i n = true then F else none) pc lv (.int v :: .int i :: .ref q :: st) M := by
  refine aw_ite (fun hi => ?_) (fun _ => aw_none)
  intro t ht H locs ls hS hh
  refine va_iast C.1 C.2.1 C.2.2.2.2.2.2.1 hS.1 hS.2.1 hS.2.2 q 0 (ly_w_at hq) rfl (am_in_vp hi) dg (fun H1 locs1 hP hD hS1 => ?_)
  have e1 : (ly_w (eK E) (eX E) M lay).set q (eX E q, .inl ((eK E).1, n, .inl (upd (M q) i.toNatClampNeg v))) = ly_w (eK E) (eX E) (mset M q (upd (M q) i.toNatClampNeg v)) lay := by
    rw [← ly_w_set hq]
    simp only [ly_c, mset_self]
  rw [e1] at hP hD
  exact k t ht H1 locs1 ls ⟨hP, hD, hS1⟩ hh
theorem aw_zald (C : amC E d cc nL own) {q n : Nat} {i : Int32} (hq : lay[q]? = some (.inr (.inr (.inl n)))) (dg : decode cc pc = .ok (.baload, 1)) (k : AW E lay nL Qc F (pc + 1) lv (.int (M q i.toNatClampNeg) :: st) M) : AW E lay nL Qc (if am_in i n = true then F else none) pc lv (.int i :: .ref q :: st) M := by
  refine aw_ite (fun hi => ?_) (fun _ => aw_none)
  exact fun t ht H locs ls hS hh => va_zald C.1 C.2.1 C.2.2.2.2.2.2.1 hS.1 q 1 (ly_w_at hq) rfl (am_in_vp hi) dg (k t ht H locs ls hS hh)
theorem aw_zast (C : amC E d cc nL own) {q n : Nat} {i v : Int32} (hq : lay[q]? = some (.inr (.inr (.inl n)))) (hv : vp_nar .boolean v = v) (dg : decode cc pc = .ok (.bastore, 1)) (k : AW E lay nL Qc F (pc + 1) lv st (mset M q (upd (M q) i.toNatClampNeg v))) : AW E lay nL Qc (if am_in i n = true then F else none) pc lv (.int v :: .int i :: .ref q :: st) M := by
  refine aw_ite (fun hi => ?_) (fun _ => aw_none)
  intro t ht H locs ls hS hh
  refine va_zast C.1 C.2.1 C.2.2.2.2.2.2.1 hS.1 hS.2.1 hS.2.2 q 1 (ly_w_at hq) rfl (am_in_vp hi) dg (fun H1 locs1 hP hD hS1 => ?_)
  have e1 : (ly_w (eK E) (eX E) M lay).set q (eX E q, .inl ((eK E).2.1, n, .inl (upd (M q) i.toNatClampNeg (vp_nar .boolean v)))) = ly_w (eK E) (eX E) (mset M q (upd (M q) i.toNatClampNeg v)) lay := by
    rw [← ly_w_set hq, hv]
    simp only [ly_c, mset_self]
  rw [e1] at hP hD
  exact k t ht H1 locs1 ls ⟨hP, hD, hS1⟩ hh
theorem aw_alen (C : amC E d cc nL own) {q n : Nat} (v : Int32) (hq : lay[q]? = some (.inr (.inl n))) (hv : Int32.ofNat n = v) (dg : decode cc pc = .ok (.arraylength, 1)) (k : AW E lay nL Qc F (pc + 1) lv (.int v :: st) M) : AW E lay nL Qc F pc lv (.ref q :: st) M := fun t ht H locs ls hS hh => va_alen C.1 C.2.1 C.2.2.2.2.2.2.1 hS.1 q 0 (ly_w_at hq) rfl hv dg (k t ht H locs ls hS hh)
theorem aw_aald (C : amC E d cc nL own) {q b : Nat} {qs : List Nat} {i : Int32} (hq : lay[q]? = some (.inr (.inr (.inr qs)))) (n : Nat) (hn : qs.length = n) (hqs : ∀ j, j < n → qs[j]? = some (b + j)) (dg : decode cc pc = .ok (.aaload, 1)) (k : AW E lay nL Qc F (pc + 1) lv (.ref (b + i.toNatClampNeg) :: st) M) : AW E lay nL Qc (if am_in i n = true then F else none) pc lv (.int i :: .ref q :: st) M := by
  refine aw_ite (fun hi => ?_) (fun _ => aw_none)
  intro t ht H locs ls hS hh
  have hin := am_in_vp hi
  have hlt : i.toNatClampNeg < n := Nat.lt_of_not_le (fun h => hin (Or.inr h))
  have hc := hS.1 q _ (ly_w_at hq)
  have hk := (C.2.2.2.2.2.2.1.2 2 _ rfl).1 n (fun j => va_rf ((qs[j]?).map (eX E)))
  subst hn
  refine W.aald (v := .ref (eX E (b + i.toNatClampNeg))) (ty := .array .int) C.1 C.2.1 hc hk rfl (fun h => by cases h) ?_ ?_ rfl rfl dg (k t ht H locs ls hS hh)
  · show ¬ (i < 0 ∨ (arrV _ _ _).slots.size ≤ _)
    rw [arrV_size]
    exact hin
  · show (arrV _ _ _).slots[_]? = _
    rw [arrV_read _ _ hlt]
    show some (va_rf ((qs[i.toNatClampNeg]?).map (eX E))) = _
    rw [hqs _ hlt]
    rfl
end AR
end
section
/-! contracts over places -/
def amB (lay : List lyE) (D : va_G) (K : amK) (A : Nat → Prop) (ad : Nat → Nat) (M : Mem) (t : State) : Prop := va_P D vwCl (ly_w K ad M lay) t.heap ∧ va_K D vwCl (am_tys K) t ∧ va_D A (ly_w K ad M lay)
def qI (lay : List lyE) : amQ (Int32 × Mem) := fun D K A ad t => va_Qi (fun r M' => (r, M') = t) (amB lay D K A ad) A
def qL (lay : List lyE) : amQ (Int64 × Mem) := fun D K A ad t => va_Ql (fun r M' => (r, M') = t) (amB lay D K A ad) A
def qV (lay : List lyE) : amQ Mem := fun D K A ad t => va_Qv (fun M' => M' = t) (amB lay D K A ad) A
def qR (lay : List lyE) : amQ (Nat × Mem) := fun D K A ad t => va_Qr (fun u : Nat × Mem => u = t) (fun u a st => a = ad u.1 ∧ amB lay D K A ad u.2 st) A
def qIp (lay : List lyE) (M : Mem) : amQ Int32 := fun D K A ad r => qI lay D K A ad (r, M)
def qLp (lay : List lyE) (M : Mem) : amQ Int64 := fun D K A ad r => qL lay D K A ad (r, M)
def qRp (lay : List lyE) (M : Mem) : amQ Nat := fun D K A ad r => qR lay D K A ad (r, M)
def amPc (lay : List lyE) (D : va_G) (K : amK) (ad : Nat → Nat) (sz : Nat) (av : List Value) (M : Mem) : Array Value → State → Prop :=
  va_Pc (av.map (cv ad)) (fun U => U.heap.size = sz ∧ va_P D vwCl (ly_w K ad M lay) U.heap ∧ va_K D vwCl (am_tys K) U ∧ va_D (fun _ => True) (ly_w K ad M lay) ∧ am_St ad (va_A (ly_w K ad M lay) sz) U U.heap)
def AMet (d : Nat) (y : MethodName) (b : ByteArray) (n : Nat) (ret : Option FieldType) (lay : List lyE) (av : List Value) (M : Mem) {ρ : Type} (Qc : amQ ρ) (F : Option ρ) : Prop :=
  ∀ (l : Launch) (D : va_G) (K : amK) (ad : Nat → Nat) (sz : Nat) (t : ρ), F = some t → Met l y (wT y b n ret) (rmD d) (amPc lay D K ad sz av M) (Qc D K (va_A (ly_w K ad M lay) sz) ad t) 0 0 (va_A (ly_w K ad M lay) sz)
theorem amPc_blind {lay : List lyE} {D : va_G} {K : amK} {ad : Nat → Nat} {sz : Nat} {av : List Value} {M : Mem} : FrameBlind (amPc lay D K ad sz av M) := by
  intro a U g mk q
  obtain ⟨q0, q1, qP, qK, qD, qS⟩ := q
  exact ⟨q0, q1, qP, va_K.moved (u := U) (U := U.calling g mk a) (Vm.Alike.refl U.vm) qK, qD, am_St.same (u := U) (U := U.calling g mk a) qS rfl⟩
theorem am_sl (ad : Nat → Nat) : ∀ av : List Value, (lg_sl (av.map (cv ad))).length = (lg_sl av).length
  | [] => rfl
  | v :: r => by
    have ih := am_sl ad r
    simp only [lg_sl] at ih ⊢
    simp only [List.map_cons, List.flatMap_cons, List.length_append, cv_cat]
    rw [ih]
    by_cases h : v.category = 2
    · simp [h]
    · simp [h]
theorem am_args (ad : Nat → Nat) : ∀ (av : List Value) (i : Nat), lv_args i (av.map (cv ad)) = (lv_args i av).map (fun q => (q.1, cv ad q.2))
  | [], i => rfl
  | v :: r, i => by
    simp only [List.map_cons, lv_args, cv_cat]
    rw [am_args ad r]
theorem am_ent {d : Nat} {y : MethodName} {b : ByteArray} {n : Nat} {ret : Option FieldType} {lay : List lyE} {av : List Value} {M : Mem} {ρ : Type} {Qc : amQ ρ} {F : Option ρ} (hy : plainName y.cls = true) (hn : (lg_sl av).length ≤ n)
    (h : ∀ E : amE, amC E d b n y.cls → (eH E).sig.returnType = ret → AW E lay n Qc F 0 (lv_args 0 av) [] M) : AMet d y b n ret lay av M Qc F := by
  intro l D K ad sz t ht
  refine Met.ofW (cc := b) (maxL := n) (ret := ret) hy rfl ?_
  intro p e s m args below meth c s₁ B hml hv
  obtain ⟨rfl, hsz, hP, hK, hD0, hSt⟩ := hv
  have hts := atoms_spec (ws := wT y b n ret) B.pre
  have hown : s.vm.findClass y.cls = some m.cls := findClass_of_methodNamed B.named
  have hlocks := B.notSynchronized
  subst hsz
  have hD := hD0.self (sz := s.heap.size)
  have hS : va_S (va_A (ly_w K ad M lay) s.heap.size) s.heap s.heap [] := va_S.rf
  have hA : ∀ q : Nat, s.heap.size ≤ q → va_A (ly_w K ad M lay) s.heap.size q := fun q h => Or.inr h
  have hl := lv_entry (av.map (cv ad)) (n := n) (by rw [am_sl]; exact hn)
  rw [lg_entry_eq]
  generalize (lg_sl (av.map (cv ad)) ++ List.replicate (n - (lg_sl (av.map (cv ad))).length) Slot.unset).toArray = ls at hl ⊢
  rw [am_args] at hl
  exact h (p, l, e, (headSpec (wT y b n ret) (rmD d)).room, s, m, (av.map (cv ad)).toArray, below, meth, c, D, K, va_A (ly_w K ad M lay) s.heap.size, ad)
    ⟨B.exec, B.bytes, hml, hown, fun w hw => hts w (List.mem_cons_of_mem _ hw), hlocks, hK, hA, hSt, Nat.le_refl _, Nat.le_refl _⟩ B.returns t ht s.heap [] ls ⟨hP, hD, hS⟩ hl
section AR
variable {E : amE} {lay : List lyE} {d nL : Nat} {cc : ByteArray} {own : String} {ρ : Type} {Qc : amQ ρ} {F F1 F2 : Option ρ} {pc : Nat} {lv : List (Nat × Value)} {st : List Value} {M : Mem}
/-! the ends -/
theorem am_end (C : amC E d cc nL own) {H : Heap} {locs : List Loc} (hS : amS E lay M H locs) (t : State) (ht : t.heap = H) (hW : (eS E).WarmedH t.vm) : amB lay (eD E) (eK E) (eF E) (eX E) M t ∧ va_F (eF E) (eS E) t :=
  ⟨⟨by rw [ht]; exact hS.1, va_K.moved hW.alike C.2.2.2.2.2.2.1, hS.2.1⟩, hS.2.2.F ht⟩
theorem aw_iret (C : amC E d cc nL own) {v : Int32} (hr : (eH E).sig.returnType = some .int) (dg : decode cc pc = .ok (.ireturn, 1)) : AW E lay nL (qI lay) (some (v, M)) pc lv [.int v] M := by
  intro t ht H locs ls hS hh
  cases ht
  exact W.iret C.1 C.2.1 hr (fun t ht hW => ⟨⟨v, M, rfl, rfl, (am_end C hS t ht hW).1⟩, (am_end C hS t ht hW).2⟩) hS.2.2.2.2 dg C.2.2.2.2.2.1
theorem aw_iretp (C : amC E d cc nL own) {v : Int32} (hr : (eH E).sig.returnType = some .int) (dg : decode cc pc = .ok (.ireturn, 1)) : AW E lay nL (qIp lay M) (some v) pc lv [.int v] M := by
  intro t ht H locs ls hS hh
  cases ht
  exact W.iret C.1 C.2.1 hr (fun t ht hW => ⟨⟨v, M, rfl, rfl, (am_end C hS t ht hW).1⟩, (am_end C hS t ht hW).2⟩) hS.2.2.2.2 dg C.2.2.2.2.2.1
theorem aw_zret (C : amC E d cc nL own) {v : Int32} (hv : v = 0 ∨ v = 1) (hr : (eH E).sig.returnType = some .boolean) (dg : decode cc pc = .ok (.ireturn, 1)) : AW E lay nL (qI lay) (some (v, M)) pc lv [.int v] M := by
  intro t ht H locs ls hS hh
  cases ht
  exact W.zret C.1 C.2.1 hr (by rcases hv with rfl | rfl <;> rfl) (fun t ht hW => ⟨⟨v, M, rfl, rfl, (am_end C hS t ht hW).1⟩, (am_end C hS t ht hW).2⟩) hS.2.2.2.2 dg C.2.2.2.2.2.1
theorem aw_zretp (C : amC E d cc nL own) {v : Int32} (hv : v = 0 ∨ v = 1) (hr : (eH E).sig.returnType = some .boolean) (dg : decode cc pc = .ok (.ireturn, 1)) : AW E lay nL (qIp lay M) (some v) pc lv [.int v] M := by
  intro t ht H locs ls hS hh
  cases ht
  exact W.zret C.1 C.2.1 hr (by rcases hv with rfl | rfl <;> rfl) (fun t ht hW => ⟨⟨v, M, rfl, rfl, (am_end C hS t ht hW).1⟩, (am_end C hS t ht hW).2⟩) hS.2.2.2.2 dg C.2.2.2.2.2.1
theorem aw_zretg (C : amC E d cc nL own) {v : Int32} (hr : (eH E).sig.returnType = some .boolean) (dg : decode cc pc = .ok (.ireturn, 1)) : AW E lay nL (qI lay) (if v = 0 ∨ v = 1 then some (v, M) else none) pc lv [.int v] M := aw_ite (fun hv => aw_zret C hv hr dg) (fun _ => aw_none)
theorem aw_zretgp (C : amC E d cc nL own) {v : Int32} (hr : (eH E).sig.returnType = some .boolean) (dg : decode cc pc = .ok (.ireturn, 1)) : AW E lay nL (qIp lay M) (if v = 0 ∨ v = 1 then some v else none) pc lv [.int v] M := aw_ite (fun hv => aw_zretp C hv hr dg) (fun _ => aw_none)
theorem aw_lret (C : amC E d cc nL own) {v : Int64} (hr : (eH E).sig.returnType = some .long) (dg : decode cc pc = .ok (.lreturn, 1)) : AW E lay nL (qL lay) (some (v, M)) pc lv [.long v] M := by
  intro t ht H locs ls hS hh
  cases ht
  exact W.lret C.1 C.2.1 hr (fun t ht hW => ⟨⟨v, M, rfl, rfl, (am_end C hS t ht hW).1⟩, (am_end C hS t ht hW).2⟩) hS.2.2.2.2 dg C.2.2.2.2.2.1
theorem aw_lretp (C : amC E d cc nL own) {v : Int64} (hr : (eH E).sig.returnType = some .long) (dg : decode cc pc = .ok (.lreturn, 1)) : AW E lay nL (qLp lay M) (some v) pc lv [.long v] M := by
  intro t ht H locs ls hS hh
  cases ht
  exact W.lret C.1 C.2.1 hr (fun t ht hW => ⟨⟨v, M, rfl, rfl, (am_end C hS t ht hW).1⟩, (am_end C hS t ht hW).2⟩) hS.2.2.2.2 dg C.2.2.2.2.2.1
theorem aw_vret (C : amC E d cc nL own) (hr : (eH E).sig.returnType = none) (dg : decode cc pc = .ok (.return_, 1)) : AW E lay nL (qV lay) (some M) pc lv [] M := by
  intro t ht H locs ls hS hh
  cases ht
  exact W.vret C.1 C.2.1 hr (fun t ht hW => ⟨⟨M, rfl, rfl, (am_end C hS t ht hW).1⟩, (am_end C hS t ht hW).2⟩) hS.2.2.2.2 dg C.2.2.2.2.2.1
theorem aw_aret (C : amC E d cc nL own) {q : Nat} {rt : FieldType} (hr : (eH E).sig.returnType = some rt) (hrt : (∃ n, rt = .object n) ∨ ∃ t, rt = .array t) (dg : decode cc pc = .ok (.areturn, 1)) : AW E lay nL (qR lay) (some (q, M)) pc lv [.ref q] M := by
  intro t ht H locs ls hS hh
  cases ht
  exact W.aret C.1 C.2.1 hr hrt (Or.inr ⟨_, rfl⟩) (fun t ht hW => ⟨⟨(q, M), eX E q, rfl, rfl, rfl, (am_end C hS t ht hW).1⟩, (am_end C hS t ht hW).2⟩) hS.2.2.2.2 dg C.2.2.2.2.2.1
theorem aw_aretp (C : amC E d cc nL own) {q : Nat} {rt : FieldType} (hr : (eH E).sig.returnType = some rt) (hrt : (∃ n, rt = .object n) ∨ ∃ t, rt = .array t) (dg : decode cc pc = .ok (.areturn, 1)) : AW E lay nL (qRp lay M) (some q) pc lv [.ref q] M := by
  intro t ht H locs ls hS hh
  cases ht
  exact W.aret C.1 C.2.1 hr hrt (Or.inr ⟨_, rfl⟩) (fun t ht hW => ⟨⟨(q, M), eX E q, rfl, rfl, rfl, (am_end C hS t ht hW).1⟩, (am_end C hS t ht hW).2⟩) hS.2.2.2.2 dg C.2.2.2.2.2.1
end AR
end
section
/-! what the tables say of a callee, by its kind -/
def amV (y : MethodName) (b : ByteArray) (n : Nat) (ret : Option FieldType) (Cn : String) (np : Nat) : Prop := Cond.code y b n ret ∈ lw_t ∧ Cond.instanceMethod y ∈ lw_t ∧ Cond.selects Cn y y ∈ lw_t ∧ Cond.initialized Cn ∈ lw_t ∧ (y.cls = Cn ∧ y.cls ≠ "java/lang/invoke/MethodHandle" ∧ y.cls ≠ "java/lang/invoke/VarHandle" ∧ (parseMethodDescriptor y.desc).map (fun d => d.parameters.length) = some np) ∧ n ≤ 45
def amT (y : MethodName) (b : ByteArray) (n : Nat) (ret : Option FieldType) (np : Nat) : Prop := Cond.code y b n ret ∈ lw_t ∧ Cond.static y ∈ lw_t ∧ Cond.initialized y.cls ∈ lw_t ∧ (y.cls ≠ "java/lang/invoke/MethodHandle" ∧ y.cls ≠ "java/lang/invoke/VarHandle" ∧ (parseMethodDescriptor y.desc).map (fun d => d.parameters.length) = some np) ∧ n ≤ 45
theorem am_wsV {y : MethodName} {b : ByteArray} {n np idx : Nat} {ret : Option FieldType} {Cn own : String} (hy : amV y b n ret Cn np) (hl : Cond.methodLink own idx y ∈ lw_t) : GoodIn lw_t (wsV own idx Cn y (wT y b n ret)) := by
  intro w hw
  unfold wsV at hw
  rcases List.mem_append.mp hw with h | h
  · have hm : w ∈ lw_t := by
      simp only [List.mem_cons, List.not_mem_nil, or_false] at h
      rcases h with rfl | rfl | rfl | rfl
      · exact hl
      · exact hy.2.1
      · exact hy.2.2.1
      · exact hy.2.2.2.1
    exact ⟨hm, good_of_word (List.mem_filter.mp hm).2⟩
  · exact wT_good hy.1 w h
section AR
variable {E : amE} {lay : List lyE} {d nL : Nat} {cc : ByteArray} {own : String} {ρ : Type} {Qc : amQ ρ} {F F1 F2 : Option ρ} {pc : Nat} {lv : List (Nat × Value)} {st : List Value} {M : Mem}
theorem am_free (C : amC E d cc nL own) {H : Heap} {locs : List Loc} (hS : amS E lay M H locs) : ∀ q, va_A (ly_w (eK E) (eX E) M lay) H.size q → eF E q := by
  intro q h
  rcases h with ⟨k, e, hk⟩ | h
  · exact hS.2.1.2 k _ hk
  · exact C.2.2.2.2.2.2.2.1 q (Nat.le_trans hS.2.2.1 h)
theorem am_pre (C : amC E d cc nL own) {H : Heap} {locs : List Loc} (hS : amS E lay M H locs) (av : List Value) (U : State) (hU : U.heap = H) (hW : (eS E).WarmedH U.vm) : amPc lay (eD E) (eK E) (eX E) H.size av M (av.map (cv (eX E))).toArray U := by
  refine ⟨rfl, by rw [hU], by rw [hU]; exact hS.1, va_K.moved hW.alike C.2.2.2.2.2.2.1, hS.2.1.weaken (fun _ _ _ _ => trivial), ?_⟩
  rw [hU]
  exact C.2.2.2.2.2.2.2.2.1.go hW (fun a ha hn => hS.2.2.2.1 a ha hn) (am_free C hS)
theorem am_after (C : amC E d cc nL own) {H H1 : Heap} {locs locs1 : List Loc} {M' : Mem} {t : State} (hS : amS E lay M H locs) (ht : t.heap = H1) (hB : amB lay (eD E) (eK E) (va_A (ly_w (eK E) (eX E) M lay) H.size) (eX E) M' t) (hS1 : va_S (eF E) (eS E).heap H1 locs1) : amS E lay M' H1 locs1 := by
  obtain ⟨b1, -, b3⟩ := hB
  rw [ht] at b1
  exact ⟨b1, b3.weaken (fun _ _ _ h => am_free C hS _ h), hS1⟩
theorem am_catl (ad : Nat → Nat) : ∀ st : List Value, ((st.map (cv ad)).map fun v => v.category).sum = (st.map fun v => v.category).sum
  | [] => rfl
  | v :: r => by simp only [List.map_cons, List.sum_cons, cv_cat]; rw [am_catl ad r]
theorem am_runV (C : amC E d cc nL own) {y : MethodName} {b : ByteArray} {n np idx dc ci N q : Nat} {ret : Option FieldType} {Cn : String} {T : u_T} {fs : List (Option Nat)} {As rest : List Value} {σ : Type} {Qy : amQ σ} {G : Option σ} {u : σ} {H : Heap} {locs : List Loc} {ls : Array Slot}
    (hG : G = some u) (hS : amS E lay M H locs) (hh : lv_has ls nL (lv.map (fun q => (q.1, cv (eX E) q.2)))) (hM : AMet dc y b n ret lay (.ref q :: As) M Qy G) (hy : amV y b n ret Cn np) (hl : Cond.methodLink own idx y ∈ lw_t) (hdc : dc + 1 ≤ d) (hq : lay[q]? = some (.inl (ci, fs))) (hcl : vwCl[ci]? = some (Cn, T, N)) (hn : As.length = np) (hst : st = As.reverse ++ .ref q :: rest) (hr : (rest.map fun v => v.category).sum ≤ 8) (dg : decode cc pc = .ok (.invokevirtual idx, 3)) :
    va_Run (eP E) (eL E) (eE E) (eR E) (eS E) (eM E) (eA E) (eB E) (eH E) (eC E) H locs 0 0 0 0 (F0 (eM E) pc ls (st.map (cv (eX E)))) (rest.map (cv (eX E))) (Qy (eD E) (eK E) (va_A (ly_w (eK E) (eX E) M lay) H.size) (eX E) u (Value.ref (eX E q) :: As.map (cv (eX E))).toArray) (va_A (ly_w (eK E) (eX E) M lay) H.size) := by
  subst hst
  refine va_runV (As := As.map (cv (eX E))) (rest := rest.map (cv (eX E))) ⟨C.1, C.2.1, C.2.2.1, C.2.2.2.1, C.2.2.2.2.1⟩ (hM (eL E) (eD E) (eK E) (eX E) H.size u hG)
    (cwV np C.2.2.2.2.1 (am_wsV hy hl) rfl rfl rfl hy.2.2.2.2.1 ⟨?_, ?_⟩) ⟨amPc_blind, va_recv C.2.2.2.2.2.2.1 hS.1 hcl (ly_w_at hq), fun U hU hW => am_pre C hS _ U hU hW⟩ rfl (by rw [List.length_map]; exact hn) hh.1 ?_ (lv_room ?_) dg ⟨Nat.zero_le _, Nat.zero_le _⟩
  · show dc + 1 ≤ _
    exact Nat.le_trans hdc C.2.2.2.2.2.2.2.2.2.1
  · show 8 + (n + 11) + 64 * dc ≤ _
    refine Nat.le_trans ?_ C.2.2.2.2.2.2.2.2.2.2
    have := hy.2.2.2.2.2
    omega
  · show (As.reverse ++ .ref q :: rest).map (cv (eX E)) = _
    rw [List.map_append, List.map_reverse]
    rfl
  · rw [am_catl]; exact hr
theorem am_runS (C : amC E d cc nL own) {y : MethodName} {b : ByteArray} {n np idx dc : Nat} {ret : Option FieldType} {As rest : List Value} {σ : Type} {Qy : amQ σ} {G : Option σ} {u : σ} {H : Heap} {locs : List Loc} {ls : Array Slot}
    (hG : G = some u) (hS : amS E lay M H locs) (hh : lv_has ls nL (lv.map (fun q => (q.1, cv (eX E) q.2)))) (hM : AMet dc y b n ret lay As M Qy G) (hy : amT y b n ret np) (hl : Cond.methodLink own idx y ∈ lw_t) (hdc : dc + 1 ≤ d) (hn : As.length = np) (hst : st = As.reverse ++ rest) (hr : (rest.map fun v => v.category).sum ≤ 8) (dg : decode cc pc = .ok (.invokestatic idx, 3)) :
    va_Run (eP E) (eL E) (eE E) (eR E) (eS E) (eM E) (eA E) (eB E) (eH E) (eC E) H locs 0 0 0 0 (F0 (eM E) pc ls (st.map (cv (eX E)))) (rest.map (cv (eX E))) (Qy (eD E) (eK E) (va_A (ly_w (eK E) (eX E) M lay) H.size) (eX E) u (As.map (cv (eX E))).toArray) (va_A (ly_w (eK E) (eX E) M lay) H.size) := by
  subst hst
  refine va_runS (As := As.map (cv (eX E))) (rest := rest.map (cv (eX E))) ⟨C.1, C.2.1, C.2.2.1, C.2.2.2.1, C.2.2.2.2.1⟩ (hM (eL E) (eD E) (eK E) (eX E) H.size u hG)
    ⟨callB_of np C.2.2.2.2.1 (wT_good hy.1) rfl rfl rfl (C.2.2.2.2.1 _ hy.2.2.1) (C.2.2.2.2.1 _ hl) hy.2.2.2.1 ⟨?_, ?_⟩, C.2.2.2.2.1 _ hy.2.1⟩ ⟨amPc_blind, fun U hU hW => am_pre C hS _ U hU hW⟩ rfl (by rw [List.length_map]; exact hn) hh.1 ?_ (lv_room ?_) dg ⟨Nat.zero_le _, Nat.zero_le _⟩
  · show dc + 1 ≤ _
    exact Nat.le_trans hdc C.2.2.2.2.2.2.2.2.2.1
  · show 8 + (n + 11) + 64 * dc ≤ _
    refine Nat.le_trans ?_ C.2.2.2.2.2.2.2.2.2.2
    have := hy.2.2.2.2
    omega
  · show (As.reverse ++ rest).map (cv (eX E)) = _
    rw [List.map_append, List.map_reverse]
  · rw [am_catl]; exact hr
theorem am_bind {σ τ : Type} {G : Option σ} {k : σ → Option τ} {t : τ} (h : G.bind k = some t) : ∃ u, G = some u ∧ k u = some t := by
  cases G with
  | none => cases h
  | some u => exact ⟨u, rfl, h⟩
theorem aw_cVI (C : amC E d cc nL own) {y : MethodName} {b : ByteArray} {n np idx dc ci N q : Nat} {ret : Option FieldType} {Cn : String} {T : u_T} {fs : List (Option Nat)} (As rest : List Value) {G : Option (Int32 × Mem)} {kf : Int32 × Mem → Option ρ} (hM : AMet dc y b n ret lay (.ref q :: As) M (qI lay) G) (hy : amV y b n ret Cn np) (hl : Cond.methodLink own idx y ∈ lw_t) (hdc : dc + 1 ≤ d) (hq : lay[q]? = some (.inl (ci, fs))) (hcl : vwCl[ci]? = some (Cn, T, N)) (hn : As.length = np) (hst : st = As.reverse ++ .ref q :: rest) (hr : (rest.map fun v => v.category).sum ≤ 8) (dg : decode cc pc = .ok (.invokevirtual idx, 3)) (k : ∀ u : Int32 × Mem, AW E lay nL Qc (kf u) (pc + 3) lv (.int u.1 :: rest) u.2) : AW E lay nL Qc (G.bind kf) pc lv st M := by
  intro t ht H locs ls hS hh
  obtain ⟨u, hG, hk0⟩ := am_bind ht
  refine va_calli (am_runV C hG hS hh hM hy hl hdc hq hcl hn hst hr dg) hS.2.2 (fun q _ h => am_free C hS q h) (am_free C hS) (fun r M' t1 H1 locs1 ht1 hvm hpost hB hz hk hS1 => ?_)
  cases hpost
  exact k (r, M') t hk0 H1 locs1 ls (am_after C hS ht1 hB hS1) hh
theorem aw_cVL (C : amC E d cc nL own) {y : MethodName} {b : ByteArray} {n np idx dc ci N q : Nat} {ret : Option FieldType} {Cn : String} {T : u_T} {fs : List (Option Nat)} (As rest : List Value) {G : Option (Int64 × Mem)} {kf : Int64 × Mem → Option ρ} (hM : AMet dc y b n ret lay (.ref q :: As) M (qL lay) G) (hy : amV y b n ret Cn np) (hl : Cond.methodLink own idx y ∈ lw_t) (hdc : dc + 1 ≤ d) (hq : lay[q]? = some (.inl (ci, fs))) (hcl : vwCl[ci]? = some (Cn, T, N)) (hn : As.length = np) (hst : st = As.reverse ++ .ref q :: rest) (hr : (rest.map fun v => v.category).sum ≤ 8) (dg : decode cc pc = .ok (.invokevirtual idx, 3)) (k : ∀ u : Int64 × Mem, AW E lay nL Qc (kf u) (pc + 3) lv (.long u.1 :: rest) u.2) : AW E lay nL Qc (G.bind kf) pc lv st M := by
  intro t ht H locs ls hS hh
  obtain ⟨u, hG, hk0⟩ := am_bind ht
  refine va_calll (am_runV C hG hS hh hM hy hl hdc hq hcl hn hst hr dg) hS.2.2 (fun q _ h => am_free C hS q h) (am_free C hS) (fun r M' t1 H1 locs1 ht1 hvm hpost hB hz hk hS1 => ?_)
  cases hpost
  exact k (r, M') t hk0 H1 locs1 ls (am_after C hS ht1 hB hS1) hh
theorem aw_cVIp (C : amC E d cc nL own) {y : MethodName} {b : ByteArray} {n np idx dc ci N q : Nat} {ret : Option FieldType} {Cn : String} {T : u_T} {fs : List (Option Nat)} (As rest : List Value) {G : Option Int32} {kf : Int32 → Option ρ} (hM : AMet dc y b n ret lay (.ref q :: As) M (qIp lay M) G) (hy : amV y b n ret Cn np) (hl : Cond.methodLink own idx y ∈ lw_t) (hdc : dc + 1 ≤ d) (hq : lay[q]? = some (.inl (ci, fs))) (hcl : vwCl[ci]? = some (Cn, T, N)) (hn : As.length = np) (hst : st = As.reverse ++ .ref q :: rest) (hr : (rest.map fun v => v.category).sum ≤ 8) (dg : decode cc pc = .ok (.invokevirtual idx, 3)) (k : ∀ u : Int32, AW E lay nL Qc (kf u) (pc + 3) lv (.int u :: rest) M) : AW E lay nL Qc (G.bind kf) pc lv st M := by
  intro t ht H locs ls hS hh
  obtain ⟨u, hG, hk0⟩ := am_bind ht
  refine va_calli (a := (Value.ref (eX E q) :: As.map (cv (eX E))).toArray) (am_runV C hG hS hh hM hy hl hdc hq hcl hn hst hr dg) hS.2.2 (fun q _ h => am_free C hS q h) (am_free C hS) (fun r M' t1 H1 locs1 ht1 hvm hpost hB hz hk hS1 => ?_)
  cases hpost
  exact k u t hk0 H1 locs1 ls (am_after C hS ht1 hB hS1) hh
theorem aw_cVLp (C : amC E d cc nL own) {y : MethodName} {b : ByteArray} {n np idx dc ci N q : Nat} {ret : Option FieldType} {Cn : String} {T : u_T} {fs : List (Option Nat)} (As rest : List Value) {G : Option Int64} {kf : Int64 → Option ρ} (hM : AMet dc y b n ret lay (.ref q :: As) M (qLp lay M) G) (hy : amV y b n ret Cn np) (hl : Cond.methodLink own idx y ∈ lw_t) (hdc : dc + 1 ≤ d) (hq : lay[q]? = some (.inl (ci, fs))) (hcl : vwCl[ci]? = some (Cn, T, N)) (hn : As.length = np) (hst : st = As.reverse ++ .ref q :: rest) (hr : (rest.map fun v => v.category).sum ≤ 8) (dg : decode cc pc = .ok (.invokevirtual idx, 3)) (k : ∀ u : Int64, AW E lay nL Qc (kf u) (pc + 3) lv (.long u :: rest) M) : AW E lay nL Qc (G.bind kf) pc lv st M := by
  intro t ht H locs ls hS hh
  obtain ⟨u, hG, hk0⟩ := am_bind ht
  refine va_calll (a := (Value.ref (eX E q) :: As.map (cv (eX E))).toArray) (am_runV C hG hS hh hM hy hl hdc hq hcl hn hst hr dg) hS.2.2 (fun q _ h => am_free C hS q h) (am_free C hS) (fun r M' t1 H1 locs1 ht1 hvm hpost hB hz hk hS1 => ?_)
  cases hpost
  exact k u t hk0 H1 locs1 ls (am_after C hS ht1 hB hS1) hh
theorem aw_cVV (C : amC E d cc nL own) {y : MethodName} {b : ByteArray} {n np idx dc ci N q : Nat} {ret : Option FieldType} {Cn : String} {T : u_T} {fs : List (Option Nat)} (As rest : List Value) {G : Option Mem} {kf : Mem → Option ρ} (hM : AMet dc y b n ret lay (.ref q :: As) M (qV lay) G) (hy : amV y b n ret Cn np) (hl : Cond.methodLink own idx y ∈ lw_t) (hdc : dc + 1 ≤ d) (hq : lay[q]? = some (.inl (ci, fs))) (hcl : vwCl[ci]? = some (Cn, T, N)) (hn : As.length = np) (hst : st = As.reverse ++ .ref q :: rest) (hr : (rest.map fun v => v.category).sum ≤ 8) (dg : decode cc pc = .ok (.invokevirtual idx, 3)) (k : ∀ u : Mem, AW E lay nL Qc (kf u) (pc + 3) lv rest u) : AW E lay nL Qc (G.bind kf) pc lv st M := by
  intro t ht H locs ls hS hh
  obtain ⟨u, hG, hk0⟩ := am_bind ht
  refine va_callv (am_runV C hG hS hh hM hy hl hdc hq hcl hn hst hr dg) hS.2.2 (fun q _ h => am_free C hS q h) (am_free C hS) (fun M' t1 H1 locs1 ht1 hvm hpost hB hz hk hS1 => ?_)
  cases hpost
  exact k u t hk0 H1 locs1 ls (am_after C hS ht1 hB hS1) hh
theorem aw_cVR (C : amC E d cc nL own) {y : MethodName} {b : ByteArray} {n np idx dc ci N q : Nat} {ret : Option FieldType} {Cn : String} {T : u_T} {fs : List (Option Nat)} (As rest : List Value) {G : Option (Nat × Mem)} {kf : Nat × Mem → Option ρ} (hM : AMet dc y b n ret lay (.ref q :: As) M (qR lay) G) (hy : amV y b n ret Cn np) (hl : Cond.methodLink own idx y ∈ lw_t) (hdc : dc + 1 ≤ d) (hq : lay[q]? = some (.inl (ci, fs))) (hcl : vwCl[ci]? = some (Cn, T, N)) (hn : As.length = np) (hst : st = As.reverse ++ .ref q :: rest) (hr : (rest.map fun v => v.category).sum ≤ 8) (dg : decode cc pc = .ok (.invokevirtual idx, 3)) (k : ∀ u : Nat × Mem, AW E lay nL Qc (kf u) (pc + 3) lv (.ref u.1 :: rest) u.2) : AW E lay nL Qc (G.bind kf) pc lv st M := by
  intro t ht H locs ls hS hh
  obtain ⟨u, hG, hk0⟩ := am_bind ht
  refine va_callr (am_runV C hG hS hh hM hy hl hdc hq hcl hn hst hr dg) hS.2.2 (fun q _ h => am_free C hS q h) (am_free C hS) (fun u1 ra t1 H1 locs1 ht1 hvm hpost hB hz hk hS1 => ?_)
  cases hpost
  obtain ⟨rfl, hB⟩ := hB
  exact k u t hk0 H1 locs1 ls (am_after C hS ht1 hB hS1) hh
theorem aw_cVRp (C : amC E d cc nL own) {y : MethodName} {b : ByteArray} {n np idx dc ci N q : Nat} {ret : Option FieldType} {Cn : String} {T : u_T} {fs : List (Option Nat)} (As rest : List Value) {G : Option (Nat)} {kf : Nat → Option ρ} (hM : AMet dc y b n ret lay (.ref q :: As) M (qRp lay M) G) (hy : amV y b n ret Cn np) (hl : Cond.methodLink own idx y ∈ lw_t) (hdc : dc + 1 ≤ d) (hq : lay[q]? = some (.inl (ci, fs))) (hcl : vwCl[ci]? = some (Cn, T, N)) (hn : As.length = np) (hst : st = As.reverse ++ .ref q :: rest) (hr : (rest.map fun v => v.category).sum ≤ 8) (dg : decode cc pc = .ok (.invokevirtual idx, 3)) (k : ∀ u : Nat, AW E lay nL Qc (kf u) (pc + 3) lv (.ref u :: rest) M) : AW E lay nL Qc (G.bind kf) pc lv st M := by
  intro t ht H locs ls hS hh
  obtain ⟨u, hG, hk0⟩ := am_bind ht
  refine va_callr (a := (Value.ref (eX E q) :: As.map (cv (eX E))).toArray) (am_runV C hG hS hh hM hy hl hdc hq hcl hn hst hr dg) hS.2.2 (fun q _ h => am_free C hS q h) (am_free C hS) (fun u1 ra t1 H1 locs1 ht1 hvm hpost hB hz hk hS1 => ?_)
  cases hpost
  obtain ⟨rfl, hB⟩ := hB
  exact k u t hk0 H1 locs1 ls (am_after C hS ht1 hB hS1) hh
theorem aw_cSI (C : amC E d cc nL own) {y : MethodName} {b : ByteArray} {n np idx dc : Nat} {ret : Option FieldType} (As rest : List Value) {G : Option (Int32 × Mem)} {kf : Int32 × Mem → Option ρ} (hM : AMet dc y b n ret lay As M (qI lay) G) (hy : amT y b n ret np) (hl : Cond.methodLink own idx y ∈ lw_t) (hdc : dc + 1 ≤ d) (hn : As.length = np) (hst : st = As.reverse ++ rest) (hr : (rest.map fun v => v.category).sum ≤ 8) (dg : decode cc pc = .ok (.invokestatic idx, 3)) (k : ∀ u : Int32 × Mem, AW E lay nL Qc (kf u) (pc + 3) lv (.int u.1 :: rest) u.2) : AW E lay nL Qc (G.bind kf) pc lv st M := by
  intro t ht H locs ls hS hh
  obtain ⟨u, hG, hk0⟩ := am_bind ht
  refine va_calli (am_runS C hG hS hh hM hy hl hdc hn hst hr dg) hS.2.2 (fun q _ h => am_free C hS q h) (am_free C hS) (fun r M' t1 H1 locs1 ht1 hvm hpost hB hz hk hS1 => ?_)
  cases hpost
  exact k (r, M') t hk0 H1 locs1 ls (am_after C hS ht1 hB hS1) hh
theorem aw_cSL (C : amC E d cc nL own) {y : MethodName} {b : ByteArray} {n np idx dc : Nat} {ret : Option FieldType} (As rest : List Value) {G : Option (Int64 × Mem)} {kf : Int64 × Mem → Option ρ} (hM : AMet dc y b n ret lay As M (qL lay) G) (hy : amT y b n ret np) (hl : Cond.methodLink own idx y ∈ lw_t) (hdc : dc + 1 ≤ d) (hn : As.length = np) (hst : st = As.reverse ++ rest) (hr : (rest.map fun v => v.category).sum ≤ 8) (dg : decode cc pc = .ok (.invokestatic idx, 3)) (k : ∀ u : Int64 × Mem, AW E lay nL Qc (kf u) (pc + 3) lv (.long u.1 :: rest) u.2) : AW E lay nL Qc (G.bind kf) pc lv st M := by
  intro t ht H locs ls hS hh
  obtain ⟨u, hG, hk0⟩ := am_bind ht
  refine va_calll (am_runS C hG hS hh hM hy hl hdc hn hst hr dg) hS.2.2 (fun q _ h => am_free C hS q h) (am_free C hS) (fun r M' t1 H1 locs1 ht1 hvm hpost hB hz hk hS1 => ?_)
  cases hpost
  exact k (r, M') t hk0 H1 locs1 ls (am_after C hS ht1 hB hS1) hh
theorem aw_cSIp (C : amC E d cc nL own) {y : MethodName} {b : ByteArray} {n np idx dc : Nat} {ret : Option FieldType} (As rest : List Value) {G : Option Int32} {kf : Int32 → Option ρ} (hM : AMet dc y b n ret lay As M (qIp lay M) G) (hy : amT y b n ret np) (hl : Cond.methodLink own idx y ∈ lw_t) (hdc : dc + 1 ≤ d) (hn : As.length = np) (hst : st = As.reverse ++ rest) (hr : (rest.map fun v => v.category).sum ≤ 8) (dg : decode cc pc = .ok (.invokestatic idx, 3)) (k : ∀ u : Int32, AW E lay nL Qc (kf u) (pc + 3) lv (.int u :: rest) M) : AW E lay nL Qc (G.bind kf) pc lv st M := by
  intro t ht H locs ls hS hh
  obtain ⟨u, hG, hk0⟩ := am_bind ht
  refine va_calli (a := (As.map (cv (eX E))).toArray) (am_runS C hG hS hh hM hy hl hdc hn hst hr dg) hS.2.2 (fun q _ h => am_free C hS q h) (am_free C hS) (fun r M' t1 H1 locs1 ht1 hvm hpost hB hz hk hS1 => ?_)
  cases hpost
  exact k u t hk0 H1 locs1 ls (am_after C hS ht1 hB hS1) hh
theorem aw_cSLp (C : amC E d cc nL own) {y : MethodName} {b : ByteArray} {n np idx dc : Nat} {ret : Option FieldType} (As rest : List Value) {G : Option Int64} {kf : Int64 → Option ρ} (hM : AMet dc y b n ret lay As M (qLp lay M) G) (hy : amT y b n ret np) (hl : Cond.methodLink own idx y ∈ lw_t) (hdc : dc + 1 ≤ d) (hn : As.length = np) (hst : st = As.reverse ++ rest) (hr : (rest.map fun v => v.category).sum ≤ 8) (dg : decode cc pc = .ok (.invokestatic idx, 3)) (k : ∀ u : Int64, AW E lay nL Qc (kf u) (pc + 3) lv (.long u :: rest) M) : AW E lay nL Qc (G.bind kf) pc lv st M := by
  intro t ht H locs ls hS hh
  obtain ⟨u, hG, hk0⟩ := am_bind ht
  refine va_calll (a := (As.map (cv (eX E))).toArray) (am_runS C hG hS hh hM hy hl hdc hn hst hr dg) hS.2.2 (fun q _ h => am_free C hS q h) (am_free C hS) (fun r M' t1 H1 locs1 ht1 hvm hpost hB hz hk hS1 => ?_)
  cases hpost
  exact k u t hk0 H1 locs1 ls (am_after C hS ht1 hB hS1) hh
theorem aw_cSV (C : amC E d cc nL own) {y : MethodName} {b : ByteArray} {n np idx dc : Nat} {ret : Option FieldType} (As rest : List Value) {G : Option Mem} {kf : Mem → Option ρ} (hM : AMet dc y b n ret lay As M (qV lay) G) (hy : amT y b n ret np) (hl : Cond.methodLink own idx y ∈ lw_t) (hdc : dc + 1 ≤ d) (hn : As.length = np) (hst : st = As.reverse ++ rest) (hr : (rest.map fun v => v.category).sum ≤ 8) (dg : decode cc pc = .ok (.invokestatic idx, 3)) (k : ∀ u : Mem, AW E lay nL Qc (kf u) (pc + 3) lv rest u) : AW E lay nL Qc (G.bind kf) pc lv st M := by
  intro t ht H locs ls hS hh
  obtain ⟨u, hG, hk0⟩ := am_bind ht
  refine va_callv (am_runS C hG hS hh hM hy hl hdc hn hst hr dg) hS.2.2 (fun q _ h => am_free C hS q h) (am_free C hS) (fun M' t1 H1 locs1 ht1 hvm hpost hB hz hk hS1 => ?_)
  cases hpost
  exact k u t hk0 H1 locs1 ls (am_after C hS ht1 hB hS1) hh
theorem aw_cSR (C : amC E d cc nL own) {y : MethodName} {b : ByteArray} {n np idx dc : Nat} {ret : Option FieldType} (As rest : List Value) {G : Option (Nat × Mem)} {kf : Nat × Mem → Option ρ} (hM : AMet dc y b n ret lay As M (qR lay) G) (hy : amT y b n ret np) (hl : Cond.methodLink own idx y ∈ lw_t) (hdc : dc + 1 ≤ d) (hn : As.length = np) (hst : st = As.reverse ++ rest) (hr : (rest.map fun v => v.category).sum ≤ 8) (dg : decode cc pc = .ok (.invokestatic idx, 3)) (k : ∀ u : Nat × Mem, AW E lay nL Qc (kf u) (pc + 3) lv (.ref u.1 :: rest) u.2) : AW E lay nL Qc (G.bind kf) pc lv st M := by
  intro t ht H locs ls hS hh
  obtain ⟨u, hG, hk0⟩ := am_bind ht
  refine va_callr (am_runS C hG hS hh hM hy hl hdc hn hst hr dg) hS.2.2 (fun q _ h => am_free C hS q h) (am_free C hS) (fun u1 ra t1 H1 locs1 ht1 hvm hpost hB hz hk hS1 => ?_)
  cases hpost
  obtain ⟨rfl, hB⟩ := hB
  exact k u t hk0 H1 locs1 ls (am_after C hS ht1 hB hS1) hh
theorem aw_cSRp (C : amC E d cc nL own) {y : MethodName} {b : ByteArray} {n np idx dc : Nat} {ret : Option FieldType} (As rest : List Value) {G : Option (Nat)} {kf : Nat → Option ρ} (hM : AMet dc y b n ret lay As M (qRp lay M) G) (hy : amT y b n ret np) (hl : Cond.methodLink own idx y ∈ lw_t) (hdc : dc + 1 ≤ d) (hn : As.length = np) (hst : st = As.reverse ++ rest) (hr : (rest.map fun v => v.category).sum ≤ 8) (dg : decode cc pc = .ok (.invokestatic idx, 3)) (k : ∀ u : Nat, AW E lay nL Qc (kf u) (pc + 3) lv (.ref u :: rest) M) : AW E lay nL Qc (G.bind kf) pc lv st M := by
  intro t ht H locs ls hS hh
  obtain ⟨u, hG, hk0⟩ := am_bind ht
  refine va_callr (a := (As.map (cv (eX E))).toArray) (am_runS C hG hS hh hM hy hl hdc hn hst hr dg) hS.2.2 (fun q _ h => am_free C hS q h) (am_free C hS) (fun u1 ra t1 H1 locs1 ht1 hvm hpost hB hz hk hS1 => ?_)
  cases hpost
  obtain ⟨rfl, hB⟩ := hB
  exact k u t hk0 H1 locs1 ls (am_after C hS ht1 hB hS1) hh
/-! System.arraycopy between rows of ints; Math.max, min -/
def am_cp (sp dp n : Int32) (n0 n1 : Nat) : Bool := !(decide (sp < 0)) && !(decide (dp < 0)) && !(decide (n < 0)) && decide (sp.toNatClampNeg + n.toNatClampNeg ≤ n0) && decide (dp.toNatClampNeg + n.toNatClampNeg ≤ n1)
theorem aw_copy (C : amC E d cc nL own) {q0 q1 n0 n1 idx : Nat} {sp dp n : Int32} (hq0 : lay[q0]? = some (.inr (.inl n0))) (hq1 : lay[q1]? = some (.inr (.inl n1))) (hl : Cond.methodLink own idx arraycopyName ∈ lw_t) (hnat : Cond.native arraycopyName ∈ lw_t) (hstc : Cond.static arraycopyName ∈ lw_t) (hini : Cond.initialized "java/lang/System" ∈ lw_t) (hd1 : 1 ≤ d) (hr : (st.map fun v => v.category).sum ≤ 8) (dg : decode cc pc = .ok (.invokestatic idx, 3)) (k : AW E lay nL Qc F (pc + 3) lv st (mset M q1 (va_cpy (M q0) (M q1) sp.toNatClampNeg dp.toNatClampNeg n.toNatClampNeg))) :
    AW E lay nL Qc (if am_cp sp dp n n0 n1 = true then F else none) pc lv (.int n :: .int dp :: .ref q1 :: .int sp :: .ref q0 :: st) M := by
  refine aw_ite (fun hc => ?_) (fun _ => aw_none)
  intro t ht H locs ls hS hh
  unfold am_cp at hc
  simp only [Bool.and_eq_true, Bool.not_eq_true', decide_eq_false_iff_not, decide_eq_true_eq] at hc
  obtain ⟨⟨⟨⟨h1, h2⟩, h3⟩, h4⟩, h5⟩ := hc
  refine va_copyi C.1 C.2.1 (by rw [C.2.2.1]; exact hh.1.symm) C.2.2.2.1 (C.2.2.2.2.1 _ hl) (C.2.2.2.2.1 _ hnat) (C.2.2.2.2.1 _ hstc) (C.2.2.2.2.1 _ hini) C.2.2.2.2.2.2.1 hS.1 hS.2.1 hS.2.2 q0 q1 0 0 (ly_w_at hq0) (ly_w_at hq1) rfl rfl rfl h1 h2 h3 h4 h5 (fun _ _ => rfl) (Nat.le_trans hd1 C.2.2.2.2.2.2.2.2.2.1) ?_ dg (fun H1 locs1 hP hD hS1 => ?_)
  · rw [am_catl]
    have h64 : 64 ≤ (eR E).locals := Nat.le_trans (by omega) C.2.2.2.2.2.2.2.2.2.2
    have hnf : nativeFrameWords "java/lang/System" "arraycopy" 5 + 11 ≤ 50 := by decide +kernel
    omega
  · have e1 : (ly_w (eK E) (eX E) M lay).set q1 (eX E q1, .inl ((eK E).1, n1, .inl (va_cpy (M q0) (M q1) sp.toNatClampNeg dp.toNatClampNeg n.toNatClampNeg))) = ly_w (eK E) (eX E) (mset M q1 (va_cpy (M q0) (M q1) sp.toNatClampNeg dp.toNatClampNeg n.toNatClampNeg)) lay := by
      rw [← ly_w_set hq1]
      simp only [ly_c, mset_self]
    rw [e1] at hP hD
    exact k t ht H1 locs1 ls ⟨hP, hD, hS1⟩ hh
theorem aw_mmax (C : amC E d cc nL own) {idx : Nat} {x y : Int32} (hl : Cond.methodLink own idx Lib.Math.max.name ∈ lw_t) (hstc : Cond.static Lib.Math.max.name ∈ lw_t) (hini : Cond.initialized "java/lang/Math" ∈ lw_t) (hcode : Cond.code Lib.Math.max.name Lib.Math.max.code 2 (some .int) ∈ lw_t) (hd1 : 1 ≤ d) (hr : (st.map fun v => v.category).sum ≤ 8) (dg : decode cc pc = .ok (.invokestatic idx, 3)) (k : AW E lay nL Qc F (pc + 3) lv (.int (if x < y then y else x) :: st) M) : AW E lay nL Qc F pc lv (.int y :: .int x :: st) M := by
  intro t ht H locs ls hS hh
  refine va_mmax C.1 C.2.1 (by rw [C.2.2.1]; exact hh.1.symm) C.2.2.2.1 (C.2.2.2.2.1 _ hl) (C.2.2.2.2.1 _ hstc) (C.2.2.2.2.1 _ hini) (C.2.2.2.2.1 _ hcode) (Nat.le_trans hd1 C.2.2.2.2.2.2.2.2.2.1) ?_ (Nat.zero_le _) (Nat.zero_le _) dg (k t ht H locs ls hS hh)
  rw [am_catl]
  have h64 : 64 ≤ (eR E).locals := Nat.le_trans (by omega) C.2.2.2.2.2.2.2.2.2.2
  omega
theorem aw_mmin (C : amC E d cc nL own) {idx : Nat} {x y : Int32} (hl : Cond.methodLink own idx Lib.Math.min.name ∈ lw_t) (hstc : Cond.static Lib.Math.min.name ∈ lw_t) (hini : Cond.initialized "java/lang/Math" ∈ lw_t) (hcode : Cond.code Lib.Math.min.name Lib.Math.min.code 2 (some .int) ∈ lw_t) (hd1 : 1 ≤ d) (hr : (st.map fun v => v.category).sum ≤ 8) (dg : decode cc pc = .ok (.invokestatic idx, 3)) (k : AW E lay nL Qc F (pc + 3) lv (.int (if y < x then y else x) :: st) M) : AW E lay nL Qc F pc lv (.int y :: .int x :: st) M := by
  intro t ht H locs ls hS hh
  refine va_mmin C.1 C.2.1 (by rw [C.2.2.1]; exact hh.1.symm) C.2.2.2.1 (C.2.2.2.2.1 _ hl) (C.2.2.2.2.1 _ hstc) (C.2.2.2.2.1 _ hini) (C.2.2.2.2.1 _ hcode) (Nat.le_trans hd1 C.2.2.2.2.2.2.2.2.2.1) ?_ (Nat.zero_le _) (Nat.zero_le _) dg (k t ht H locs ls hS hh)
  rw [am_catl]
  have h64 : 64 ≤ (eR E).locals := Nat.le_trans (by omega) C.2.2.2.2.2.2.2.2.2.2
  omega
end AR
end
