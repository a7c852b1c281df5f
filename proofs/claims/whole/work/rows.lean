section
-- ===== PART A: goes FIRST, ahead of the names: the tables' words, and 'selects' of the private methods out of them =====
/-- a private method of a class that the tables say can be made, by its rows of tables_1 -/
def lw_okq (q : MethodName × Nat) : Prop := (q.1.cls ≠ "java/lang/invoke/MethodHandle" ∧ q.1.cls ≠ "java/lang/invoke/VarHandle") ∧ Cond.instantiable q.1.cls q.2 ∈ tables_1 ∧ Cond.privateMethod q.1 ∈ tables_1 ∧ Cond.instanceMethod q.1 ∈ tables_1
theorem lw_p0 : lw_okq (⟨"LeavesRoom$Table", "freeSeat", "()I"⟩, 14) := ⟨⟨by decide +kernel, by decide +kernel⟩, List.mem_of_getElem? (i := 148) (by decide +kernel), List.mem_of_getElem? (i := 326) (by decide +kernel), List.mem_of_getElem? (i := 327) (by decide +kernel)⟩
theorem lw_p1 : lw_okq (⟨"LeavesRoom$Table", "reckon", "()V"⟩, 14) := ⟨⟨by decide +kernel, by decide +kernel⟩, List.mem_of_getElem? (i := 148) (by decide +kernel), List.mem_of_getElem? (i := 334) (by decide +kernel), List.mem_of_getElem? (i := 335) (by decide +kernel)⟩
theorem lw_p2 : lw_okq (⟨"LeavesRoom$House", "holds", "(II[I)Z"⟩, 8) := ⟨⟨by decide +kernel, by decide +kernel⟩, List.mem_of_getElem? (i := 78) (by decide +kernel), List.mem_of_getElem? (i := 342) (by decide +kernel), List.mem_of_getElem? (i := 343) (by decide +kernel)⟩
theorem lw_p3 : lw_okq (⟨"LeavesRoom", "isGuest", "(I)Z"⟩, 12) := ⟨⟨by decide +kernel, by decide +kernel⟩, List.mem_of_getElem? (i := 19) (by decide +kernel), List.mem_of_getElem? (i := 356) (by decide +kernel), List.mem_of_getElem? (i := 357) (by decide +kernel)⟩
theorem lw_p4 : lw_okq (⟨"LeavesRoom$Table", "neighbourAt", "(I)I"⟩, 14) := ⟨⟨by decide +kernel, by decide +kernel⟩, List.mem_of_getElem? (i := 148) (by decide +kernel), List.mem_of_getElem? (i := 367) (by decide +kernel), List.mem_of_getElem? (i := 368) (by decide +kernel)⟩
theorem lw_p5 : lw_okq (⟨"LeavesRoom$Table", "warmth", "(II)I"⟩, 14) := ⟨⟨by decide +kernel, by decide +kernel⟩, List.mem_of_getElem? (i := 148) (by decide +kernel), List.mem_of_getElem? (i := 377) (by decide +kernel), List.mem_of_getElem? (i := 378) (by decide +kernel)⟩
theorem lw_p6 : lw_okq (⟨"LeavesRoom$Reader", "isClause", "()Z"⟩, 5) := ⟨⟨by decide +kernel, by decide +kernel⟩, List.mem_of_getElem? (i := 29) (by decide +kernel), List.mem_of_getElem? (i := 448) (by decide +kernel), List.mem_of_getElem? (i := 449) (by decide +kernel)⟩
theorem lw_p7 : lw_okq (⟨"LeavesRoom$Reader", "next", "()I"⟩, 5) := ⟨⟨by decide +kernel, by decide +kernel⟩, List.mem_of_getElem? (i := 29) (by decide +kernel), List.mem_of_getElem? (i := 452) (by decide +kernel), List.mem_of_getElem? (i := 453) (by decide +kernel)⟩
theorem lw_p8 : lw_okq (⟨"LeavesRoom$Reader", "isWord", "(Ljava/lang/String;)Z"⟩, 5) := ⟨⟨by decide +kernel, by decide +kernel⟩, List.mem_of_getElem? (i := 29) (by decide +kernel), List.mem_of_getElem? (i := 463) (by decide +kernel), List.mem_of_getElem? (i := 464) (by decide +kernel)⟩
theorem lw_p9 : lw_okq (⟨"LeavesRoom$Reader", "isSign", "(I)Z"⟩, 5) := ⟨⟨by decide +kernel, by decide +kernel⟩, List.mem_of_getElem? (i := 29) (by decide +kernel), List.mem_of_getElem? (i := 515) (by decide +kernel), List.mem_of_getElem? (i := 516) (by decide +kernel)⟩
theorem lw_p10 : lw_okq (⟨"LeavesRoom$Reader", "isNumber", "()Z"⟩, 5) := ⟨⟨by decide +kernel, by decide +kernel⟩, List.mem_of_getElem? (i := 29) (by decide +kernel), List.mem_of_getElem? (i := 519) (by decide +kernel), List.mem_of_getElem? (i := 520) (by decide +kernel)⟩
theorem lw_p11 : lw_okq (⟨"LeavesRoom$Reader", "isEither", "(I)Z"⟩, 5) := ⟨⟨by decide +kernel, by decide +kernel⟩, List.mem_of_getElem? (i := 29) (by decide +kernel), List.mem_of_getElem? (i := 524) (by decide +kernel), List.mem_of_getElem? (i := 525) (by decide +kernel)⟩
theorem lw_p12 : lw_okq (⟨"LeavesRoom$Reader", "isFactor", "(I)Z"⟩, 5) := ⟨⟨by decide +kernel, by decide +kernel⟩, List.mem_of_getElem? (i := 29) (by decide +kernel), List.mem_of_getElem? (i := 528) (by decide +kernel), List.mem_of_getElem? (i := 529) (by decide +kernel)⟩
theorem lw_p13 : lw_okq (⟨"LeavesRoom$Reader", "isNest", "(II)Z"⟩, 5) := ⟨⟨by decide +kernel, by decide +kernel⟩, List.mem_of_getElem? (i := 29) (by decide +kernel), List.mem_of_getElem? (i := 532) (by decide +kernel), List.mem_of_getElem? (i := 533) (by decide +kernel)⟩
theorem lw_p14 : lw_okq (⟨"LeavesRoom$Table", "stepsOn", "()I"⟩, 14) := ⟨⟨by decide +kernel, by decide +kernel⟩, List.mem_of_getElem? (i := 148) (by decide +kernel), List.mem_of_getElem? (i := 577) (by decide +kernel), List.mem_of_getElem? (i := 578) (by decide +kernel)⟩
theorem lw_p15 : lw_okq (⟨"LeavesRoom$Table", "farthestBack", "(I)I"⟩, 14) := ⟨⟨by decide +kernel, by decide +kernel⟩, List.mem_of_getElem? (i := 148) (by decide +kernel), List.mem_of_getElem? (i := 581) (by decide +kernel), List.mem_of_getElem? (i := 582) (by decide +kernel)⟩
def lw_privs_1 : List (MethodName × Nat) := [(⟨"LeavesRoom$Table", "freeSeat", "()I"⟩, 14), (⟨"LeavesRoom$Table", "reckon", "()V"⟩, 14), (⟨"LeavesRoom$House", "holds", "(II[I)Z"⟩, 8), (⟨"LeavesRoom", "isGuest", "(I)Z"⟩, 12), (⟨"LeavesRoom$Table", "neighbourAt", "(I)I"⟩, 14), (⟨"LeavesRoom$Table", "warmth", "(II)I"⟩, 14), (⟨"LeavesRoom$Reader", "isClause", "()Z"⟩, 5), (⟨"LeavesRoom$Reader", "next", "()I"⟩, 5), (⟨"LeavesRoom$Reader", "isWord", "(Ljava/lang/String;)Z"⟩, 5), (⟨"LeavesRoom$Reader", "isSign", "(I)Z"⟩, 5), (⟨"LeavesRoom$Reader", "isNumber", "()Z"⟩, 5), (⟨"LeavesRoom$Reader", "isEither", "(I)Z"⟩, 5), (⟨"LeavesRoom$Reader", "isFactor", "(I)Z"⟩, 5), (⟨"LeavesRoom$Reader", "isNest", "(II)Z"⟩, 5), (⟨"LeavesRoom$Table", "stepsOn", "()I"⟩, 14), (⟨"LeavesRoom$Table", "farthestBack", "(I)I"⟩, 14)]
theorem lw_r1 : ∀ q ∈ lw_privs_1, lw_okq q := List.forall_mem_cons.mpr ⟨lw_p0, List.forall_mem_cons.mpr ⟨lw_p1, List.forall_mem_cons.mpr ⟨lw_p2, List.forall_mem_cons.mpr ⟨lw_p3, List.forall_mem_cons.mpr ⟨lw_p4, List.forall_mem_cons.mpr ⟨lw_p5, List.forall_mem_cons.mpr ⟨lw_p6, List.forall_mem_cons.mpr ⟨lw_p7, List.forall_mem_cons.mpr ⟨lw_p8, List.forall_mem_cons.mpr ⟨lw_p9, List.forall_mem_cons.mpr ⟨lw_p10, List.forall_mem_cons.mpr ⟨lw_p11, List.forall_mem_cons.mpr ⟨lw_p12, List.forall_mem_cons.mpr ⟨lw_p13, List.forall_mem_cons.mpr ⟨lw_p14, List.forall_mem_cons.mpr ⟨lw_p15, fun _ h => absurd h List.not_mem_nil⟩⟩⟩⟩⟩⟩⟩⟩⟩⟩⟩⟩⟩⟩⟩⟩
theorem lw_p16 : lw_okq (⟨"LeavesRoom$Table", "stepsBack", "()I"⟩, 14) := ⟨⟨by decide +kernel, by decide +kernel⟩, List.mem_of_getElem? (i := 148) (by decide +kernel), List.mem_of_getElem? (i := 586) (by decide +kernel), List.mem_of_getElem? (i := 587) (by decide +kernel)⟩
theorem lw_p17 : lw_okq (⟨"LeavesRoom", "sitterOr", "(I)I"⟩, 12) := ⟨⟨by decide +kernel, by decide +kernel⟩, List.mem_of_getElem? (i := 19) (by decide +kernel), List.mem_of_getElem? (i := 595) (by decide +kernel), List.mem_of_getElem? (i := 596) (by decide +kernel)⟩
theorem lw_p18 : lw_okq (⟨"LeavesRoom", "usedMore", "()I"⟩, 12) := ⟨⟨by decide +kernel, by decide +kernel⟩, List.mem_of_getElem? (i := 19) (by decide +kernel), List.mem_of_getElem? (i := 618) (by decide +kernel), List.mem_of_getElem? (i := 619) (by decide +kernel)⟩
theorem lw_p19 : lw_okq (⟨"LeavesRoom$Placings", "placeFrom", "(I)V"⟩, 6) := ⟨⟨by decide +kernel, by decide +kernel⟩, List.mem_of_getElem? (i := 232) (by decide +kernel), List.mem_of_getElem? (i := 639) (by decide +kernel), List.mem_of_getElem? (i := 640) (by decide +kernel)⟩
theorem lw_p20 : lw_okq (⟨"LeavesRoom$Placings", "weigh", "(II)V"⟩, 6) := ⟨⟨by decide +kernel, by decide +kernel⟩, List.mem_of_getElem? (i := 232) (by decide +kernel), List.mem_of_getElem? (i := 645) (by decide +kernel), List.mem_of_getElem? (i := 646) (by decide +kernel)⟩
theorem lw_p21 : lw_okq (⟨"LeavesRoom$Placings", "placeOn", "(II)V"⟩, 6) := ⟨⟨by decide +kernel, by decide +kernel⟩, List.mem_of_getElem? (i := 232) (by decide +kernel), List.mem_of_getElem? (i := 650) (by decide +kernel), List.mem_of_getElem? (i := 651) (by decide +kernel)⟩
theorem lw_p22 : lw_okq (⟨"LeavesRoom", "isAllSeenSo", "()Z"⟩, 12) := ⟨⟨by decide +kernel, by decide +kernel⟩, List.mem_of_getElem? (i := 19) (by decide +kernel), List.mem_of_getElem? (i := 683) (by decide +kernel), List.mem_of_getElem? (i := 684) (by decide +kernel)⟩
theorem lw_p23 : lw_okq (⟨"LeavesRoom", "isOneSeenOtherwise", "(I)Z"⟩, 12) := ⟨⟨by decide +kernel, by decide +kernel⟩, List.mem_of_getElem? (i := 19) (by decide +kernel), List.mem_of_getElem? (i := 694) (by decide +kernel), List.mem_of_getElem? (i := 695) (by decide +kernel)⟩
theorem lw_p24 : lw_okq (⟨"LeavesRoom", "tryPlanned", "(II)V"⟩, 12) := ⟨⟨by decide +kernel, by decide +kernel⟩, List.mem_of_getElem? (i := 19) (by decide +kernel), List.mem_of_getElem? (i := 726) (by decide +kernel), List.mem_of_getElem? (i := 727) (by decide +kernel)⟩
theorem lw_p25 : lw_okq (⟨"LeavesRoom$Acts", "own", "(III)I"⟩, 5) := ⟨⟨by decide +kernel, by decide +kernel⟩, List.mem_of_getElem? (i := 52) (by decide +kernel), List.mem_of_getElem? (i := 780) (by decide +kernel), List.mem_of_getElem? (i := 781) (by decide +kernel)⟩
theorem lw_p26 : lw_okq (⟨"LeavesRoom$Acts", "from", "(IIII)I"⟩, 5) := ⟨⟨by decide +kernel, by decide +kernel⟩, List.mem_of_getElem? (i := 52) (by decide +kernel), List.mem_of_getElem? (i := 784) (by decide +kernel), List.mem_of_getElem? (i := 785) (by decide +kernel)⟩
theorem lw_p27 : lw_okq (⟨"LeavesRoom$Acts", "runBody", "(III)I"⟩, 5) := ⟨⟨by decide +kernel, by decide +kernel⟩, List.mem_of_getElem? (i := 52) (by decide +kernel), List.mem_of_getElem? (i := 792) (by decide +kernel), List.mem_of_getElem? (i := 793) (by decide +kernel)⟩
theorem lw_p28 : lw_okq (⟨"LeavesRoomModel", "in", "(III)Z"⟩, 78) := ⟨⟨by decide +kernel, by decide +kernel⟩, List.mem_of_getElem? (i := 844) (by decide +kernel), List.mem_of_getElem? (i := 1089) (by decide +kernel), List.mem_of_getElem? (i := 1090) (by decide +kernel)⟩
theorem lw_p29 : lw_okq (⟨"LeavesRoomModel", "whoSits", "(I)I"⟩, 78) := ⟨⟨by decide +kernel, by decide +kernel⟩, List.mem_of_getElem? (i := 844) (by decide +kernel), List.mem_of_getElem? (i := 1093) (by decide +kernel), List.mem_of_getElem? (i := 1094) (by decide +kernel)⟩
theorem lw_p30 : lw_okq (⟨"LeavesRoomModel", "isGuest", "(I)Z"⟩, 78) := ⟨⟨by decide +kernel, by decide +kernel⟩, List.mem_of_getElem? (i := 844) (by decide +kernel), List.mem_of_getElem? (i := 1101) (by decide +kernel), List.mem_of_getElem? (i := 1102) (by decide +kernel)⟩
theorem lw_p31 : lw_okq (⟨"LeavesRoomModel", "has", "(II)Z"⟩, 78) := ⟨⟨by decide +kernel, by decide +kernel⟩, List.mem_of_getElem? (i := 844) (by decide +kernel), List.mem_of_getElem? (i := 1105) (by decide +kernel), List.mem_of_getElem? (i := 1106) (by decide +kernel)⟩
def lw_privs_2 : List (MethodName × Nat) := [(⟨"LeavesRoom$Table", "stepsBack", "()I"⟩, 14), (⟨"LeavesRoom", "sitterOr", "(I)I"⟩, 12), (⟨"LeavesRoom", "usedMore", "()I"⟩, 12), (⟨"LeavesRoom$Placings", "placeFrom", "(I)V"⟩, 6), (⟨"LeavesRoom$Placings", "weigh", "(II)V"⟩, 6), (⟨"LeavesRoom$Placings", "placeOn", "(II)V"⟩, 6), (⟨"LeavesRoom", "isAllSeenSo", "()Z"⟩, 12), (⟨"LeavesRoom", "isOneSeenOtherwise", "(I)Z"⟩, 12), (⟨"LeavesRoom", "tryPlanned", "(II)V"⟩, 12), (⟨"LeavesRoom$Acts", "own", "(III)I"⟩, 5), (⟨"LeavesRoom$Acts", "from", "(IIII)I"⟩, 5), (⟨"LeavesRoom$Acts", "runBody", "(III)I"⟩, 5), (⟨"LeavesRoomModel", "in", "(III)Z"⟩, 78), (⟨"LeavesRoomModel", "whoSits", "(I)I"⟩, 78), (⟨"LeavesRoomModel", "isGuest", "(I)Z"⟩, 78), (⟨"LeavesRoomModel", "has", "(II)Z"⟩, 78)]
theorem lw_r2 : ∀ q ∈ lw_privs_2, lw_okq q := List.forall_mem_cons.mpr ⟨lw_p16, List.forall_mem_cons.mpr ⟨lw_p17, List.forall_mem_cons.mpr ⟨lw_p18, List.forall_mem_cons.mpr ⟨lw_p19, List.forall_mem_cons.mpr ⟨lw_p20, List.forall_mem_cons.mpr ⟨lw_p21, List.forall_mem_cons.mpr ⟨lw_p22, List.forall_mem_cons.mpr ⟨lw_p23, List.forall_mem_cons.mpr ⟨lw_p24, List.forall_mem_cons.mpr ⟨lw_p25, List.forall_mem_cons.mpr ⟨lw_p26, List.forall_mem_cons.mpr ⟨lw_p27, List.forall_mem_cons.mpr ⟨lw_p28, List.forall_mem_cons.mpr ⟨lw_p29, List.forall_mem_cons.mpr ⟨lw_p30, List.forall_mem_cons.mpr ⟨lw_p31, fun _ h => absurd h List.not_mem_nil⟩⟩⟩⟩⟩⟩⟩⟩⟩⟩⟩⟩⟩⟩⟩⟩
theorem lw_p32 : lw_okq (⟨"LeavesRoomModel", "goes", "(IZ)V"⟩, 78) := ⟨⟨by decide +kernel, by decide +kernel⟩, List.mem_of_getElem? (i := 844) (by decide +kernel), List.mem_of_getElem? (i := 1109) (by decide +kernel), List.mem_of_getElem? (i := 1110) (by decide +kernel)⟩
theorem lw_p33 : lw_okq (⟨"LeavesRoomModel", "isSeat", "(I)Z"⟩, 78) := ⟨⟨by decide +kernel, by decide +kernel⟩, List.mem_of_getElem? (i := 844) (by decide +kernel), List.mem_of_getElem? (i := 1117) (by decide +kernel), List.mem_of_getElem? (i := 1118) (by decide +kernel)⟩
theorem lw_p34 : lw_okq (⟨"LeavesRoomModel", "takesSeat", "(II)V"⟩, 78) := ⟨⟨by decide +kernel, by decide +kernel⟩, List.mem_of_getElem? (i := 844) (by decide +kernel), List.mem_of_getElem? (i := 1121) (by decide +kernel), List.mem_of_getElem? (i := 1122) (by decide +kernel)⟩
theorem lw_p35 : lw_okq (⟨"LeavesRoomModel", "fond", "(I)I"⟩, 78) := ⟨⟨by decide +kernel, by decide +kernel⟩, List.mem_of_getElem? (i := 844) (by decide +kernel), List.mem_of_getElem? (i := 1125) (by decide +kernel), List.mem_of_getElem? (i := 1126) (by decide +kernel)⟩
theorem lw_p36 : lw_okq (⟨"LeavesRoomModel", "layLikes", "()V"⟩, 78) := ⟨⟨by decide +kernel, by decide +kernel⟩, List.mem_of_getElem? (i := 844) (by decide +kernel), List.mem_of_getElem? (i := 1129) (by decide +kernel), List.mem_of_getElem? (i := 1130) (by decide +kernel)⟩
theorem lw_p37 : lw_okq (⟨"LeavesRoomModel", "likesOf", "(II)I"⟩, 78) := ⟨⟨by decide +kernel, by decide +kernel⟩, List.mem_of_getElem? (i := 844) (by decide +kernel), List.mem_of_getElem? (i := 1133) (by decide +kernel), List.mem_of_getElem? (i := 1134) (by decide +kernel)⟩
theorem lw_p38 : lw_okq (⟨"LeavesRoomModel", "begin", "()I"⟩, 78) := ⟨⟨by decide +kernel, by decide +kernel⟩, List.mem_of_getElem? (i := 844) (by decide +kernel), List.mem_of_getElem? (i := 1137) (by decide +kernel), List.mem_of_getElem? (i := 1138) (by decide +kernel)⟩
theorem lw_p39 : lw_okq (⟨"LeavesRoomModel", "behind", "()I"⟩, 78) := ⟨⟨by decide +kernel, by decide +kernel⟩, List.mem_of_getElem? (i := 844) (by decide +kernel), List.mem_of_getElem? (i := 1141) (by decide +kernel), List.mem_of_getElem? (i := 1142) (by decide +kernel)⟩
theorem lw_p40 : lw_okq (⟨"LeavesRoomModel", "holds", "(III)Z"⟩, 78) := ⟨⟨by decide +kernel, by decide +kernel⟩, List.mem_of_getElem? (i := 844) (by decide +kernel), List.mem_of_getElem? (i := 1145) (by decide +kernel), List.mem_of_getElem? (i := 1146) (by decide +kernel)⟩
theorem lw_p41 : lw_okq (⟨"LeavesRoomModel", "factOf", "(III)I"⟩, 78) := ⟨⟨by decide +kernel, by decide +kernel⟩, List.mem_of_getElem? (i := 844) (by decide +kernel), List.mem_of_getElem? (i := 1149) (by decide +kernel), List.mem_of_getElem? (i := 1150) (by decide +kernel)⟩
theorem lw_p42 : lw_okq (⟨"LeavesRoomModel", "fondBy", "(I)I"⟩, 78) := ⟨⟨by decide +kernel, by decide +kernel⟩, List.mem_of_getElem? (i := 844) (by decide +kernel), List.mem_of_getElem? (i := 1153) (by decide +kernel), List.mem_of_getElem? (i := 1154) (by decide +kernel)⟩
theorem lw_p43 : lw_okq (⟨"LeavesRoomModel", "beside", "(I)I"⟩, 78) := ⟨⟨by decide +kernel, by decide +kernel⟩, List.mem_of_getElem? (i := 844) (by decide +kernel), List.mem_of_getElem? (i := 1157) (by decide +kernel), List.mem_of_getElem? (i := 1158) (by decide +kernel)⟩
theorem lw_p44 : lw_okq (⟨"LeavesRoomModel", "isCompany", "(I)Z"⟩, 78) := ⟨⟨by decide +kernel, by decide +kernel⟩, List.mem_of_getElem? (i := 844) (by decide +kernel), List.mem_of_getElem? (i := 1161) (by decide +kernel), List.mem_of_getElem? (i := 1162) (by decide +kernel)⟩
theorem lw_p45 : lw_okq (⟨"LeavesRoomModel", "isBeside", "(II)Z"⟩, 78) := ⟨⟨by decide +kernel, by decide +kernel⟩, List.mem_of_getElem? (i := 844) (by decide +kernel), List.mem_of_getElem? (i := 1165) (by decide +kernel), List.mem_of_getElem? (i := 1166) (by decide +kernel)⟩
theorem lw_p46 : lw_okq (⟨"LeavesRoomModel", "lastOf", "(II)I"⟩, 78) := ⟨⟨by decide +kernel, by decide +kernel⟩, List.mem_of_getElem? (i := 844) (by decide +kernel), List.mem_of_getElem? (i := 1169) (by decide +kernel), List.mem_of_getElem? (i := 1170) (by decide +kernel)⟩
theorem lw_p47 : lw_okq (⟨"LeavesRoomModel", "pours", "(I)V"⟩, 78) := ⟨⟨by decide +kernel, by decide +kernel⟩, List.mem_of_getElem? (i := 844) (by decide +kernel), List.mem_of_getElem? (i := 1177) (by decide +kernel), List.mem_of_getElem? (i := 1178) (by decide +kernel)⟩
def lw_privs_3 : List (MethodName × Nat) := [(⟨"LeavesRoomModel", "goes", "(IZ)V"⟩, 78), (⟨"LeavesRoomModel", "isSeat", "(I)Z"⟩, 78), (⟨"LeavesRoomModel", "takesSeat", "(II)V"⟩, 78), (⟨"LeavesRoomModel", "fond", "(I)I"⟩, 78), (⟨"LeavesRoomModel", "layLikes", "()V"⟩, 78), (⟨"LeavesRoomModel", "likesOf", "(II)I"⟩, 78), (⟨"LeavesRoomModel", "begin", "()I"⟩, 78), (⟨"LeavesRoomModel", "behind", "()I"⟩, 78), (⟨"LeavesRoomModel", "holds", "(III)Z"⟩, 78), (⟨"LeavesRoomModel", "factOf", "(III)I"⟩, 78), (⟨"LeavesRoomModel", "fondBy", "(I)I"⟩, 78), (⟨"LeavesRoomModel", "beside", "(I)I"⟩, 78), (⟨"LeavesRoomModel", "isCompany", "(I)Z"⟩, 78), (⟨"LeavesRoomModel", "isBeside", "(II)Z"⟩, 78), (⟨"LeavesRoomModel", "lastOf", "(II)I"⟩, 78), (⟨"LeavesRoomModel", "pours", "(I)V"⟩, 78)]
theorem lw_r3 : ∀ q ∈ lw_privs_3, lw_okq q := List.forall_mem_cons.mpr ⟨lw_p32, List.forall_mem_cons.mpr ⟨lw_p33, List.forall_mem_cons.mpr ⟨lw_p34, List.forall_mem_cons.mpr ⟨lw_p35, List.forall_mem_cons.mpr ⟨lw_p36, List.forall_mem_cons.mpr ⟨lw_p37, List.forall_mem_cons.mpr ⟨lw_p38, List.forall_mem_cons.mpr ⟨lw_p39, List.forall_mem_cons.mpr ⟨lw_p40, List.forall_mem_cons.mpr ⟨lw_p41, List.forall_mem_cons.mpr ⟨lw_p42, List.forall_mem_cons.mpr ⟨lw_p43, List.forall_mem_cons.mpr ⟨lw_p44, List.forall_mem_cons.mpr ⟨lw_p45, List.forall_mem_cons.mpr ⟨lw_p46, List.forall_mem_cons.mpr ⟨lw_p47, fun _ h => absurd h List.not_mem_nil⟩⟩⟩⟩⟩⟩⟩⟩⟩⟩⟩⟩⟩⟩⟩⟩
theorem lw_p48 : lw_okq (⟨"LeavesRoomModel", "bits", "(I)I"⟩, 78) := ⟨⟨by decide +kernel, by decide +kernel⟩, List.mem_of_getElem? (i := 844) (by decide +kernel), List.mem_of_getElem? (i := 1181) (by decide +kernel), List.mem_of_getElem? (i := 1182) (by decide +kernel)⟩
theorem lw_p49 : lw_okq (⟨"LeavesRoomModel", "goesText", "(I)Z"⟩, 78) := ⟨⟨by decide +kernel, by decide +kernel⟩, List.mem_of_getElem? (i := 844) (by decide +kernel), List.mem_of_getElem? (i := 1197) (by decide +kernel), List.mem_of_getElem? (i := 1198) (by decide +kernel)⟩
theorem lw_p50 : lw_okq (⟨"LeavesRoomModel", "takesClause", "(I)Z"⟩, 78) := ⟨⟨by decide +kernel, by decide +kernel⟩, List.mem_of_getElem? (i := 844) (by decide +kernel), List.mem_of_getElem? (i := 1201) (by decide +kernel), List.mem_of_getElem? (i := 1202) (by decide +kernel)⟩
theorem lw_p51 : lw_okq (⟨"LeavesRoomModel", "takesHead", "(I)Z"⟩, 78) := ⟨⟨by decide +kernel, by decide +kernel⟩, List.mem_of_getElem? (i := 844) (by decide +kernel), List.mem_of_getElem? (i := 1205) (by decide +kernel), List.mem_of_getElem? (i := 1206) (by decide +kernel)⟩
theorem lw_p52 : lw_okq (⟨"LeavesRoomModel", "next", "()I"⟩, 78) := ⟨⟨by decide +kernel, by decide +kernel⟩, List.mem_of_getElem? (i := 844) (by decide +kernel), List.mem_of_getElem? (i := 1209) (by decide +kernel), List.mem_of_getElem? (i := 1210) (by decide +kernel)⟩
theorem lw_p53 : lw_okq (⟨"LeavesRoomModel", "takesWord", "(II)Z"⟩, 78) := ⟨⟨by decide +kernel, by decide +kernel⟩, List.mem_of_getElem? (i := 844) (by decide +kernel), List.mem_of_getElem? (i := 1213) (by decide +kernel), List.mem_of_getElem? (i := 1214) (by decide +kernel)⟩
theorem lw_p54 : lw_okq (⟨"LeavesRoomModel", "takes", "(I)Z"⟩, 78) := ⟨⟨by decide +kernel, by decide +kernel⟩, List.mem_of_getElem? (i := 844) (by decide +kernel), List.mem_of_getElem? (i := 1217) (by decide +kernel), List.mem_of_getElem? (i := 1218) (by decide +kernel)⟩
theorem lw_p55 : lw_okq (⟨"LeavesRoomModel", "takesNumber", "()Z"⟩, 78) := ⟨⟨by decide +kernel, by decide +kernel⟩, List.mem_of_getElem? (i := 844) (by decide +kernel), List.mem_of_getElem? (i := 1221) (by decide +kernel), List.mem_of_getElem? (i := 1222) (by decide +kernel)⟩
theorem lw_p56 : lw_okq (⟨"LeavesRoomModel", "isDigit", "()Z"⟩, 78) := ⟨⟨by decide +kernel, by decide +kernel⟩, List.mem_of_getElem? (i := 844) (by decide +kernel), List.mem_of_getElem? (i := 1225) (by decide +kernel), List.mem_of_getElem? (i := 1226) (by decide +kernel)⟩
theorem lw_p57 : lw_okq (⟨"LeavesRoomModel", "takesE", "(I)Z"⟩, 78) := ⟨⟨by decide +kernel, by decide +kernel⟩, List.mem_of_getElem? (i := 844) (by decide +kernel), List.mem_of_getElem? (i := 1229) (by decide +kernel), List.mem_of_getElem? (i := 1230) (by decide +kernel)⟩
theorem lw_p58 : lw_okq (⟨"LeavesRoomModel", "takesTest", "()Z"⟩, 78) := ⟨⟨by decide +kernel, by decide +kernel⟩, List.mem_of_getElem? (i := 844) (by decide +kernel), List.mem_of_getElem? (i := 1233) (by decide +kernel), List.mem_of_getElem? (i := 1234) (by decide +kernel)⟩
theorem lw_p59 : lw_okq (⟨"LeavesRoomModel", "place", "(I)I"⟩, 78) := ⟨⟨by decide +kernel, by decide +kernel⟩, List.mem_of_getElem? (i := 844) (by decide +kernel), List.mem_of_getElem? (i := 1237) (by decide +kernel), List.mem_of_getElem? (i := 1238) (by decide +kernel)⟩
theorem lw_p60 : lw_okq (⟨"LeavesRoomModel", "emits", "(I)V"⟩, 78) := ⟨⟨by decide +kernel, by decide +kernel⟩, List.mem_of_getElem? (i := 844) (by decide +kernel), List.mem_of_getElem? (i := 1241) (by decide +kernel), List.mem_of_getElem? (i := 1242) (by decide +kernel)⟩
theorem lw_p61 : lw_okq (⟨"LeavesRoomModel", "whole", "()V"⟩, 78) := ⟨⟨by decide +kernel, by decide +kernel⟩, List.mem_of_getElem? (i := 844) (by decide +kernel), List.mem_of_getElem? (i := 1245) (by decide +kernel), List.mem_of_getElem? (i := 1246) (by decide +kernel)⟩
theorem lw_p62 : lw_okq (⟨"LeavesRoomModel", "settle", "(I)V"⟩, 78) := ⟨⟨by decide +kernel, by decide +kernel⟩, List.mem_of_getElem? (i := 844) (by decide +kernel), List.mem_of_getElem? (i := 1249) (by decide +kernel), List.mem_of_getElem? (i := 1250) (by decide +kernel)⟩
theorem lw_p63 : lw_okq (⟨"LeavesRoomModel", "allFond", "()I"⟩, 78) := ⟨⟨by decide +kernel, by decide +kernel⟩, List.mem_of_getElem? (i := 844) (by decide +kernel), List.mem_of_getElem? (i := 1265) (by decide +kernel), List.mem_of_getElem? (i := 1266) (by decide +kernel)⟩
def lw_privs_4 : List (MethodName × Nat) := [(⟨"LeavesRoomModel", "bits", "(I)I"⟩, 78), (⟨"LeavesRoomModel", "goesText", "(I)Z"⟩, 78), (⟨"LeavesRoomModel", "takesClause", "(I)Z"⟩, 78), (⟨"LeavesRoomModel", "takesHead", "(I)Z"⟩, 78), (⟨"LeavesRoomModel", "next", "()I"⟩, 78), (⟨"LeavesRoomModel", "takesWord", "(II)Z"⟩, 78), (⟨"LeavesRoomModel", "takes", "(I)Z"⟩, 78), (⟨"LeavesRoomModel", "takesNumber", "()Z"⟩, 78), (⟨"LeavesRoomModel", "isDigit", "()Z"⟩, 78), (⟨"LeavesRoomModel", "takesE", "(I)Z"⟩, 78), (⟨"LeavesRoomModel", "takesTest", "()Z"⟩, 78), (⟨"LeavesRoomModel", "place", "(I)I"⟩, 78), (⟨"LeavesRoomModel", "emits", "(I)V"⟩, 78), (⟨"LeavesRoomModel", "whole", "()V"⟩, 78), (⟨"LeavesRoomModel", "settle", "(I)V"⟩, 78), (⟨"LeavesRoomModel", "allFond", "()I"⟩, 78)]
theorem lw_r4 : ∀ q ∈ lw_privs_4, lw_okq q := List.forall_mem_cons.mpr ⟨lw_p48, List.forall_mem_cons.mpr ⟨lw_p49, List.forall_mem_cons.mpr ⟨lw_p50, List.forall_mem_cons.mpr ⟨lw_p51, List.forall_mem_cons.mpr ⟨lw_p52, List.forall_mem_cons.mpr ⟨lw_p53, List.forall_mem_cons.mpr ⟨lw_p54, List.forall_mem_cons.mpr ⟨lw_p55, List.forall_mem_cons.mpr ⟨lw_p56, List.forall_mem_cons.mpr ⟨lw_p57, List.forall_mem_cons.mpr ⟨lw_p58, List.forall_mem_cons.mpr ⟨lw_p59, List.forall_mem_cons.mpr ⟨lw_p60, List.forall_mem_cons.mpr ⟨lw_p61, List.forall_mem_cons.mpr ⟨lw_p62, List.forall_mem_cons.mpr ⟨lw_p63, fun _ h => absurd h List.not_mem_nil⟩⟩⟩⟩⟩⟩⟩⟩⟩⟩⟩⟩⟩⟩⟩⟩
theorem lw_p64 : lw_okq (⟨"LeavesRoomModel", "allFondBy", "()I"⟩, 78) := ⟨⟨by decide +kernel, by decide +kernel⟩, List.mem_of_getElem? (i := 844) (by decide +kernel), List.mem_of_getElem? (i := 1269) (by decide +kernel), List.mem_of_getElem? (i := 1270) (by decide +kernel)⟩
theorem lw_p65 : lw_okq (⟨"LeavesRoomModel", "clashes", "()I"⟩, 78) := ⟨⟨by decide +kernel, by decide +kernel⟩, List.mem_of_getElem? (i := 844) (by decide +kernel), List.mem_of_getElem? (i := 1273) (by decide +kernel), List.mem_of_getElem? (i := 1274) (by decide +kernel)⟩
theorem lw_p66 : lw_okq (⟨"LeavesRoomModel", "clashesBy", "()I"⟩, 78) := ⟨⟨by decide +kernel, by decide +kernel⟩, List.mem_of_getElem? (i := 844) (by decide +kernel), List.mem_of_getElem? (i := 1277) (by decide +kernel), List.mem_of_getElem? (i := 1278) (by decide +kernel)⟩
theorem lw_p67 : lw_okq (⟨"LeavesRoomModel", "round", "()I"⟩, 78) := ⟨⟨by decide +kernel, by decide +kernel⟩, List.mem_of_getElem? (i := 844) (by decide +kernel), List.mem_of_getElem? (i := 1281) (by decide +kernel), List.mem_of_getElem? (i := 1282) (by decide +kernel)⟩
theorem lw_p68 : lw_okq (⟨"LeavesRoomModel", "isCovered", "(II)Z"⟩, 78) := ⟨⟨by decide +kernel, by decide +kernel⟩, List.mem_of_getElem? (i := 844) (by decide +kernel), List.mem_of_getElem? (i := 1285) (by decide +kernel), List.mem_of_getElem? (i := 1286) (by decide +kernel)⟩
theorem lw_p69 : lw_okq (⟨"LeavesRoomModel", "isDue", "(I)Z"⟩, 78) := ⟨⟨by decide +kernel, by decide +kernel⟩, List.mem_of_getElem? (i := 844) (by decide +kernel), List.mem_of_getElem? (i := 1289) (by decide +kernel), List.mem_of_getElem? (i := 1290) (by decide +kernel)⟩
theorem lw_p70 : lw_okq (⟨"LeavesRoomModel", "steps", "(Z)I"⟩, 78) := ⟨⟨by decide +kernel, by decide +kernel⟩, List.mem_of_getElem? (i := 844) (by decide +kernel), List.mem_of_getElem? (i := 1293) (by decide +kernel), List.mem_of_getElem? (i := 1294) (by decide +kernel)⟩
theorem lw_p71 : lw_okq (⟨"LeavesRoomModel", "least", "(II)I"⟩, 78) := ⟨⟨by decide +kernel, by decide +kernel⟩, List.mem_of_getElem? (i := 844) (by decide +kernel), List.mem_of_getElem? (i := 1297) (by decide +kernel), List.mem_of_getElem? (i := 1298) (by decide +kernel)⟩
theorem lw_p72 : lw_okq (⟨"LeavesRoomModel", "toward", "()I"⟩, 78) := ⟨⟨by decide +kernel, by decide +kernel⟩, List.mem_of_getElem? (i := 844) (by decide +kernel), List.mem_of_getElem? (i := 1301) (by decide +kernel), List.mem_of_getElem? (i := 1302) (by decide +kernel)⟩
theorem lw_p73 : lw_okq (⟨"LeavesRoomModel", "isYears", "(I)Z"⟩, 78) := ⟨⟨by decide +kernel, by decide +kernel⟩, List.mem_of_getElem? (i := 844) (by decide +kernel), List.mem_of_getElem? (i := 1309) (by decide +kernel), List.mem_of_getElem? (i := 1310) (by decide +kernel)⟩
theorem lw_p74 : lw_okq (⟨"LeavesRoomModel", "goYears", "(I)V"⟩, 78) := ⟨⟨by decide +kernel, by decide +kernel⟩, List.mem_of_getElem? (i := 844) (by decide +kernel), List.mem_of_getElem? (i := 1313) (by decide +kernel), List.mem_of_getElem? (i := 1314) (by decide +kernel)⟩
theorem lw_p75 : lw_okq (⟨"LeavesRoomModel", "goYear", "()V"⟩, 78) := ⟨⟨by decide +kernel, by decide +kernel⟩, List.mem_of_getElem? (i := 844) (by decide +kernel), List.mem_of_getElem? (i := 1317) (by decide +kernel), List.mem_of_getElem? (i := 1318) (by decide +kernel)⟩
theorem lw_p76 : lw_okq (⟨"LeavesRoomModel", "save", "()V"⟩, 78) := ⟨⟨by decide +kernel, by decide +kernel⟩, List.mem_of_getElem? (i := 844) (by decide +kernel), List.mem_of_getElem? (i := 1325) (by decide +kernel), List.mem_of_getElem? (i := 1326) (by decide +kernel)⟩
theorem lw_p77 : lw_okq (⟨"LeavesRoomModel", "usesMore", "()I"⟩, 78) := ⟨⟨by decide +kernel, by decide +kernel⟩, List.mem_of_getElem? (i := 844) (by decide +kernel), List.mem_of_getElem? (i := 1330) (by decide +kernel), List.mem_of_getElem? (i := 1331) (by decide +kernel)⟩
theorem lw_p78 : lw_okq (⟨"LeavesRoomModel", "putBack", "()V"⟩, 78) := ⟨⟨by decide +kernel, by decide +kernel⟩, List.mem_of_getElem? (i := 844) (by decide +kernel), List.mem_of_getElem? (i := 1334) (by decide +kernel), List.mem_of_getElem? (i := 1335) (by decide +kernel)⟩
theorem lw_p79 : lw_okq (⟨"LeavesRoomModel", "layBest", "(Z)V"⟩, 78) := ⟨⟨by decide +kernel, by decide +kernel⟩, List.mem_of_getElem? (i := 844) (by decide +kernel), List.mem_of_getElem? (i := 1346) (by decide +kernel), List.mem_of_getElem? (i := 1347) (by decide +kernel)⟩
def lw_privs_5 : List (MethodName × Nat) := [(⟨"LeavesRoomModel", "allFondBy", "()I"⟩, 78), (⟨"LeavesRoomModel", "clashes", "()I"⟩, 78), (⟨"LeavesRoomModel", "clashesBy", "()I"⟩, 78), (⟨"LeavesRoomModel", "round", "()I"⟩, 78), (⟨"LeavesRoomModel", "isCovered", "(II)Z"⟩, 78), (⟨"LeavesRoomModel", "isDue", "(I)Z"⟩, 78), (⟨"LeavesRoomModel", "steps", "(Z)I"⟩, 78), (⟨"LeavesRoomModel", "least", "(II)I"⟩, 78), (⟨"LeavesRoomModel", "toward", "()I"⟩, 78), (⟨"LeavesRoomModel", "isYears", "(I)Z"⟩, 78), (⟨"LeavesRoomModel", "goYears", "(I)V"⟩, 78), (⟨"LeavesRoomModel", "goYear", "()V"⟩, 78), (⟨"LeavesRoomModel", "save", "()V"⟩, 78), (⟨"LeavesRoomModel", "usesMore", "()I"⟩, 78), (⟨"LeavesRoomModel", "putBack", "()V"⟩, 78), (⟨"LeavesRoomModel", "layBest", "(Z)V"⟩, 78)]
theorem lw_r5 : ∀ q ∈ lw_privs_5, lw_okq q := List.forall_mem_cons.mpr ⟨lw_p64, List.forall_mem_cons.mpr ⟨lw_p65, List.forall_mem_cons.mpr ⟨lw_p66, List.forall_mem_cons.mpr ⟨lw_p67, List.forall_mem_cons.mpr ⟨lw_p68, List.forall_mem_cons.mpr ⟨lw_p69, List.forall_mem_cons.mpr ⟨lw_p70, List.forall_mem_cons.mpr ⟨lw_p71, List.forall_mem_cons.mpr ⟨lw_p72, List.forall_mem_cons.mpr ⟨lw_p73, List.forall_mem_cons.mpr ⟨lw_p74, List.forall_mem_cons.mpr ⟨lw_p75, List.forall_mem_cons.mpr ⟨lw_p76, List.forall_mem_cons.mpr ⟨lw_p77, List.forall_mem_cons.mpr ⟨lw_p78, List.forall_mem_cons.mpr ⟨lw_p79, fun _ h => absurd h List.not_mem_nil⟩⟩⟩⟩⟩⟩⟩⟩⟩⟩⟩⟩⟩⟩⟩⟩
theorem lw_p80 : lw_okq (⟨"LeavesRoomModel", "layPlacing", "(I)Z"⟩, 78) := ⟨⟨by decide +kernel, by decide +kernel⟩, List.mem_of_getElem? (i := 844) (by decide +kernel), List.mem_of_getElem? (i := 1350) (by decide +kernel), List.mem_of_getElem? (i := 1351) (by decide +kernel)⟩
theorem lw_p81 : lw_okq (⟨"LeavesRoomModel", "isSeen", "()Z"⟩, 78) := ⟨⟨by decide +kernel, by decide +kernel⟩, List.mem_of_getElem? (i := 844) (by decide +kernel), List.mem_of_getElem? (i := 1374) (by decide +kernel), List.mem_of_getElem? (i := 1375) (by decide +kernel)⟩
theorem lw_p82 : lw_okq (⟨"LeavesRoomModel", "lowest", "(III)J"⟩, 78) := ⟨⟨by decide +kernel, by decide +kernel⟩, List.mem_of_getElem? (i := 844) (by decide +kernel), List.mem_of_getElem? (i := 1387) (by decide +kernel), List.mem_of_getElem? (i := 1388) (by decide +kernel)⟩
theorem lw_p83 : lw_okq (⟨"LeavesRoomModel", "divisor", "(II)I"⟩, 78) := ⟨⟨by decide +kernel, by decide +kernel⟩, List.mem_of_getElem? (i := 844) (by decide +kernel), List.mem_of_getElem? (i := 1391) (by decide +kernel), List.mem_of_getElem? (i := 1392) (by decide +kernel)⟩
theorem lw_p84 : lw_okq (⟨"LeavesRoomModel", "isTape", "(I)Z"⟩, 78) := ⟨⟨by decide +kernel, by decide +kernel⟩, List.mem_of_getElem? (i := 844) (by decide +kernel), List.mem_of_getElem? (i := 1419) (by decide +kernel), List.mem_of_getElem? (i := 1420) (by decide +kernel)⟩
theorem lw_p85 : lw_okq (⟨"LeavesRoomModel", "sipsAct", "(II)I"⟩, 78) := ⟨⟨by decide +kernel, by decide +kernel⟩, List.mem_of_getElem? (i := 844) (by decide +kernel), List.mem_of_getElem? (i := 1435) (by decide +kernel), List.mem_of_getElem? (i := 1436) (by decide +kernel)⟩
theorem lw_p86 : lw_okq (⟨"LeavesRoomModel", "body", "(I)V"⟩, 78) := ⟨⟨by decide +kernel, by decide +kernel⟩, List.mem_of_getElem? (i := 844) (by decide +kernel), List.mem_of_getElem? (i := 1439) (by decide +kernel), List.mem_of_getElem? (i := 1440) (by decide +kernel)⟩
theorem lw_p87 : lw_okq (⟨"LeavesRoomModel", "guestSips", "(II)I"⟩, 78) := ⟨⟨by decide +kernel, by decide +kernel⟩, List.mem_of_getElem? (i := 844) (by decide +kernel), List.mem_of_getElem? (i := 1443) (by decide +kernel), List.mem_of_getElem? (i := 1444) (by decide +kernel)⟩
theorem lw_p88 : lw_okq (⟨"LeavesRoomModel", "chatsAct", "(II)I"⟩, 78) := ⟨⟨by decide +kernel, by decide +kernel⟩, List.mem_of_getElem? (i := 844) (by decide +kernel), List.mem_of_getElem? (i := 1447) (by decide +kernel), List.mem_of_getElem? (i := 1448) (by decide +kernel)⟩
theorem lw_p89 : lw_okq (⟨"LeavesRoomModel", "wouldChats", "(II)I"⟩, 78) := ⟨⟨by decide +kernel, by decide +kernel⟩, List.mem_of_getElem? (i := 844) (by decide +kernel), List.mem_of_getElem? (i := 1451) (by decide +kernel), List.mem_of_getElem? (i := 1452) (by decide +kernel)⟩
theorem lw_p90 : lw_okq (⟨"LeavesRoomModel", "guestChats", "(II)I"⟩, 78) := ⟨⟨by decide +kernel, by decide +kernel⟩, List.mem_of_getElem? (i := 844) (by decide +kernel), List.mem_of_getElem? (i := 1455) (by decide +kernel), List.mem_of_getElem? (i := 1456) (by decide +kernel)⟩
theorem lw_p91 : lw_okq (⟨"LeavesRoomModel", "tellsAct", "(II)I"⟩, 78) := ⟨⟨by decide +kernel, by decide +kernel⟩, List.mem_of_getElem? (i := 844) (by decide +kernel), List.mem_of_getElem? (i := 1459) (by decide +kernel), List.mem_of_getElem? (i := 1460) (by decide +kernel)⟩
theorem lw_p92 : lw_okq (⟨"LeavesRoomModel", "guestTells", "(II)I"⟩, 78) := ⟨⟨by decide +kernel, by decide +kernel⟩, List.mem_of_getElem? (i := 844) (by decide +kernel), List.mem_of_getElem? (i := 1463) (by decide +kernel), List.mem_of_getElem? (i := 1464) (by decide +kernel)⟩
theorem lw_p93 : lw_okq (⟨"LeavesRoomModel", "narrow", "(IJ)J"⟩, 78) := ⟨⟨by decide +kernel, by decide +kernel⟩, List.mem_of_getElem? (i := 844) (by decide +kernel), List.mem_of_getElem? (i := 1487) (by decide +kernel), List.mem_of_getElem? (i := 1488) (by decide +kernel)⟩
def lw_privs_6 : List (MethodName × Nat) := [(⟨"LeavesRoomModel", "layPlacing", "(I)Z"⟩, 78), (⟨"LeavesRoomModel", "isSeen", "()Z"⟩, 78), (⟨"LeavesRoomModel", "lowest", "(III)J"⟩, 78), (⟨"LeavesRoomModel", "divisor", "(II)I"⟩, 78), (⟨"LeavesRoomModel", "isTape", "(I)Z"⟩, 78), (⟨"LeavesRoomModel", "sipsAct", "(II)I"⟩, 78), (⟨"LeavesRoomModel", "body", "(I)V"⟩, 78), (⟨"LeavesRoomModel", "guestSips", "(II)I"⟩, 78), (⟨"LeavesRoomModel", "chatsAct", "(II)I"⟩, 78), (⟨"LeavesRoomModel", "wouldChats", "(II)I"⟩, 78), (⟨"LeavesRoomModel", "guestChats", "(II)I"⟩, 78), (⟨"LeavesRoomModel", "tellsAct", "(II)I"⟩, 78), (⟨"LeavesRoomModel", "guestTells", "(II)I"⟩, 78), (⟨"LeavesRoomModel", "narrow", "(IJ)J"⟩, 78)]
theorem lw_r6 : ∀ q ∈ lw_privs_6, lw_okq q := List.forall_mem_cons.mpr ⟨lw_p80, List.forall_mem_cons.mpr ⟨lw_p81, List.forall_mem_cons.mpr ⟨lw_p82, List.forall_mem_cons.mpr ⟨lw_p83, List.forall_mem_cons.mpr ⟨lw_p84, List.forall_mem_cons.mpr ⟨lw_p85, List.forall_mem_cons.mpr ⟨lw_p86, List.forall_mem_cons.mpr ⟨lw_p87, List.forall_mem_cons.mpr ⟨lw_p88, List.forall_mem_cons.mpr ⟨lw_p89, List.forall_mem_cons.mpr ⟨lw_p90, List.forall_mem_cons.mpr ⟨lw_p91, List.forall_mem_cons.mpr ⟨lw_p92, List.forall_mem_cons.mpr ⟨lw_p93, fun _ h => absurd h List.not_mem_nil⟩⟩⟩⟩⟩⟩⟩⟩⟩⟩⟩⟩⟩⟩
def lw_privs : List (MethodName × Nat) := lw_privs_1 ++ (lw_privs_2 ++ (lw_privs_3 ++ (lw_privs_4 ++ (lw_privs_5 ++ (lw_privs_6)))))
def lw_tbl : List Cond := k2_sels lw_privs ++ tables_1
theorem lw_privs_ok : ∀ q ∈ lw_privs, lw_okq q := by
  show ∀ q ∈ lw_privs_1 ++ (lw_privs_2 ++ (lw_privs_3 ++ (lw_privs_4 ++ (lw_privs_5 ++ (lw_privs_6))))), lw_okq q
  exact List.forall_mem_append.mpr ⟨lw_r1, List.forall_mem_append.mpr ⟨lw_r2, List.forall_mem_append.mpr ⟨lw_r3, List.forall_mem_append.mpr ⟨lw_r4, List.forall_mem_append.mpr ⟨lw_r5, lw_r6⟩⟩⟩⟩⟩

def RX0 : String := "LeavesRoom$Acts"
def TX0 : u_T := fun k => match k with
  | 0 => ("LeavesRoom$Acts", "trace", "[I", true)
  | 1 => ("LeavesRoom$Acts", "ran", "I", false)
  | 2 => ("LeavesRoom$Acts", "itsKind", "I", false)
  | 3 => ("LeavesRoom$Acts", "v", "I", false)
  | _ => ("LeavesRoom$Acts", "i", "I", false)
def tyX0 : Nat → FieldType := fun k => match k with
  | 0 => .array .int
  | 1 => .int
  | 2 => .int
  | 3 => .int
  | _ => .int
abbrev wsX00 : List Cond := u_ws RX0 TX0 5
theorem nmX0 : ∀ a, a < 5 → ∀ b, b < 5 → a ≠ b → (TX0 a).2.1 ≠ (TX0 b).2.1 := by decide +kernel
theorem tyX0_ok : ∀ k, k < 5 → parseFieldDescriptor (TX0 k).2.2.1 = some (tyX0 k) := by decide +kernel
abbrev cX0_init : ByteArray := prog_2_method_1_code
def yX0_init : MethodName := ⟨RX0, "<init>", "()V"⟩
abbrev cX0_forget : ByteArray := prog_2_method_2_code
def yX0_forget : MethodName := ⟨RX0, "forget", "()V"⟩
abbrev cX0_kept : ByteArray := prog_2_method_3_code
def yX0_kept : MethodName := ⟨RX0, "kept", "()I"⟩
abbrev cX0_begin : ByteArray := prog_2_method_4_code
def yX0_begin : MethodName := ⟨RX0, "begin", "(IIIII)I"⟩
abbrev cX0_own : ByteArray := prog_2_method_5_code
def yX0_own : MethodName := ⟨RX0, "own", "(III)I"⟩
abbrev cX0_from : ByteArray := prog_2_method_6_code
def yX0_from : MethodName := ⟨RX0, "from", "(IIII)I"⟩
abbrev cX0_runBody : ByteArray := prog_2_method_7_code
def yX0_runBody : MethodName := ⟨RX0, "runBody", "(III)I"⟩
def RX1 : String := "LeavesRoom$Evening"
def TX1 : u_T := fun k => match k with
  | 0 => ("LeavesRoom$Evening", "table", "LLeavesRoom$Table;", true)
  | 1 => ("LeavesRoom$Evening", "seen", "LLeavesRoom$Rows;", true)
  | 2 => ("LeavesRoom$Evening", "plan", "LLeavesRoom$Rows;", true)
  | _ => ("LeavesRoom$Evening", "book", "LLeavesRoom$Rows;", true)
def tyX1 : Nat → FieldType := fun k => match k with
  | 0 => .object "LeavesRoom$Table"
  | 1 => .object "LeavesRoom$Rows"
  | 2 => .object "LeavesRoom$Rows"
  | _ => .object "LeavesRoom$Rows"
abbrev wsX10 : List Cond := u_ws RX1 TX1 4
theorem nmX1 : ∀ a, a < 4 → ∀ b, b < 4 → a ≠ b → (TX1 a).2.1 ≠ (TX1 b).2.1 := by decide +kernel
theorem tyX1_ok : ∀ k, k < 4 → parseFieldDescriptor (TX1 k).2.2.1 = some (tyX1 k) := by decide +kernel
abbrev cX1_init : ByteArray := prog_3_method_1_code
def yX1_init : MethodName := ⟨RX1, "<init>", "(LLeavesRoom$House;)V"⟩
abbrev cX1_copyFrom : ByteArray := prog_3_method_2_code
def yX1_copyFrom : MethodName := ⟨RX1, "copyFrom", "(LLeavesRoom$Evening;)V"⟩
def RX2 : String := "LeavesRoom$House"
def TX2 : u_T := fun k => match k with
  | 0 => ("LeavesRoom$House", "steps", "[I", true)
  | 1 => ("LeavesRoom$House", "stepCount", "I", false)
  | 2 => ("LeavesRoom$House", "weight", "[I", true)
  | 3 => ("LeavesRoom$House", "end", "[I", true)
  | 4 => ("LeavesRoom$House", "weightCount", "I", false)
  | 5 => ("LeavesRoom$House", "thirst", "I", false)
  | 6 => ("LeavesRoom$House", "window", "I", false)
  | _ => ("LeavesRoom$House", "asksYear", "Z", false)
def tyX2 : Nat → FieldType := fun k => match k with
  | 0 => .array .int
  | 1 => .int
  | 2 => .array .int
  | 3 => .array .int
  | 4 => .int
  | 5 => .int
  | 6 => .int
  | _ => .boolean
abbrev wsX20 : List Cond := u_ws RX2 TX2 8
theorem nmX2 : ∀ a, a < 8 → ∀ b, b < 8 → a ≠ b → (TX2 a).2.1 ≠ (TX2 b).2.1 := by decide +kernel
theorem tyX2_ok : ∀ k, k < 8 → parseFieldDescriptor (TX2 k).2.2.1 = some (tyX2 k) := by decide +kernel
abbrev cX2_init : ByteArray := prog_4_method_1_code
def yX2_init : MethodName := ⟨RX2, "<init>", "()V"⟩
abbrev cX2_clear : ByteArray := prog_4_method_2_code
def yX2_clear : MethodName := ⟨RX2, "clear", "()V"⟩
abbrev cX2_addStep : ByteArray := prog_4_method_3_code
def yX2_addStep : MethodName := ⟨RX2, "addStep", "(I)V"⟩
abbrev cX2_addTest : ByteArray := prog_4_method_4_code
def yX2_addTest : MethodName := ⟨RX2, "addTest", "(III)V"⟩
abbrev cX2_addWeight : ByteArray := prog_4_method_5_code
def yX2_addWeight : MethodName := ⟨RX2, "addWeight", "(I)V"⟩
abbrev cX2_liking : ByteArray := prog_4_method_6_code
def yX2_liking : MethodName := ⟨RX2, "liking", "([I)I"⟩
abbrev cX2_holds : ByteArray := prog_4_method_7_code
def yX2_holds : MethodName := ⟨RX2, "holds", "(II[I)Z"⟩
abbrev cX2_isSo : ByteArray := prog_4_method_8_code
def yX2_isSo : MethodName := ⟨RX2, "isSo", "(I[I)Z"⟩
def RX3 : String := "LeavesRoom$Placings"
def TX3 : u_T := fun k => match k with
  | 0 => ("LeavesRoom$Placings", "table", "LLeavesRoom$Table;", true)
  | 1 => ("LeavesRoom$Placings", "seat", "[I", true)
  | 2 => ("LeavesRoom$Placings", "fond", "I", false)
  | 3 => ("LeavesRoom$Placings", "clashes", "I", false)
  | 4 => ("LeavesRoom$Placings", "isForPeace", "Z", false)
  | _ => ("LeavesRoom$Placings", "isFirst", "Z", false)
def tyX3 : Nat → FieldType := fun k => match k with
  | 0 => .object "LeavesRoom$Table"
  | 1 => .array .int
  | 2 => .int
  | 3 => .int
  | 4 => .boolean
  | _ => .boolean
abbrev wsX30 : List Cond := u_ws RX3 TX3 6
theorem nmX3 : ∀ a, a < 6 → ∀ b, b < 6 → a ≠ b → (TX3 a).2.1 ≠ (TX3 b).2.1 := by decide +kernel
theorem tyX3_ok : ∀ k, k < 6 → parseFieldDescriptor (TX3 k).2.2.1 = some (tyX3 k) := by decide +kernel
abbrev cX3_init : ByteArray := prog_5_method_1_code
def yX3_init : MethodName := ⟨RX3, "<init>", "(LLeavesRoom$Table;)V"⟩
abbrev cX3_find : ByteArray := prog_5_method_2_code
def yX3_find : MethodName := ⟨RX3, "find", "(LLeavesRoom$Table;Z)V"⟩
abbrev cX3_placeFrom : ByteArray := prog_5_method_3_code
def yX3_placeFrom : MethodName := ⟨RX3, "placeFrom", "(I)V"⟩
abbrev cX3_placeOn : ByteArray := prog_5_method_4_code
def yX3_placeOn : MethodName := ⟨RX3, "placeOn", "(II)V"⟩
abbrev cX3_weigh : ByteArray := prog_5_method_5_code
def yX3_weigh : MethodName := ⟨RX3, "weigh", "(II)V"⟩
def RX4 : String := "LeavesRoom$Reader"
def TX4 : u_T := fun k => match k with
  | 0 => ("LeavesRoom$Reader", "house", "LLeavesRoom$House;", false)
  | 1 => ("LeavesRoom$Reader", "text", "[B", false)
  | 2 => ("LeavesRoom$Reader", "length", "I", false)
  | 3 => ("LeavesRoom$Reader", "at", "I", false)
  | _ => ("LeavesRoom$Reader", "number", "I", false)
def tyX4 : Nat → FieldType := fun k => match k with
  | 0 => .object "LeavesRoom$House"
  | 1 => .array .byte
  | 2 => .int
  | 3 => .int
  | _ => .int
abbrev wsX40 : List Cond := u_ws RX4 TX4 5
theorem nmX4 : ∀ a, a < 5 → ∀ b, b < 5 → a ≠ b → (TX4 a).2.1 ≠ (TX4 b).2.1 := by decide +kernel
theorem tyX4_ok : ∀ k, k < 5 → parseFieldDescriptor (TX4 k).2.2.1 = some (tyX4 k) := by decide +kernel
abbrev cX4_init : ByteArray := prog_6_method_1_code
def yX4_init : MethodName := ⟨RX4, "<init>", "()V"⟩
abbrev cX4_readInto : ByteArray := prog_6_method_2_code
def yX4_readInto : MethodName := ⟨RX4, "readInto", "(LLeavesRoom$House;[BI)I"⟩
abbrev cX4_isClause : ByteArray := prog_6_method_3_code
def yX4_isClause : MethodName := ⟨RX4, "isClause", "()Z"⟩
abbrev cX4_wordFrom : ByteArray := prog_6_method_4_code
def yX4_wordFrom : MethodName := ⟨RX4, "wordFrom", "(I)Ljava/lang/String;"⟩
abbrev cX4_isEither : ByteArray := prog_6_method_5_code
def yX4_isEither : MethodName := ⟨RX4, "isEither", "(I)Z"⟩
abbrev cX4_isFactor : ByteArray := prog_6_method_6_code
def yX4_isFactor : MethodName := ⟨RX4, "isFactor", "(I)Z"⟩
abbrev cX4_isNest : ByteArray := prog_6_method_7_code
def yX4_isNest : MethodName := ⟨RX4, "isNest", "(II)Z"⟩
abbrev cX4_factOf : ByteArray := prog_6_method_8_code
def yX4_factOf : MethodName := ⟨RX4, "factOf", "(I)I"⟩
abbrev cX4_compareOf : ByteArray := prog_6_method_9_code
def yX4_compareOf : MethodName := ⟨RX4, "compareOf", "(I)I"⟩
abbrev cX4_isNumber : ByteArray := prog_6_method_10_code
def yX4_isNumber : MethodName := ⟨RX4, "isNumber", "()Z"⟩
abbrev cX4_isWord : ByteArray := prog_6_method_11_code
def yX4_isWord : MethodName := ⟨RX4, "isWord", "(Ljava/lang/String;)Z"⟩
abbrev cX4_isSign : ByteArray := prog_6_method_12_code
def yX4_isSign : MethodName := ⟨RX4, "isSign", "(I)Z"⟩
abbrev cX4_next : ByteArray := prog_6_method_13_code
def yX4_next : MethodName := ⟨RX4, "next", "()I"⟩
def RX5 : String := "LeavesRoom$Rows"
def TX5 : u_T := fun k => match k with
  | 0 => ("LeavesRoom$Rows", "first", "[I", true)
  | 1 => ("LeavesRoom$Rows", "second", "[I", true)
  | 2 => ("LeavesRoom$Rows", "third", "[I", true)
  | 3 => ("LeavesRoom$Rows", "most", "I", true)
  | _ => ("LeavesRoom$Rows", "size", "I", false)
def tyX5 : Nat → FieldType := fun k => match k with
  | 0 => .array .int
  | 1 => .array .int
  | 2 => .array .int
  | 3 => .int
  | _ => .int
abbrev wsX50 : List Cond := u_ws RX5 TX5 5
theorem nmX5 : ∀ a, a < 5 → ∀ b, b < 5 → a ≠ b → (TX5 a).2.1 ≠ (TX5 b).2.1 := by decide +kernel
theorem tyX5_ok : ∀ k, k < 5 → parseFieldDescriptor (TX5 k).2.2.1 = some (tyX5 k) := by decide +kernel
abbrev cX5_init : ByteArray := prog_7_method_1_code
def yX5_init : MethodName := ⟨RX5, "<init>", "(I)V"⟩
abbrev cX5_empty : ByteArray := prog_7_method_2_code
def yX5_empty : MethodName := ⟨RX5, "empty", "()I"⟩
abbrev cX5_add : ByteArray := prog_7_method_3_code
def yX5_add : MethodName := ⟨RX5, "add", "(III)I"⟩
abbrev cX5_greatestThird : ByteArray := prog_7_method_4_code
def yX5_greatestThird : MethodName := ⟨RX5, "greatestThird", "()I"⟩
abbrev cX5_copyFrom : ByteArray := prog_7_method_5_code
def yX5_copyFrom : MethodName := ⟨RX5, "copyFrom", "(LLeavesRoom$Rows;)V"⟩
def RX6 : String := "LeavesRoom$Table"
def TX6 : u_T := fun k => match k with
  | 0 => ("LeavesRoom$Table", "kind", "[I", true)
  | 1 => ("LeavesRoom$Table", "v", "[I", true)
  | 2 => ("LeavesRoom$Table", "seat", "[I", true)
  | 3 => ("LeavesRoom$Table", "used", "[I", true)
  | 4 => ("LeavesRoom$Table", "empty", "[Z", true)
  | 5 => ("LeavesRoom$Table", "gone", "[Z", true)
  | 6 => ("LeavesRoom$Table", "rows", "[I", true)
  | 7 => ("LeavesRoom$Table", "sitter", "[I", true)
  | 8 => ("LeavesRoom$Table", "bond", "[I", true)
  | 9 => ("LeavesRoom$Table", "facts", "[I", true)
  | 10 => ("LeavesRoom$Table", "size", "I", false)
  | 11 => ("LeavesRoom$Table", "pot", "I", false)
  | 12 => ("LeavesRoom$Table", "year", "I", false)
  | _ => ("LeavesRoom$Table", "house", "LLeavesRoom$House;", false)
def tyX6 : Nat → FieldType := fun k => match k with
  | 0 => .array .int
  | 1 => .array .int
  | 2 => .array .int
  | 3 => .array .int
  | 4 => .array .boolean
  | 5 => .array .boolean
  | 6 => .array .int
  | 7 => .array .int
  | 8 => .array .int
  | 9 => .array .int
  | 10 => .int
  | 11 => .int
  | 12 => .int
  | _ => .object "LeavesRoom$House"
abbrev wsX60 : List Cond := u_ws RX6 TX6 14
theorem nmX6 : ∀ a, a < 14 → ∀ b, b < 14 → a ≠ b → (TX6 a).2.1 ≠ (TX6 b).2.1 := by decide +kernel
theorem tyX6_ok : ∀ k, k < 14 → parseFieldDescriptor (TX6 k).2.2.1 = some (tyX6 k) := by decide +kernel
abbrev cX6_init : ByteArray := prog_8_method_1_code
def yX6_init : MethodName := ⟨RX6, "<init>", "(LLeavesRoom$House;)V"⟩
abbrev cX6_copyFrom : ByteArray := prog_8_method_2_code
def yX6_copyFrom : MethodName := ⟨RX6, "copyFrom", "(LLeavesRoom$Table;)V"⟩
abbrev cX6_takeIn : ByteArray := prog_8_method_3_code
def yX6_takeIn : MethodName := ⟨RX6, "takeIn", "(II)I"⟩
abbrev cX6_freeSeat : ByteArray := prog_8_method_4_code
def yX6_freeSeat : MethodName := ⟨RX6, "freeSeat", "()I"⟩
abbrev cX6_place : ByteArray := prog_8_method_5_code
def yX6_place : MethodName := ⟨RX6, "place", "(II)V"⟩
abbrev cX6_moveTo : ByteArray := prog_8_method_6_code
def yX6_moveTo : MethodName := ⟨RX6, "moveTo", "(II)V"⟩
abbrev cX6_hold : ByteArray := prog_8_method_7_code
def yX6_hold : MethodName := ⟨RX6, "hold", "(LLeavesRoom$House;)V"⟩
abbrev cX6_becomeV : ByteArray := prog_8_method_8_code
def yX6_becomeV : MethodName := ⟨RX6, "becomeV", "(II)V"⟩
abbrev cX6_reckon : ByteArray := prog_8_method_9_code
def yX6_reckon : MethodName := ⟨RX6, "reckon", "()V"⟩
abbrev cX6_liking : ByteArray := prog_8_method_10_code
def yX6_liking : MethodName := ⟨RX6, "liking", "(II)I"⟩
abbrev cX6_neighbourAt : ByteArray := prog_8_method_11_code
def yX6_neighbourAt : MethodName := ⟨RX6, "neighbourAt", "(I)I"⟩
abbrev cX6_neighbours : ByteArray := prog_8_method_12_code
def yX6_neighbours : MethodName := ⟨RX6, "neighbours", "(I)I"⟩
abbrev cX6_fondOf : ByteArray := prog_8_method_13_code
def yX6_fondOf : MethodName := ⟨RX6, "fondOf", "(I)I"⟩
abbrev cX6_warmth : ByteArray := prog_8_method_14_code
def yX6_warmth : MethodName := ⟨RX6, "warmth", "(II)I"⟩
abbrev cX6_fondOfAll : ByteArray := prog_8_method_15_code
def yX6_fondOfAll : MethodName := ⟨RX6, "fondOfAll", "()I"⟩
abbrev cX6_clashes : ByteArray := prog_8_method_16_code
def yX6_clashes : MethodName := ⟨RX6, "clashes", "()I"⟩
abbrev cX6_yearsGo : ByteArray := prog_8_method_17_code
def yX6_yearsGo : MethodName := ⟨RX6, "yearsGo", "(I)V"⟩
abbrev cX6_pourAt : ByteArray := prog_8_method_18_code
def yX6_pourAt : MethodName := ⟨RX6, "pourAt", "(I)V"⟩
abbrev cX6_emptyCups : ByteArray := prog_8_method_19_code
def yX6_emptyCups : MethodName := ⟨RX6, "emptyCups", "()I"⟩
abbrev cX6_usedOfAll : ByteArray := prog_8_method_20_code
def yX6_usedOfAll : MethodName := ⟨RX6, "usedOfAll", "()I"⟩
abbrev cX6_round : ByteArray := prog_8_method_21_code
def yX6_round : MethodName := ⟨RX6, "round", "()I"⟩
abbrev cX6_toward : ByteArray := prog_8_method_22_code
def yX6_toward : MethodName := ⟨RX6, "toward", "()I"⟩
abbrev cX6_stepsOn : ByteArray := prog_8_method_23_code
def yX6_stepsOn : MethodName := ⟨RX6, "stepsOn", "()I"⟩
abbrev cX6_stepsBack : ByteArray := prog_8_method_24_code
def yX6_stepsBack : MethodName := ⟨RX6, "stepsBack", "()I"⟩
abbrev cX6_farthestBack : ByteArray := prog_8_method_25_code
def yX6_farthestBack : MethodName := ⟨RX6, "farthestBack", "(I)I"⟩
def RX7 : String := "LeavesRoom$Tape"
def TX7 : u_T := fun k => match k with
  | 0 => ("LeavesRoom$Tape", "items", "[J", true)
  | 1 => ("LeavesRoom$Tape", "sort", "I", false)
  | _ => ("LeavesRoom$Tape", "length", "I", false)
def tyX7 : Nat → FieldType := fun k => match k with
  | 0 => .array .long
  | 1 => .int
  | _ => .int
abbrev wsX70 : List Cond := u_ws RX7 TX7 3
theorem nmX7 : ∀ a, a < 3 → ∀ b, b < 3 → a ≠ b → (TX7 a).2.1 ≠ (TX7 b).2.1 := by decide +kernel
theorem tyX7_ok : ∀ k, k < 3 → parseFieldDescriptor (TX7 k).2.2.1 = some (tyX7 k) := by decide +kernel
abbrev cX7_init : ByteArray := prog_9_method_1_code
def yX7_init : MethodName := ⟨RX7, "<init>", "()V"⟩
abbrev cX7_become : ByteArray := prog_9_method_2_code
def yX7_become : MethodName := ⟨RX7, "become", "(II)V"⟩
abbrev cX7_hasPlace : ByteArray := prog_9_method_3_code
def yX7_hasPlace : MethodName := ⟨RX7, "hasPlace", "(I)Z"⟩
abbrev cX7_hasPlaces : ByteArray := prog_9_method_4_code
def yX7_hasPlaces : MethodName := ⟨RX7, "hasPlaces", "(II)Z"⟩
abbrev cX7_put : ByteArray := prog_9_method_5_code
def yX7_put : MethodName := ⟨RX7, "put", "(IJ)V"⟩
def RX8 : String := "LeavesRoom"
def TX8 : u_T := fun k => match k with
  | 0 => ("LeavesRoom", "now", "LLeavesRoom$Evening;", true)
  | 1 => ("LeavesRoom", "image", "LLeavesRoom$Evening;", true)
  | 2 => ("LeavesRoom", "hasImage", "Z", false)
  | 3 => ("LeavesRoom", "trial", "LLeavesRoom$Table;", true)
  | 4 => ("LeavesRoom", "text", "[B", true)
  | 5 => ("LeavesRoom", "textLength", "I", false)
  | 6 => ("LeavesRoom", "houses", "[LLeavesRoom$House;", true)
  | 7 => ("LeavesRoom", "houseCount", "I", false)
  | 8 => ("LeavesRoom", "reader", "LLeavesRoom$Reader;", true)
  | 9 => ("LeavesRoom", "placings", "LLeavesRoom$Placings;", true)
  | 10 => ("LeavesRoom", "acts", "LLeavesRoom$Acts;", true)
  | _ => ("LeavesRoom", "tapes", "[LLeavesRoom$Tape;", true)
def tyX8 : Nat → FieldType := fun k => match k with
  | 0 => .object "LeavesRoom$Evening"
  | 1 => .object "LeavesRoom$Evening"
  | 2 => .boolean
  | 3 => .object "LeavesRoom$Table"
  | 4 => .array .byte
  | 5 => .int
  | 6 => .array (.object "LeavesRoom$House")
  | 7 => .int
  | 8 => .object "LeavesRoom$Reader"
  | 9 => .object "LeavesRoom$Placings"
  | 10 => .object "LeavesRoom$Acts"
  | _ => .array (.object "LeavesRoom$Tape")
abbrev wsX80 : List Cond := u_ws RX8 TX8 12
theorem nmX8 : ∀ a, a < 12 → ∀ b, b < 12 → a ≠ b → (TX8 a).2.1 ≠ (TX8 b).2.1 := by decide +kernel
theorem tyX8_ok : ∀ k, k < 12 → parseFieldDescriptor (TX8 k).2.2.1 = some (tyX8 k) := by decide +kernel
abbrev cX8_init : ByteArray := prog_1_method_1_code
def yX8_init : MethodName := ⟨RX8, "<init>", "()V"⟩
abbrev cX8_guest : ByteArray := prog_1_method_2_code
def yX8_guest : MethodName := ⟨RX8, "guest", "(II)I"⟩
abbrev cX8_of : ByteArray := prog_1_method_3_code
def yX8_of : MethodName := ⟨RX8, "of", "(II)I"⟩
abbrev cX8_likes : ByteArray := prog_1_method_4_code
def yX8_likes : MethodName := ⟨RX8, "likes", "(II)I"⟩
abbrev cX8_sit : ByteArray := prog_1_method_5_code
def yX8_sit : MethodName := ⟨RX8, "sit", "(II)I"⟩
abbrev cX8_leave : ByteArray := prog_1_method_6_code
def yX8_leave : MethodName := ⟨RX8, "leave", "(IZ)I"⟩
abbrev cX8_pour : ByteArray := prog_1_method_7_code
def yX8_pour : MethodName := ⟨RX8, "pour", "(I)I"⟩
abbrev cX8_row : ByteArray := prog_1_method_8_code
def yX8_row : MethodName := ⟨RX8, "row", "(III)I"⟩
abbrev cX8_feed : ByteArray := prog_1_method_9_code
def yX8_feed : MethodName := ⟨RX8, "feed", "(I)I"⟩
abbrev cX8_house : ByteArray := prog_1_method_10_code
def yX8_house : MethodName := ⟨RX8, "house", "()I"⟩
abbrev cX8_told : ByteArray := prog_1_method_11_code
def yX8_told : MethodName := ⟨RX8, "told", "(I)I"⟩
abbrev cX8_sitterOr : ByteArray := prog_1_method_12_code
def yX8_sitterOr : MethodName := ⟨RX8, "sitterOr", "(I)I"⟩
abbrev cX8_pass : ByteArray := prog_1_method_13_code
def yX8_pass : MethodName := ⟨RX8, "pass", "(I)I"⟩
abbrev cX8_on : ByteArray := prog_1_method_14_code
def yX8_on : MethodName := ⟨RX8, "on", "(II)I"⟩
abbrev cX8_soon : ByteArray := prog_1_method_15_code
def yX8_soon : MethodName := ⟨RX8, "soon", "(I)I"⟩
abbrev cX8_usedMore : ByteArray := prog_1_method_16_code
def yX8_usedMore : MethodName := ⟨RX8, "usedMore", "()I"⟩
abbrev cX8_best : ByteArray := prog_1_method_17_code
def yX8_best : MethodName := ⟨RX8, "best", "(I)I"⟩
abbrev cX8_peace : ByteArray := prog_1_method_18_code
def yX8_peace : MethodName := ⟨RX8, "peace", "(I)I"⟩
abbrev cX8_change : ByteArray := prog_1_method_19_code
def yX8_change : MethodName := ⟨RX8, "change", "()I"⟩
abbrev cX8_seat : ByteArray := prog_1_method_20_code
def yX8_seat : MethodName := ⟨RX8, "seat", "(I)I"⟩
abbrev cX8_see : ByteArray := prog_1_method_21_code
def yX8_see : MethodName := ⟨RX8, "see", "(IZI)I"⟩
abbrev cX8_where : ByteArray := prog_1_method_22_code
def yX8_where : MethodName := ⟨RX8, "where", "(I)I"⟩
abbrev cX8_can : ByteArray := prog_1_method_23_code
def yX8_can : MethodName := ⟨RX8, "can", "(II)I"⟩
abbrev cX8_isAllSeenSo : ByteArray := prog_1_method_24_code
def yX8_isAllSeenSo : MethodName := ⟨RX8, "isAllSeenSo", "()Z"⟩
abbrev cX8_isOneSeenOtherwise : ByteArray := prog_1_method_25_code
def yX8_isOneSeenOtherwise : MethodName := ⟨RX8, "isOneSeenOtherwise", "(I)Z"⟩
abbrev cX8_odds : ByteArray := prog_1_method_26_code
def yX8_odds : MethodName := ⟨RX8, "odds", "(II)J"⟩
abbrev cX8_mean : ByteArray := prog_1_method_27_code
def yX8_mean : MethodName := ⟨RX8, "mean", "(I)J"⟩
abbrev cX8_lowest : ByteArray := prog_1_method_28_code
def yX8_lowest : MethodName := ⟨RX8, "lowest", "(III)J"⟩
abbrev cX8_plan : ByteArray := prog_1_method_29_code
def yX8_plan : MethodName := ⟨RX8, "plan", "(II)I"⟩
abbrev cX8_ends : ByteArray := prog_1_method_30_code
def yX8_ends : MethodName := ⟨RX8, "ends", "(I)I"⟩
abbrev cX8_tryPlanned : ByteArray := prog_1_method_31_code
def yX8_tryPlanned : MethodName := ⟨RX8, "tryPlanned", "(II)V"⟩
abbrev cX8_book : ByteArray := prog_1_method_32_code
def yX8_book : MethodName := ⟨RX8, "book", "(II)I"⟩
abbrev cX8_looked : ByteArray := prog_1_method_33_code
def yX8_looked : MethodName := ⟨RX8, "looked", "()I"⟩
abbrev cX8_judge : ByteArray := prog_1_method_34_code
def yX8_judge : MethodName := ⟨RX8, "judge", "(II)I"⟩
abbrev cX8_image : ByteArray := prog_1_method_35_code
def yX8_image : MethodName := ⟨RX8, "image", "()I"⟩
abbrev cX8_undo : ByteArray := prog_1_method_36_code
def yX8_undo : MethodName := ⟨RX8, "undo", "()I"⟩
abbrev cX8_act : ByteArray := prog_1_method_37_code
def yX8_act : MethodName := ⟨RX8, "act", "(III)I"⟩
abbrev cX8_trace : ByteArray := prog_1_method_38_code
def yX8_trace : MethodName := ⟨RX8, "trace", "(I)I"⟩
abbrev cX8_taken : ByteArray := prog_1_method_39_code
def yX8_taken : MethodName := ⟨RX8, "taken", "(II)I"⟩
abbrev cX8_count : ByteArray := prog_1_method_40_code
def yX8_count : MethodName := ⟨RX8, "count", "(I)I"⟩
abbrev cX8_tape : ByteArray := prog_1_method_41_code
def yX8_tape : MethodName := ⟨RX8, "tape", "(III)I"⟩
abbrev cX8_item : ByteArray := prog_1_method_42_code
def yX8_item : MethodName := ⟨RX8, "item", "(IIJ)I"⟩
abbrev cX8_read : ByteArray := prog_1_method_43_code
def yX8_read : MethodName := ⟨RX8, "read", "(II)J"⟩
abbrev cX8_shift : ByteArray := prog_1_method_44_code
def yX8_shift : MethodName := ⟨RX8, "shift", "(IIIII)I"⟩
abbrev cX8_isGuest : ByteArray := prog_1_method_45_code
def yX8_isGuest : MethodName := ⟨RX8, "isGuest", "(I)Z"⟩
abbrev cX8_isSeat : ByteArray := prog_1_method_46_code
def yX8_isSeat : MethodName := ⟨RX8, "isSeat", "(I)Z"⟩
abbrev cX8_isTape : ByteArray := prog_1_method_47_code
def yX8_isTape : MethodName := ⟨RX8, "isTape", "(I)Z"⟩
abbrev cX8_isDigit : ByteArray := prog_1_method_48_code
def yX8_isDigit : MethodName := ⟨RX8, "isDigit", "(I)Z"⟩
abbrev cX8_oneIf : ByteArray := prog_1_method_49_code
def yX8_oneIf : MethodName := ⟨RX8, "oneIf", "(Z)I"⟩
def RX9 : String := "LeavesRoomModel"
def TX9 : u_T := fun k => match k with
  | 0 => ("LeavesRoomModel", "guests", "I", false)
  | 1 => ("LeavesRoomModel", "gone", "I", false)
  | 2 => ("LeavesRoomModel", "empty", "I", false)
  | 3 => ("LeavesRoomModel", "pot", "I", false)
  | 4 => ("LeavesRoomModel", "years", "I", false)
  | 5 => ("LeavesRoomModel", "kind", "[I", true)
  | 6 => ("LeavesRoomModel", "v", "[I", true)
  | 7 => ("LeavesRoomModel", "seatOf", "[I", true)
  | 8 => ("LeavesRoomModel", "uses", "[I", true)
  | 9 => ("LeavesRoomModel", "rows", "[I", true)
  | 10 => ("LeavesRoomModel", "houses", "I", false)
  | 11 => ("LeavesRoomModel", "the", "I", false)
  | 12 => ("LeavesRoomModel", "fed", "I", false)
  | 13 => ("LeavesRoomModel", "at", "I", false)
  | 14 => ("LeavesRoomModel", "digits", "I", false)
  | 15 => ("LeavesRoomModel", "text", "[I", true)
  | 16 => ("LeavesRoomModel", "clauses", "[I", true)
  | 17 => ("LeavesRoomModel", "word", "[I", true)
  | 18 => ("LeavesRoomModel", "number", "[I", true)
  | 19 => ("LeavesRoomModel", "from", "[I", true)
  | 20 => ("LeavesRoomModel", "to", "[I", true)
  | 21 => ("LeavesRoomModel", "sign", "[I", true)
  | 22 => ("LeavesRoomModel", "waits", "[I", true)
  | 23 => ("LeavesRoomModel", "signs", "I", false)
  | 24 => ("LeavesRoomModel", "waiting", "I", false)
  | 25 => ("LeavesRoomModel", "open", "I", false)
  | 26 => ("LeavesRoomModel", "letters", "[I", true)
  | 27 => ("LeavesRoomModel", "pile", "[Z", true)
  | 28 => ("LeavesRoomModel", "liked", "[I", true)
  | 29 => ("LeavesRoomModel", "mostUses", "I", false)
  | 30 => ("LeavesRoomModel", "keptGone", "I", false)
  | 31 => ("LeavesRoomModel", "keptEmpty", "I", false)
  | 32 => ("LeavesRoomModel", "keptPot", "I", false)
  | 33 => ("LeavesRoomModel", "keptYears", "I", false)
  | 34 => ("LeavesRoomModel", "keptSeat", "[I", true)
  | 35 => ("LeavesRoomModel", "keptUses", "[I", true)
  | 36 => ("LeavesRoomModel", "bestSeat", "[I", true)
  | 37 => ("LeavesRoomModel", "bestClashes", "I", false)
  | 38 => ("LeavesRoomModel", "bestFond", "I", false)
  | 39 => ("LeavesRoomModel", "seen", "I", false)
  | 40 => ("LeavesRoomModel", "seenWho", "[I", true)
  | 41 => ("LeavesRoomModel", "seenWhen", "[I", true)
  | 42 => ("LeavesRoomModel", "seenEmpty", "[Z", true)
  | 43 => ("LeavesRoomModel", "triedSeat", "[I", true)
  | 44 => ("LeavesRoomModel", "plans", "I", false)
  | 45 => ("LeavesRoomModel", "books", "I", false)
  | 46 => ("LeavesRoomModel", "planWhat", "[I", true)
  | 47 => ("LeavesRoomModel", "planNumber", "[I", true)
  | 48 => ("LeavesRoomModel", "bookWho", "[I", true)
  | 49 => ("LeavesRoomModel", "bookSeat", "[I", true)
  | 50 => ("LeavesRoomModel", "hasImage", "Z", false)
  | 51 => ("LeavesRoomModel", "imageThe", "I", false)
  | 52 => ("LeavesRoomModel", "imageGuests", "I", false)
  | 53 => ("LeavesRoomModel", "imageGone", "I", false)
  | 54 => ("LeavesRoomModel", "imageEmpty", "I", false)
  | 55 => ("LeavesRoomModel", "imagePot", "I", false)
  | 56 => ("LeavesRoomModel", "imageYears", "I", false)
  | 57 => ("LeavesRoomModel", "imageSeen", "I", false)
  | 58 => ("LeavesRoomModel", "imagePlans", "I", false)
  | 59 => ("LeavesRoomModel", "imageBooks", "I", false)
  | 60 => ("LeavesRoomModel", "imageKind", "[I", true)
  | 61 => ("LeavesRoomModel", "imageV", "[I", true)
  | 62 => ("LeavesRoomModel", "imageSeat", "[I", true)
  | 63 => ("LeavesRoomModel", "imageUses", "[I", true)
  | 64 => ("LeavesRoomModel", "imageRows", "[I", true)
  | 65 => ("LeavesRoomModel", "imageWho", "[I", true)
  | 66 => ("LeavesRoomModel", "imageWhen", "[I", true)
  | 67 => ("LeavesRoomModel", "imageWhat", "[I", true)
  | 68 => ("LeavesRoomModel", "imageNumber", "[I", true)
  | 69 => ("LeavesRoomModel", "imageBookWho", "[I", true)
  | 70 => ("LeavesRoomModel", "imageBookSeat", "[I", true)
  | 71 => ("LeavesRoomModel", "imageSeenEmpty", "[Z", true)
  | 72 => ("LeavesRoomModel", "ran", "I", false)
  | 73 => ("LeavesRoomModel", "bodies", "[I", true)
  | 74 => ("LeavesRoomModel", "sort", "[I", true)
  | 75 => ("LeavesRoomModel", "length", "[I", true)
  | 76 => ("LeavesRoomModel", "item", "[J", true)
  | _ => ("LeavesRoomModel", "aside", "[J", true)
def tyX9 : Nat → FieldType := fun k => match k with
  | 0 => .int
  | 1 => .int
  | 2 => .int
  | 3 => .int
  | 4 => .int
  | 5 => .array .int
  | 6 => .array .int
  | 7 => .array .int
  | 8 => .array .int
  | 9 => .array .int
  | 10 => .int
  | 11 => .int
  | 12 => .int
  | 13 => .int
  | 14 => .int
  | 15 => .array .int
  | 16 => .array .int
  | 17 => .array .int
  | 18 => .array .int
  | 19 => .array .int
  | 20 => .array .int
  | 21 => .array .int
  | 22 => .array .int
  | 23 => .int
  | 24 => .int
  | 25 => .int
  | 26 => .array .int
  | 27 => .array .boolean
  | 28 => .array .int
  | 29 => .int
  | 30 => .int
  | 31 => .int
  | 32 => .int
  | 33 => .int
  | 34 => .array .int
  | 35 => .array .int
  | 36 => .array .int
  | 37 => .int
  | 38 => .int
  | 39 => .int
  | 40 => .array .int
  | 41 => .array .int
  | 42 => .array .boolean
  | 43 => .array .int
  | 44 => .int
  | 45 => .int
  | 46 => .array .int
  | 47 => .array .int
  | 48 => .array .int
  | 49 => .array .int
  | 50 => .boolean
  | 51 => .int
  | 52 => .int
  | 53 => .int
  | 54 => .int
  | 55 => .int
  | 56 => .int
  | 57 => .int
  | 58 => .int
  | 59 => .int
  | 60 => .array .int
  | 61 => .array .int
  | 62 => .array .int
  | 63 => .array .int
  | 64 => .array .int
  | 65 => .array .int
  | 66 => .array .int
  | 67 => .array .int
  | 68 => .array .int
  | 69 => .array .int
  | 70 => .array .int
  | 71 => .array .boolean
  | 72 => .int
  | 73 => .array .int
  | 74 => .array .int
  | 75 => .array .int
  | 76 => .array .long
  | _ => .array .long
abbrev wsX90 : List Cond := u_ws RX9 TX9 78
theorem nmX9 : ∀ a, a < 78 → ∀ b, b < 78 → a ≠ b → (TX9 a).2.1 ≠ (TX9 b).2.1 := by decide +kernel
theorem tyX9_ok : ∀ k, k < 78 → parseFieldDescriptor (TX9 k).2.2.1 = some (tyX9 k) := by decide +kernel
abbrev cX9_init : ByteArray := prog_11_method_1_code
def yX9_init : MethodName := ⟨RX9, "<init>", "()V"⟩
abbrev cX9_in : ByteArray := prog_11_method_2_code
def yX9_in : MethodName := ⟨RX9, "in", "(III)Z"⟩
abbrev cX9_has : ByteArray := prog_11_method_3_code
def yX9_has : MethodName := ⟨RX9, "has", "(II)Z"⟩
abbrev cX9_least : ByteArray := prog_11_method_4_code
def yX9_least : MethodName := ⟨RX9, "least", "(II)I"⟩
abbrev cX9_bits : ByteArray := prog_11_method_5_code
def yX9_bits : MethodName := ⟨RX9, "bits", "(I)I"⟩
abbrev cX9_isGuest : ByteArray := prog_11_method_6_code
def yX9_isGuest : MethodName := ⟨RX9, "isGuest", "(I)Z"⟩
abbrev cX9_isSeat : ByteArray := prog_11_method_7_code
def yX9_isSeat : MethodName := ⟨RX9, "isSeat", "(I)Z"⟩
abbrev cX9_isYears : ByteArray := prog_11_method_8_code
def yX9_isYears : MethodName := ⟨RX9, "isYears", "(I)Z"⟩
abbrev cX9_whoSits : ByteArray := prog_11_method_9_code
def yX9_whoSits : MethodName := ⟨RX9, "whoSits", "(I)I"⟩
abbrev cX9_guest : ByteArray := prog_11_method_10_code
def yX9_guest : MethodName := ⟨RX9, "guest", "(II)I"⟩
abbrev cX9_goes : ByteArray := prog_11_method_11_code
def yX9_goes : MethodName := ⟨RX9, "goes", "(IZ)V"⟩
abbrev cX9_leave : ByteArray := prog_11_method_12_code
def yX9_leave : MethodName := ⟨RX9, "leave", "(IZ)I"⟩
abbrev cX9_takesSeat : ByteArray := prog_11_method_13_code
def yX9_takesSeat : MethodName := ⟨RX9, "takesSeat", "(II)V"⟩
abbrev cX9_sit : ByteArray := prog_11_method_14_code
def yX9_sit : MethodName := ⟨RX9, "sit", "(II)I"⟩
abbrev cX9_pours : ByteArray := prog_11_method_15_code
def yX9_pours : MethodName := ⟨RX9, "pours", "(I)V"⟩
abbrev cX9_pour : ByteArray := prog_11_method_16_code
def yX9_pour : MethodName := ⟨RX9, "pour", "(I)I"⟩
abbrev cX9_row : ByteArray := prog_11_method_17_code
def yX9_row : MethodName := ⟨RX9, "row", "(III)I"⟩
abbrev cX9_feed : ByteArray := prog_11_method_18_code
def yX9_feed : MethodName := ⟨RX9, "feed", "(I)I"⟩
abbrev cX9_next : ByteArray := prog_11_method_19_code
def yX9_next : MethodName := ⟨RX9, "next", "()I"⟩
abbrev cX9_takes : ByteArray := prog_11_method_20_code
def yX9_takes : MethodName := ⟨RX9, "takes", "(I)Z"⟩
abbrev cX9_takesWord : ByteArray := prog_11_method_21_code
def yX9_takesWord : MethodName := ⟨RX9, "takesWord", "(II)Z"⟩
abbrev cX9_isDigit : ByteArray := prog_11_method_22_code
def yX9_isDigit : MethodName := ⟨RX9, "isDigit", "()Z"⟩
abbrev cX9_takesNumber : ByteArray := prog_11_method_23_code
def yX9_takesNumber : MethodName := ⟨RX9, "takesNumber", "()Z"⟩
abbrev cX9_emits : ByteArray := prog_11_method_24_code
def yX9_emits : MethodName := ⟨RX9, "emits", "(I)V"⟩
abbrev cX9_whole : ByteArray := prog_11_method_25_code
def yX9_whole : MethodName := ⟨RX9, "whole", "()V"⟩
abbrev cX9_settle : ByteArray := prog_11_method_26_code
def yX9_settle : MethodName := ⟨RX9, "settle", "(I)V"⟩
abbrev cX9_place : ByteArray := prog_11_method_27_code
def yX9_place : MethodName := ⟨RX9, "place", "(I)I"⟩
abbrev cX9_takesTest : ByteArray := prog_11_method_28_code
def yX9_takesTest : MethodName := ⟨RX9, "takesTest", "()Z"⟩
abbrev cX9_takesE : ByteArray := prog_11_method_29_code
def yX9_takesE : MethodName := ⟨RX9, "takesE", "(I)Z"⟩
abbrev cX9_takesHead : ByteArray := prog_11_method_30_code
def yX9_takesHead : MethodName := ⟨RX9, "takesHead", "(I)Z"⟩
abbrev cX9_takesClause : ByteArray := prog_11_method_31_code
def yX9_takesClause : MethodName := ⟨RX9, "takesClause", "(I)Z"⟩
abbrev cX9_goesText : ByteArray := prog_11_method_32_code
def yX9_goesText : MethodName := ⟨RX9, "goesText", "(I)Z"⟩
abbrev cX9_house : ByteArray := prog_11_method_33_code
def yX9_house : MethodName := ⟨RX9, "house", "()I"⟩
abbrev cX9_begin : ByteArray := prog_11_method_34_code
def yX9_begin : MethodName := ⟨RX9, "begin", "()I"⟩
abbrev cX9_behind : ByteArray := prog_11_method_35_code
def yX9_behind : MethodName := ⟨RX9, "behind", "()I"⟩
abbrev cX9_lastOf : ByteArray := prog_11_method_36_code
def yX9_lastOf : MethodName := ⟨RX9, "lastOf", "(II)I"⟩
abbrev cX9_factOf : ByteArray := prog_11_method_37_code
def yX9_factOf : MethodName := ⟨RX9, "factOf", "(III)I"⟩
abbrev cX9_holds : ByteArray := prog_11_method_38_code
def yX9_holds : MethodName := ⟨RX9, "holds", "(III)Z"⟩
abbrev cX9_likesOf : ByteArray := prog_11_method_39_code
def yX9_likesOf : MethodName := ⟨RX9, "likesOf", "(II)I"⟩
abbrev cX9_likes : ByteArray := prog_11_method_40_code
def yX9_likes : MethodName := ⟨RX9, "likes", "(II)I"⟩
abbrev cX9_layLikes : ByteArray := prog_11_method_41_code
def yX9_layLikes : MethodName := ⟨RX9, "layLikes", "()V"⟩
abbrev cX9_isBeside : ByteArray := prog_11_method_42_code
def yX9_isBeside : MethodName := ⟨RX9, "isBeside", "(II)Z"⟩
abbrev cX9_isCompany : ByteArray := prog_11_method_43_code
def yX9_isCompany : MethodName := ⟨RX9, "isCompany", "(I)Z"⟩
abbrev cX9_beside : ByteArray := prog_11_method_44_code
def yX9_beside : MethodName := ⟨RX9, "beside", "(I)I"⟩
abbrev cX9_fondBy : ByteArray := prog_11_method_45_code
def yX9_fondBy : MethodName := ⟨RX9, "fondBy", "(I)I"⟩
abbrev cX9_fond : ByteArray := prog_11_method_46_code
def yX9_fond : MethodName := ⟨RX9, "fond", "(I)I"⟩
abbrev cX9_allFondBy : ByteArray := prog_11_method_47_code
def yX9_allFondBy : MethodName := ⟨RX9, "allFondBy", "()I"⟩
abbrev cX9_allFond : ByteArray := prog_11_method_48_code
def yX9_allFond : MethodName := ⟨RX9, "allFond", "()I"⟩
abbrev cX9_clashesBy : ByteArray := prog_11_method_49_code
def yX9_clashesBy : MethodName := ⟨RX9, "clashesBy", "()I"⟩
abbrev cX9_clashes : ByteArray := prog_11_method_50_code
def yX9_clashes : MethodName := ⟨RX9, "clashes", "()I"⟩
abbrev cX9_of : ByteArray := prog_11_method_51_code
def yX9_of : MethodName := ⟨RX9, "of", "(II)I"⟩
abbrev cX9_isDue : ByteArray := prog_11_method_52_code
def yX9_isDue : MethodName := ⟨RX9, "isDue", "(I)Z"⟩
abbrev cX9_isCovered : ByteArray := prog_11_method_53_code
def yX9_isCovered : MethodName := ⟨RX9, "isCovered", "(II)Z"⟩
abbrev cX9_steps : ByteArray := prog_11_method_54_code
def yX9_steps : MethodName := ⟨RX9, "steps", "(Z)I"⟩
abbrev cX9_round : ByteArray := prog_11_method_55_code
def yX9_round : MethodName := ⟨RX9, "round", "()I"⟩
abbrev cX9_toward : ByteArray := prog_11_method_56_code
def yX9_toward : MethodName := ⟨RX9, "toward", "()I"⟩
abbrev cX9_told : ByteArray := prog_11_method_57_code
def yX9_told : MethodName := ⟨RX9, "told", "(I)I"⟩
abbrev cX9_goYear : ByteArray := prog_11_method_58_code
def yX9_goYear : MethodName := ⟨RX9, "goYear", "()V"⟩
abbrev cX9_goYears : ByteArray := prog_11_method_59_code
def yX9_goYears : MethodName := ⟨RX9, "goYears", "(I)V"⟩
abbrev cX9_pass : ByteArray := prog_11_method_60_code
def yX9_pass : MethodName := ⟨RX9, "pass", "(I)I"⟩
abbrev cX9_save : ByteArray := prog_11_method_61_code
def yX9_save : MethodName := ⟨RX9, "save", "()V"⟩
abbrev cX9_putBack : ByteArray := prog_11_method_62_code
def yX9_putBack : MethodName := ⟨RX9, "putBack", "()V"⟩
abbrev cX9_usesMore : ByteArray := prog_11_method_63_code
def yX9_usesMore : MethodName := ⟨RX9, "usesMore", "()I"⟩
abbrev cX9_on : ByteArray := prog_11_method_64_code
def yX9_on : MethodName := ⟨RX9, "on", "(II)I"⟩
abbrev cX9_soon : ByteArray := prog_11_method_65_code
def yX9_soon : MethodName := ⟨RX9, "soon", "(I)I"⟩
abbrev cX9_layPlacing : ByteArray := prog_11_method_66_code
def yX9_layPlacing : MethodName := ⟨RX9, "layPlacing", "(I)Z"⟩
abbrev cX9_layBest : ByteArray := prog_11_method_67_code
def yX9_layBest : MethodName := ⟨RX9, "layBest", "(Z)V"⟩
abbrev cX9_best : ByteArray := prog_11_method_68_code
def yX9_best : MethodName := ⟨RX9, "best", "(I)I"⟩
abbrev cX9_peace : ByteArray := prog_11_method_69_code
def yX9_peace : MethodName := ⟨RX9, "peace", "(I)I"⟩
abbrev cX9_change : ByteArray := prog_11_method_70_code
def yX9_change : MethodName := ⟨RX9, "change", "()I"⟩
abbrev cX9_seat : ByteArray := prog_11_method_71_code
def yX9_seat : MethodName := ⟨RX9, "seat", "(I)I"⟩
abbrev cX9_see : ByteArray := prog_11_method_72_code
def yX9_see : MethodName := ⟨RX9, "see", "(IZI)I"⟩
abbrev cX9_isSeen : ByteArray := prog_11_method_73_code
def yX9_isSeen : MethodName := ⟨RX9, "isSeen", "()Z"⟩
abbrev cX9_where : ByteArray := prog_11_method_74_code
def yX9_where : MethodName := ⟨RX9, "where", "(I)I"⟩
abbrev cX9_can : ByteArray := prog_11_method_75_code
def yX9_can : MethodName := ⟨RX9, "can", "(II)I"⟩
abbrev cX9_divisor : ByteArray := prog_11_method_76_code
def yX9_divisor : MethodName := ⟨RX9, "divisor", "(II)I"⟩
abbrev cX9_lowest : ByteArray := prog_11_method_77_code
def yX9_lowest : MethodName := ⟨RX9, "lowest", "(III)J"⟩
abbrev cX9_odds : ByteArray := prog_11_method_78_code
def yX9_odds : MethodName := ⟨RX9, "odds", "(II)J"⟩
abbrev cX9_mean : ByteArray := prog_11_method_79_code
def yX9_mean : MethodName := ⟨RX9, "mean", "(I)J"⟩
abbrev cX9_plan : ByteArray := prog_11_method_80_code
def yX9_plan : MethodName := ⟨RX9, "plan", "(II)I"⟩
abbrev cX9_ends : ByteArray := prog_11_method_81_code
def yX9_ends : MethodName := ⟨RX9, "ends", "(I)I"⟩
abbrev cX9_book : ByteArray := prog_11_method_82_code
def yX9_book : MethodName := ⟨RX9, "book", "(II)I"⟩
abbrev cX9_looked : ByteArray := prog_11_method_83_code
def yX9_looked : MethodName := ⟨RX9, "looked", "()I"⟩
abbrev cX9_judge : ByteArray := prog_11_method_84_code
def yX9_judge : MethodName := ⟨RX9, "judge", "(II)I"⟩
abbrev cX9_image : ByteArray := prog_11_method_85_code
def yX9_image : MethodName := ⟨RX9, "image", "()I"⟩
abbrev cX9_undo : ByteArray := prog_11_method_86_code
def yX9_undo : MethodName := ⟨RX9, "undo", "()I"⟩
abbrev cX9_body : ByteArray := prog_11_method_87_code
def yX9_body : MethodName := ⟨RX9, "body", "(I)V"⟩
abbrev cX9_guestSips : ByteArray := prog_11_method_88_code
def yX9_guestSips : MethodName := ⟨RX9, "guestSips", "(II)I"⟩
abbrev cX9_sipsAct : ByteArray := prog_11_method_89_code
def yX9_sipsAct : MethodName := ⟨RX9, "sipsAct", "(II)I"⟩
abbrev cX9_guestChats : ByteArray := prog_11_method_90_code
def yX9_guestChats : MethodName := ⟨RX9, "guestChats", "(II)I"⟩
abbrev cX9_wouldChats : ByteArray := prog_11_method_91_code
def yX9_wouldChats : MethodName := ⟨RX9, "wouldChats", "(II)I"⟩
abbrev cX9_chatsAct : ByteArray := prog_11_method_92_code
def yX9_chatsAct : MethodName := ⟨RX9, "chatsAct", "(II)I"⟩
abbrev cX9_guestTells : ByteArray := prog_11_method_93_code
def yX9_guestTells : MethodName := ⟨RX9, "guestTells", "(II)I"⟩
abbrev cX9_tellsAct : ByteArray := prog_11_method_94_code
def yX9_tellsAct : MethodName := ⟨RX9, "tellsAct", "(II)I"⟩
abbrev cX9_act : ByteArray := prog_11_method_95_code
def yX9_act : MethodName := ⟨RX9, "act", "(III)I"⟩
abbrev cX9_trace : ByteArray := prog_11_method_96_code
def yX9_trace : MethodName := ⟨RX9, "trace", "(I)I"⟩
abbrev cX9_taken : ByteArray := prog_11_method_97_code
def yX9_taken : MethodName := ⟨RX9, "taken", "(II)I"⟩
abbrev cX9_count : ByteArray := prog_11_method_98_code
def yX9_count : MethodName := ⟨RX9, "count", "(I)I"⟩
abbrev cX9_isTape : ByteArray := prog_11_method_99_code
def yX9_isTape : MethodName := ⟨RX9, "isTape", "(I)Z"⟩
abbrev cX9_tape : ByteArray := prog_11_method_100_code
def yX9_tape : MethodName := ⟨RX9, "tape", "(III)I"⟩
abbrev cX9_narrow : ByteArray := prog_11_method_101_code
def yX9_narrow : MethodName := ⟨RX9, "narrow", "(IJ)J"⟩
abbrev cX9_item : ByteArray := prog_11_method_102_code
def yX9_item : MethodName := ⟨RX9, "item", "(IIJ)I"⟩
abbrev cX9_read : ByteArray := prog_11_method_103_code
def yX9_read : MethodName := ⟨RX9, "read", "(II)J"⟩
abbrev cX9_shift : ByteArray := prog_11_method_104_code
def yX9_shift : MethodName := ⟨RX9, "shift", "(IIIII)I"⟩
def RJ6 : String := "java/lang/Integer"
def TJ6 : u_T := fun k => match k with
  | _ => ("", "", "", false)
def tyJ6 : Nat → FieldType := fun k => match k with
  | _ => .int
abbrev wsJ60 : List Cond := u_ws RJ6 TJ6 0
theorem nmJ6 : ∀ a, a < 0 → ∀ b, b < 0 → a ≠ b → (TJ6 a).2.1 ≠ (TJ6 b).2.1 := by decide +kernel
theorem tyJ6_ok : ∀ k, k < 0 → parseFieldDescriptor (TJ6 k).2.2.1 = some (tyJ6 k) := by decide +kernel
abbrev cJ6_bitCount_0f7a4 : ByteArray := prog_12_method_49_code
def yJ6_bitCount_0f7a4 : MethodName := ⟨RJ6, "bitCount", "(I)I"⟩
def RJ9 : String := "java/lang/Math"
def TJ9 : u_T := fun k => match k with
  | _ => ("", "", "", false)
def tyJ9 : Nat → FieldType := fun k => match k with
  | _ => .int
abbrev wsJ90 : List Cond := u_ws RJ9 TJ9 0
theorem nmJ9 : ∀ a, a < 0 → ∀ b, b < 0 → a ≠ b → (TJ9 a).2.1 ≠ (TJ9 b).2.1 := by decide +kernel
theorem tyJ9_ok : ∀ k, k < 0 → parseFieldDescriptor (TJ9 k).2.2.1 = some (tyJ9 k) := by decide +kernel
abbrev cJ9_max_7cf53 : ByteArray := prog_13_method_65_code
def yJ9_max_7cf53 : MethodName := ⟨RJ9, "max", "(II)I"⟩
abbrev cJ9_min_7cf53 : ByteArray := prog_13_method_69_code
def yJ9_min_7cf53 : MethodName := ⟨RJ9, "min", "(II)I"⟩
def RJ0 : String := "java/lang/String"
def TJ0 : u_T := fun k => match k with
  | _ => ("", "", "", false)
def tyJ0 : Nat → FieldType := fun k => match k with
  | _ => .int
abbrev wsJ00 : List Cond := u_ws RJ0 TJ0 0
theorem nmJ0 : ∀ a, a < 0 → ∀ b, b < 0 → a ≠ b → (TJ0 a).2.1 ≠ (TJ0 b).2.1 := by decide +kernel
theorem tyJ0_ok : ∀ k, k < 0 → parseFieldDescriptor (TJ0 k).2.2.1 = some (tyJ0 k) := by decide +kernel
abbrev cJ0_length_8abf5 : ByteArray := prog_14_method_54_code
def yJ0_length_8abf5 : MethodName := ⟨RJ0, "length", "()I"⟩
abbrev cJ0_charAt_5068e : ByteArray := prog_14_method_56_code
def yJ0_charAt_5068e : MethodName := ⟨RJ0, "charAt", "(I)C"⟩
abbrev cJ0_coder_7d493 : ByteArray := prog_14_method_152_code
def yJ0_coder_7d493 : MethodName := ⟨RJ0, "coder", "()B"⟩
abbrev cJ0_isLatin1_aae02 : ByteArray := prog_14_method_154_code
def yJ0_isLatin1_aae02 : MethodName := ⟨RJ0, "isLatin1", "()Z"⟩
abbrev cJ0_checkIndex_df160 : ByteArray := prog_14_method_155_code
def yJ0_checkIndex_df160 : MethodName := ⟨RJ0, "checkIndex", "(II)V"⟩
def RJ1 : String := "java/lang/StringLatin1"
def TJ1 : u_T := fun k => match k with
  | _ => ("", "", "", false)
def tyJ1 : Nat → FieldType := fun k => match k with
  | _ => .int
abbrev wsJ10 : List Cond := u_ws RJ1 TJ1 0
theorem nmJ1 : ∀ a, a < 0 → ∀ b, b < 0 → a ≠ b → (TJ1 a).2.1 ≠ (TJ1 b).2.1 := by decide +kernel
theorem tyJ1_ok : ∀ k, k < 0 → parseFieldDescriptor (TJ1 k).2.2.1 = some (tyJ1 k) := by decide +kernel
abbrev cJ1_charAt_3b067 : ByteArray := prog_15_method_2_code
def yJ1_charAt_3b067 : MethodName := ⟨RJ1, "charAt", "([BI)C"⟩
def RJ2 : String := "java/lang/StringUTF16"
def TJ2 : u_T := fun k => match k with
  | _ => ("", "", "", false)
def tyJ2 : Nat → FieldType := fun k => match k with
  | _ => .int
abbrev wsJ20 : List Cond := u_ws RJ2 TJ2 0
theorem nmJ2 : ∀ a, a < 0 → ∀ b, b < 0 → a ≠ b → (TJ2 a).2.1 ≠ (TJ2 b).2.1 := by decide +kernel
theorem tyJ2_ok : ∀ k, k < 0 → parseFieldDescriptor (TJ2 k).2.2.1 = some (tyJ2 k) := by decide +kernel
abbrev cJ2_getChar_3b067 : ByteArray := prog_16_method_5_code
def yJ2_getChar_3b067 : MethodName := ⟨RJ2, "getChar", "([BI)C"⟩
abbrev cJ2_length_9d52b : ByteArray := prog_16_method_6_code
def yJ2_length_9d52b : MethodName := ⟨RJ2, "length", "([B)I"⟩
abbrev cJ2_charAt_3b067 : ByteArray := prog_16_method_83_code
def yJ2_charAt_3b067 : MethodName := ⟨RJ2, "charAt", "([BI)C"⟩
abbrev cJ2_checkIndex_2214a : ByteArray := prog_16_method_91_code
def yJ2_checkIndex_2214a : MethodName := ⟨RJ2, "checkIndex", "(I[B)V"⟩
def RJ10 : String := "java/lang/System"
def TJ10 : u_T := fun k => match k with
  | _ => ("", "", "", false)
def tyJ10 : Nat → FieldType := fun k => match k with
  | _ => .int
abbrev wsJ100 : List Cond := u_ws RJ10 TJ10 0
theorem nmJ10 : ∀ a, a < 0 → ∀ b, b < 0 → a ≠ b → (TJ10 a).2.1 ≠ (TJ10 b).2.1 := by decide +kernel
theorem tyJ10_ok : ∀ k, k < 0 → parseFieldDescriptor (TJ10 k).2.2.1 = some (tyJ10 k) := by decide +kernel
def RJ3 : String := "jdk/internal/util/Preconditions"
def TJ3 : u_T := fun k => match k with
  | _ => ("", "", "", false)
def tyJ3 : Nat → FieldType := fun k => match k with
  | _ => .int
abbrev wsJ30 : List Cond := u_ws RJ3 TJ3 0
theorem nmJ3 : ∀ a, a < 0 → ∀ b, b < 0 → a ≠ b → (TJ3 a).2.1 ≠ (TJ3 b).2.1 := by decide +kernel
theorem tyJ3_ok : ∀ k, k < 0 → parseFieldDescriptor (TJ3 k).2.2.1 = some (tyJ3 k) := by decide +kernel
abbrev cJ3_checkIndex_8e157 : ByteArray := prog_18_method_11_code
def yJ3_checkIndex_8e157 : MethodName := ⟨RJ3, "checkIndex", "(IILjava/util/function/BiFunction;)I"⟩
def RL : String := "LeavesRoomLaw"
abbrev cL_law : ByteArray := code
def yL_law : MethodName := ⟨RL, "law", "([I)Z"⟩
abbrev vwCl : List vw_C := [(RX0, TX0, 5), (RX1, TX1, 4), (RX2, TX2, 8), (RX3, TX3, 6), (RX4, TX4, 5), (RX5, TX5, 5), (RX6, TX6, 14), (RX7, TX7, 3), (RX8, TX8, 12), (RX9, TX9, 78)]
end
section
/-! THE ABSTRACT WORLD: values (tag, Int): 0 int, 1 long, 2 ref to cell number (below 0: null), 3 read-only object, 4 a carried reference, 8 no answer, 9 unset -/
abbrev av : Type := Nat × Int
abbrev mth : Type := MethodName × ByteArray × Nat × Option FieldType × Nat × Nat
abbrev hp : Type := Nat × (Nat → Nat × Nat) × (Int → Int → Int)
def nflds (ci : Nat) : Nat := match ci with | 0 => 5 | 1 => 4 | 2 => 8 | 3 => 6 | 4 => 5 | 5 => 5 | 6 => 14 | 7 => 3 | 8 => 12 | _ => 78
def fldT (ci : Nat) : Nat → FieldType := match ci with | 0 => tyX0 | 1 => tyX1 | 2 => tyX2 | 3 => tyX3 | 4 => tyX4 | 5 => tyX5 | 6 => tyX6 | 7 => tyX7 | 8 => tyX8 | _ => tyX9
def fldN (ci : Nat) : u_T := match ci with | 0 => TX0 | 1 => TX1 | 2 => TX2 | 3 => TX3 | 4 => TX4 | 5 => TX5 | 6 => TX6 | 7 => TX7 | 8 => TX8 | _ => TX9
def clsN (ci : Nat) : String := match ci with | 0 => RX0 | 1 => RX1 | 2 => RX2 | 3 => RX3 | 4 => RX4 | 5 => RX5 | 6 => RX6 | 7 => RX7 | 8 => RX8 | _ => RX9
theorem vwCl_at : ∀ ci, ci < 10 → vwCl[ci]? = some (clsN ci, fldN ci, nflds ci)
  | 0, _ => rfl | 1, _ => rfl | 2, _ => rfl | 3, _ => rfl | 4, _ => rfl | 5, _ => rfl | 6, _ => rfl | 7, _ => rfl | 8, _ => rfl | 9, _ => rfl
  | k + 10, h => absurd h (by omega)
def isRefT : FieldType → Bool
  | .object _ => true
  | .array _ => true
  | _ => false
/-- a slot that holds a reference: field j of a class below 10, places of the rows of kinds 14, 15 -/
def refSlot (kd j : Nat) : Bool := if kd < 10 then isRefT (fldT kd j) else decide (14 ≤ kd)
def cr (ad : Nat → Nat) (x : Int) : Option Nat := if x < 0 then none else some (ad x.toNat)
def cf (ad : Nat → Nat) (t : FieldType) (x : Int) : Value := if isRefT t then va_rf (cr ad x) else .int (Int32.ofInt x)
def cv (ad ros : Nat → Nat) (fm : Value) (v : av) : Value := match v.1 with
  | 0 => .int (Int32.ofInt v.2)
  | 1 => .long (Int64.ofInt v.2)
  | 2 => va_rf (cr ad v.2)
  | 3 => .ref (ros v.2.toNat)
  | 4 => fm
  | _ => .int 0
def ent (ad : Nat → Nat) (cA : Nat → ClassId) (c : Int → Int → Int) (k : Nat) (s : Nat × Nat) : va_E :=
  if s.1 < 10 then .inr (s.1, (List.range (nflds s.1)).map (fun j => cf ad (fldT s.1 j) (c k j)))
  else if s.1 < 13 then .inl (cA s.1, s.2, .inl (fun j => Int32.ofInt (c k j)))
  else if s.1 = 13 then .inl (cA 13, s.2, .inr (.inl (fun j => Int64.ofInt (c k j))))
  else .inl (cA s.1, s.2, .inr (.inr (.inr (.inr (fun j => cr ad (c k j))))))
def wl (ad : Nat → Nat) (cA : Nat → ClassId) (G : hp) : va_W := (List.range G.1).map (fun k => (ad k, ent ad cA G.2.2 k (G.2.1 k)))
def tyl (cA : Nat → ClassId) : List (ClassId × FieldType) := [(cA 10, .int), (cA 11, .boolean), (cA 12, .byte), (cA 13, .long), (cA 14, .object RX2), (cA 15, .object RX7)]
/-- references in the heap are to cells that are there -/
def HV (G : hp) : Prop := ∀ k j : Nat, k < G.1 → refSlot (G.2.1 k).1 j = true → G.2.2 k j < G.1
def up2 (c : Int → Int → Int) (k j x : Int) : Int → Int → Int := fun a b => if a = k ∧ b = j then x else c a b
theorem wl_len {ad : Nat → Nat} {cA : Nat → ClassId} {G : hp} : (wl ad cA G).length = G.1 := by simp [wl]
theorem wl_get (ad : Nat → Nat) (cA : Nat → ClassId) (G : hp) {k : Nat} (h : k < G.1) : (wl ad cA G)[k]? = some (ad k, ent ad cA G.2.2 k (G.2.1 k)) := by
  simp [wl, List.getElem?_map, List.getElem?_range h]
theorem ent_congr {ad : Nat → Nat} {cA : Nat → ClassId} {c c' : Int → Int → Int} {k : Nat} {s : Nat × Nat} (h : ∀ j : Nat, c' k j = c k j) : ent ad cA c' k s = ent ad cA c k s := by
  simp only [ent, h]
theorem wl_set {ad : Nat → Nat} {cA : Nat → ClassId} {n : Nat} {sh : Nat → Nat × Nat} {c c' : Int → Int → Int} {k : Nat} (hoff : ∀ k' : Nat, k' ≠ k → ∀ j : Nat, c' k' j = c k' j) {e : va_E} (he : e = ent ad cA c' k (sh k)) :
    (wl ad cA (n, sh, c)).set k (ad k, e) = wl ad cA (n, sh, c') := by
  apply List.ext_getElem?
  intro i
  by_cases hi : i < n
  · rw [wl_get ad cA (n, sh, c') hi, List.getElem?_set]
    by_cases hik : k = i
    · subst hik
      simp [wl_len, hi, he]
    · rw [if_neg hik, wl_get ad cA (n, sh, c) hi]
      simp only [Option.some.injEq, Prod.mk.injEq, true_and]
      exact (ent_congr (hoff i (fun q => hik q.symm))).symm
  · rw [List.getElem?_eq_none (by rw [List.length_set, wl_len]; exact Nat.not_lt.mp hi), List.getElem?_eq_none (by rw [wl_len]; exact Nat.not_lt.mp hi)]
theorem up2_off {c : Int → Int → Int} {k : Nat} {i x : Int} : ∀ k' : Nat, k' ≠ k → ∀ j : Nat, up2 c k i x k' j = c k' j := by
  intro k' h j
  have h2 : ¬ (k' : Int) = (k : Int) := by omega
  simp [up2, h2]
theorem up2_row {α : Type} {c : Int → Int → Int} {k i : Nat} {x : Int} (F : Int → α) : (fun j : Nat => F (up2 c k i x k j)) = fun j => if j = i then F x else F (c k j) := by
  funext j
  by_cases h : j = i
  · subst h; simp [up2]
  · have h2 : ¬ (j : Int) = (i : Int) := by omega
    simp [up2, h, h2]
/-- a row of a kind below 13, one place new -/
theorem wl_upI {ad : Nat → Nat} {cA : Nat → ClassId} {n : Nat} {sh : Nat → Nat × Nat} {c : Int → Int → Int} {k i : Nat} {x : Int} (hkd : 10 ≤ (sh k).1 ∧ (sh k).1 < 13) :
    (wl ad cA (n, sh, c)).set k (ad k, .inl (cA (sh k).1, (sh k).2, .inl (upd (fun j : Nat => Int32.ofInt (c k j)) i (Int32.ofInt x)))) = wl ad cA (n, sh, up2 c k i x) := by
  refine wl_set up2_off ?_
  have h1 : ¬ (sh k).1 < 10 := by omega
  simp only [ent, h1, hkd.2, if_false, if_true]
  rw [up2_row (fun z => Int32.ofInt z)]
  rfl
theorem wl_upL {ad : Nat → Nat} {cA : Nat → ClassId} {n : Nat} {sh : Nat → Nat × Nat} {c : Int → Int → Int} {k i : Nat} {x : Int} (hkd : (sh k).1 = 13) :
    (wl ad cA (n, sh, c)).set k (ad k, .inl (cA 13, (sh k).2, .inr (.inl (vp_updL (fun j : Nat => Int64.ofInt (c k j)) i (Int64.ofInt x))))) = wl ad cA (n, sh, up2 c k i x) := by
  refine wl_set up2_off ?_
  simp only [ent, hkd]
  rw [up2_row (fun z => Int64.ofInt z)]
  rfl
theorem wl_upR {ad : Nat → Nat} {cA : Nat → ClassId} {n : Nat} {sh : Nat → Nat × Nat} {c : Int → Int → Int} {k i : Nat} {x : Int} (hkd : 14 ≤ (sh k).1) :
    (wl ad cA (n, sh, c)).set k (ad k, .inl (cA (sh k).1, (sh k).2, .inr (.inr (.inr (.inr (va_up (fun j : Nat => cr ad (c k j)) i (cr ad x))))))) = wl ad cA (n, sh, up2 c k i x) := by
  refine wl_set up2_off ?_
  have h1 : ¬ (sh k).1 < 10 := by omega
  have h2 : ¬ (sh k).1 < 13 := by omega
  have h3 : ¬ (sh k).1 = 13 := by omega
  simp only [ent, h1, h2, h3, if_false]
  rw [up2_row (fun z => cr ad z)]
  rfl
theorem wl_upF {ad : Nat → Nat} {cA : Nat → ClassId} {n : Nat} {sh : Nat → Nat × Nat} {c : Int → Int → Int} {k i : Nat} {x : Int} (hkd : (sh k).1 < 10) (hi : i < nflds (sh k).1) :
    (wl ad cA (n, sh, c)).set k (ad k, .inr ((sh k).1, ((List.range (nflds (sh k).1)).map (fun j => cf ad (fldT (sh k).1 j) (c k j))).set i (cf ad (fldT (sh k).1 i) x))) = wl ad cA (n, sh, up2 c k i x) := by
  refine wl_set up2_off ?_
  simp only [ent, hkd, if_true]
  congr 2
  apply List.ext_getElem?
  intro j
  by_cases hj : j < nflds (sh k).1
  · rw [List.getElem?_set]
    by_cases hij : i = j
    · subst hij
      simp [hi, up2]
    · have h2 : ¬ (j : Int) = (i : Int) := by omega
      simp [hij, hj, up2, h2]
  · rw [List.getElem?_eq_none (by simpa using hj), List.getElem?_eq_none (by simpa using hj)]
theorem HV.up {n : Nat} {sh : Nat → Nat × Nat} {c : Int → Int → Int} {k i : Nat} {x : Int} (h : HV (n, sh, c)) (hx : refSlot (sh k).1 i = true → x < n) : HV (n, sh, up2 c k i x) := by
  intro a b ha hr
  by_cases hq : (a : Int) = (k : Int) ∧ (b : Int) = (i : Int)
  · have e1 : a = k := by omega
    have e2 : b = i := by omega
    subst e1; subst e2
    simpa [up2] using hx hr
  · simpa [up2, hq] using h a b ha hr
theorem HV.upN {n : Nat} {sh : Nat → Nat × Nat} {c : Int → Int → Int} {k i : Nat} {x : Int} (h : HV (n, sh, c)) (hx : refSlot (sh k).1 i = false) : HV (n, sh, up2 c k i x) := h.up (fun q => by rw [hx] at q; cases q)
end
section
/-! CONTEXT: what a method stands on -/
def roC (K : Launch × Nat × (Nat → Int)) (i : Nat) : Nat → Int := match i with
  | 0 => K.2.2
  | 1 => fun j => ([1, 2, 3, 4, 5, 0] : List Int).getD j 0
  | 2 => fun j => ([5, 0, 1, 2, 3, 4] : List Int).getD j 0
  | 3 => fun j => ([0, 0, 0, 1, 0, 0, 1] : List Int).getD j 0
  | 4 => fun j => ([10, 11, 12, 0, 20, 0, 30, 0, 0, 0, 0, 40, 50, 51, 0, 0, 0, 60, 71, 70, 0] : List Int).getD j 0
  | _ => fun j => ([-1, 0, 0, 0, 1, 2, 3] : List Int).getD j 0
def roLen (K : Launch × Nat × (Nat → Int)) (i : Nat) : Nat := match i with
  | 0 => K.2.1 | 1 => 6 | 2 => 6 | 3 => 7 | 4 => 21 | _ => 7
def stC (i : Nat) : String := match i with | 1 => "LeavesRoom$Table" | 2 => "LeavesRoom$Table" | 3 => "LeavesRoom$Table" | 4 => "LeavesRoom$Acts" | _ => "LeavesRoom"
def stN (i : Nat) : String := match i with | 1 => "SEAT_AFTER" | 2 => "SEAT_AHEAD" | 3 => "IS_SISTER" | 4 => "BODIES" | _ => "KIND_ABOVE"
def strTx (i : Nat) : String := match i with | 0 => "bear " | 1 => "shun " | 2 => "thirst " | _ => "window "
def strLen : List Nat := [5, 5, 7, 7]
def strByt : List (List Int32) := [[98, 101, 97, 114, 32], [115, 104, 117, 110, 32], [116, 104, 105, 114, 115, 116, 32], [119, 105, 110, 100, 111, 119, 32]]
def strB : List (List Int) := [[98, 101, 97, 114, 32], [115, 104, 117, 110, 32], [116, 104, 105, 114, 115, 116, 32], [119, 105, 110, 100, 111, 119, 32]]
def isNestW : Cond → Bool
  | .fieldLinkNest _ _ _ _ _ _ => true
  | .methodLinkNest _ _ _ _ => true
  | .arrayOver (.object _) => true
  | _ => false
def wsA : List Cond := lw_tbl.filter goodWord
def nestW : List Cond := lw_tbl.filter isNestW
theorem mem_lwT {w : Cond} (i : Nat) (h : tables_1[i]? = some w) : w ∈ lw_tbl := List.mem_append_right _ (List.mem_of_getElem? h)
theorem mem_A {w : Cond} (i : Nat) (h : tables_1[i]? = some w) (g : goodWord w = true) : w ∈ wsA := List.mem_filter.mpr ⟨mem_lwT i h, g⟩
theorem mem_P {w : Cond} (i : Nat) (h : (k2_sels lw_privs)[i]? = some w) (g : goodWord w = true) : w ∈ wsA := List.mem_filter.mpr ⟨List.mem_append_left _ (List.mem_of_getElem? h), g⟩
theorem mem_N {w : Cond} (i : Nat) (h : tables_1[i]? = some w) (g : isNestW w = true) : w ∈ nestW := List.mem_filter.mpr ⟨mem_lwT i h, g⟩
theorem nest_warm {w : Cond} (hn : isNestW w = true) {s U : State} (hW : s.WarmedH U.vm) (h : va_Nw w s) : va_Nw w U := by
  cases w with
  | fieldLinkNest => exact va_Nw.warmF hW h
  | methodLinkNest => exact va_Nw.warmM hW h
  | arrayOver t =>
    cases t with
    | object C => exact va_AO.moved (C := C) hW.alike h
    | _ => exact absurd hn (by simp [isNestW])
  | _ => exact absurd hn (by simp [isNestW])
theorem nest_same {w : Cond} (hn : isNestW w = true) {s U : State} (hv : U.vm = s.vm) (h : va_Nw w s) : va_Nw w U := by
  cases w with
  | fieldLinkNest => exact va_Nw.same rfl hv.symm h
  | methodLinkNest => exact va_Nw.same rfl hv.symm h
  | arrayOver t =>
    cases t with
    | object C => exact va_AO.moved (C := C) (by rw [hv]; exact Vm.Alike.refl s.vm) h
    | _ => exact absurd hn (by simp [isNestW])
  | _ => exact absurd hn (by simp [isNestW])
def wsY (y : mth) : List Cond := Cond.code y.1 y.2.1 y.2.2.1 y.2.2.2.1 :: wsA
theorem good_Y {y : mth} (h : Cond.code y.1 y.2.1 y.2.2.1 y.2.2.2.1 ∈ wsA) : GoodIn wsA (wsY y) := by
  have hA : ∀ w ∈ wsA, w ∈ wsA ∧ ((w.onTables && w.keeps) = true ∨ ∃ ty, w = .arrayClass ty) := fun w hw => ⟨hw, good_of_word (List.mem_filter.mp hw).2⟩
  intro w hw
  rcases List.mem_cons.mp hw with e | hw
  · subst e; exact hA _ h
  · exact hA w hw
/-- the room at depth d -/
def rmd (d : Nat) (y : mth) : Room := { frames := d, cells := y.2.2.2.2.1, slots := y.2.2.2.2.2, locals := 41 * d + 32 }
def SW (K : Launch × Nat × (Nat → Int)) (ros : Nat → Nat) (fm : Value) (A : Nat → Prop) (U : State) (H : Heap) : Prop :=
  (∀ i, i < 6 → va_T .int (ros i) (roLen K i) (fun j => .int (Int32.ofInt (roC K i j))) A U H) ∧
  (∀ i, 1 ≤ i → i < 6 → va_Z (stC i) (stN i) "[I" (.ref (ros i)) A U H) ∧
  va_Z "java/lang/String" "COMPACT_STRINGS" "Z" (.int 1) A U H ∧
  va_Z "jdk/internal/util/Preconditions" "SIOOBE_FORMATTER" "Ljava/util/function/BiFunction;" fm A U H ∧
  vk_S 4 strLen strByt (fun i => ros (6 + i)) (fun i => ros (10 + i)) A U H ∧
  (∀ i, i < 4 → vk_R RX4 (76 + 2 * i) (strTx i) (ros (6 + i)) U) ∧ (fm = .null ∨ ∃ a, fm = .ref a) ∧ roLen K 0 < 2 ^ 31
theorem SW.kept {K : Launch × Nat × (Nat → Int)} {ros : Nat → Nat} {fm : Value} {A : Nat → Prop} {U : State} {H H1 : Heap} (h : SW K ros fm A U H) (hq : ∀ a : Nat, a < H.size → ¬ A a → H1[a]? = H[a]?) : SW K ros fm A U H1 :=
  ⟨fun i hi => (h.1 i hi).kept hq, fun i h1 h2 => (h.2.1 i h1 h2).kept hq, h.2.2.1.kept hq, h.2.2.2.1.kept hq, h.2.2.2.2.1.kept hq, h.2.2.2.2.2⟩
theorem SW.warm {K : Launch × Nat × (Nat → Int)} {ros : Nat → Nat} {fm : Value} {A : Nat → Prop} {s U : State} {H : Heap} (hW : s.WarmedH U.vm) (h : SW K ros fm A s H) : SW K ros fm A U H :=
  ⟨fun i hi => va_T.moved hW.alike (h.1 i hi), fun i h1 h2 => va_Z.moved hW.alike (h.2.1 i h1 h2), va_Z.moved hW.alike h.2.2.1, va_Z.moved hW.alike h.2.2.2.1, vk_S.moved hW.alike h.2.2.2.2.1, fun i hi => vk_R.warm hW (h.2.2.2.2.2.1 i hi), h.2.2.2.2.2.2⟩
theorem SW.same {K : Launch × Nat × (Nat → Int)} {ros : Nat → Nat} {fm : Value} {A : Nat → Prop} {s U : State} {H : Heap} (hv : U.vm = s.vm) (h : SW K ros fm A s H) : SW K ros fm A U H := by
  have ha : s.vm.Alike U.vm := by rw [hv]; exact Vm.Alike.refl s.vm
  exact ⟨fun i hi => va_T.moved ha (h.1 i hi), fun i h1 h2 => va_Z.moved ha (h.2.1 i h1 h2), va_Z.moved ha h.2.2.1, va_Z.moved ha h.2.2.2.1, vk_S.moved ha h.2.2.2.2.1, fun i hi => vk_R.same hv (h.2.2.2.2.2.1 i hi), h.2.2.2.2.2.2⟩
def FX (y : mth) (p : Program) (s : State) (m : MethodId) (args : Array Value) (meth : Method) (c : Code) : Prop :=
  p.tables.exec = Jvm.exec ∧ c.code = y.2.1 ∧ c.maxLocals = y.2.2.1 ∧ meth.sig.returnType = y.2.2.2.1 ∧ meth.locks = false ∧ s.vm.findClass y.1.cls = some m.cls ∧ meth.name = y.1.name ∧ (∀ w ∈ wsA, w.before args s = true) ∧ ∀ w ∈ nestW, va_Nw w s
/-- the heap: the cells, apart, with references to cells -/
def RH (D : va_G) (cA : Nat → ClassId) (ad : Nat → Nat) (A : Nat → Prop) (G : hp) (H : Heap) : Prop := va_P D vwCl (wl ad cA G) H ∧ va_D A (wl ad cA G) ∧ HV G
/-- how a method ends: its instruction, and what stands on the stack -/
def rtOk (y : mth) (pc : Nat) (v : av) : Prop :=
  (∃ ty, y.2.2.2.1 = some ty ∧ v.1 = 0 ∧ narrow ty (.int (Int32.ofInt v.2)) = .int (Int32.ofInt v.2) ∧ decode y.2.1 pc = .ok (.ireturn, 1)) ∨
  (y.2.2.2.1 = some .long ∧ v.1 = 1 ∧ decode y.2.1 pc = .ok (.lreturn, 1)) ∨
  (y.2.2.2.1 = none ∧ v.1 = 8 ∧ decode y.2.1 pc = .ok (.return_, 1)) ∨
  ((∃ n, y.2.2.2.1 = some (.object n)) ∧ v.1 = 3 ∧ decode y.2.1 pc = .ok (.areturn, 1))
def rst (w : Value) (v : av) : List Value := if v.1 = 8 then [] else [w]
def rvo (w : Value) (v : av) : Option Value := if v.1 = 8 then none else some w
def RC (K : Launch × Nat × (Nat → Int)) (R : Room) (y : mth) (p : Program) (e : Env) (s : State) (m : MethodId) (args : Array Value) (below : List Frame) (meth : Method) (c : Code) (D : va_G) (cA : Nat → ClassId) (ros : Nat → Nat) (fm : Value) (A : Nat → Prop) (n0 : Nat) (ad0 : Nat → Nat) (Q : hp → av → Prop) (QW : State → Prop) : Prop :=
  ∀ (G' : hp) (v : av) (ad : Nat → Nat) (H : Heap) (locs : List Loc) (ls : Array Slot) (pc : Nat), Q G' v → RH D cA ad A G' H → va_S A s.heap H locs → n0 ≤ G'.1 → (∀ k, k < n0 ∨ y.2.2.2.2.1 = 0 → ad k = ad0 k) → rtOk y pc v →
    W p K.1 e R s m args below meth c H locs y.2.2.2.2.1 y.2.2.2.2.2 QW (F0 m pc ls (rst (cv ad ros fm v) v))
def Cx (K : Launch × Nat × (Nat → Int)) (d : Nat) (y : mth) (Q : hp → av → Prop) (p : Program) (e : Env) (s : State) (m : MethodId) (args : Array Value) (below : List Frame) (meth : Method) (c : Code) (D : va_G) (cA : Nat → ClassId) (ros : Nat → Nat) (fm : Value) (A : Nat → Prop) (n0 : Nat) (ad0 : Nat → Nat) (QW : State → Prop) : Prop :=
  FX y p s m args meth c ∧ va_K D vwCl (tyl cA) s ∧ SW K ros fm A s s.heap ∧ (∀ q, s.heap.size ≤ q → A q) ∧ RC K (rmd d y) y p e s m args below meth c D cA ros fm A n0 ad0 Q QW
def Lok (V : av → Value) (nL : Nat) (L : List av) (ls : Array Slot) : Prop := ls.size = nL ∧ lv_wf ls ∧ ∀ (i : Nat) (v : av), L[i]? = some v → v.1 ≠ 9 → ls[i]? = some (.val (V v))
/-- from method y at pc, with these locals, this stack, this heap, kc cells and ks slots made so far, the method returns with Q -/
def WP (K : Launch × Nat × (Nat → Int)) (d : Nat) (y : mth) (kc ks pc : Nat) (L st : List av) (G : hp) (Q : hp → av → Prop) : Prop :=
  ∀ (p : Program) (e : Env) (s : State) (m : MethodId) (args : Array Value) (below : List Frame) (meth : Method) (c : Code) (D : va_G) (cA : Nat → ClassId) (ros : Nat → Nat) (fm : Value) (A : Nat → Prop) (n0 : Nat) (ad0 : Nat → Nat) (QW : State → Prop) (ad : Nat → Nat) (H : Heap) (locs : List Loc) (ls : Array Slot),
    Cx K d y Q p e s m args below meth c D cA ros fm A n0 ad0 QW → RH D cA ad A G H → va_S A s.heap H locs → n0 ≤ G.1 → (∀ k, k < n0 ∨ y.2.2.2.2.1 = 0 → ad k = ad0 k) → Lok (cv ad ros fm) y.2.2.1 L ls →
    W p K.1 e (rmd d y) s m args below meth c H locs kc ks QW (F0 m pc ls (st.map (cv ad ros fm)))
def cPre (K : Launch × Nat × (Nat → Int)) (D : va_G) (cA : Nat → ClassId) (ad ros : Nat → Nat) (fm : Value) (A : Nat → Prop) (vs : List av) (G : hp) : Array Value → State → Prop := fun a U =>
  a = (vs.map (cv ad ros fm)).toArray ∧ SW K ros fm A U U.heap ∧ RH D cA ad A G U.heap ∧ va_K D vwCl (tyl cA) U ∧ (∀ q, U.heap.size ≤ q → A q) ∧ ∀ w ∈ nestW, va_Nw w U
def cPost (mc : Nat) (D : va_G) (cA : Nat → ClassId) (ad ros : Nat → Nat) (fm : Value) (A : Nat → Prop) (G : hp) (Q : hp → av → Prop) : Array Value → State → Outcome → State → Prop := fun _ st o t =>
  (∃ (G' : hp) (v : av) (ad' : Nat → Nat), o = .returned (rvo (cv ad' ros fm v) v) ∧ Q G' v ∧ G.1 ≤ G'.1 ∧ (∀ k, k < G.1 ∨ mc = 0 → ad' k = ad k) ∧ RH D cA ad' A G' t.heap) ∧ va_F A st t
/-- a call of y with these arguments in this heap returns with Q -/
def CM (K : Launch × Nat × (Nat → Int)) (d : Nat) (y : mth) (vs : List av) (G : hp) (Q : hp → av → Prop) : Prop :=
  ∀ (D : va_G) (cA : Nat → ClassId) (ad ros : Nat → Nat) (fm : Value) (A : Nat → Prop), Met K.1 y.1 (wsY y) (rmd d y) (cPre K D cA ad ros fm A vs G) (cPost y.2.2.2.2.1 D cA ad ros fm A G Q) y.2.2.2.2.1 y.2.2.2.2.2 A
theorem cPre_blind {K : Launch × Nat × (Nat → Int)} {D : va_G} {cA : Nat → ClassId} {ad ros : Nat → Nat} {fm : Value} {A : Nat → Prop} {vs : List av} {G : hp} : FrameBlind (cPre K D cA ad ros fm A vs G) := by
  intro a U g mk h
  obtain ⟨h1, h2, h3, h4, h5, h6⟩ := h
  exact ⟨h1, SW.same (s := U) (U := U.calling g mk a) rfl h2, h3, va_K.moved (u := U) (U := U.calling g mk a) (Vm.Alike.refl U.vm) h4, h5, fun w hw => nest_same (List.mem_filter.mp hw).2 (s := U) (U := U.calling g mk a) rfl (h6 w hw)⟩
def eL : List av → List av
  | [] => []
  | v :: vs => if v.1 = 1 then v :: (9, 0) :: eL vs else v :: eL vs
def L0 (vs : List av) (n : Nat) : List av := eL vs ++ List.replicate (n - (eL vs).length) (9, 0)
theorem cv_cat (ad ros : Nat → Nat) {fm : Value} (hf : fm = .null ∨ ∃ a, fm = .ref a) (v : av) : (cv ad ros fm v).category = if v.1 = 1 then 2 else 1 := by
  obtain ⟨t, x⟩ := v
  match t with
  | 0 => rfl
  | 1 => rfl
  | 2 => simp only [cv, cr]; split <;> rfl
  | 3 => rfl
  | 4 => rcases hf with h | ⟨a, h⟩ <;> subst h <;> rfl
  | k + 5 => rfl
theorem eL_at {V : av → Value} (hV : ∀ v, (V v).category = if v.1 = 1 then 2 else 1) : ∀ (vs : List av) (b i : Nat) (v : av), (eL vs)[i]? = some v → v.1 ≠ 9 → (b + i, V v) ∈ lv_args b (vs.map V)
  | [], _, _, _, h, _ => by simp [eL] at h
  | u :: vs, b, i, v, h, h9 => by
    have hc := hV u
    by_cases hu : u.1 = 1
    · simp only [eL, hu, if_true] at h
      rw [if_pos hu] at hc
      simp only [List.map_cons, lv_args, hc, if_true]
      match i, h with
      | 0, h => simp at h; subst h; exact List.mem_cons.mpr (Or.inl rfl)
      | 1, h => simp at h; subst h; exact absurd rfl h9
      | i + 2, h =>
        have h' : (eL vs)[i]? = some v := by simpa using h
        have := eL_at hV vs (b + 2) i v h' h9
        rw [show b + (i + 2) = b + 2 + i from by omega]
        exact List.mem_cons_of_mem _ this
    · simp only [eL, hu, if_false] at h
      rw [if_neg hu] at hc
      have hc2 : ¬ (V u).category = 2 := by omega
      simp only [List.map_cons, lv_args, hc2, if_false]
      match i, h with
      | 0, h => simp at h; subst h; exact List.mem_cons.mpr (Or.inl rfl)
      | i + 1, h =>
        have h' : (eL vs)[i]? = some v := by simpa using h
        have := eL_at hV vs (b + 1) i v h' h9
        rw [show b + (i + 1) = b + 1 + i from by omega]
        exact List.mem_cons_of_mem _ this
theorem lg_len {ad ros : Nat → Nat} {fm : Value} (hf : fm = .null ∨ ∃ a, fm = .ref a) : ∀ vs : List av, (lg_sl (vs.map (cv ad ros fm))).length = (lg_sl (vs.map (cv (fun _ => 0) (fun _ => 0) .null))).length
  | [] => rfl
  | v :: vs => by
    have ih := lg_len (ad := ad) (ros := ros) hf vs
    have e1 := cv_cat ad ros hf v
    have e2 := cv_cat (fun _ => 0) (fun _ => 0) (fm := .null) (Or.inl rfl) v
    simp only [lg_sl, List.map_cons, List.flatMap_cons, List.length_append, e1, e2] at ih ⊢
    rw [ih]
    congr 1
    split <;> rfl
/-- the entry: a method's body gives its contract -/
theorem CM_of {K : Launch × Nat × (Nat → Int)} {d : Nat} {y : mth} {vs : List av} {G : hp} {Q : hp → av → Prop} (hpl : plainName y.1.cls = true) (hsz : (lg_sl ((vs.map (cv (fun _ => 0) (fun _ => 0) .null)))).length ≤ y.2.2.1) (L : List av) (hL : L0 vs y.2.2.1 = L)
    (h : WP K d y 0 0 0 L [] G Q) : CM K d y vs G Q := by
  subst hL
  intro D cA ad ros fm A
  refine Met.ofW (cc := y.2.1) (maxL := y.2.2.1) (ret := y.2.2.2.1) hpl rfl ?_
  intro p e s m args below meth c s₁ B hml hv
  obtain ⟨rfl, hSW, hRH, hK, hA, hN⟩ := hv
  have hts := atoms_spec (ws := wsY y) B.pre
  have hown : s.vm.findClass y.1.cls = some m.cls := findClass_of_methodNamed B.named
  have hin : meth.name = y.1.name := (name_of_methodNamed B.named B.method).1
  have hfm := hSW.2.2.2.2.2.2.1
  have hsz2 : (lg_sl (vs.map (cv ad ros fm))).length ≤ y.2.2.1 := by rw [lg_len hfm]; exact hsz
  have hl := lv_entry (vs.map (cv ad ros fm)) hsz2
  rw [lg_entry_eq]
  generalize (lg_sl (vs.map (cv ad ros fm)) ++ List.replicate (y.2.2.1 - (lg_sl (vs.map (cv ad ros fm))).length) Slot.unset).toArray = ls at hl ⊢
  refine h p e s m _ below meth c D cA ros fm A G.1 ad _ ad s.heap [] ls ⟨⟨B.exec, B.bytes, hml, B.returns, B.notSynchronized, hown, hin, fun w hw => hts w (List.mem_cons_of_mem _ hw), hN⟩, hK, hSW, hA, ?_⟩ hRH va_S.rf (Nat.le_refl _) (fun _ _ => rfl) ⟨hl.1, hl.2.1, ?_⟩
  · intro G' v ad' H locs ls' pc hQ hR hS hn had hrt
    have hq : ∀ t : State, t.heap = H → s.WarmedH t.vm → cPost y.2.2.2.2.1 D cA ad ros fm A G Q (vs.map (cv ad ros fm)).toArray s (.returned (rvo (cv ad' ros fm v) v)) t := fun t ht _ => ⟨⟨G', v, ad', rfl, hQ, hn, had, by rw [ht]; exact hR⟩, hS.F ht⟩
    rcases hrt with ⟨ty, e1, e2, e3, e4⟩ | ⟨e1, e2, e4⟩ | ⟨e1, e2, e4⟩ | ⟨⟨n, e1⟩, e2, e4⟩
    · obtain ⟨t0, x⟩ := v
      cases e2
      exact W.zret (v := Int32.ofInt x) (ty := ty) B.exec B.bytes (by rw [B.returns]; exact e1) e3 hq hS.2.2 e4
    · obtain ⟨t0, x⟩ := v
      cases e2
      exact W.lret (v := Int64.ofInt x) B.exec B.bytes (by rw [B.returns]; exact e1) hq hS.2.2 e4
    · obtain ⟨t0, x⟩ := v
      cases e2
      exact W.vret B.exec B.bytes (by rw [B.returns]; exact e1) hq hS.2.2 e4
    · obtain ⟨t0, x⟩ := v
      cases e2
      exact W.aret (v := .ref (ros x.toNat)) B.exec B.bytes (by rw [B.returns]; exact e1) (Or.inl ⟨_, rfl⟩) (Or.inr ⟨_, rfl⟩) hq hS.2.2 e4
  · intro i v hi h9
    have hi' : (eL vs)[i]? = some v := by
      rw [L0, List.getElem?_append] at hi
      by_cases hlt : i < (eL vs).length
      · rwa [if_pos hlt] at hi
      · rw [if_neg hlt, List.getElem?_replicate] at hi
        by_cases hq : i - (eL vs).length < y.2.2.1 - (eL vs).length
        · rw [if_pos hq] at hi; cases hi; exact absurd rfl h9
        · rw [if_neg hq] at hi; cases hi
    have hm := eL_at (V := cv ad ros fm) (cv_cat ad ros hfm) vs 0 i v hi' h9
    have := hl.2.2 _ hm
    simpa using this
/-- more may be asked of the end -/
theorem CM.mono {K : Launch × Nat × (Nat → Int)} {d : Nat} {y : mth} {vs : List av} {G : hp} {Q Q' : hp → av → Prop} (h : CM K d y vs G Q) (hQ : ∀ G' v, Q G' v → Q' G' v) : CM K d y vs G Q' := by
  intro D cA ad ros fm A p e ha hc hk s m args below hf hX hP _
  obtain ⟨t, o, h1, h2, h3, ⟨⟨⟨G', v, ad', g1, g2, g3⟩, hF⟩, hL⟩⟩ := h D cA ad ros fm A p e ha hc hk s m args below hf hX hP trivial
  exact ⟨t, o, h1, h2, h3, ⟨⟨⟨G', v, ad', g1, hQ _ _ g2, g3⟩, hF⟩, hL⟩⟩
end
section
/-! RULES: one an instruction -/
def ir (x : Int) : Prop := -2147483648 ≤ x ∧ x ≤ 2147483647
def il (x : Int) : Prop := -9223372036854775808 ≤ x ∧ x ≤ 9223372036854775807
def bAnd (x y : Int) : Int := (Int32.ofInt x &&& Int32.ofInt y).toInt
def bOr (x y : Int) : Int := (Int32.ofInt x ||| Int32.ofInt y).toInt
def bXor (x y : Int) : Int := (Int32.ofInt x ^^^ Int32.ofInt y).toInt
def bShl (x y : Int) : Int := (Int32.ofInt x <<< (Int32.ofInt y &&& 31)).toInt
def bShr (x y : Int) : Int := (Int32.ofInt x >>> (Int32.ofInt y &&& 31)).toInt
def bUshr (x y : Int) : Int := ((Int32.ofInt x).toUInt32 >>> ((Int32.ofInt y).toUInt32 &&& Int32.toUInt32 31)).toInt32.toInt
def toB (x : Int) : Int := (Int32.ofInt x).toInt8.toInt32.toInt
def toS (x : Int) : Int := (Int32.ofInt x).toInt16.toInt32.toInt
def toC (x : Int) : Int := ((Int32.ofInt x).toUInt32 % 65536).toInt32.toInt
def toI (x : Int) : Int := (Int64.ofInt x).toInt32.toInt
def lAnd (x y : Int) : Int := (Int64.ofInt x &&& Int64.ofInt y).toInt
def lOr (x y : Int) : Int := (Int64.ofInt x ||| Int64.ofInt y).toInt
def lShl (x y : Int) : Int := (Int64.ofInt x <<< ((Int32.ofInt y).toInt64 &&& 63)).toInt
theorem ir_lo {a : Int} (h : ir a) : Int32.minValue.toInt ≤ a := h.1
theorem ir_hi {a : Int} (h : ir a) : a ≤ Int32.maxValue.toInt := h.2
theorem il_lo {a : Int} (h : il a) : Int64.minValue.toInt ≤ a := h.1
theorem il_hi {a : Int} (h : il a) : a ≤ Int64.maxValue.toInt := h.2
theorem i_lt {a b : Int} (ha : ir a) (hb : ir b) : Int32.ofInt a < Int32.ofInt b ↔ a < b := Int32.ofInt_lt_iff_lt (ir_lo ha) (ir_hi ha) (ir_lo hb) (ir_hi hb)
theorem i_le {a b : Int} (ha : ir a) (hb : ir b) : Int32.ofInt a ≤ Int32.ofInt b ↔ a ≤ b := Int32.ofInt_le_iff_le (ir_lo ha) (ir_hi ha) (ir_lo hb) (ir_hi hb)
theorem i_to {a : Int} (h : ir a) : (Int32.ofInt a).toInt = a := Int32.toInt_ofInt_of_le (by have := h.1; omega) (by have := h.2; omega)
theorem i_eq {a b : Int} (ha : ir a) (hb : ir b) : Int32.ofInt a = Int32.ofInt b ↔ a = b := ⟨fun q => by rw [← i_to ha, ← i_to hb, q], fun q => by rw [q]⟩
theorem l_to {a : Int} (h : il a) : (Int64.ofInt a).toInt = a := Int64.toInt_ofInt_of_le (by have := h.1; omega) (by have := h.2; omega)
theorem ir0 : ir 0 := ⟨by decide, by decide⟩
theorem ir_toInt (z : Int32) : ir z.toInt := ⟨by have := Int32.le_toInt z; omega, by have := Int32.toInt_lt z; omega⟩
theorem il_toInt (z : Int64) : il z.toInt := ⟨by have := Int64.le_toInt z; omega, by have := Int64.toInt_lt z; omega⟩
theorem i_clamp {a : Int} (h0 : 0 ≤ a) (h1 : a < 2147483648) : (Int32.ofInt a).toNatClampNeg = a.toNat := by
  show (Int32.ofInt a).toInt.toNat = a.toNat
  rw [i_to ⟨by omega, by omega⟩]
theorem i_in {a : Int} {n : Nat} (h0 : 0 ≤ a) (h1 : a < n) (hn : n ≤ 2147483648) : vp_in (Int32.ofInt a) n := by
  have h : ir a := ⟨by omega, by omega⟩
  rw [vp_in_iff, i_to h]
  exact ⟨h0, h1⟩
def gl : List av → Nat → av
  | [], _ => (9, 0)
  | a :: _, 0 => a
  | _ :: l, i + 1 => gl l i
def sl : List av → Nat → av → List av
  | [], _, _ => []
  | _ :: l, 0, v => v :: l
  | a :: l, i + 1, v => a :: sl l i v
/-- no long stands at the place ahead -/
def nlb (L : List av) : Nat → Bool
  | 0 => true
  | i + 1 => (gl L i).1 != 1
theorem gl_get : ∀ {L : List av} {i : Nat} {v : av}, gl L i = v → v.1 ≠ 9 → L[i]? = some v
  | [], _, _, h, h9 => by subst h; exact absurd rfl h9
  | a :: _, 0, _, h, _ => by subst h; rfl
  | _ :: l, i + 1, v, h, h9 => by simpa using gl_get (L := l) (i := i) (v := v) h h9
theorem get_gl : ∀ {L : List av} {i : Nat} {v : av}, L[i]? = some v → gl L i = v
  | [], _, _, h => by simp at h
  | a :: _, 0, _, h => by simpa [gl] using h
  | _ :: l, i + 1, v, h => by simpa [gl] using get_gl (L := l) (i := i) (v := v) (by simpa using h)
theorem sl_eq : ∀ (L : List av) (i : Nat) (v : av), sl L i v = L.set i v
  | [], _, _ => rfl
  | _ :: _, 0, _ => rfl
  | a :: l, i + 1, v => by simp [sl, sl_eq l i v]
theorem Lok.at {V : av → Value} {nL : Nat} {L : List av} {ls : Array Slot} (h : Lok V nL L ls) {i : Nat} {v : av} (hi : gl L i = v) (h9 : v.1 ≠ 9) : ls[i]? = some (.val (V v)) := h.2.2 i v (gl_get hi h9) h9
def lvs (V : av → Value) (L : List av) : List (Nat × Value) := (List.range L.length).filterMap (fun i => if (gl L i).1 = 9 then none else some (i, V (gl L i)))
theorem mem_lvs {V : av → Value} {L : List av} {q : Nat × Value} : q ∈ lvs V L ↔ ∃ v, L[q.1]? = some v ∧ v.1 ≠ 9 ∧ q.2 = V v := by
  unfold lvs
  rw [List.mem_filterMap]
  constructor
  · rintro ⟨i, hi, h⟩
    by_cases h9 : (gl L i).1 = 9
    · rw [if_pos h9] at h; cases h
    · rw [if_neg h9] at h
      cases h
      exact ⟨gl L i, gl_get rfl h9, h9, rfl⟩
  · rintro ⟨v, h1, h2, h3⟩
    have hlt : q.1 < L.length := (List.getElem?_eq_some_iff.mp h1).1
    have hg := get_gl h1
    refine ⟨q.1, List.mem_range.mpr hlt, ?_⟩
    rw [hg, if_neg h2, ← h3]
theorem Lok.has {V : av → Value} {nL : Nat} {L : List av} {ls : Array Slot} (h : Lok V nL L ls) : lv_has ls nL (lvs V L) := ⟨h.1, h.2.1, fun q hq => by
  obtain ⟨v, h1, h2, h3⟩ := mem_lvs.mp hq
  rw [h3]; exact h.2.2 _ _ h1 h2⟩
/-- behind a store of one slot -/
theorem Lok.st {V : av → Value} (hV : ∀ v, (V v).category = if v.1 = 1 then 2 else 1) {nL : Nat} {L : List av} {ls : Array Slot} {i : Nat} {v : av} {w : Value} (hn : nlb L i = true) (hw : w = V v)
    (h : lv_has ls nL ((i, w) :: (lvs V L).filter (fun q => !(q.1 == i) && !(q.1 + 1 == i && q.2.category == 2)))) : Lok V nL (sl L i v) ls := by
  refine ⟨h.1, h.2.1, fun j u hj h9 => ?_⟩
  rw [sl_eq, List.getElem?_set] at hj
  by_cases hij : i = j
  · subst hij
    rw [if_pos rfl] at hj
    by_cases hlt : i < L.length
    · rw [if_pos hlt] at hj
      cases hj
      rw [← hw]
      exact h.2.2 _ List.mem_cons_self
    · rw [if_neg hlt] at hj; cases hj
  · rw [if_neg hij] at hj
    refine h.2.2 (j, V u) (List.mem_cons_of_mem _ (List.mem_filter.mpr ⟨mem_lvs.mpr ⟨u, hj, h9, rfl⟩, ?_⟩))
    have h1 : (j == i) = false := by simp; omega
    have h2 : (j + 1 == i && (V u).category == 2) = false := by
      by_cases hji : j + 1 = i
      · subst hji
        have hg := get_gl hj
        simp only [nlb, hg, bne_iff_ne, ne_eq] at hn
        rw [hV u, if_neg hn]
        simp
      · simp [hji]
    simp [h1, h2]
def avc (v : av) : Nat := if v.1 = 1 then 2 else 1
theorem cat_sum {ad ros : Nat → Nat} {fm : Value} (hf : fm = .null ∨ ∃ a, fm = .ref a) (st : List av) : ((st.map (cv ad ros fm)).map fun v => v.category).sum = (st.map avc).sum := by
  rw [List.map_map]
  congr 1
  apply List.map_congr_left
  intro v _
  exact cv_cat ad ros hf v

theorem R_iconst {K : Launch × Nat × (Nat → Int)} {d : Nat} {y : mth} {kc ks pc pc' : Nat} {L st : List av} {G : hp} {Q : hp → av → Prop} {n : Int} (hd : decode y.2.1 pc = .ok (.iconst n, 1))  (hn : pc + 1 = pc') (k : WP K d y kc ks pc' L ((0, n) :: st) G Q) : WP K d y kc ks pc L (st) G Q := by
  subst hn
  intro p e s m args below meth c D cA ros fm A n0 ad0 QW ad H locs ls C hR hS hn0 ha hl
  obtain ⟨⟨hx, hb, hml, hr, hlk, hown, hmn, hts, hnw⟩, hK, hSW, hA, hRC⟩ := id C
  have k' := k p e s m args below meth c D cA ros fm A n0 ad0 QW ad H locs ls C hR hS hn0 ha hl
  exact lv_iconst hx hb hd rfl (W.eq (rfl) k')
theorem R_bipush {K : Launch × Nat × (Nat → Int)} {d : Nat} {y : mth} {kc ks pc pc' : Nat} {L st : List av} {G : hp} {Q : hp → av → Prop} {n : Int} (hd : decode y.2.1 pc = .ok (.bipush n, 2)) (hv : (Int8.ofInt n).toInt32 = Int32.ofInt n) (hn : pc + 2 = pc') (k : WP K d y kc ks pc' L ((0, n) :: st) G Q) : WP K d y kc ks pc L (st) G Q := by
  subst hn
  intro p e s m args below meth c D cA ros fm A n0 ad0 QW ad H locs ls C hR hS hn0 ha hl
  obtain ⟨⟨hx, hb, hml, hr, hlk, hown, hmn, hts, hnw⟩, hK, hSW, hA, hRC⟩ := id C
  have k' := k p e s m args below meth c D cA ros fm A n0 ad0 QW ad H locs ls C hR hS hn0 ha hl
  exact lv_bipush hx hb hd hv (W.eq (rfl) k')
theorem R_sipush {K : Launch × Nat × (Nat → Int)} {d : Nat} {y : mth} {kc ks pc pc' : Nat} {L st : List av} {G : hp} {Q : hp → av → Prop} {n : Int} (hd : decode y.2.1 pc = .ok (.sipush n, 3)) (hv : (Int16.ofInt n).toInt32 = Int32.ofInt n) (hn : pc + 3 = pc') (k : WP K d y kc ks pc' L ((0, n) :: st) G Q) : WP K d y kc ks pc L (st) G Q := by
  subst hn
  intro p e s m args below meth c D cA ros fm A n0 ad0 QW ad H locs ls C hR hS hn0 ha hl
  obtain ⟨⟨hx, hb, hml, hr, hlk, hown, hmn, hts, hnw⟩, hK, hSW, hA, hRC⟩ := id C
  have k' := k p e s m args below meth c D cA ros fm A n0 ad0 QW ad H locs ls C hR hS hn0 ha hl
  exact lv_sipush hx hb hd hv (W.eq (rfl) k')
theorem R_lconst {K : Launch × Nat × (Nat → Int)} {d : Nat} {y : mth} {kc ks pc pc' : Nat} {L st : List av} {G : hp} {Q : hp → av → Prop} {n : Fin 2} {x : Int} (hd : decode y.2.1 pc = .ok (.lconst n, 1)) (hv : Int64.ofNat (n : Nat) = Int64.ofInt x) (hn : pc + 1 = pc') (k : WP K d y kc ks pc' L ((1, x) :: st) G Q) : WP K d y kc ks pc L (st) G Q := by
  subst hn
  intro p e s m args below meth c D cA ros fm A n0 ad0 QW ad H locs ls C hR hS hn0 ha hl
  obtain ⟨⟨hx, hb, hml, hr, hlk, hown, hmn, hts, hnw⟩, hK, hSW, hA, hRC⟩ := id C
  have k' := k p e s m args below meth c D cA ros fm A n0 ad0 QW ad H locs ls C hR hS hn0 ha hl
  exact lv_lconst hx hb hd hv (W.eq (rfl) k')
theorem R_ldc {K : Launch × Nat × (Nat → Int)} {d : Nat} {y : mth} {kc ks pc pc' : Nat} {L st : List av} {G : hp} {Q : hp → av → Prop} {idx : Nat} {v : Int32} {x : Int} (hd : decode y.2.1 pc = .ok (.ldc idx, 2)) (hw : Cond.constant y.1.cls idx v ∈ wsA) (hv : v = Int32.ofInt x) (hn : pc + 2 = pc') (k : WP K d y kc ks pc' L ((0, x) :: st) G Q) : WP K d y kc ks pc L (st) G Q := by
  subst hn
  intro p e s m args below meth c D cA ros fm A n0 ad0 QW ad H locs ls C hR hS hn0 ha hl
  obtain ⟨⟨hx, hb, hml, hr, hlk, hown, hmn, hts, hnw⟩, hK, hSW, hA, hRC⟩ := id C
  have k' := k p e s m args below meth c D cA ros fm A n0 ad0 QW ad H locs ls C hR hS hn0 ha hl
  exact lv_ldc hx hb hown (hts _ hw) hd (W.eq (by subst hv; rfl) k')
theorem R_ldcw {K : Launch × Nat × (Nat → Int)} {d : Nat} {y : mth} {kc ks pc pc' : Nat} {L st : List av} {G : hp} {Q : hp → av → Prop} {idx : Nat} {v : Int32} {x : Int} (hd : decode y.2.1 pc = .ok (.ldc_w idx, 3)) (hw : Cond.constant y.1.cls idx v ∈ wsA) (hv : v = Int32.ofInt x) (hn : pc + 3 = pc') (k : WP K d y kc ks pc' L ((0, x) :: st) G Q) : WP K d y kc ks pc L (st) G Q := by
  subst hn
  intro p e s m args below meth c D cA ros fm A n0 ad0 QW ad H locs ls C hR hS hn0 ha hl
  obtain ⟨⟨hx, hb, hml, hr, hlk, hown, hmn, hts, hnw⟩, hK, hSW, hA, hRC⟩ := id C
  have k' := k p e s m args below meth c D cA ros fm A n0 ad0 QW ad H locs ls C hR hS hn0 ha hl
  exact lv_ldcw hx hb hown (hts _ hw) hd (W.eq (by subst hv; rfl) k')
theorem R_ldc2 {K : Launch × Nat × (Nat → Int)} {d : Nat} {y : mth} {kc ks pc pc' : Nat} {L st : List av} {G : hp} {Q : hp → av → Prop} {idx : Nat} {v : Int64} {x : Int} (hd : decode y.2.1 pc = .ok (.ldc2_w idx, 3)) (hw : Cond.constantLong y.1.cls idx v ∈ wsA) (hv : v = Int64.ofInt x) (hn : pc + 3 = pc') (k : WP K d y kc ks pc' L ((1, x) :: st) G Q) : WP K d y kc ks pc L (st) G Q := by
  subst hn
  intro p e s m args below meth c D cA ros fm A n0 ad0 QW ad H locs ls C hR hS hn0 ha hl
  obtain ⟨⟨hx, hb, hml, hr, hlk, hown, hmn, hts, hnw⟩, hK, hSW, hA, hRC⟩ := id C
  have k' := k p e s m args below meth c D cA ros fm A n0 ad0 QW ad H locs ls C hR hS hn0 ha hl
  exact lv_ldc2 hx hb hown (hts _ hw) hd (W.eq (by subst hv; rfl) k')
theorem R_iload_n {K : Launch × Nat × (Nat → Int)} {d : Nat} {y : mth} {kc ks pc pc' : Nat} {L st : List av} {G : hp} {Q : hp → av → Prop} {i : Fin 4} {x : Int} (hd : decode y.2.1 pc = .ok (.iload_n i, 1)) (hg : gl L i = (0, x)) (hn : pc + 1 = pc') (k : WP K d y kc ks pc' L ((0, x) :: st) G Q) : WP K d y kc ks pc L (st) G Q := by
  subst hn
  intro p e s m args below meth c D cA ros fm A n0 ad0 QW ad H locs ls C hR hS hn0 ha hl
  obtain ⟨⟨hx, hb, hml, hr, hlk, hown, hmn, hts, hnw⟩, hK, hSW, hA, hRC⟩ := id C
  have k' := k p e s m args below meth c D cA ros fm A n0 ad0 QW ad H locs ls C hR hS hn0 ha hl
  exact lv_iload_n hx hb hd rfl (hl.at hg (by simp)) (W.eq (rfl) k')
theorem R_iload {K : Launch × Nat × (Nat → Int)} {d : Nat} {y : mth} {kc ks pc pc' : Nat} {L st : List av} {G : hp} {Q : hp → av → Prop} {i : Nat} {x : Int} (hd : decode y.2.1 pc = .ok (.iload i, 2)) (hg : gl L i = (0, x)) (hn : pc + 2 = pc') (k : WP K d y kc ks pc' L ((0, x) :: st) G Q) : WP K d y kc ks pc L (st) G Q := by
  subst hn
  intro p e s m args below meth c D cA ros fm A n0 ad0 QW ad H locs ls C hR hS hn0 ha hl
  obtain ⟨⟨hx, hb, hml, hr, hlk, hown, hmn, hts, hnw⟩, hK, hSW, hA, hRC⟩ := id C
  have k' := k p e s m args below meth c D cA ros fm A n0 ad0 QW ad H locs ls C hR hS hn0 ha hl
  exact lv_iload hx hb hd (hl.at hg (by simp)) (W.eq (rfl) k')
theorem R_lload_n {K : Launch × Nat × (Nat → Int)} {d : Nat} {y : mth} {kc ks pc pc' : Nat} {L st : List av} {G : hp} {Q : hp → av → Prop} {i : Fin 4} {x : Int} (hd : decode y.2.1 pc = .ok (.lload_n i, 1)) (hg : gl L i = (1, x)) (hn : pc + 1 = pc') (k : WP K d y kc ks pc' L ((1, x) :: st) G Q) : WP K d y kc ks pc L (st) G Q := by
  subst hn
  intro p e s m args below meth c D cA ros fm A n0 ad0 QW ad H locs ls C hR hS hn0 ha hl
  obtain ⟨⟨hx, hb, hml, hr, hlk, hown, hmn, hts, hnw⟩, hK, hSW, hA, hRC⟩ := id C
  have k' := k p e s m args below meth c D cA ros fm A n0 ad0 QW ad H locs ls C hR hS hn0 ha hl
  exact lv_lload_n hx hb hd rfl (hl.at hg (by simp)) (W.eq (rfl) k')
theorem R_aload_n {K : Launch × Nat × (Nat → Int)} {d : Nat} {y : mth} {kc ks pc pc' : Nat} {L st : List av} {G : hp} {Q : hp → av → Prop} {i : Fin 4} {x : Int} (hd : decode y.2.1 pc = .ok (.aload_n i, 1)) (hg : gl L i = (2, x)) (h0 : 0 ≤ x) (hn : pc + 1 = pc') (k : WP K d y kc ks pc' L ((2, x) :: st) G Q) : WP K d y kc ks pc L (st) G Q := by
  subst hn
  intro p e s m args below meth c D cA ros fm A n0 ad0 QW ad H locs ls C hR hS hn0 ha hl
  obtain ⟨⟨hx, hb, hml, hr, hlk, hown, hmn, hts, hnw⟩, hK, hSW, hA, hRC⟩ := id C
  have k' := k p e s m args below meth c D cA ros fm A n0 ad0 QW ad H locs ls C hR hS hn0 ha hl
  have hc : cv ad ros fm (2, x) = .ref (ad x.toNat) := by simp only [cv, cr, if_neg (Int.not_lt.mpr h0), va_rf]
  exact lv_aload_n hx hb hd rfl (by rw [← hc]; exact hl.at hg (by simp)) (W.eq (by rw [List.map_cons, hc]) k')
theorem R_aload {K : Launch × Nat × (Nat → Int)} {d : Nat} {y : mth} {kc ks pc pc' : Nat} {L st : List av} {G : hp} {Q : hp → av → Prop} {i : Nat} {x : Int} (hd : decode y.2.1 pc = .ok (.aload i, 2)) (hg : gl L i = (2, x)) (h0 : 0 ≤ x) (hn : pc + 2 = pc') (k : WP K d y kc ks pc' L ((2, x) :: st) G Q) : WP K d y kc ks pc L (st) G Q := by
  subst hn
  intro p e s m args below meth c D cA ros fm A n0 ad0 QW ad H locs ls C hR hS hn0 ha hl
  obtain ⟨⟨hx, hb, hml, hr, hlk, hown, hmn, hts, hnw⟩, hK, hSW, hA, hRC⟩ := id C
  have k' := k p e s m args below meth c D cA ros fm A n0 ad0 QW ad H locs ls C hR hS hn0 ha hl
  have hc : cv ad ros fm (2, x) = .ref (ad x.toNat) := by simp only [cv, cr, if_neg (Int.not_lt.mpr h0), va_rf]
  exact lv_aload hx hb hd (by rw [← hc]; exact hl.at hg (by simp)) (W.eq (by rw [List.map_cons, hc]) k')
theorem R_aload_n3 {K : Launch × Nat × (Nat → Int)} {d : Nat} {y : mth} {kc ks pc pc' : Nat} {L st : List av} {G : hp} {Q : hp → av → Prop} {i : Fin 4} {x : Int} (hd : decode y.2.1 pc = .ok (.aload_n i, 1)) (hg : gl L i = (3, x)) (hn : pc + 1 = pc') (k : WP K d y kc ks pc' L ((3, x) :: st) G Q) : WP K d y kc ks pc L (st) G Q := by
  subst hn
  intro p e s m args below meth c D cA ros fm A n0 ad0 QW ad H locs ls C hR hS hn0 ha hl
  obtain ⟨⟨hx, hb, hml, hr, hlk, hown, hmn, hts, hnw⟩, hK, hSW, hA, hRC⟩ := id C
  have k' := k p e s m args below meth c D cA ros fm A n0 ad0 QW ad H locs ls C hR hS hn0 ha hl
  exact lv_aload_n hx hb hd rfl (hl.at hg (by simp)) (W.eq (rfl) k')
theorem R_iadd {K : Launch × Nat × (Nat → Int)} {d : Nat} {y : mth} {kc ks pc pc' : Nat} {L st : List av} {G : hp} {Q : hp → av → Prop} {a b : Int} (hd : decode y.2.1 pc = .ok (.iadd, 1))  (hn : pc + 1 = pc') (k : WP K d y kc ks pc' L ((0, a + b) :: st) G Q) : WP K d y kc ks pc L ((0, b) :: (0, a) :: st) G Q := by
  subst hn
  intro p e s m args below meth c D cA ros fm A n0 ad0 QW ad H locs ls C hR hS hn0 ha hl
  obtain ⟨⟨hx, hb, hml, hr, hlk, hown, hmn, hts, hnw⟩, hK, hSW, hA, hRC⟩ := id C
  have k' := k p e s m args below meth c D cA ros fm A n0 ad0 QW ad H locs ls C hR hS hn0 ha hl
  exact lv_iadd hx hb (x := Int32.ofInt a) (y := Int32.ofInt b) hd (W.eq (by show F0 _ _ _ (_ :: _) = F0 _ _ _ (Value.int (Int32.ofInt (a + b)) :: _); rw [Int32.ofInt_add]) k')
theorem R_isub {K : Launch × Nat × (Nat → Int)} {d : Nat} {y : mth} {kc ks pc pc' : Nat} {L st : List av} {G : hp} {Q : hp → av → Prop} {a b : Int} (hd : decode y.2.1 pc = .ok (.isub, 1))  (hn : pc + 1 = pc') (k : WP K d y kc ks pc' L ((0, a - b) :: st) G Q) : WP K d y kc ks pc L ((0, b) :: (0, a) :: st) G Q := by
  subst hn
  intro p e s m args below meth c D cA ros fm A n0 ad0 QW ad H locs ls C hR hS hn0 ha hl
  obtain ⟨⟨hx, hb, hml, hr, hlk, hown, hmn, hts, hnw⟩, hK, hSW, hA, hRC⟩ := id C
  have k' := k p e s m args below meth c D cA ros fm A n0 ad0 QW ad H locs ls C hR hS hn0 ha hl
  exact lv_isub hx hb (x := Int32.ofInt a) (y := Int32.ofInt b) hd (W.eq (by show F0 _ _ _ (_ :: _) = F0 _ _ _ (Value.int (Int32.ofInt (a - b)) :: _); rw [Int32.ofInt_sub]) k')
theorem R_imul {K : Launch × Nat × (Nat → Int)} {d : Nat} {y : mth} {kc ks pc pc' : Nat} {L st : List av} {G : hp} {Q : hp → av → Prop} {a b : Int} (hd : decode y.2.1 pc = .ok (.imul, 1))  (hn : pc + 1 = pc') (k : WP K d y kc ks pc' L ((0, a * b) :: st) G Q) : WP K d y kc ks pc L ((0, b) :: (0, a) :: st) G Q := by
  subst hn
  intro p e s m args below meth c D cA ros fm A n0 ad0 QW ad H locs ls C hR hS hn0 ha hl
  obtain ⟨⟨hx, hb, hml, hr, hlk, hown, hmn, hts, hnw⟩, hK, hSW, hA, hRC⟩ := id C
  have k' := k p e s m args below meth c D cA ros fm A n0 ad0 QW ad H locs ls C hR hS hn0 ha hl
  exact lv_imul hx hb (x := Int32.ofInt a) (y := Int32.ofInt b) hd (W.eq (by show F0 _ _ _ (_ :: _) = F0 _ _ _ (Value.int (Int32.ofInt (a * b)) :: _); rw [Int32.ofInt_mul]) k')
theorem R_ineg {K : Launch × Nat × (Nat → Int)} {d : Nat} {y : mth} {kc ks pc pc' : Nat} {L st : List av} {G : hp} {Q : hp → av → Prop} {a : Int} (hd : decode y.2.1 pc = .ok (.ineg, 1))  (hn : pc + 1 = pc') (k : WP K d y kc ks pc' L ((0, -a) :: st) G Q) : WP K d y kc ks pc L ((0, a) :: st) G Q := by
  subst hn
  intro p e s m args below meth c D cA ros fm A n0 ad0 QW ad H locs ls C hR hS hn0 ha hl
  obtain ⟨⟨hx, hb, hml, hr, hlk, hown, hmn, hts, hnw⟩, hK, hSW, hA, hRC⟩ := id C
  have k' := k p e s m args below meth c D cA ros fm A n0 ad0 QW ad H locs ls C hR hS hn0 ha hl
  exact lv_ineg hx hb (x := Int32.ofInt a) hd (W.eq (by show F0 _ _ _ (_ :: _) = F0 _ _ _ (Value.int (Int32.ofInt (-a)) :: _); rw [Int32.ofInt_neg]) k')
theorem R_idiv {K : Launch × Nat × (Nat → Int)} {d : Nat} {y : mth} {kc ks pc pc' : Nat} {L st : List av} {G : hp} {Q : hp → av → Prop} {a b : Int} (hd : decode y.2.1 pc = .ok (.idiv, 1)) (h0 : 0 < b) (h1 : ir a) (h2 : ir b) (hn : pc + 1 = pc') (k : WP K d y kc ks pc' L ((0, a.tdiv b) :: st) G Q) : WP K d y kc ks pc L ((0, b) :: (0, a) :: st) G Q := by
  subst hn
  intro p e s m args below meth c D cA ros fm A n0 ad0 QW ad H locs ls C hR hS hn0 ha hl
  obtain ⟨⟨hx, hb, hml, hr, hlk, hown, hmn, hts, hnw⟩, hK, hSW, hA, hRC⟩ := id C
  have k' := k p e s m args below meth c D cA ros fm A n0 ad0 QW ad H locs ls C hR hS hn0 ha hl
  exact lv_idiv hx hb (x := Int32.ofInt a) (y := Int32.ofInt b) hd (fun q => by have := (i_eq h2 ir0).mp q; omega) (W.eq (by show F0 _ _ _ (_ :: _) = F0 _ _ _ (Value.int (Int32.ofInt (a.tdiv b)) :: _); rw [Int32.ofInt_tdiv (ir_lo h1) (ir_hi h1) (ir_lo h2) (ir_hi h2)]) k')
theorem R_irem {K : Launch × Nat × (Nat → Int)} {d : Nat} {y : mth} {kc ks pc pc' : Nat} {L st : List av} {G : hp} {Q : hp → av → Prop} {a b : Int} (hd : decode y.2.1 pc = .ok (.irem, 1)) (h0 : 0 < b) (h1 : ir a) (h2 : ir b) (hn : pc + 1 = pc') (k : WP K d y kc ks pc' L ((0, a.tmod b) :: st) G Q) : WP K d y kc ks pc L ((0, b) :: (0, a) :: st) G Q := by
  subst hn
  intro p e s m args below meth c D cA ros fm A n0 ad0 QW ad H locs ls C hR hS hn0 ha hl
  obtain ⟨⟨hx, hb, hml, hr, hlk, hown, hmn, hts, hnw⟩, hK, hSW, hA, hRC⟩ := id C
  have k' := k p e s m args below meth c D cA ros fm A n0 ad0 QW ad H locs ls C hR hS hn0 ha hl
  exact lv_irem hx hb (x := Int32.ofInt a) (y := Int32.ofInt b) hd (fun q => by have := (i_eq h2 ir0).mp q; omega) (W.eq (by show F0 _ _ _ (_ :: _) = F0 _ _ _ (Value.int (Int32.ofInt (a.tmod b)) :: _); rw [Int32.ofInt_tmod (ir_lo h1) (ir_hi h1) (ir_lo h2) (ir_hi h2), irem_eq_mod]) k')
theorem R_iand {K : Launch × Nat × (Nat → Int)} {d : Nat} {y : mth} {kc ks pc pc' : Nat} {L st : List av} {G : hp} {Q : hp → av → Prop} {a b : Int} (hd : decode y.2.1 pc = .ok (.iand, 1))  (hn : pc + 1 = pc') (k : WP K d y kc ks pc' L ((0, bAnd a b) :: st) G Q) : WP K d y kc ks pc L ((0, b) :: (0, a) :: st) G Q := by
  subst hn
  intro p e s m args below meth c D cA ros fm A n0 ad0 QW ad H locs ls C hR hS hn0 ha hl
  obtain ⟨⟨hx, hb, hml, hr, hlk, hown, hmn, hts, hnw⟩, hK, hSW, hA, hRC⟩ := id C
  have k' := k p e s m args below meth c D cA ros fm A n0 ad0 QW ad H locs ls C hR hS hn0 ha hl
  exact lv_iand hx hb (x := Int32.ofInt a) (y := Int32.ofInt b) hd (W.eq (by show F0 _ _ _ (_ :: _) = F0 _ _ _ (Value.int (Int32.ofInt (bAnd a b)) :: _); rw [bAnd, Int32.ofInt_toInt]) k')
theorem R_ior {K : Launch × Nat × (Nat → Int)} {d : Nat} {y : mth} {kc ks pc pc' : Nat} {L st : List av} {G : hp} {Q : hp → av → Prop} {a b : Int} (hd : decode y.2.1 pc = .ok (.ior, 1))  (hn : pc + 1 = pc') (k : WP K d y kc ks pc' L ((0, bOr a b) :: st) G Q) : WP K d y kc ks pc L ((0, b) :: (0, a) :: st) G Q := by
  subst hn
  intro p e s m args below meth c D cA ros fm A n0 ad0 QW ad H locs ls C hR hS hn0 ha hl
  obtain ⟨⟨hx, hb, hml, hr, hlk, hown, hmn, hts, hnw⟩, hK, hSW, hA, hRC⟩ := id C
  have k' := k p e s m args below meth c D cA ros fm A n0 ad0 QW ad H locs ls C hR hS hn0 ha hl
  exact lv_ior hx hb (x := Int32.ofInt a) (y := Int32.ofInt b) hd (W.eq (by show F0 _ _ _ (_ :: _) = F0 _ _ _ (Value.int (Int32.ofInt (bOr a b)) :: _); rw [bOr, Int32.ofInt_toInt]) k')
theorem R_ixor {K : Launch × Nat × (Nat → Int)} {d : Nat} {y : mth} {kc ks pc pc' : Nat} {L st : List av} {G : hp} {Q : hp → av → Prop} {a b : Int} (hd : decode y.2.1 pc = .ok (.ixor, 1))  (hn : pc + 1 = pc') (k : WP K d y kc ks pc' L ((0, bXor a b) :: st) G Q) : WP K d y kc ks pc L ((0, b) :: (0, a) :: st) G Q := by
  subst hn
  intro p e s m args below meth c D cA ros fm A n0 ad0 QW ad H locs ls C hR hS hn0 ha hl
  obtain ⟨⟨hx, hb, hml, hr, hlk, hown, hmn, hts, hnw⟩, hK, hSW, hA, hRC⟩ := id C
  have k' := k p e s m args below meth c D cA ros fm A n0 ad0 QW ad H locs ls C hR hS hn0 ha hl
  exact lv_ixor hx hb (x := Int32.ofInt a) (y := Int32.ofInt b) hd (W.eq (by show F0 _ _ _ (_ :: _) = F0 _ _ _ (Value.int (Int32.ofInt (bXor a b)) :: _); rw [bXor, Int32.ofInt_toInt]) k')
theorem R_ishl {K : Launch × Nat × (Nat → Int)} {d : Nat} {y : mth} {kc ks pc pc' : Nat} {L st : List av} {G : hp} {Q : hp → av → Prop} {a b : Int} (hd : decode y.2.1 pc = .ok (.ishl, 1))  (hn : pc + 1 = pc') (k : WP K d y kc ks pc' L ((0, bShl a b) :: st) G Q) : WP K d y kc ks pc L ((0, b) :: (0, a) :: st) G Q := by
  subst hn
  intro p e s m args below meth c D cA ros fm A n0 ad0 QW ad H locs ls C hR hS hn0 ha hl
  obtain ⟨⟨hx, hb, hml, hr, hlk, hown, hmn, hts, hnw⟩, hK, hSW, hA, hRC⟩ := id C
  have k' := k p e s m args below meth c D cA ros fm A n0 ad0 QW ad H locs ls C hR hS hn0 ha hl
  exact lv_ishl hx hb (x := Int32.ofInt a) (y := Int32.ofInt b) hd (W.eq (by show F0 _ _ _ (_ :: _) = F0 _ _ _ (Value.int (Int32.ofInt (bShl a b)) :: _); rw [bShl, Int32.ofInt_toInt]) k')
theorem R_ishr {K : Launch × Nat × (Nat → Int)} {d : Nat} {y : mth} {kc ks pc pc' : Nat} {L st : List av} {G : hp} {Q : hp → av → Prop} {a b : Int} (hd : decode y.2.1 pc = .ok (.ishr, 1))  (hn : pc + 1 = pc') (k : WP K d y kc ks pc' L ((0, bShr a b) :: st) G Q) : WP K d y kc ks pc L ((0, b) :: (0, a) :: st) G Q := by
  subst hn
  intro p e s m args below meth c D cA ros fm A n0 ad0 QW ad H locs ls C hR hS hn0 ha hl
  obtain ⟨⟨hx, hb, hml, hr, hlk, hown, hmn, hts, hnw⟩, hK, hSW, hA, hRC⟩ := id C
  have k' := k p e s m args below meth c D cA ros fm A n0 ad0 QW ad H locs ls C hR hS hn0 ha hl
  exact lv_ishr hx hb (x := Int32.ofInt a) (y := Int32.ofInt b) hd (W.eq (by show F0 _ _ _ (_ :: _) = F0 _ _ _ (Value.int (Int32.ofInt (bShr a b)) :: _); rw [bShr, Int32.ofInt_toInt]) k')
theorem R_iushr {K : Launch × Nat × (Nat → Int)} {d : Nat} {y : mth} {kc ks pc pc' : Nat} {L st : List av} {G : hp} {Q : hp → av → Prop} {a b : Int} (hd : decode y.2.1 pc = .ok (.iushr, 1))  (hn : pc + 1 = pc') (k : WP K d y kc ks pc' L ((0, bUshr a b) :: st) G Q) : WP K d y kc ks pc L ((0, b) :: (0, a) :: st) G Q := by
  subst hn
  intro p e s m args below meth c D cA ros fm A n0 ad0 QW ad H locs ls C hR hS hn0 ha hl
  obtain ⟨⟨hx, hb, hml, hr, hlk, hown, hmn, hts, hnw⟩, hK, hSW, hA, hRC⟩ := id C
  have k' := k p e s m args below meth c D cA ros fm A n0 ad0 QW ad H locs ls C hR hS hn0 ha hl
  exact lv_iushr hx hb (x := Int32.ofInt a) (y := Int32.ofInt b) hd rfl (W.eq (by show F0 _ _ _ (_ :: _) = F0 _ _ _ (Value.int (Int32.ofInt (bUshr a b)) :: _); rw [bUshr, Int32.ofInt_toInt]) k')
theorem R_i2b {K : Launch × Nat × (Nat → Int)} {d : Nat} {y : mth} {kc ks pc pc' : Nat} {L st : List av} {G : hp} {Q : hp → av → Prop} {a : Int} (hd : decode y.2.1 pc = .ok (.i2b, 1))  (hn : pc + 1 = pc') (k : WP K d y kc ks pc' L ((0, toB a) :: st) G Q) : WP K d y kc ks pc L ((0, a) :: st) G Q := by
  subst hn
  intro p e s m args below meth c D cA ros fm A n0 ad0 QW ad H locs ls C hR hS hn0 ha hl
  obtain ⟨⟨hx, hb, hml, hr, hlk, hown, hmn, hts, hnw⟩, hK, hSW, hA, hRC⟩ := id C
  have k' := k p e s m args below meth c D cA ros fm A n0 ad0 QW ad H locs ls C hR hS hn0 ha hl
  exact lv_i2b hx hb (x := Int32.ofInt a) hd rfl (W.eq (by show F0 _ _ _ (_ :: _) = F0 _ _ _ (Value.int (Int32.ofInt (toB a)) :: _); rw [toB, Int32.ofInt_toInt]) k')
theorem R_i2s {K : Launch × Nat × (Nat → Int)} {d : Nat} {y : mth} {kc ks pc pc' : Nat} {L st : List av} {G : hp} {Q : hp → av → Prop} {a : Int} (hd : decode y.2.1 pc = .ok (.i2s, 1))  (hn : pc + 1 = pc') (k : WP K d y kc ks pc' L ((0, toS a) :: st) G Q) : WP K d y kc ks pc L ((0, a) :: st) G Q := by
  subst hn
  intro p e s m args below meth c D cA ros fm A n0 ad0 QW ad H locs ls C hR hS hn0 ha hl
  obtain ⟨⟨hx, hb, hml, hr, hlk, hown, hmn, hts, hnw⟩, hK, hSW, hA, hRC⟩ := id C
  have k' := k p e s m args below meth c D cA ros fm A n0 ad0 QW ad H locs ls C hR hS hn0 ha hl
  exact lv_i2s hx hb (x := Int32.ofInt a) hd rfl (W.eq (by show F0 _ _ _ (_ :: _) = F0 _ _ _ (Value.int (Int32.ofInt (toS a)) :: _); rw [toS, Int32.ofInt_toInt]) k')
theorem R_i2c {K : Launch × Nat × (Nat → Int)} {d : Nat} {y : mth} {kc ks pc pc' : Nat} {L st : List av} {G : hp} {Q : hp → av → Prop} {a : Int} (hd : decode y.2.1 pc = .ok (.i2c, 1))  (hn : pc + 1 = pc') (k : WP K d y kc ks pc' L ((0, toC a) :: st) G Q) : WP K d y kc ks pc L ((0, a) :: st) G Q := by
  subst hn
  intro p e s m args below meth c D cA ros fm A n0 ad0 QW ad H locs ls C hR hS hn0 ha hl
  obtain ⟨⟨hx, hb, hml, hr, hlk, hown, hmn, hts, hnw⟩, hK, hSW, hA, hRC⟩ := id C
  have k' := k p e s m args below meth c D cA ros fm A n0 ad0 QW ad H locs ls C hR hS hn0 ha hl
  exact lv_i2c hx hb (x := Int32.ofInt a) hd rfl (W.eq (by show F0 _ _ _ (_ :: _) = F0 _ _ _ (Value.int (Int32.ofInt (toC a)) :: _); rw [toC, Int32.ofInt_toInt]) k')
theorem R_i2l {K : Launch × Nat × (Nat → Int)} {d : Nat} {y : mth} {kc ks pc pc' : Nat} {L st : List av} {G : hp} {Q : hp → av → Prop} {a : Int} (hd : decode y.2.1 pc = .ok (.i2l, 1)) (h1 : ir a) (hn : pc + 1 = pc') (k : WP K d y kc ks pc' L ((1, a) :: st) G Q) : WP K d y kc ks pc L ((0, a) :: st) G Q := by
  subst hn
  intro p e s m args below meth c D cA ros fm A n0 ad0 QW ad H locs ls C hR hS hn0 ha hl
  obtain ⟨⟨hx, hb, hml, hr, hlk, hown, hmn, hts, hnw⟩, hK, hSW, hA, hRC⟩ := id C
  have k' := k p e s m args below meth c D cA ros fm A n0 ad0 QW ad H locs ls C hR hS hn0 ha hl
  exact lv_i2l hx hb (x := Int32.ofInt a) (v := Int64.ofInt a) hd (by rw [← Int64.ofInt_int32ToInt, i_to h1]) (W.eq (rfl) k')
theorem R_l2i {K : Launch × Nat × (Nat → Int)} {d : Nat} {y : mth} {kc ks pc pc' : Nat} {L st : List av} {G : hp} {Q : hp → av → Prop} {a : Int} (hd : decode y.2.1 pc = .ok (.l2i, 1))  (hn : pc + 1 = pc') (k : WP K d y kc ks pc' L ((0, toI a) :: st) G Q) : WP K d y kc ks pc L ((1, a) :: st) G Q := by
  subst hn
  intro p e s m args below meth c D cA ros fm A n0 ad0 QW ad H locs ls C hR hS hn0 ha hl
  obtain ⟨⟨hx, hb, hml, hr, hlk, hown, hmn, hts, hnw⟩, hK, hSW, hA, hRC⟩ := id C
  have k' := k p e s m args below meth c D cA ros fm A n0 ad0 QW ad H locs ls C hR hS hn0 ha hl
  exact lv_l2i hx hb (x := Int64.ofInt a) hd rfl (W.eq (by show F0 _ _ _ (_ :: _) = F0 _ _ _ (Value.int (Int32.ofInt (toI a)) :: _); rw [toI, Int32.ofInt_toInt]) k')
theorem R_land {K : Launch × Nat × (Nat → Int)} {d : Nat} {y : mth} {kc ks pc pc' : Nat} {L st : List av} {G : hp} {Q : hp → av → Prop} {a b : Int} (hd : decode y.2.1 pc = .ok (.land, 1))  (hn : pc + 1 = pc') (k : WP K d y kc ks pc' L ((1, lAnd a b) :: st) G Q) : WP K d y kc ks pc L ((1, b) :: (1, a) :: st) G Q := by
  subst hn
  intro p e s m args below meth c D cA ros fm A n0 ad0 QW ad H locs ls C hR hS hn0 ha hl
  obtain ⟨⟨hx, hb, hml, hr, hlk, hown, hmn, hts, hnw⟩, hK, hSW, hA, hRC⟩ := id C
  have k' := k p e s m args below meth c D cA ros fm A n0 ad0 QW ad H locs ls C hR hS hn0 ha hl
  exact lv_land hx hb (x := Int64.ofInt a) (y := Int64.ofInt b) hd (W.eq (by show F0 _ _ _ (_ :: _) = F0 _ _ _ (Value.long (Int64.ofInt (lAnd a b)) :: _); rw [lAnd, Int64.ofInt_toInt]) k')
theorem R_lor {K : Launch × Nat × (Nat → Int)} {d : Nat} {y : mth} {kc ks pc pc' : Nat} {L st : List av} {G : hp} {Q : hp → av → Prop} {a b : Int} (hd : decode y.2.1 pc = .ok (.lor, 1))  (hn : pc + 1 = pc') (k : WP K d y kc ks pc' L ((1, lOr a b) :: st) G Q) : WP K d y kc ks pc L ((1, b) :: (1, a) :: st) G Q := by
  subst hn
  intro p e s m args below meth c D cA ros fm A n0 ad0 QW ad H locs ls C hR hS hn0 ha hl
  obtain ⟨⟨hx, hb, hml, hr, hlk, hown, hmn, hts, hnw⟩, hK, hSW, hA, hRC⟩ := id C
  have k' := k p e s m args below meth c D cA ros fm A n0 ad0 QW ad H locs ls C hR hS hn0 ha hl
  exact lv_lor hx hb (x := Int64.ofInt a) (y := Int64.ofInt b) hd (W.eq (by show F0 _ _ _ (_ :: _) = F0 _ _ _ (Value.long (Int64.ofInt (lOr a b)) :: _); rw [lOr, Int64.ofInt_toInt]) k')
theorem R_lshl {K : Launch × Nat × (Nat → Int)} {d : Nat} {y : mth} {kc ks pc pc' : Nat} {L st : List av} {G : hp} {Q : hp → av → Prop} {a b : Int} (hd : decode y.2.1 pc = .ok (.lshl, 1))  (hn : pc + 1 = pc') (k : WP K d y kc ks pc' L ((1, lShl a b) :: st) G Q) : WP K d y kc ks pc L ((0, b) :: (1, a) :: st) G Q := by
  subst hn
  intro p e s m args below meth c D cA ros fm A n0 ad0 QW ad H locs ls C hR hS hn0 ha hl
  obtain ⟨⟨hx, hb, hml, hr, hlk, hown, hmn, hts, hnw⟩, hK, hSW, hA, hRC⟩ := id C
  have k' := k p e s m args below meth c D cA ros fm A n0 ad0 QW ad H locs ls C hR hS hn0 ha hl
  exact lv_lshl hx hb (x := Int64.ofInt a) (y := Int32.ofInt b) hd rfl (W.eq (by show F0 _ _ _ (_ :: _) = F0 _ _ _ (Value.long (Int64.ofInt (lShl a b)) :: _); rw [lShl, Int64.ofInt_toInt]) k')
theorem R_lcmp_eq {K : Launch × Nat × (Nat → Int)} {d : Nat} {y : mth} {kc ks pc pc' : Nat} {L st : List av} {G : hp} {Q : hp → av → Prop} {a b : Int} (hd : decode y.2.1 pc = .ok (.lcmp, 1)) (he : a = b) (hn : pc + 1 = pc') (k : WP K d y kc ks pc' L ((0, 0) :: st) G Q) : WP K d y kc ks pc L ((1, b) :: (1, a) :: st) G Q := by
  subst hn
  intro p e s m args below meth c D cA ros fm A n0 ad0 QW ad H locs ls C hR hS hn0 ha hl
  obtain ⟨⟨hx, hb, hml, hr, hlk, hown, hmn, hts, hnw⟩, hK, hSW, hA, hRC⟩ := id C
  have k' := k p e s m args below meth c D cA ros fm A n0 ad0 QW ad H locs ls C hR hS hn0 ha hl
  exact W.lcmp hx hb (x := Int64.ofInt a) (y := Int64.ofInt b) hd (W.eq (by subst he; show F0 _ _ _ (Value.int (lg_cmp (Int64.ofInt a) (Int64.ofInt a)) :: _) = F0 _ _ _ (Value.int (Int32.ofInt 0) :: _); simp [lg_cmp]) k')
theorem R_lcmp_ne {K : Launch × Nat × (Nat → Int)} {d : Nat} {y : mth} {kc ks pc pc' : Nat} {L st : List av} {G : hp} {Q : hp → av → Prop} {a b x : Int} (hd : decode y.2.1 pc = .ok (.lcmp, 1)) (h1 : il a) (h2 : il b) (he : ¬ a = b) (hx0 : x = if b < a then 1 else -1) (hn : pc + 1 = pc') (k : WP K d y kc ks pc' L ((0, x) :: st) G Q) : WP K d y kc ks pc L ((1, b) :: (1, a) :: st) G Q := by
  subst hn
  intro p e s m args below meth c D cA ros fm A n0 ad0 QW ad H locs ls C hR hS hn0 ha hl
  obtain ⟨⟨hx, hb, hml, hr, hlk, hown, hmn, hts, hnw⟩, hK, hSW, hA, hRC⟩ := id C
  have k' := k p e s m args below meth c D cA ros fm A n0 ad0 QW ad H locs ls C hR hS hn0 ha hl
  exact W.lcmp hx hb (x := Int64.ofInt a) (y := Int64.ofInt b) hd (W.eq (by subst hx0; show F0 _ _ _ (Value.int (lg_cmp (Int64.ofInt a) (Int64.ofInt b)) :: _) = F0 _ _ _ (Value.int (Int32.ofInt (if b < a then 1 else -1)) :: _); have e1 : ¬ Int64.ofInt a = Int64.ofInt b := (fun q => he (by rw [← l_to h1, ← l_to h2, q])); have e2 := (Int64.ofInt_lt_iff_lt (il_lo h2) (il_hi h2) (il_lo h1) (il_hi h1)); simp only [lg_cmp, gt_iff_lt, e1, if_false, e2]; split <;> rfl) k')
theorem R_dup {K : Launch × Nat × (Nat → Int)} {d : Nat} {y : mth} {kc ks pc pc' : Nat} {L st : List av} {G : hp} {Q : hp → av → Prop} {v : av} (hd : decode y.2.1 pc = .ok (.dup, 1)) (h1 : v.1 ≠ 1) (hn : pc + 1 = pc') (k : WP K d y kc ks pc' L (v :: v :: st) G Q) : WP K d y kc ks pc L (v :: st) G Q := by
  subst hn
  intro p e s m args below meth c D cA ros fm A n0 ad0 QW ad H locs ls C hR hS hn0 ha hl
  obtain ⟨⟨hx, hb, hml, hr, hlk, hown, hmn, hts, hnw⟩, hK, hSW, hA, hRC⟩ := id C
  have k' := k p e s m args below meth c D cA ros fm A n0 ad0 QW ad H locs ls C hR hS hn0 ha hl
  exact lv_dup hx hb hd (by rw [cv_cat ad ros hSW.2.2.2.2.2.2.1, if_neg h1]) (W.eq (rfl) k')
theorem R_pop {K : Launch × Nat × (Nat → Int)} {d : Nat} {y : mth} {kc ks pc pc' : Nat} {L st : List av} {G : hp} {Q : hp → av → Prop} {v : av} (hd : decode y.2.1 pc = .ok (.pop, 1)) (h1 : v.1 ≠ 1) (hn : pc + 1 = pc') (k : WP K d y kc ks pc' L (st) G Q) : WP K d y kc ks pc L (v :: st) G Q := by
  subst hn
  intro p e s m args below meth c D cA ros fm A n0 ad0 QW ad H locs ls C hR hS hn0 ha hl
  obtain ⟨⟨hx, hb, hml, hr, hlk, hown, hmn, hts, hnw⟩, hK, hSW, hA, hRC⟩ := id C
  have k' := k p e s m args below meth c D cA ros fm A n0 ad0 QW ad H locs ls C hR hS hn0 ha hl
  exact lv_pop hx hb hd (by rw [cv_cat ad ros hSW.2.2.2.2.2.2.1, if_neg h1]) (W.eq (rfl) k')
theorem R_dup2 {K : Launch × Nat × (Nat → Int)} {d : Nat} {y : mth} {kc ks pc pc' : Nat} {L st : List av} {G : hp} {Q : hp → av → Prop} {v u : av} (hd : decode y.2.1 pc = .ok (.dup2, 1)) (h1 : v.1 ≠ 1) (h2 : u.1 ≠ 1) (hn : pc + 1 = pc') (k : WP K d y kc ks pc' L (v :: u :: v :: u :: st) G Q) : WP K d y kc ks pc L (v :: u :: st) G Q := by
  subst hn
  intro p e s m args below meth c D cA ros fm A n0 ad0 QW ad H locs ls C hR hS hn0 ha hl
  obtain ⟨⟨hx, hb, hml, hr, hlk, hown, hmn, hts, hnw⟩, hK, hSW, hA, hRC⟩ := id C
  have k' := k p e s m args below meth c D cA ros fm A n0 ad0 QW ad H locs ls C hR hS hn0 ha hl
  exact lv_dup2_11 hx hb hd (by rw [cv_cat ad ros hSW.2.2.2.2.2.2.1, if_neg h1]) (by rw [cv_cat ad ros hSW.2.2.2.2.2.2.1, if_neg h2]) (W.eq (rfl) k')
theorem R_istore_n {K : Launch × Nat × (Nat → Int)} {d : Nat} {y : mth} {kc ks pc pc' : Nat} {L st : List av} {G : hp} {Q : hp → av → Prop} {L' : List av} {i : Fin 4} {x : Int} (hd : decode y.2.1 pc = .ok (.istore_n i, 1)) (hi : (i : Nat) < y.2.2.1) (hb2 : nlb L i = true) (hL : sl L i (0, x) = L') (hn : pc + 1 = pc') (k : WP K d y kc ks pc' L' st G Q) : WP K d y kc ks pc L ((0, x) :: st) G Q := by
  subst hn; subst hL
  intro p e s m args below meth c D cA ros fm A n0 ad0 QW ad H locs ls C hR hS hn0 ha hl
  obtain ⟨⟨hx, hb, hml, hr, hlk, hown, hmn, hts, hnw⟩, hK, hSW, hA, hRC⟩ := id C
  exact lv_istore_n (x := Int32.ofInt x) hx hb hd rfl hl.has hi rfl (fun ls' hl' => k p e s m args below meth c D cA ros fm A n0 ad0 QW ad H locs ls' C hR hS hn0 ha (Lok.st (cv_cat ad ros hSW.2.2.2.2.2.2.1) hb2 rfl hl'))
theorem R_istore {K : Launch × Nat × (Nat → Int)} {d : Nat} {y : mth} {kc ks pc pc' : Nat} {L st : List av} {G : hp} {Q : hp → av → Prop} {L' : List av} {i : Nat} {x : Int} (hd : decode y.2.1 pc = .ok (.istore i, 2)) (hi : (i : Nat) < y.2.2.1) (hb2 : nlb L i = true) (hL : sl L i (0, x) = L') (hn : pc + 2 = pc') (k : WP K d y kc ks pc' L' st G Q) : WP K d y kc ks pc L ((0, x) :: st) G Q := by
  subst hn; subst hL
  intro p e s m args below meth c D cA ros fm A n0 ad0 QW ad H locs ls C hR hS hn0 ha hl
  obtain ⟨⟨hx, hb, hml, hr, hlk, hown, hmn, hts, hnw⟩, hK, hSW, hA, hRC⟩ := id C
  exact lv_istore (x := Int32.ofInt x) hx hb hd hl.has hi rfl (fun ls' hl' => k p e s m args below meth c D cA ros fm A n0 ad0 QW ad H locs ls' C hR hS hn0 ha (Lok.st (cv_cat ad ros hSW.2.2.2.2.2.2.1) hb2 rfl hl'))
theorem R_astore_n {K : Launch × Nat × (Nat → Int)} {d : Nat} {y : mth} {kc ks pc pc' : Nat} {L st : List av} {G : hp} {Q : hp → av → Prop} {L' : List av} {i : Fin 4} {x : Int} (hd : decode y.2.1 pc = .ok (.astore_n i, 1)) (h0 : 0 ≤ x) (hi : (i : Nat) < y.2.2.1) (hb2 : nlb L i = true) (hL : sl L i (2, x) = L') (hn : pc + 1 = pc') (k : WP K d y kc ks pc' L' st G Q) : WP K d y kc ks pc L ((2, x) :: st) G Q := by
  subst hn; subst hL
  intro p e s m args below meth c D cA ros fm A n0 ad0 QW ad H locs ls C hR hS hn0 ha hl
  obtain ⟨⟨hx, hb, hml, hr, hlk, hown, hmn, hts, hnw⟩, hK, hSW, hA, hRC⟩ := id C
  have hc : cv ad ros fm (2, x) = .ref (ad x.toNat) := by simp only [cv, cr, if_neg (Int.not_lt.mpr h0), va_rf]
  refine W.eq (g2 := F0 m pc ls (.ref (ad x.toNat) :: st.map (cv ad ros fm))) (by rw [List.map_cons, hc]) ?_
  exact lv_astore_n (x := ad x.toNat) hx hb hd rfl hl.has hi rfl (fun ls' hl' => k p e s m args below meth c D cA ros fm A n0 ad0 QW ad H locs ls' C hR hS hn0 ha (Lok.st (cv_cat ad ros hSW.2.2.2.2.2.2.1) hb2 hc.symm hl'))
theorem R_astore {K : Launch × Nat × (Nat → Int)} {d : Nat} {y : mth} {kc ks pc pc' : Nat} {L st : List av} {G : hp} {Q : hp → av → Prop} {L' : List av} {i : Nat} {x : Int} (hd : decode y.2.1 pc = .ok (.astore i, 2)) (h0 : 0 ≤ x) (hi : (i : Nat) < y.2.2.1) (hb2 : nlb L i = true) (hL : sl L i (2, x) = L') (hn : pc + 2 = pc') (k : WP K d y kc ks pc' L' st G Q) : WP K d y kc ks pc L ((2, x) :: st) G Q := by
  subst hn; subst hL
  intro p e s m args below meth c D cA ros fm A n0 ad0 QW ad H locs ls C hR hS hn0 ha hl
  obtain ⟨⟨hx, hb, hml, hr, hlk, hown, hmn, hts, hnw⟩, hK, hSW, hA, hRC⟩ := id C
  have hc : cv ad ros fm (2, x) = .ref (ad x.toNat) := by simp only [cv, cr, if_neg (Int.not_lt.mpr h0), va_rf]
  refine W.eq (g2 := F0 m pc ls (.ref (ad x.toNat) :: st.map (cv ad ros fm))) (by rw [List.map_cons, hc]) ?_
  exact lv_astore (x := ad x.toNat) hx hb hd hl.has hi rfl (fun ls' hl' => k p e s m args below meth c D cA ros fm A n0 ad0 QW ad H locs ls' C hR hS hn0 ha (Lok.st (cv_cat ad ros hSW.2.2.2.2.2.2.1) hb2 hc.symm hl'))
theorem R_iinc {K : Launch × Nat × (Nat → Int)} {d : Nat} {y : mth} {kc ks pc pc' : Nat} {L st : List av} {G : hp} {Q : hp → av → Prop} {L' : List av} {i : Nat} {n x : Int} (hd : decode y.2.1 pc = .ok (.iinc i n, 3)) (hg : gl L i = (0, x)) (hi : (i : Nat) < y.2.2.1) (hb2 : nlb L i = true) (hL : sl L i (0, x + n) = L') (hn : pc + 3 = pc') (k : WP K d y kc ks pc' L' st G Q) : WP K d y kc ks pc L st G Q := by
  subst hn; subst hL
  intro p e s m args below meth c D cA ros fm A n0 ad0 QW ad H locs ls C hR hS hn0 ha hl
  obtain ⟨⟨hx, hb, hml, hr, hlk, hown, hmn, hts, hnw⟩, hK, hSW, hA, hRC⟩ := id C
  obtain ⟨j, hj⟩ := List.getElem?_of_mem (mem_lvs.mpr ⟨(0, x), gl_get hg (by simp), by simp, rfl⟩ : (i, cv ad ros fm (0, x)) ∈ lvs (cv ad ros fm) L)
  exact lv_iinc (x := Int32.ofInt x) (v := Int32.ofInt (x + n)) hx hb hd hl.has (k := j) hj (by rw [Int32.ofInt_add]) hi rfl (fun ls' hl' => k p e s m args below meth c D cA ros fm A n0 ad0 QW ad H locs ls' C hR hS hn0 ha (Lok.st (cv_cat ad ros hSW.2.2.2.2.2.2.1) hb2 rfl hl'))
theorem R_if_eq {K : Launch × Nat × (Nat → Int)} {d : Nat} {y : mth} {kc ks pc pc' : Nat} {L st : List av} {G : hp} {Q : hp → av → Prop} {a b off : Int} {tgt : Nat} (hd : decode y.2.1 pc = .ok (.ifCond .eq off, 3)) (ht : (pc : Int) + off = (tgt : Int)) (h1 : ir a) (hn : pc + 3 = pc') (kt : a = 0 → WP K d y kc ks tgt L st G Q) (kf : ¬ (a = 0) → WP K d y kc ks pc' L st G Q) : WP K d y kc ks pc L ((0, a) :: st) G Q := by
  subst hn
  intro p e s m args below meth c D cA ros fm A n0 ad0 QW ad H locs ls C hR hS hn0 ha hl
  obtain ⟨⟨hx, hb, hml, hr, hlk, hown, hmn, hts, hnw⟩, hK, hSW, hA, hRC⟩ := id C
  exact lv_if_eq hx hb (x := Int32.ofInt a) hd ht (fun q => kt ((i_eq h1 ir0).mp q) p e s m args below meth c D cA ros fm A n0 ad0 QW ad H locs ls C hR hS hn0 ha hl) (fun q => kf (fun z => q ((i_eq h1 ir0).mpr z)) p e s m args below meth c D cA ros fm A n0 ad0 QW ad H locs ls C hR hS hn0 ha hl)
theorem R_if_lt {K : Launch × Nat × (Nat → Int)} {d : Nat} {y : mth} {kc ks pc pc' : Nat} {L st : List av} {G : hp} {Q : hp → av → Prop} {a b off : Int} {tgt : Nat} (hd : decode y.2.1 pc = .ok (.ifCond .lt off, 3)) (ht : (pc : Int) + off = (tgt : Int)) (h1 : ir a) (hn : pc + 3 = pc') (kt : a < 0 → WP K d y kc ks tgt L st G Q) (kf : ¬ (a < 0) → WP K d y kc ks pc' L st G Q) : WP K d y kc ks pc L ((0, a) :: st) G Q := by
  subst hn
  intro p e s m args below meth c D cA ros fm A n0 ad0 QW ad H locs ls C hR hS hn0 ha hl
  obtain ⟨⟨hx, hb, hml, hr, hlk, hown, hmn, hts, hnw⟩, hK, hSW, hA, hRC⟩ := id C
  exact lv_if_lt hx hb (x := Int32.ofInt a) hd ht (fun q => kt ((i_lt h1 ir0).mp q) p e s m args below meth c D cA ros fm A n0 ad0 QW ad H locs ls C hR hS hn0 ha hl) (fun q => kf (fun z => q ((i_lt h1 ir0).mpr z)) p e s m args below meth c D cA ros fm A n0 ad0 QW ad H locs ls C hR hS hn0 ha hl)
theorem R_if_ge {K : Launch × Nat × (Nat → Int)} {d : Nat} {y : mth} {kc ks pc pc' : Nat} {L st : List av} {G : hp} {Q : hp → av → Prop} {a b off : Int} {tgt : Nat} (hd : decode y.2.1 pc = .ok (.ifCond .ge off, 3)) (ht : (pc : Int) + off = (tgt : Int)) (h1 : ir a) (hn : pc + 3 = pc') (kt : 0 ≤ a → WP K d y kc ks tgt L st G Q) (kf : ¬ (0 ≤ a) → WP K d y kc ks pc' L st G Q) : WP K d y kc ks pc L ((0, a) :: st) G Q := by
  subst hn
  intro p e s m args below meth c D cA ros fm A n0 ad0 QW ad H locs ls C hR hS hn0 ha hl
  obtain ⟨⟨hx, hb, hml, hr, hlk, hown, hmn, hts, hnw⟩, hK, hSW, hA, hRC⟩ := id C
  exact lv_if_ge hx hb (x := Int32.ofInt a) hd ht (fun q => kt ((i_le ir0 h1).mp q) p e s m args below meth c D cA ros fm A n0 ad0 QW ad H locs ls C hR hS hn0 ha hl) (fun q => kf (fun z => q ((i_le ir0 h1).mpr z)) p e s m args below meth c D cA ros fm A n0 ad0 QW ad H locs ls C hR hS hn0 ha hl)
theorem R_if_gt {K : Launch × Nat × (Nat → Int)} {d : Nat} {y : mth} {kc ks pc pc' : Nat} {L st : List av} {G : hp} {Q : hp → av → Prop} {a b off : Int} {tgt : Nat} (hd : decode y.2.1 pc = .ok (.ifCond .gt off, 3)) (ht : (pc : Int) + off = (tgt : Int)) (h1 : ir a) (hn : pc + 3 = pc') (kt : 0 < a → WP K d y kc ks tgt L st G Q) (kf : ¬ (0 < a) → WP K d y kc ks pc' L st G Q) : WP K d y kc ks pc L ((0, a) :: st) G Q := by
  subst hn
  intro p e s m args below meth c D cA ros fm A n0 ad0 QW ad H locs ls C hR hS hn0 ha hl
  obtain ⟨⟨hx, hb, hml, hr, hlk, hown, hmn, hts, hnw⟩, hK, hSW, hA, hRC⟩ := id C
  exact lv_if_gt hx hb (x := Int32.ofInt a) hd ht (fun q => kt ((i_lt ir0 h1).mp q) p e s m args below meth c D cA ros fm A n0 ad0 QW ad H locs ls C hR hS hn0 ha hl) (fun q => kf (fun z => q ((i_lt ir0 h1).mpr z)) p e s m args below meth c D cA ros fm A n0 ad0 QW ad H locs ls C hR hS hn0 ha hl)
theorem R_if_le {K : Launch × Nat × (Nat → Int)} {d : Nat} {y : mth} {kc ks pc pc' : Nat} {L st : List av} {G : hp} {Q : hp → av → Prop} {a b off : Int} {tgt : Nat} (hd : decode y.2.1 pc = .ok (.ifCond .le off, 3)) (ht : (pc : Int) + off = (tgt : Int)) (h1 : ir a) (hn : pc + 3 = pc') (kt : a ≤ 0 → WP K d y kc ks tgt L st G Q) (kf : ¬ (a ≤ 0) → WP K d y kc ks pc' L st G Q) : WP K d y kc ks pc L ((0, a) :: st) G Q := by
  subst hn
  intro p e s m args below meth c D cA ros fm A n0 ad0 QW ad H locs ls C hR hS hn0 ha hl
  obtain ⟨⟨hx, hb, hml, hr, hlk, hown, hmn, hts, hnw⟩, hK, hSW, hA, hRC⟩ := id C
  exact lv_if_le hx hb (x := Int32.ofInt a) hd ht (fun q => kt ((i_le h1 ir0).mp q) p e s m args below meth c D cA ros fm A n0 ad0 QW ad H locs ls C hR hS hn0 ha hl) (fun q => kf (fun z => q ((i_le h1 ir0).mpr z)) p e s m args below meth c D cA ros fm A n0 ad0 QW ad H locs ls C hR hS hn0 ha hl)
theorem R_icmp_eq {K : Launch × Nat × (Nat → Int)} {d : Nat} {y : mth} {kc ks pc pc' : Nat} {L st : List av} {G : hp} {Q : hp → av → Prop} {a b off : Int} {tgt : Nat} (hd : decode y.2.1 pc = .ok (.if_icmp .eq off, 3)) (ht : (pc : Int) + off = (tgt : Int)) (h1 : ir a) (h2 : ir b) (hn : pc + 3 = pc') (kt : a = b → WP K d y kc ks tgt L st G Q) (kf : ¬ (a = b) → WP K d y kc ks pc' L st G Q) : WP K d y kc ks pc L ((0, b) :: (0, a) :: st) G Q := by
  subst hn
  intro p e s m args below meth c D cA ros fm A n0 ad0 QW ad H locs ls C hR hS hn0 ha hl
  obtain ⟨⟨hx, hb, hml, hr, hlk, hown, hmn, hts, hnw⟩, hK, hSW, hA, hRC⟩ := id C
  exact lv_icmp_eq hx hb (x := Int32.ofInt a) (y := Int32.ofInt b) hd ht (fun q => kt ((i_eq h1 h2).mp q) p e s m args below meth c D cA ros fm A n0 ad0 QW ad H locs ls C hR hS hn0 ha hl) (fun q => kf (fun z => q ((i_eq h1 h2).mpr z)) p e s m args below meth c D cA ros fm A n0 ad0 QW ad H locs ls C hR hS hn0 ha hl)
theorem R_icmp_lt {K : Launch × Nat × (Nat → Int)} {d : Nat} {y : mth} {kc ks pc pc' : Nat} {L st : List av} {G : hp} {Q : hp → av → Prop} {a b off : Int} {tgt : Nat} (hd : decode y.2.1 pc = .ok (.if_icmp .lt off, 3)) (ht : (pc : Int) + off = (tgt : Int)) (h1 : ir a) (h2 : ir b) (hn : pc + 3 = pc') (kt : a < b → WP K d y kc ks tgt L st G Q) (kf : ¬ (a < b) → WP K d y kc ks pc' L st G Q) : WP K d y kc ks pc L ((0, b) :: (0, a) :: st) G Q := by
  subst hn
  intro p e s m args below meth c D cA ros fm A n0 ad0 QW ad H locs ls C hR hS hn0 ha hl
  obtain ⟨⟨hx, hb, hml, hr, hlk, hown, hmn, hts, hnw⟩, hK, hSW, hA, hRC⟩ := id C
  exact lv_icmp_lt hx hb (x := Int32.ofInt a) (y := Int32.ofInt b) hd ht (fun q => kt ((i_lt h1 h2).mp q) p e s m args below meth c D cA ros fm A n0 ad0 QW ad H locs ls C hR hS hn0 ha hl) (fun q => kf (fun z => q ((i_lt h1 h2).mpr z)) p e s m args below meth c D cA ros fm A n0 ad0 QW ad H locs ls C hR hS hn0 ha hl)
theorem R_icmp_ge {K : Launch × Nat × (Nat → Int)} {d : Nat} {y : mth} {kc ks pc pc' : Nat} {L st : List av} {G : hp} {Q : hp → av → Prop} {a b off : Int} {tgt : Nat} (hd : decode y.2.1 pc = .ok (.if_icmp .ge off, 3)) (ht : (pc : Int) + off = (tgt : Int)) (h1 : ir a) (h2 : ir b) (hn : pc + 3 = pc') (kt : b ≤ a → WP K d y kc ks tgt L st G Q) (kf : ¬ (b ≤ a) → WP K d y kc ks pc' L st G Q) : WP K d y kc ks pc L ((0, b) :: (0, a) :: st) G Q := by
  subst hn
  intro p e s m args below meth c D cA ros fm A n0 ad0 QW ad H locs ls C hR hS hn0 ha hl
  obtain ⟨⟨hx, hb, hml, hr, hlk, hown, hmn, hts, hnw⟩, hK, hSW, hA, hRC⟩ := id C
  exact lv_icmp_ge hx hb (x := Int32.ofInt a) (y := Int32.ofInt b) hd ht (fun q => kt ((i_le h2 h1).mp q) p e s m args below meth c D cA ros fm A n0 ad0 QW ad H locs ls C hR hS hn0 ha hl) (fun q => kf (fun z => q ((i_le h2 h1).mpr z)) p e s m args below meth c D cA ros fm A n0 ad0 QW ad H locs ls C hR hS hn0 ha hl)
theorem R_icmp_gt {K : Launch × Nat × (Nat → Int)} {d : Nat} {y : mth} {kc ks pc pc' : Nat} {L st : List av} {G : hp} {Q : hp → av → Prop} {a b off : Int} {tgt : Nat} (hd : decode y.2.1 pc = .ok (.if_icmp .gt off, 3)) (ht : (pc : Int) + off = (tgt : Int)) (h1 : ir a) (h2 : ir b) (hn : pc + 3 = pc') (kt : b < a → WP K d y kc ks tgt L st G Q) (kf : ¬ (b < a) → WP K d y kc ks pc' L st G Q) : WP K d y kc ks pc L ((0, b) :: (0, a) :: st) G Q := by
  subst hn
  intro p e s m args below meth c D cA ros fm A n0 ad0 QW ad H locs ls C hR hS hn0 ha hl
  obtain ⟨⟨hx, hb, hml, hr, hlk, hown, hmn, hts, hnw⟩, hK, hSW, hA, hRC⟩ := id C
  exact lv_icmp_gt hx hb (x := Int32.ofInt a) (y := Int32.ofInt b) hd ht (fun q => kt ((i_lt h2 h1).mp q) p e s m args below meth c D cA ros fm A n0 ad0 QW ad H locs ls C hR hS hn0 ha hl) (fun q => kf (fun z => q ((i_lt h2 h1).mpr z)) p e s m args below meth c D cA ros fm A n0 ad0 QW ad H locs ls C hR hS hn0 ha hl)
theorem R_icmp_le {K : Launch × Nat × (Nat → Int)} {d : Nat} {y : mth} {kc ks pc pc' : Nat} {L st : List av} {G : hp} {Q : hp → av → Prop} {a b off : Int} {tgt : Nat} (hd : decode y.2.1 pc = .ok (.if_icmp .le off, 3)) (ht : (pc : Int) + off = (tgt : Int)) (h1 : ir a) (h2 : ir b) (hn : pc + 3 = pc') (kt : a ≤ b → WP K d y kc ks tgt L st G Q) (kf : ¬ (a ≤ b) → WP K d y kc ks pc' L st G Q) : WP K d y kc ks pc L ((0, b) :: (0, a) :: st) G Q := by
  subst hn
  intro p e s m args below meth c D cA ros fm A n0 ad0 QW ad H locs ls C hR hS hn0 ha hl
  obtain ⟨⟨hx, hb, hml, hr, hlk, hown, hmn, hts, hnw⟩, hK, hSW, hA, hRC⟩ := id C
  exact lv_icmp_le hx hb (x := Int32.ofInt a) (y := Int32.ofInt b) hd ht (fun q => kt ((i_le h1 h2).mp q) p e s m args below meth c D cA ros fm A n0 ad0 QW ad H locs ls C hR hS hn0 ha hl) (fun q => kf (fun z => q ((i_le h1 h2).mpr z)) p e s m args below meth c D cA ros fm A n0 ad0 QW ad H locs ls C hR hS hn0 ha hl)
theorem R_if_ne {K : Launch × Nat × (Nat → Int)} {d : Nat} {y : mth} {kc ks pc pc' : Nat} {L st : List av} {G : hp} {Q : hp → av → Prop} {a off : Int} {tgt : Nat} (hd : decode y.2.1 pc = .ok (.ifCond .ne off, 3)) (ht : (pc : Int) + off = (tgt : Int)) (h1 : ir a) (hn : pc + 3 = pc') (kt : ¬ a = 0 → WP K d y kc ks tgt L st G Q) (kf : a = 0 → WP K d y kc ks pc' L st G Q) : WP K d y kc ks pc L ((0, a) :: st) G Q := by
  subst hn
  intro p e s m args below meth c D cA ros fm A n0 ad0 QW ad H locs ls C hR hS hn0 ha hl
  obtain ⟨⟨hx, hb, hml, hr, hlk, hown, hmn, hts, hnw⟩, hK, hSW, hA, hRC⟩ := id C
  exact lv_if_ne hx hb (x := Int32.ofInt a) hd ht (fun q => kt (fun z => q ((i_eq h1 ir0).mpr z)) p e s m args below meth c D cA ros fm A n0 ad0 QW ad H locs ls C hR hS hn0 ha hl) (fun q => kf ((i_eq h1 ir0).mp q) p e s m args below meth c D cA ros fm A n0 ad0 QW ad H locs ls C hR hS hn0 ha hl)
theorem R_icmp_ne {K : Launch × Nat × (Nat → Int)} {d : Nat} {y : mth} {kc ks pc pc' : Nat} {L st : List av} {G : hp} {Q : hp → av → Prop} {a b off : Int} {tgt : Nat} (hd : decode y.2.1 pc = .ok (.if_icmp .ne off, 3)) (ht : (pc : Int) + off = (tgt : Int)) (h1 : ir a) (h2 : ir b) (hn : pc + 3 = pc') (kt : ¬ a = b → WP K d y kc ks tgt L st G Q) (kf : a = b → WP K d y kc ks pc' L st G Q) : WP K d y kc ks pc L ((0, b) :: (0, a) :: st) G Q := by
  subst hn
  intro p e s m args below meth c D cA ros fm A n0 ad0 QW ad H locs ls C hR hS hn0 ha hl
  obtain ⟨⟨hx, hb, hml, hr, hlk, hown, hmn, hts, hnw⟩, hK, hSW, hA, hRC⟩ := id C
  exact lv_icmp_ne hx hb (x := Int32.ofInt a) (y := Int32.ofInt b) hd ht (fun q => kt (fun z => q ((i_eq h1 h2).mpr z)) p e s m args below meth c D cA ros fm A n0 ad0 QW ad H locs ls C hR hS hn0 ha hl) (fun q => kf ((i_eq h1 h2).mp q) p e s m args below meth c D cA ros fm A n0 ad0 QW ad H locs ls C hR hS hn0 ha hl)
theorem R_icmp_eqS {K : Launch × Nat × (Nat → Int)} {d : Nat} {y : mth} {kc ks pc pc' : Nat} {L st : List av} {G : hp} {Q : hp → av → Prop} {a b off : Int} {tgt : Nat} (hd : decode y.2.1 pc = .ok (.if_icmp .eq off, 3)) (ht : (pc : Int) + off = (tgt : Int)) (he : a = b) (kt : WP K d y kc ks tgt L st G Q) : WP K d y kc ks pc L ((0, b) :: (0, a) :: st) G Q := by
  intro p e s m args below meth c D cA ros fm A n0 ad0 QW ad H locs ls C hR hS hn0 ha hl
  obtain ⟨⟨hx, hb, hml, hr, hlk, hown, hmn, hts, hnw⟩, hK, hSW, hA, hRC⟩ := id C
  subst he
  exact lv_icmp_eq hx hb (x := Int32.ofInt a) (y := Int32.ofInt a) hd ht (fun q => kt p e s m args below meth c D cA ros fm A n0 ad0 QW ad H locs ls C hR hS hn0 ha hl) (fun q => absurd rfl q)
theorem R_goto {K : Launch × Nat × (Nat → Int)} {d : Nat} {y : mth} {kc ks pc pc' : Nat} {L st : List av} {G : hp} {Q : hp → av → Prop} {off : Int} {tgt : Nat} (hd : decode y.2.1 pc = .ok (.goto off, 3)) (ht : (pc : Int) + off = (tgt : Int)) (k : WP K d y kc ks tgt L st G Q) : WP K d y kc ks pc L st G Q := by
  intro p e s m args below meth c D cA ros fm A n0 ad0 QW ad H locs ls C hR hS hn0 ha hl
  obtain ⟨⟨hx, hb, hml, hr, hlk, hown, hmn, hts, hnw⟩, hK, hSW, hA, hRC⟩ := id C
  exact lv_goto hx hb hd ht (k p e s m args below meth c D cA ros fm A n0 ad0 QW ad H locs ls C hR hS hn0 ha hl)
theorem R_tableAt {K : Launch × Nat × (Nat → Int)} {d : Nat} {y : mth} {kc ks pc pc' : Nat} {L st : List av} {G : hp} {Q : hp → av → Prop} {dflt lo hi : Int} {offs : Array Int} {len : Nat} {a : Int} {off : Int} {tgt : Nat} (key : Int) (he : a = key) (hd : decode y.2.1 pc = .ok (.tableswitch dflt lo hi offs, len)) (h1 : ir key) (h2 : lo ≤ key ∧ key ≤ hi) (ho : offs[(key - lo).toNat]? = some off) (ht : (pc : Int) + off = (tgt : Int)) (k : WP K d y kc ks tgt L st G Q) : WP K d y kc ks pc L ((0, a) :: st) G Q := by
  subst he
  intro p e s m args below meth c D cA ros fm A n0 ad0 QW ad H locs ls C hR hS hn0 ha hl
  obtain ⟨⟨hx, hb, hml, hr, hlk, hown, hmn, hts, hnw⟩, hK, hSW, hA, hRC⟩ := id C
  exact lv_tableIn hx hb (x := Int32.ofInt a) hd (by rw [i_to h1]; omega) (by rw [i_to h1]; omega) (by rw [i_to h1]; exact ho) ht (k p e s m args below meth c D cA ros fm A n0 ad0 QW ad H locs ls C hR hS hn0 ha hl)
theorem R_tableOut {K : Launch × Nat × (Nat → Int)} {d : Nat} {y : mth} {kc ks pc pc' : Nat} {L st : List av} {G : hp} {Q : hp → av → Prop} {dflt lo hi : Int} {offs : Array Int} {len : Nat} {a : Int} {tgt : Nat} (hd : decode y.2.1 pc = .ok (.tableswitch dflt lo hi offs, len)) (h1 : ir a) (h2 : a < lo ∨ hi < a) (ht : (pc : Int) + dflt = (tgt : Int)) (k : WP K d y kc ks tgt L st G Q) : WP K d y kc ks pc L ((0, a) :: st) G Q := by
  intro p e s m args below meth c D cA ros fm A n0 ad0 QW ad H locs ls C hR hS hn0 ha hl
  obtain ⟨⟨hx, hb, hml, hr, hlk, hown, hmn, hts, hnw⟩, hK, hSW, hA, hRC⟩ := id C
  exact lv_tableOut hx hb (x := Int32.ofInt a) hd (by rw [i_to h1]; exact h2) ht (k p e s m args below meth c D cA ros fm A n0 ad0 QW ad H locs ls C hR hS hn0 ha hl)
theorem R_look {K : Launch × Nat × (Nat → Int)} {d : Nat} {y : mth} {kc ks pc pc' : Nat} {L st : List av} {G : hp} {Q : hp → av → Prop} {dflt : Int} {ps : Array (Int × Int)} {len : Nat} {a off : Int} {tgt : Nat} (hd : decode y.2.1 pc = .ok (.lookupswitch dflt ps, len)) (hp : (ps.toList.zip (ps.toList.drop 1)).all (fun (a, next) => a.1 < next.1) = true) (h1 : ir a) (ho : Op.lookupswitch.offset ps.toList dflt a = off) (ht : (pc : Int) + off = (tgt : Int)) (k : WP K d y kc ks tgt L st G Q) : WP K d y kc ks pc L ((0, a) :: st) G Q := by
  intro p e s m args below meth c D cA ros fm A n0 ad0 QW ad H locs ls C hR hS hn0 ha hl
  obtain ⟨⟨hx, hb, hml, hr, hlk, hown, hmn, hts, hnw⟩, hK, hSW, hA, hRC⟩ := id C
  exact lv_lookup hx hb (x := Int32.ofInt a) hd hp (by rw [i_to h1]; exact ho) ht (k p e s m args below meth c D cA ros fm A n0 ad0 QW ad H locs ls C hR hS hn0 ha hl)
theorem R_iret {K : Launch × Nat × (Nat → Int)} {d : Nat} {y : mth} {kc ks pc : Nat} {L : List av} {G : hp} {Q : hp → av → Prop} {a : Int} (hd : decode y.2.1 pc = .ok (.ireturn, 1)) (hr0 : y.2.2.2.1 = some .int) (hc : kc ≤ y.2.2.2.2.1) (hs : ks ≤ y.2.2.2.2.2) (k : Q G (0, a)) : WP K d y kc ks pc L [(0, a)] G Q := by
  intro p e s m args below meth c D cA ros fm A n0 ad0 QW ad H locs ls C hR hS hn0 ha hl
  obtain ⟨⟨hx, hb, hml, hr, hlk, hown, hmn, hts, hnw⟩, hK, hSW, hA, hRC⟩ := id C
  refine W.widen hc hs ?_
  exact hRC G (0, a) ad H locs ls pc k hR hS hn0 ha (Or.inl ⟨.int, hr0, rfl, rfl, hd⟩)
theorem R_zret {K : Launch × Nat × (Nat → Int)} {d : Nat} {y : mth} {kc ks pc : Nat} {L : List av} {G : hp} {Q : hp → av → Prop} {a : Int} (hd : decode y.2.1 pc = .ok (.ireturn, 1)) {ty : FieldType} (hr0 : y.2.2.2.1 = some ty) (hnr : narrow ty (.int (Int32.ofInt a)) = .int (Int32.ofInt a)) (hc : kc ≤ y.2.2.2.2.1) (hs : ks ≤ y.2.2.2.2.2) (k : Q G (0, a)) : WP K d y kc ks pc L [(0, a)] G Q := by
  intro p e s m args below meth c D cA ros fm A n0 ad0 QW ad H locs ls C hR hS hn0 ha hl
  obtain ⟨⟨hx, hb, hml, hr, hlk, hown, hmn, hts, hnw⟩, hK, hSW, hA, hRC⟩ := id C
  refine W.widen hc hs ?_
  exact hRC G (0, a) ad H locs ls pc k hR hS hn0 ha (Or.inl ⟨ty, hr0, rfl, hnr, hd⟩)
theorem R_lret {K : Launch × Nat × (Nat → Int)} {d : Nat} {y : mth} {kc ks pc : Nat} {L : List av} {G : hp} {Q : hp → av → Prop} {a : Int} (hd : decode y.2.1 pc = .ok (.lreturn, 1)) (hr0 : y.2.2.2.1 = some .long) (hc : kc ≤ y.2.2.2.2.1) (hs : ks ≤ y.2.2.2.2.2) (k : Q G (1, a)) : WP K d y kc ks pc L [(1, a)] G Q := by
  intro p e s m args below meth c D cA ros fm A n0 ad0 QW ad H locs ls C hR hS hn0 ha hl
  obtain ⟨⟨hx, hb, hml, hr, hlk, hown, hmn, hts, hnw⟩, hK, hSW, hA, hRC⟩ := id C
  refine W.widen hc hs ?_
  exact hRC G (1, a) ad H locs ls pc k hR hS hn0 ha (Or.inr (Or.inl ⟨hr0, rfl, hd⟩))
theorem R_ret {K : Launch × Nat × (Nat → Int)} {d : Nat} {y : mth} {kc ks pc : Nat} {L : List av} {G : hp} {Q : hp → av → Prop} (hd : decode y.2.1 pc = .ok (.return_, 1)) (hr0 : y.2.2.2.1 = none) (hc : kc ≤ y.2.2.2.2.1) (hs : ks ≤ y.2.2.2.2.2) (k : Q G (8, 0)) : WP K d y kc ks pc L [] G Q := by
  intro p e s m args below meth c D cA ros fm A n0 ad0 QW ad H locs ls C hR hS hn0 ha hl
  obtain ⟨⟨hx, hb, hml, hr, hlk, hown, hmn, hts, hnw⟩, hK, hSW, hA, hRC⟩ := id C
  refine W.widen hc hs ?_
  exact hRC G (8, 0) ad H locs ls pc k hR hS hn0 ha (Or.inr (Or.inr (Or.inl ⟨hr0, rfl, hd⟩)))
theorem R_aret3 {K : Launch × Nat × (Nat → Int)} {d : Nat} {y : mth} {kc ks pc : Nat} {L : List av} {G : hp} {Q : hp → av → Prop} {a : Int} (hd : decode y.2.1 pc = .ok (.areturn, 1)) {nm : String} (hr0 : y.2.2.2.1 = some (.object nm)) (hc : kc ≤ y.2.2.2.2.1) (hs : ks ≤ y.2.2.2.2.2) (k : Q G (3, a)) : WP K d y kc ks pc L [(3, a)] G Q := by
  intro p e s m args below meth c D cA ros fm A n0 ad0 QW ad H locs ls C hR hS hn0 ha hl
  obtain ⟨⟨hx, hb, hml, hr, hlk, hown, hmn, hts, hnw⟩, hK, hSW, hA, hRC⟩ := id C
  refine W.widen hc hs ?_
  exact hRC G (3, a) ad H locs ls pc k hR hS hn0 ha (Or.inr (Or.inr (Or.inr ⟨⟨nm, hr0⟩, rfl, hd⟩)))
end
section
/-! RULES over the heap -/
def isC (G : hp) (x : Int) (kd len : Nat) : Prop := 0 ≤ x ∧ x < G.1 ∧ G.2.1 x.toNat = (kd, len)
def hup (G : hp) (k j x : Int) : hp := (G.1, G.2.1, up2 G.2.2 k j x)
theorem isC.k {G : hp} {x : Int} {kd len : Nat} (h : isC G x kd len) : x.toNat < G.1 := by obtain ⟨h0, h1, -⟩ := h; omega
theorem isC.c {G : hp} {x : Int} {kd len : Nat} (h : isC G x kd len) : (x.toNat : Int) = x := by obtain ⟨h0, h1, -⟩ := h; omega
theorem cv_ref {ad ros : Nat → Nat} {fm : Value} {x : Int} (h0 : 0 ≤ x) : cv ad ros fm (2, x) = .ref (ad x.toNat) := by simp only [cv, cr, if_neg (Int.not_lt.mpr h0), va_rf]
theorem fld_in0 : ∀ w ∈ u_ws RX0 TX0 5, w ∈ lw_tbl ∧ goodWord w = true := by decide +kernel
theorem fld_in1 : ∀ w ∈ u_ws RX1 TX1 4, w ∈ lw_tbl ∧ goodWord w = true := by decide +kernel
theorem fld_in2 : ∀ w ∈ u_ws RX2 TX2 8, w ∈ lw_tbl ∧ goodWord w = true := by decide +kernel
theorem fld_in3 : ∀ w ∈ u_ws RX3 TX3 6, w ∈ lw_tbl ∧ goodWord w = true := by decide +kernel
theorem fld_in4 : ∀ w ∈ u_ws RX4 TX4 5, w ∈ lw_tbl ∧ goodWord w = true := by decide +kernel
theorem fld_in5 : ∀ w ∈ u_ws RX5 TX5 5, w ∈ lw_tbl ∧ goodWord w = true := by decide +kernel
theorem fld_in6 : ∀ w ∈ u_ws RX6 TX6 14, w ∈ lw_tbl ∧ goodWord w = true := by decide +kernel
theorem fld_in7 : ∀ w ∈ u_ws RX7 TX7 3, w ∈ lw_tbl ∧ goodWord w = true := by decide +kernel
theorem fld_in8 : ∀ w ∈ u_ws RX8 TX8 12, w ∈ lw_tbl ∧ goodWord w = true := by decide +kernel
theorem fld_in9 : ∀ w ∈ u_ws RX9 TX9 78, w ∈ lw_tbl ∧ goodWord w = true := by decide +kernel
theorem fld_in : ∀ ci, ci < 10 → ∀ w ∈ u_ws (clsN ci) (fldN ci) (nflds ci), w ∈ wsA
  | 0, _ => fun w h => List.mem_filter.mpr (fld_in0 w h)
  | 1, _ => fun w h => List.mem_filter.mpr (fld_in1 w h)
  | 2, _ => fun w h => List.mem_filter.mpr (fld_in2 w h)
  | 3, _ => fun w h => List.mem_filter.mpr (fld_in3 w h)
  | 4, _ => fun w h => List.mem_filter.mpr (fld_in4 w h)
  | 5, _ => fun w h => List.mem_filter.mpr (fld_in5 w h)
  | 6, _ => fun w h => List.mem_filter.mpr (fld_in6 w h)
  | 7, _ => fun w h => List.mem_filter.mpr (fld_in7 w h)
  | 8, _ => fun w h => List.mem_filter.mpr (fld_in8 w h)
  | 9, _ => fun w h => List.mem_filter.mpr (fld_in9 w h)
  | k + 10, h => absurd h (by omega)
theorem fld_ty : ∀ ci, ci < 10 → ∀ k, k < nflds ci → parseFieldDescriptor (fldN ci k).2.2.1 = some (fldT ci k)
  | 0, _ => tyX0_ok | 1, _ => tyX1_ok | 2, _ => tyX2_ok | 3, _ => tyX3_ok | 4, _ => tyX4_ok | 5, _ => tyX5_ok | 6, _ => tyX6_ok | 7, _ => tyX7_ok | 8, _ => tyX8_ok | 9, _ => tyX9_ok
  | k + 10, h => absurd h (by omega)
theorem fld_nm : ∀ ci, ci < 10 → ∀ a, a < nflds ci → ∀ b, b < nflds ci → a ≠ b → (fldN ci a).2.1 ≠ (fldN ci b).2.1
  | 0, _ => nmX0 | 1, _ => nmX1 | 2, _ => nmX2 | 3, _ => nmX3 | 4, _ => nmX4 | 5, _ => nmX5 | 6, _ => nmX6 | 7, _ => nmX7 | 8, _ => nmX8 | 9, _ => nmX9
  | k + 10, h => absurd h (by omega)
theorem ent_obj {ad : Nat → Nat} {cA : Nat → ClassId} {G : hp} {x : Int} {ci len : Nat} (h : isC G x ci len) (h10 : ci < 10) : (wl ad cA G)[x.toNat]? = some (ad x.toNat, .inr (ci, (List.range (nflds ci)).map (fun j => cf ad (fldT ci j) (G.2.2 x j)))) := by
  rw [wl_get ad cA G h.k, h.2.2]
  simp only [ent, h10, if_true, h.c]
theorem ent_i {ad : Nat → Nat} {cA : Nat → ClassId} {G : hp} {x : Int} {kd len : Nat} (h : isC G x kd len) (h1 : 10 ≤ kd ∧ kd < 13) : (wl ad cA G)[x.toNat]? = some (ad x.toNat, .inl (cA kd, len, .inl (fun j : Nat => Int32.ofInt (G.2.2 x j)))) := by
  have h2 : ¬ kd < 10 := by omega
  rw [wl_get ad cA G h.k, h.2.2]
  simp only [ent, h2, h1.2, if_true, if_false, h.c]
theorem ent_l {ad : Nat → Nat} {cA : Nat → ClassId} {G : hp} {x : Int} {len : Nat} (h : isC G x 13 len) : (wl ad cA G)[x.toNat]? = some (ad x.toNat, .inl (cA 13, len, .inr (.inl (fun j : Nat => Int64.ofInt (G.2.2 x j))))) := by
  rw [wl_get ad cA G h.k, h.2.2]
  simp [ent, h.c]
theorem ent_r {ad : Nat → Nat} {cA : Nat → ClassId} {G : hp} {x : Int} {kd len : Nat} (h : isC G x kd len) (h1 : 14 ≤ kd) : (wl ad cA G)[x.toNat]? = some (ad x.toNat, .inl (cA kd, len, .inr (.inr (.inr (.inr (fun j : Nat => cr ad (G.2.2 x j))))))) := by
  have h2 : ¬ kd < 10 := by omega
  have h3 : ¬ kd < 13 := by omega
  have h4 : ¬ kd = 13 := by omega
  rw [wl_get ad cA G h.k, h.2.2]
  simp only [ent, h2, h3, h4, if_false, h.c]
def kF (own : String) (idx ci j : Nat) : Prop := Cond.fieldLink own idx (fldN ci j).1 (fldN ci j).2.1 (fldN ci j).2.2.1 ∈ wsA
def kFN (own : String) (idx ci j : Nat) : Prop := ∃ host, Cond.fieldLinkNest own idx (fldN ci j).1 (fldN ci j).2.1 (fldN ci j).2.2.1 host ∈ nestW
theorem up2_nat {c : Int → Int → Int} {x i v : Int} {k j : Nat} (hk : (k : Int) = x) (hj : (j : Int) = i) : up2 c k j v = up2 c x i v := by rw [hk, hj]
theorem nar_ref {ty : FieldType} {ad : Nat → Nat} {x : Int} (h : isRefT ty = true) : narrow ty (va_rf (cr ad x)) = va_rf (cr ad x) ∧ fits ty (va_rf (cr ad x)) = true := by
  cases ty <;> first | (cases h; done) | (unfold cr; split <;> exact ⟨rfl, rfl⟩)
theorem nar_bool {x : Int} (h : x = 0 ∨ x = 1) : narrow .boolean (.int (Int32.ofInt x)) = .int (Int32.ofInt x) ∧ fits .boolean (.int (Int32.ofInt x)) = true := by
  rcases h with rfl | rfl <;> exact ⟨by decide, by decide⟩
theorem nar_byte {x : Int} (h : -128 ≤ x ∧ x ≤ 127) : vp_nar .byte (Int32.ofInt x) = Int32.ofInt x := by
  have key : ∀ k : Nat, k < 256 → (Int32.ofInt ((k : Int) - 128)).toInt8.toInt32 = Int32.ofInt ((k : Int) - 128) := by decide +kernel
  obtain ⟨k, hk⟩ : ∃ k : Nat, x = (k : Int) - 128 := ⟨(x + 128).toNat, by omega⟩
  rw [vp_nar_byte, hk]
  exact key k (by omega)

theorem R_getfi {K : Launch × Nat × (Nat → Int)} {d : Nat} {y : mth} {kc ks pc pc' : Nat} {L st : List av} {G : hp} {Q : hp → av → Prop} {x : Int} {idx ci j len : Nat} (hd : decode y.2.1 pc = .ok (.getfield idx, 3)) (hw : kF y.1.cls idx ci j) (hc : isC G x ci len) (h10 : ci < 10) (hj : j < nflds ci) (ht : isRefT (fldT ci j) = false) (hn : pc + 3 = pc') (k : WP K d y kc ks pc' L ((0, G.2.2 x j) :: st) G Q) : WP K d y kc ks pc L ((2, x) :: st) G Q := by
  subst hn
  intro p e s m args below meth c D cA ros fm A n0 ad0 QW ad H locs ls C hR hS hn0 ha hl
  obtain ⟨⟨hx, hb, hml, hr, hlk, hown, hmn, hts, hnw⟩, hK, hSW, hA, hRC⟩ := id C
  have k' := k p e s m args below meth c D cA ros fm A n0 ad0 QW ad H locs ls C hR hS hn0 ha hl
  refine W.eq (g2 := F0 m pc ls (.ref (ad x.toNat) :: st.map (cv ad ros fm))) (by rw [List.map_cons, cv_ref hc.1]) ?_
  refine va_get (D := D) (ci := ci) (v := cv ad ros fm (0, G.2.2 x j)) hx hb hts (fld_in ci h10) hown hK hR.1 x.toNat (ent_obj hc h10) (vwCl_at ci h10) j hj (hts _ hw) (fun _ h => h) (by simp [hj, cf, ht, cv]) hd k'
theorem R_getfr {K : Launch × Nat × (Nat → Int)} {d : Nat} {y : mth} {kc ks pc pc' : Nat} {L st : List av} {G : hp} {Q : hp → av → Prop} {x : Int} {idx ci j len : Nat} (hd : decode y.2.1 pc = .ok (.getfield idx, 3)) (hw : kF y.1.cls idx ci j) (hc : isC G x ci len) (h10 : ci < 10) (hj : j < nflds ci) (ht : isRefT (fldT ci j) = true) (hn : pc + 3 = pc') (k : WP K d y kc ks pc' L ((2, G.2.2 x j) :: st) G Q) : WP K d y kc ks pc L ((2, x) :: st) G Q := by
  subst hn
  intro p e s m args below meth c D cA ros fm A n0 ad0 QW ad H locs ls C hR hS hn0 ha hl
  obtain ⟨⟨hx, hb, hml, hr, hlk, hown, hmn, hts, hnw⟩, hK, hSW, hA, hRC⟩ := id C
  have k' := k p e s m args below meth c D cA ros fm A n0 ad0 QW ad H locs ls C hR hS hn0 ha hl
  refine W.eq (g2 := F0 m pc ls (.ref (ad x.toNat) :: st.map (cv ad ros fm))) (by rw [List.map_cons, cv_ref hc.1]) ?_
  refine va_get (D := D) (ci := ci) (v := cv ad ros fm (2, G.2.2 x j)) hx hb hts (fld_in ci h10) hown hK hR.1 x.toNat (ent_obj hc h10) (vwCl_at ci h10) j hj (hts _ hw) (fun _ h => h) (by simp [hj, cf, ht, cv]) hd k'
theorem R_getfNi {K : Launch × Nat × (Nat → Int)} {d : Nat} {y : mth} {kc ks pc pc' : Nat} {L st : List av} {G : hp} {Q : hp → av → Prop} {x : Int} {idx ci j len : Nat} (hd : decode y.2.1 pc = .ok (.getfield idx, 3)) (hw : kFN y.1.cls idx ci j) (hc : isC G x ci len) (h10 : ci < 10) (hj : j < nflds ci) (ht : isRefT (fldT ci j) = false) (hn : pc + 3 = pc') (k : WP K d y kc ks pc' L ((0, G.2.2 x j) :: st) G Q) : WP K d y kc ks pc L ((2, x) :: st) G Q := by
  subst hn
  intro p e s m args below meth c D cA ros fm A n0 ad0 QW ad H locs ls C hR hS hn0 ha hl
  obtain ⟨⟨hx, hb, hml, hr, hlk, hown, hmn, hts, hnw⟩, hK, hSW, hA, hRC⟩ := id C
  have k' := k p e s m args below meth c D cA ros fm A n0 ad0 QW ad H locs ls C hR hS hn0 ha hl
  obtain ⟨host, hw⟩ := hw
  refine W.eq (g2 := F0 m pc ls (.ref (ad x.toNat) :: st.map (cv ad ros fm))) (by rw [List.map_cons, cv_ref hc.1]) ?_
  refine va_getN (D := D) (ci := ci) (v := cv ad ros fm (0, G.2.2 x j)) hx hb hts (fld_in ci h10) hown hK hR.1 x.toNat (ent_obj hc h10) (vwCl_at ci h10) j hj (va_Nw.use rfl (hnw _ hw)) (fun _ h => h) (by simp [hj, cf, ht, cv]) hd k'
theorem R_getfNr {K : Launch × Nat × (Nat → Int)} {d : Nat} {y : mth} {kc ks pc pc' : Nat} {L st : List av} {G : hp} {Q : hp → av → Prop} {x : Int} {idx ci j len : Nat} (hd : decode y.2.1 pc = .ok (.getfield idx, 3)) (hw : kFN y.1.cls idx ci j) (hc : isC G x ci len) (h10 : ci < 10) (hj : j < nflds ci) (ht : isRefT (fldT ci j) = true) (hn : pc + 3 = pc') (k : WP K d y kc ks pc' L ((2, G.2.2 x j) :: st) G Q) : WP K d y kc ks pc L ((2, x) :: st) G Q := by
  subst hn
  intro p e s m args below meth c D cA ros fm A n0 ad0 QW ad H locs ls C hR hS hn0 ha hl
  obtain ⟨⟨hx, hb, hml, hr, hlk, hown, hmn, hts, hnw⟩, hK, hSW, hA, hRC⟩ := id C
  have k' := k p e s m args below meth c D cA ros fm A n0 ad0 QW ad H locs ls C hR hS hn0 ha hl
  obtain ⟨host, hw⟩ := hw
  refine W.eq (g2 := F0 m pc ls (.ref (ad x.toNat) :: st.map (cv ad ros fm))) (by rw [List.map_cons, cv_ref hc.1]) ?_
  refine va_getN (D := D) (ci := ci) (v := cv ad ros fm (2, G.2.2 x j)) hx hb hts (fld_in ci h10) hown hK hR.1 x.toNat (ent_obj hc h10) (vwCl_at ci h10) j hj (va_Nw.use rfl (hnw _ hw)) (fun _ h => h) (by simp [hj, cf, ht, cv]) hd k'
theorem R_putfi {K : Launch × Nat × (Nat → Int)} {d : Nat} {y : mth} {kc ks pc pc' : Nat} {L st : List av} {G : hp} {Q : hp → av → Prop} {x v : Int} {idx ci j len : Nat} (hd : decode y.2.1 pc = .ok (.putfield idx, 3)) (hw : kF y.1.cls idx ci j) (hc : isC G x ci len) (h10 : ci < 10) (hj : j < nflds ci) (hf : (fldN ci j).2.2.2 = false) (ht : fldT ci j = .int) (hn : pc + 3 = pc') (k : WP K d y kc ks pc' L (st) (hup G x j v) Q) : WP K d y kc ks pc L ((0, v) :: (2, x) :: st) G Q := by
  subst hn
  intro p e s m args below meth c D cA ros fm A n0 ad0 QW ad H locs ls C hR hS hn0 ha hl
  obtain ⟨⟨hx, hb, hml, hr, hlk, hown, hmn, hts, hnw⟩, hK, hSW, hA, hRC⟩ := id C
  obtain ⟨n, sh, ct⟩ := G
  refine W.eq (g2 := F0 m pc ls (cv ad ros fm (0, v) :: .ref (ad x.toNat) :: st.map (cv ad ros fm))) (by rw [List.map_cons, List.map_cons, cv_ref hc.1]) ?_
  have ecf : cv ad ros fm (0, v) = cf ad (fldT ci j) v := by simp [cf, ht, isRefT, cv]
  refine va_put (D := D) (ci := ci) (v := cv ad ros fm (0, v)) (ty := fldT ci j) hx hb hts (fld_in ci h10) (fldT ci) (fld_ty ci h10) (fld_nm ci h10) hown hK hR.1 hR.2.1 hS x.toNat (ent_obj hc h10) (vwCl_at ci h10) j hj (hts _ hw) (fun _ h => h) hf (fld_ty ci h10 j hj) (by rw [ht]; rfl) (by rw [ht]; rfl) (by simpa using hj) hd (fun H1 locs1 hP1 hD1 hS1 => ?_)
  have ew : (wl ad cA (n, sh, ct)).set x.toNat (ad x.toNat, .inr (ci, ((List.range (nflds ci)).map (fun j => cf ad (fldT ci j) (ct x j))).set j (cv ad ros fm (0, v)))) = wl ad cA (n, sh, up2 ct x j v) := by
    have h1 : sh x.toNat = (ci, len) := hc.2.2
    have := wl_upF (ad := ad) (cA := cA) (n := n) (sh := sh) (c := ct) (k := x.toNat) (i := j) (x := v) (by rw [h1]; exact h10) (by rw [h1]; exact hj)
    rw [h1] at this
    simp only [hc.c] at this
    rw [ecf]
    exact this
  have hHV : HV (n, sh, up2 ct x j v) := by
    have := hR.2.2.upN (k := x.toNat) (i := j) (x := v) (by show refSlot (sh x.toNat).1 j = false; rw [show sh x.toNat = (ci, len) from hc.2.2]; simp [refSlot, h10, ht, isRefT])
    rwa [hc.c] at this
  rw [show ((n, sh, ct) : hp).2.2 = ct from rfl] at hP1 hD1
  rw [ew] at hP1 hD1
  exact k p e s m args below meth c D cA ros fm A n0 ad0 QW ad H1 locs1 ls C ⟨hP1, hD1, hHV⟩ hS1 hn0 ha hl
theorem R_putfz {K : Launch × Nat × (Nat → Int)} {d : Nat} {y : mth} {kc ks pc pc' : Nat} {L st : List av} {G : hp} {Q : hp → av → Prop} {x v : Int} {idx ci j len : Nat} (hd : decode y.2.1 pc = .ok (.putfield idx, 3)) (hw : kF y.1.cls idx ci j) (hc : isC G x ci len) (h10 : ci < 10) (hj : j < nflds ci) (hf : (fldN ci j).2.2.2 = false) (ht : fldT ci j = .boolean) (hz : v = 0 ∨ v = 1) (hn : pc + 3 = pc') (k : WP K d y kc ks pc' L (st) (hup G x j v) Q) : WP K d y kc ks pc L ((0, v) :: (2, x) :: st) G Q := by
  subst hn
  intro p e s m args below meth c D cA ros fm A n0 ad0 QW ad H locs ls C hR hS hn0 ha hl
  obtain ⟨⟨hx, hb, hml, hr, hlk, hown, hmn, hts, hnw⟩, hK, hSW, hA, hRC⟩ := id C
  obtain ⟨n, sh, ct⟩ := G
  refine W.eq (g2 := F0 m pc ls (cv ad ros fm (0, v) :: .ref (ad x.toNat) :: st.map (cv ad ros fm))) (by rw [List.map_cons, List.map_cons, cv_ref hc.1]) ?_
  have ecf : cv ad ros fm (0, v) = cf ad (fldT ci j) v := by simp [cf, ht, isRefT, cv]
  refine va_put (D := D) (ci := ci) (v := cv ad ros fm (0, v)) (ty := fldT ci j) hx hb hts (fld_in ci h10) (fldT ci) (fld_ty ci h10) (fld_nm ci h10) hown hK hR.1 hR.2.1 hS x.toNat (ent_obj hc h10) (vwCl_at ci h10) j hj (hts _ hw) (fun _ h => h) hf (fld_ty ci h10 j hj) (by rw [ht]; exact (nar_bool hz).1) (by rw [ht]; exact (nar_bool hz).2) (by simpa using hj) hd (fun H1 locs1 hP1 hD1 hS1 => ?_)
  have ew : (wl ad cA (n, sh, ct)).set x.toNat (ad x.toNat, .inr (ci, ((List.range (nflds ci)).map (fun j => cf ad (fldT ci j) (ct x j))).set j (cv ad ros fm (0, v)))) = wl ad cA (n, sh, up2 ct x j v) := by
    have h1 : sh x.toNat = (ci, len) := hc.2.2
    have := wl_upF (ad := ad) (cA := cA) (n := n) (sh := sh) (c := ct) (k := x.toNat) (i := j) (x := v) (by rw [h1]; exact h10) (by rw [h1]; exact hj)
    rw [h1] at this
    simp only [hc.c] at this
    rw [ecf]
    exact this
  have hHV : HV (n, sh, up2 ct x j v) := by
    have := hR.2.2.upN (k := x.toNat) (i := j) (x := v) (by show refSlot (sh x.toNat).1 j = false; rw [show sh x.toNat = (ci, len) from hc.2.2]; simp [refSlot, h10, ht, isRefT])
    rwa [hc.c] at this
  rw [show ((n, sh, ct) : hp).2.2 = ct from rfl] at hP1 hD1
  rw [ew] at hP1 hD1
  exact k p e s m args below meth c D cA ros fm A n0 ad0 QW ad H1 locs1 ls C ⟨hP1, hD1, hHV⟩ hS1 hn0 ha hl
theorem R_putfr {K : Launch × Nat × (Nat → Int)} {d : Nat} {y : mth} {kc ks pc pc' : Nat} {L st : List av} {G : hp} {Q : hp → av → Prop} {x v : Int} {idx ci j len : Nat} (hd : decode y.2.1 pc = .ok (.putfield idx, 3)) (hw : kF y.1.cls idx ci j) (hc : isC G x ci len) (h10 : ci < 10) (hj : j < nflds ci) (hf : (fldN ci j).2.2.2 = false) (ht : isRefT (fldT ci j) = true) (hv0 : v < G.1) (hn : pc + 3 = pc') (k : WP K d y kc ks pc' L (st) (hup G x j v) Q) : WP K d y kc ks pc L ((2, v) :: (2, x) :: st) G Q := by
  subst hn
  intro p e s m args below meth c D cA ros fm A n0 ad0 QW ad H locs ls C hR hS hn0 ha hl
  obtain ⟨⟨hx, hb, hml, hr, hlk, hown, hmn, hts, hnw⟩, hK, hSW, hA, hRC⟩ := id C
  obtain ⟨n, sh, ct⟩ := G
  refine W.eq (g2 := F0 m pc ls (cv ad ros fm (2, v) :: .ref (ad x.toNat) :: st.map (cv ad ros fm))) (by rw [List.map_cons, List.map_cons, cv_ref hc.1]) ?_
  have ecf : cv ad ros fm (2, v) = cf ad (fldT ci j) v := by simp [cf, ht, cv]
  refine va_put (D := D) (ci := ci) (v := cv ad ros fm (2, v)) (ty := fldT ci j) hx hb hts (fld_in ci h10) (fldT ci) (fld_ty ci h10) (fld_nm ci h10) hown hK hR.1 hR.2.1 hS x.toNat (ent_obj hc h10) (vwCl_at ci h10) j hj (hts _ hw) (fun _ h => h) hf (fld_ty ci h10 j hj) (nar_ref ht).1 (nar_ref ht).2 (by simpa using hj) hd (fun H1 locs1 hP1 hD1 hS1 => ?_)
  have ew : (wl ad cA (n, sh, ct)).set x.toNat (ad x.toNat, .inr (ci, ((List.range (nflds ci)).map (fun j => cf ad (fldT ci j) (ct x j))).set j (cv ad ros fm (2, v)))) = wl ad cA (n, sh, up2 ct x j v) := by
    have h1 : sh x.toNat = (ci, len) := hc.2.2
    have := wl_upF (ad := ad) (cA := cA) (n := n) (sh := sh) (c := ct) (k := x.toNat) (i := j) (x := v) (by rw [h1]; exact h10) (by rw [h1]; exact hj)
    rw [h1] at this
    simp only [hc.c] at this
    rw [ecf]
    exact this
  have hHV : HV (n, sh, up2 ct x j v) := by
    have := hR.2.2.up (k := x.toNat) (i := j) (x := v) (fun _ => hv0)
    rwa [hc.c] at this
  rw [show ((n, sh, ct) : hp).2.2 = ct from rfl] at hP1 hD1
  rw [ew] at hP1 hD1
  exact k p e s m args below meth c D cA ros fm A n0 ad0 QW ad H1 locs1 ls C ⟨hP1, hD1, hHV⟩ hS1 hn0 ha hl
theorem R_putfNi {K : Launch × Nat × (Nat → Int)} {d : Nat} {y : mth} {kc ks pc pc' : Nat} {L st : List av} {G : hp} {Q : hp → av → Prop} {x v : Int} {idx ci j len : Nat} (hd : decode y.2.1 pc = .ok (.putfield idx, 3)) (hw : kFN y.1.cls idx ci j) (hc : isC G x ci len) (h10 : ci < 10) (hj : j < nflds ci) (hf : (fldN ci j).2.2.2 = false) (ht : fldT ci j = .int) (hn : pc + 3 = pc') (k : WP K d y kc ks pc' L (st) (hup G x j v) Q) : WP K d y kc ks pc L ((0, v) :: (2, x) :: st) G Q := by
  subst hn
  intro p e s m args below meth c D cA ros fm A n0 ad0 QW ad H locs ls C hR hS hn0 ha hl
  obtain ⟨⟨hx, hb, hml, hr, hlk, hown, hmn, hts, hnw⟩, hK, hSW, hA, hRC⟩ := id C
  obtain ⟨n, sh, ct⟩ := G
  obtain ⟨host, hw⟩ := hw
  refine W.eq (g2 := F0 m pc ls (cv ad ros fm (0, v) :: .ref (ad x.toNat) :: st.map (cv ad ros fm))) (by rw [List.map_cons, List.map_cons, cv_ref hc.1]) ?_
  have ecf : cv ad ros fm (0, v) = cf ad (fldT ci j) v := by simp [cf, ht, isRefT, cv]
  refine va_putN (D := D) (ci := ci) (v := cv ad ros fm (0, v)) (ty := fldT ci j) hx hb hts (fld_in ci h10) (fldT ci) (fld_ty ci h10) (fld_nm ci h10) hown hK hR.1 hR.2.1 hS x.toNat (ent_obj hc h10) (vwCl_at ci h10) j hj (va_Nw.use rfl (hnw _ hw)) (fun _ h => h) hf (fld_ty ci h10 j hj) (by rw [ht]; rfl) (by rw [ht]; rfl) (by simpa using hj) hd (fun H1 locs1 hP1 hD1 hS1 => ?_)
  have ew : (wl ad cA (n, sh, ct)).set x.toNat (ad x.toNat, .inr (ci, ((List.range (nflds ci)).map (fun j => cf ad (fldT ci j) (ct x j))).set j (cv ad ros fm (0, v)))) = wl ad cA (n, sh, up2 ct x j v) := by
    have h1 : sh x.toNat = (ci, len) := hc.2.2
    have := wl_upF (ad := ad) (cA := cA) (n := n) (sh := sh) (c := ct) (k := x.toNat) (i := j) (x := v) (by rw [h1]; exact h10) (by rw [h1]; exact hj)
    rw [h1] at this
    simp only [hc.c] at this
    rw [ecf]
    exact this
  have hHV : HV (n, sh, up2 ct x j v) := by
    have := hR.2.2.upN (k := x.toNat) (i := j) (x := v) (by show refSlot (sh x.toNat).1 j = false; rw [show sh x.toNat = (ci, len) from hc.2.2]; simp [refSlot, h10, ht, isRefT])
    rwa [hc.c] at this
  rw [show ((n, sh, ct) : hp).2.2 = ct from rfl] at hP1 hD1
  rw [ew] at hP1 hD1
  exact k p e s m args below meth c D cA ros fm A n0 ad0 QW ad H1 locs1 ls C ⟨hP1, hD1, hHV⟩ hS1 hn0 ha hl
theorem R_putfNz {K : Launch × Nat × (Nat → Int)} {d : Nat} {y : mth} {kc ks pc pc' : Nat} {L st : List av} {G : hp} {Q : hp → av → Prop} {x v : Int} {idx ci j len : Nat} (hd : decode y.2.1 pc = .ok (.putfield idx, 3)) (hw : kFN y.1.cls idx ci j) (hc : isC G x ci len) (h10 : ci < 10) (hj : j < nflds ci) (hf : (fldN ci j).2.2.2 = false) (ht : fldT ci j = .boolean) (hz : v = 0 ∨ v = 1) (hn : pc + 3 = pc') (k : WP K d y kc ks pc' L (st) (hup G x j v) Q) : WP K d y kc ks pc L ((0, v) :: (2, x) :: st) G Q := by
  subst hn
  intro p e s m args below meth c D cA ros fm A n0 ad0 QW ad H locs ls C hR hS hn0 ha hl
  obtain ⟨⟨hx, hb, hml, hr, hlk, hown, hmn, hts, hnw⟩, hK, hSW, hA, hRC⟩ := id C
  obtain ⟨n, sh, ct⟩ := G
  obtain ⟨host, hw⟩ := hw
  refine W.eq (g2 := F0 m pc ls (cv ad ros fm (0, v) :: .ref (ad x.toNat) :: st.map (cv ad ros fm))) (by rw [List.map_cons, List.map_cons, cv_ref hc.1]) ?_
  have ecf : cv ad ros fm (0, v) = cf ad (fldT ci j) v := by simp [cf, ht, isRefT, cv]
  refine va_putN (D := D) (ci := ci) (v := cv ad ros fm (0, v)) (ty := fldT ci j) hx hb hts (fld_in ci h10) (fldT ci) (fld_ty ci h10) (fld_nm ci h10) hown hK hR.1 hR.2.1 hS x.toNat (ent_obj hc h10) (vwCl_at ci h10) j hj (va_Nw.use rfl (hnw _ hw)) (fun _ h => h) hf (fld_ty ci h10 j hj) (by rw [ht]; exact (nar_bool hz).1) (by rw [ht]; exact (nar_bool hz).2) (by simpa using hj) hd (fun H1 locs1 hP1 hD1 hS1 => ?_)
  have ew : (wl ad cA (n, sh, ct)).set x.toNat (ad x.toNat, .inr (ci, ((List.range (nflds ci)).map (fun j => cf ad (fldT ci j) (ct x j))).set j (cv ad ros fm (0, v)))) = wl ad cA (n, sh, up2 ct x j v) := by
    have h1 : sh x.toNat = (ci, len) := hc.2.2
    have := wl_upF (ad := ad) (cA := cA) (n := n) (sh := sh) (c := ct) (k := x.toNat) (i := j) (x := v) (by rw [h1]; exact h10) (by rw [h1]; exact hj)
    rw [h1] at this
    simp only [hc.c] at this
    rw [ecf]
    exact this
  have hHV : HV (n, sh, up2 ct x j v) := by
    have := hR.2.2.upN (k := x.toNat) (i := j) (x := v) (by show refSlot (sh x.toNat).1 j = false; rw [show sh x.toNat = (ci, len) from hc.2.2]; simp [refSlot, h10, ht, isRefT])
    rwa [hc.c] at this
  rw [show ((n, sh, ct) : hp).2.2 = ct from rfl] at hP1 hD1
  rw [ew] at hP1 hD1
  exact k p e s m args below meth c D cA ros fm A n0 ad0 QW ad H1 locs1 ls C ⟨hP1, hD1, hHV⟩ hS1 hn0 ha hl
theorem R_putfNr {K : Launch × Nat × (Nat → Int)} {d : Nat} {y : mth} {kc ks pc pc' : Nat} {L st : List av} {G : hp} {Q : hp → av → Prop} {x v : Int} {idx ci j len : Nat} (hd : decode y.2.1 pc = .ok (.putfield idx, 3)) (hw : kFN y.1.cls idx ci j) (hc : isC G x ci len) (h10 : ci < 10) (hj : j < nflds ci) (hf : (fldN ci j).2.2.2 = false) (ht : isRefT (fldT ci j) = true) (hv0 : v < G.1) (hn : pc + 3 = pc') (k : WP K d y kc ks pc' L (st) (hup G x j v) Q) : WP K d y kc ks pc L ((2, v) :: (2, x) :: st) G Q := by
  subst hn
  intro p e s m args below meth c D cA ros fm A n0 ad0 QW ad H locs ls C hR hS hn0 ha hl
  obtain ⟨⟨hx, hb, hml, hr, hlk, hown, hmn, hts, hnw⟩, hK, hSW, hA, hRC⟩ := id C
  obtain ⟨n, sh, ct⟩ := G
  obtain ⟨host, hw⟩ := hw
  refine W.eq (g2 := F0 m pc ls (cv ad ros fm (2, v) :: .ref (ad x.toNat) :: st.map (cv ad ros fm))) (by rw [List.map_cons, List.map_cons, cv_ref hc.1]) ?_
  have ecf : cv ad ros fm (2, v) = cf ad (fldT ci j) v := by simp [cf, ht, cv]
  refine va_putN (D := D) (ci := ci) (v := cv ad ros fm (2, v)) (ty := fldT ci j) hx hb hts (fld_in ci h10) (fldT ci) (fld_ty ci h10) (fld_nm ci h10) hown hK hR.1 hR.2.1 hS x.toNat (ent_obj hc h10) (vwCl_at ci h10) j hj (va_Nw.use rfl (hnw _ hw)) (fun _ h => h) hf (fld_ty ci h10 j hj) (nar_ref ht).1 (nar_ref ht).2 (by simpa using hj) hd (fun H1 locs1 hP1 hD1 hS1 => ?_)
  have ew : (wl ad cA (n, sh, ct)).set x.toNat (ad x.toNat, .inr (ci, ((List.range (nflds ci)).map (fun j => cf ad (fldT ci j) (ct x j))).set j (cv ad ros fm (2, v)))) = wl ad cA (n, sh, up2 ct x j v) := by
    have h1 : sh x.toNat = (ci, len) := hc.2.2
    have := wl_upF (ad := ad) (cA := cA) (n := n) (sh := sh) (c := ct) (k := x.toNat) (i := j) (x := v) (by rw [h1]; exact h10) (by rw [h1]; exact hj)
    rw [h1] at this
    simp only [hc.c] at this
    rw [ecf]
    exact this
  have hHV : HV (n, sh, up2 ct x j v) := by
    have := hR.2.2.up (k := x.toNat) (i := j) (x := v) (fun _ => hv0)
    rwa [hc.c] at this
  rw [show ((n, sh, ct) : hp).2.2 = ct from rfl] at hP1 hD1
  rw [ew] at hP1 hD1
  exact k p e s m args below meth c D cA ros fm A n0 ad0 QW ad H1 locs1 ls C ⟨hP1, hD1, hHV⟩ hS1 hn0 ha hl
theorem R_putfFi {K : Launch × Nat × (Nat → Int)} {d : Nat} {y : mth} {kc ks pc pc' : Nat} {L st : List av} {G : hp} {Q : hp → av → Prop} {x v : Int} {idx ci j len : Nat} (hd : decode y.2.1 pc = .ok (.putfield idx, 3)) (hw : kF y.1.cls idx ci j) (hc : isC G x ci len) (h10 : ci < 10) (hj : j < nflds ci) (hf : (fldN ci j).2.2.2 = true) (hin : y.1.name = "<init>") (hdc : (fldN ci j).1 = y.1.cls) (ht : fldT ci j = .int) (hn : pc + 3 = pc') (k : WP K d y kc ks pc' L (st) (hup G x j v) Q) : WP K d y kc ks pc L ((0, v) :: (2, x) :: st) G Q := by
  subst hn
  intro p e s m args below meth c D cA ros fm A n0 ad0 QW ad H locs ls C hR hS hn0 ha hl
  obtain ⟨⟨hx, hb, hml, hr, hlk, hown, hmn, hts, hnw⟩, hK, hSW, hA, hRC⟩ := id C
  obtain ⟨n, sh, ct⟩ := G
  refine W.eq (g2 := F0 m pc ls (cv ad ros fm (0, v) :: .ref (ad x.toNat) :: st.map (cv ad ros fm))) (by rw [List.map_cons, List.map_cons, cv_ref hc.1]) ?_
  have ecf : cv ad ros fm (0, v) = cf ad (fldT ci j) v := by simp [cf, ht, isRefT, cv]
  refine va_putF (D := D) (ci := ci) (v := cv ad ros fm (0, v)) (ty := fldT ci j) hx hb hts (fld_in ci h10) (fldT ci) (fld_ty ci h10) (fld_nm ci h10) hown hK hR.1 hR.2.1 hS x.toNat (ent_obj hc h10) (vwCl_at ci h10) j hj (hts _ hw) (fun _ h => h) hf (hmn.trans hin) hdc (fld_ty ci h10 j hj) (by rw [ht]; rfl) (by rw [ht]; rfl) (by simpa using hj) hd (fun H1 locs1 hP1 hD1 hS1 => ?_)
  have ew : (wl ad cA (n, sh, ct)).set x.toNat (ad x.toNat, .inr (ci, ((List.range (nflds ci)).map (fun j => cf ad (fldT ci j) (ct x j))).set j (cv ad ros fm (0, v)))) = wl ad cA (n, sh, up2 ct x j v) := by
    have h1 : sh x.toNat = (ci, len) := hc.2.2
    have := wl_upF (ad := ad) (cA := cA) (n := n) (sh := sh) (c := ct) (k := x.toNat) (i := j) (x := v) (by rw [h1]; exact h10) (by rw [h1]; exact hj)
    rw [h1] at this
    simp only [hc.c] at this
    rw [ecf]
    exact this
  have hHV : HV (n, sh, up2 ct x j v) := by
    have := hR.2.2.upN (k := x.toNat) (i := j) (x := v) (by show refSlot (sh x.toNat).1 j = false; rw [show sh x.toNat = (ci, len) from hc.2.2]; simp [refSlot, h10, ht, isRefT])
    rwa [hc.c] at this
  rw [show ((n, sh, ct) : hp).2.2 = ct from rfl] at hP1 hD1
  rw [ew] at hP1 hD1
  exact k p e s m args below meth c D cA ros fm A n0 ad0 QW ad H1 locs1 ls C ⟨hP1, hD1, hHV⟩ hS1 hn0 ha hl
theorem R_putfFz {K : Launch × Nat × (Nat → Int)} {d : Nat} {y : mth} {kc ks pc pc' : Nat} {L st : List av} {G : hp} {Q : hp → av → Prop} {x v : Int} {idx ci j len : Nat} (hd : decode y.2.1 pc = .ok (.putfield idx, 3)) (hw : kF y.1.cls idx ci j) (hc : isC G x ci len) (h10 : ci < 10) (hj : j < nflds ci) (hf : (fldN ci j).2.2.2 = true) (hin : y.1.name = "<init>") (hdc : (fldN ci j).1 = y.1.cls) (ht : fldT ci j = .boolean) (hz : v = 0 ∨ v = 1) (hn : pc + 3 = pc') (k : WP K d y kc ks pc' L (st) (hup G x j v) Q) : WP K d y kc ks pc L ((0, v) :: (2, x) :: st) G Q := by
  subst hn
  intro p e s m args below meth c D cA ros fm A n0 ad0 QW ad H locs ls C hR hS hn0 ha hl
  obtain ⟨⟨hx, hb, hml, hr, hlk, hown, hmn, hts, hnw⟩, hK, hSW, hA, hRC⟩ := id C
  obtain ⟨n, sh, ct⟩ := G
  refine W.eq (g2 := F0 m pc ls (cv ad ros fm (0, v) :: .ref (ad x.toNat) :: st.map (cv ad ros fm))) (by rw [List.map_cons, List.map_cons, cv_ref hc.1]) ?_
  have ecf : cv ad ros fm (0, v) = cf ad (fldT ci j) v := by simp [cf, ht, isRefT, cv]
  refine va_putF (D := D) (ci := ci) (v := cv ad ros fm (0, v)) (ty := fldT ci j) hx hb hts (fld_in ci h10) (fldT ci) (fld_ty ci h10) (fld_nm ci h10) hown hK hR.1 hR.2.1 hS x.toNat (ent_obj hc h10) (vwCl_at ci h10) j hj (hts _ hw) (fun _ h => h) hf (hmn.trans hin) hdc (fld_ty ci h10 j hj) (by rw [ht]; exact (nar_bool hz).1) (by rw [ht]; exact (nar_bool hz).2) (by simpa using hj) hd (fun H1 locs1 hP1 hD1 hS1 => ?_)
  have ew : (wl ad cA (n, sh, ct)).set x.toNat (ad x.toNat, .inr (ci, ((List.range (nflds ci)).map (fun j => cf ad (fldT ci j) (ct x j))).set j (cv ad ros fm (0, v)))) = wl ad cA (n, sh, up2 ct x j v) := by
    have h1 : sh x.toNat = (ci, len) := hc.2.2
    have := wl_upF (ad := ad) (cA := cA) (n := n) (sh := sh) (c := ct) (k := x.toNat) (i := j) (x := v) (by rw [h1]; exact h10) (by rw [h1]; exact hj)
    rw [h1] at this
    simp only [hc.c] at this
    rw [ecf]
    exact this
  have hHV : HV (n, sh, up2 ct x j v) := by
    have := hR.2.2.upN (k := x.toNat) (i := j) (x := v) (by show refSlot (sh x.toNat).1 j = false; rw [show sh x.toNat = (ci, len) from hc.2.2]; simp [refSlot, h10, ht, isRefT])
    rwa [hc.c] at this
  rw [show ((n, sh, ct) : hp).2.2 = ct from rfl] at hP1 hD1
  rw [ew] at hP1 hD1
  exact k p e s m args below meth c D cA ros fm A n0 ad0 QW ad H1 locs1 ls C ⟨hP1, hD1, hHV⟩ hS1 hn0 ha hl
theorem R_putfFr {K : Launch × Nat × (Nat → Int)} {d : Nat} {y : mth} {kc ks pc pc' : Nat} {L st : List av} {G : hp} {Q : hp → av → Prop} {x v : Int} {idx ci j len : Nat} (hd : decode y.2.1 pc = .ok (.putfield idx, 3)) (hw : kF y.1.cls idx ci j) (hc : isC G x ci len) (h10 : ci < 10) (hj : j < nflds ci) (hf : (fldN ci j).2.2.2 = true) (hin : y.1.name = "<init>") (hdc : (fldN ci j).1 = y.1.cls) (ht : isRefT (fldT ci j) = true) (hv0 : v < G.1) (hn : pc + 3 = pc') (k : WP K d y kc ks pc' L (st) (hup G x j v) Q) : WP K d y kc ks pc L ((2, v) :: (2, x) :: st) G Q := by
  subst hn
  intro p e s m args below meth c D cA ros fm A n0 ad0 QW ad H locs ls C hR hS hn0 ha hl
  obtain ⟨⟨hx, hb, hml, hr, hlk, hown, hmn, hts, hnw⟩, hK, hSW, hA, hRC⟩ := id C
  obtain ⟨n, sh, ct⟩ := G
  refine W.eq (g2 := F0 m pc ls (cv ad ros fm (2, v) :: .ref (ad x.toNat) :: st.map (cv ad ros fm))) (by rw [List.map_cons, List.map_cons, cv_ref hc.1]) ?_
  have ecf : cv ad ros fm (2, v) = cf ad (fldT ci j) v := by simp [cf, ht, cv]
  refine va_putF (D := D) (ci := ci) (v := cv ad ros fm (2, v)) (ty := fldT ci j) hx hb hts (fld_in ci h10) (fldT ci) (fld_ty ci h10) (fld_nm ci h10) hown hK hR.1 hR.2.1 hS x.toNat (ent_obj hc h10) (vwCl_at ci h10) j hj (hts _ hw) (fun _ h => h) hf (hmn.trans hin) hdc (fld_ty ci h10 j hj) (nar_ref ht).1 (nar_ref ht).2 (by simpa using hj) hd (fun H1 locs1 hP1 hD1 hS1 => ?_)
  have ew : (wl ad cA (n, sh, ct)).set x.toNat (ad x.toNat, .inr (ci, ((List.range (nflds ci)).map (fun j => cf ad (fldT ci j) (ct x j))).set j (cv ad ros fm (2, v)))) = wl ad cA (n, sh, up2 ct x j v) := by
    have h1 : sh x.toNat = (ci, len) := hc.2.2
    have := wl_upF (ad := ad) (cA := cA) (n := n) (sh := sh) (c := ct) (k := x.toNat) (i := j) (x := v) (by rw [h1]; exact h10) (by rw [h1]; exact hj)
    rw [h1] at this
    simp only [hc.c] at this
    rw [ecf]
    exact this
  have hHV : HV (n, sh, up2 ct x j v) := by
    have := hR.2.2.up (k := x.toNat) (i := j) (x := v) (fun _ => hv0)
    rwa [hc.c] at this
  rw [show ((n, sh, ct) : hp).2.2 = ct from rfl] at hP1 hD1
  rw [ew] at hP1 hD1
  exact k p e s m args below meth c D cA ros fm A n0 ad0 QW ad H1 locs1 ls C ⟨hP1, hD1, hHV⟩ hS1 hn0 ha hl
theorem R_iaload {K : Launch × Nat × (Nat → Int)} {d : Nat} {y : mth} {kc ks pc pc' : Nat} {L st : List av} {G : hp} {Q : hp → av → Prop} {x i : Int} {len : Nat} (hd : decode y.2.1 pc = .ok (.iaload, 1)) (hc : isC G x 10 len) (h31 : len ≤ 2147483648) (h0 : 0 ≤ i) (h1 : i < len) (hn : pc + 1 = pc') (k : WP K d y kc ks pc' L ((0, G.2.2 x i) :: st) G Q) : WP K d y kc ks pc L ((0, i) :: (2, x) :: st) G Q := by
  subst hn
  intro p e s m args below meth c D cA ros fm A n0 ad0 QW ad H locs ls C hR hS hn0 ha hl
  obtain ⟨⟨hx, hb, hml, hr, hlk, hown, hmn, hts, hnw⟩, hK, hSW, hA, hRC⟩ := id C
  have k' := k p e s m args below meth c D cA ros fm A n0 ad0 QW ad H locs ls C hR hS hn0 ha hl
  refine W.eq (g2 := F0 m pc ls (.int (Int32.ofInt i) :: .ref (ad x.toNat) :: st.map (cv ad ros fm))) (by rw [List.map_cons, List.map_cons, cv_ref hc.1]; rfl) ?_
  refine va_iald (D := D) hx hb hK hR.1 x.toNat 0 (ent_i hc (by omega)) rfl (i_in h0 h1 h31) hd (W.eq ?_ k')
  rw [i_clamp h0 (by omega)]
  have e1 : (i.toNat : Int) = i := by omega
  simp only [e1, List.map_cons, cv]
theorem R_zaload {K : Launch × Nat × (Nat → Int)} {d : Nat} {y : mth} {kc ks pc pc' : Nat} {L st : List av} {G : hp} {Q : hp → av → Prop} {x i : Int} {len : Nat} (hd : decode y.2.1 pc = .ok (.baload, 1)) (hc : isC G x 11 len) (h31 : len ≤ 2147483648) (h0 : 0 ≤ i) (h1 : i < len) (hn : pc + 1 = pc') (k : WP K d y kc ks pc' L ((0, G.2.2 x i) :: st) G Q) : WP K d y kc ks pc L ((0, i) :: (2, x) :: st) G Q := by
  subst hn
  intro p e s m args below meth c D cA ros fm A n0 ad0 QW ad H locs ls C hR hS hn0 ha hl
  obtain ⟨⟨hx, hb, hml, hr, hlk, hown, hmn, hts, hnw⟩, hK, hSW, hA, hRC⟩ := id C
  have k' := k p e s m args below meth c D cA ros fm A n0 ad0 QW ad H locs ls C hR hS hn0 ha hl
  refine W.eq (g2 := F0 m pc ls (.int (Int32.ofInt i) :: .ref (ad x.toNat) :: st.map (cv ad ros fm))) (by rw [List.map_cons, List.map_cons, cv_ref hc.1]; rfl) ?_
  refine va_zald (D := D) hx hb hK hR.1 x.toNat 1 (ent_i hc (by omega)) rfl (i_in h0 h1 h31) hd (W.eq ?_ k')
  rw [i_clamp h0 (by omega)]
  have e1 : (i.toNat : Int) = i := by omega
  simp only [e1, List.map_cons, cv]
theorem R_baload {K : Launch × Nat × (Nat → Int)} {d : Nat} {y : mth} {kc ks pc pc' : Nat} {L st : List av} {G : hp} {Q : hp → av → Prop} {x i : Int} {len : Nat} (hd : decode y.2.1 pc = .ok (.baload, 1)) (hc : isC G x 12 len) (h31 : len ≤ 2147483648) (h0 : 0 ≤ i) (h1 : i < len) (hn : pc + 1 = pc') (k : WP K d y kc ks pc' L ((0, G.2.2 x i) :: st) G Q) : WP K d y kc ks pc L ((0, i) :: (2, x) :: st) G Q := by
  subst hn
  intro p e s m args below meth c D cA ros fm A n0 ad0 QW ad H locs ls C hR hS hn0 ha hl
  obtain ⟨⟨hx, hb, hml, hr, hlk, hown, hmn, hts, hnw⟩, hK, hSW, hA, hRC⟩ := id C
  have k' := k p e s m args below meth c D cA ros fm A n0 ad0 QW ad H locs ls C hR hS hn0 ha hl
  refine W.eq (g2 := F0 m pc ls (.int (Int32.ofInt i) :: .ref (ad x.toNat) :: st.map (cv ad ros fm))) (by rw [List.map_cons, List.map_cons, cv_ref hc.1]; rfl) ?_
  refine va_bald (D := D) hx hb hK hR.1 x.toNat 2 (ent_i hc (by omega)) rfl (i_in h0 h1 h31) hd (W.eq ?_ k')
  rw [i_clamp h0 (by omega)]
  have e1 : (i.toNat : Int) = i := by omega
  simp only [e1, List.map_cons, cv]
theorem R_laload {K : Launch × Nat × (Nat → Int)} {d : Nat} {y : mth} {kc ks pc pc' : Nat} {L st : List av} {G : hp} {Q : hp → av → Prop} {x i : Int} {len : Nat} (hd : decode y.2.1 pc = .ok (.laload, 1)) (hc : isC G x 13 len) (h31 : len ≤ 2147483648) (h0 : 0 ≤ i) (h1 : i < len) (hn : pc + 1 = pc') (k : WP K d y kc ks pc' L ((1, G.2.2 x i) :: st) G Q) : WP K d y kc ks pc L ((0, i) :: (2, x) :: st) G Q := by
  subst hn
  intro p e s m args below meth c D cA ros fm A n0 ad0 QW ad H locs ls C hR hS hn0 ha hl
  obtain ⟨⟨hx, hb, hml, hr, hlk, hown, hmn, hts, hnw⟩, hK, hSW, hA, hRC⟩ := id C
  have k' := k p e s m args below meth c D cA ros fm A n0 ad0 QW ad H locs ls C hR hS hn0 ha hl
  refine W.eq (g2 := F0 m pc ls (.int (Int32.ofInt i) :: .ref (ad x.toNat) :: st.map (cv ad ros fm))) (by rw [List.map_cons, List.map_cons, cv_ref hc.1]; rfl) ?_
  refine va_lald (D := D) hx hb hK hR.1 x.toNat 3 (ent_l hc) rfl (i_in h0 h1 h31) hd (W.eq ?_ k')
  rw [i_clamp h0 (by omega)]
  have e1 : (i.toNat : Int) = i := by omega
  simp only [e1, List.map_cons, cv]
theorem R_aaload14 {K : Launch × Nat × (Nat → Int)} {d : Nat} {y : mth} {kc ks pc pc' : Nat} {L st : List av} {G : hp} {Q : hp → av → Prop} {x i : Int} {len : Nat} (hd : decode y.2.1 pc = .ok (.aaload, 1)) (hc : isC G x 14 len) (h31 : len ≤ 2147483648) (h0 : 0 ≤ i) (h1 : i < len) (hn : pc + 1 = pc') (k : WP K d y kc ks pc' L ((2, G.2.2 x i) :: st) G Q) : WP K d y kc ks pc L ((0, i) :: (2, x) :: st) G Q := by
  subst hn
  intro p e s m args below meth c D cA ros fm A n0 ad0 QW ad H locs ls C hR hS hn0 ha hl
  obtain ⟨⟨hx, hb, hml, hr, hlk, hown, hmn, hts, hnw⟩, hK, hSW, hA, hRC⟩ := id C
  have k' := k p e s m args below meth c D cA ros fm A n0 ad0 QW ad H locs ls C hR hS hn0 ha hl
  refine W.eq (g2 := F0 m pc ls (.int (Int32.ofInt i) :: .ref (ad x.toNat) :: st.map (cv ad ros fm))) (by rw [List.map_cons, List.map_cons, cv_ref hc.1]; rfl) ?_
  refine va_aldq (D := D) hx hb hK hR.1 x.toNat 4 (ent_r hc (by omega)) rfl (i_in h0 h1 h31) hd (W.eq ?_ k')
  rw [i_clamp h0 (by omega)]
  have e1 : (i.toNat : Int) = i := by omega
  simp only [e1, List.map_cons, cv]
theorem R_aaload15 {K : Launch × Nat × (Nat → Int)} {d : Nat} {y : mth} {kc ks pc pc' : Nat} {L st : List av} {G : hp} {Q : hp → av → Prop} {x i : Int} {len : Nat} (hd : decode y.2.1 pc = .ok (.aaload, 1)) (hc : isC G x 15 len) (h31 : len ≤ 2147483648) (h0 : 0 ≤ i) (h1 : i < len) (hn : pc + 1 = pc') (k : WP K d y kc ks pc' L ((2, G.2.2 x i) :: st) G Q) : WP K d y kc ks pc L ((0, i) :: (2, x) :: st) G Q := by
  subst hn
  intro p e s m args below meth c D cA ros fm A n0 ad0 QW ad H locs ls C hR hS hn0 ha hl
  obtain ⟨⟨hx, hb, hml, hr, hlk, hown, hmn, hts, hnw⟩, hK, hSW, hA, hRC⟩ := id C
  have k' := k p e s m args below meth c D cA ros fm A n0 ad0 QW ad H locs ls C hR hS hn0 ha hl
  refine W.eq (g2 := F0 m pc ls (.int (Int32.ofInt i) :: .ref (ad x.toNat) :: st.map (cv ad ros fm))) (by rw [List.map_cons, List.map_cons, cv_ref hc.1]; rfl) ?_
  refine va_aldq (D := D) hx hb hK hR.1 x.toNat 5 (ent_r hc (by omega)) rfl (i_in h0 h1 h31) hd (W.eq ?_ k')
  rw [i_clamp h0 (by omega)]
  have e1 : (i.toNat : Int) = i := by omega
  simp only [e1, List.map_cons, cv]
theorem R_iastore {K : Launch × Nat × (Nat → Int)} {d : Nat} {y : mth} {kc ks pc pc' : Nat} {L st : List av} {G : hp} {Q : hp → av → Prop} {x i v : Int} {len : Nat} (hd : decode y.2.1 pc = .ok (.iastore, 1)) (hc : isC G x 10 len) (h31 : len ≤ 2147483648) (h0 : 0 ≤ i) (h1 : i < len)  (hn : pc + 1 = pc') (k : WP K d y kc ks pc' L (st) (hup G x i v) Q) : WP K d y kc ks pc L ((0, v) :: (0, i) :: (2, x) :: st) G Q := by
  subst hn
  intro p e s m args below meth c D cA ros fm A n0 ad0 QW ad H locs ls C hR hS hn0 ha hl
  obtain ⟨⟨hx, hb, hml, hr, hlk, hown, hmn, hts, hnw⟩, hK, hSW, hA, hRC⟩ := id C
  obtain ⟨n, sh, ct⟩ := G
  refine W.eq (g2 := F0 m pc ls (.int (Int32.ofInt v) :: .int (Int32.ofInt i) :: .ref (ad x.toNat) :: st.map (cv ad ros fm))) (by rw [List.map_cons, List.map_cons, List.map_cons, cv_ref hc.1]; rfl) ?_
  refine va_iast (D := D) hx hb hK hR.1 hR.2.1 hS x.toNat 0 (ent_i hc (by omega)) rfl (i_in h0 h1 h31) hd (fun H1 locs1 hP1 hD1 hS1 => ?_)
  have e1 : (i.toNat : Int) = i := by omega
  have h1s : sh x.toNat = (10, len) := hc.2.2
  have ew := wl_upI (ad := ad) (cA := cA) (n := n) (sh := sh) (c := ct) (k := x.toNat) (i := i.toNat) (x := v) (by rw [h1s]; simp)
  rw [h1s] at ew
  simp only [hc.c, e1] at ew
  rw [i_clamp h0 (by omega), show ((n, sh, ct) : hp).2.2 = ct from rfl, ew] at hP1 hD1
  have hHV : HV (n, sh, up2 ct x i v) := by
    have := hR.2.2.upN (k := x.toNat) (i := i.toNat) (x := v) (by show refSlot (sh x.toNat).1 i.toNat = false; rw [h1s]; rfl)
    rwa [hc.c, e1] at this
  exact k p e s m args below meth c D cA ros fm A n0 ad0 QW ad H1 locs1 ls C ⟨hP1, hD1, hHV⟩ hS1 hn0 ha hl
theorem nar_z {x : Int} (h : x = 0 ∨ x = 1) : vp_nar .boolean (Int32.ofInt x) = Int32.ofInt x := by
  rcases h with rfl | rfl <;> decide
theorem R_zastore {K : Launch × Nat × (Nat → Int)} {d : Nat} {y : mth} {kc ks pc pc' : Nat} {L st : List av} {G : hp} {Q : hp → av → Prop} {x i v : Int} {len : Nat} (hd : decode y.2.1 pc = .ok (.bastore, 1)) (hc : isC G x 11 len) (h31 : len ≤ 2147483648) (h0 : 0 ≤ i) (h1 : i < len) (hz : v = 0 ∨ v = 1) (hn : pc + 1 = pc') (k : WP K d y kc ks pc' L (st) (hup G x i v) Q) : WP K d y kc ks pc L ((0, v) :: (0, i) :: (2, x) :: st) G Q := by
  subst hn
  intro p e s m args below meth c D cA ros fm A n0 ad0 QW ad H locs ls C hR hS hn0 ha hl
  obtain ⟨⟨hx, hb, hml, hr, hlk, hown, hmn, hts, hnw⟩, hK, hSW, hA, hRC⟩ := id C
  obtain ⟨n, sh, ct⟩ := G
  refine W.eq (g2 := F0 m pc ls (.int (Int32.ofInt v) :: .int (Int32.ofInt i) :: .ref (ad x.toNat) :: st.map (cv ad ros fm))) (by rw [List.map_cons, List.map_cons, List.map_cons, cv_ref hc.1]; rfl) ?_
  refine va_zast (D := D) hx hb hK hR.1 hR.2.1 hS x.toNat 1 (ent_i hc (by omega)) rfl (i_in h0 h1 h31) hd (fun H1 locs1 hP1 hD1 hS1 => ?_)
  have e1 : (i.toNat : Int) = i := by omega
  have h1s : sh x.toNat = (11, len) := hc.2.2
  have ew := wl_upI (ad := ad) (cA := cA) (n := n) (sh := sh) (c := ct) (k := x.toNat) (i := i.toNat) (x := v) (by rw [h1s]; simp)
  rw [h1s] at ew
  simp only [hc.c, e1] at ew
  rw [i_clamp h0 (by omega), nar_z hz, show ((n, sh, ct) : hp).2.2 = ct from rfl, ew] at hP1 hD1
  have hHV : HV (n, sh, up2 ct x i v) := by
    have := hR.2.2.upN (k := x.toNat) (i := i.toNat) (x := v) (by show refSlot (sh x.toNat).1 i.toNat = false; rw [h1s]; rfl)
    rwa [hc.c, e1] at this
  exact k p e s m args below meth c D cA ros fm A n0 ad0 QW ad H1 locs1 ls C ⟨hP1, hD1, hHV⟩ hS1 hn0 ha hl
theorem R_bastore {K : Launch × Nat × (Nat → Int)} {d : Nat} {y : mth} {kc ks pc pc' : Nat} {L st : List av} {G : hp} {Q : hp → av → Prop} {x i v : Int} {len : Nat} (hd : decode y.2.1 pc = .ok (.bastore, 1)) (hc : isC G x 12 len) (h31 : len ≤ 2147483648) (h0 : 0 ≤ i) (h1 : i < len) (hz : -128 ≤ v ∧ v ≤ 127) (hn : pc + 1 = pc') (k : WP K d y kc ks pc' L (st) (hup G x i v) Q) : WP K d y kc ks pc L ((0, v) :: (0, i) :: (2, x) :: st) G Q := by
  subst hn
  intro p e s m args below meth c D cA ros fm A n0 ad0 QW ad H locs ls C hR hS hn0 ha hl
  obtain ⟨⟨hx, hb, hml, hr, hlk, hown, hmn, hts, hnw⟩, hK, hSW, hA, hRC⟩ := id C
  obtain ⟨n, sh, ct⟩ := G
  refine W.eq (g2 := F0 m pc ls (.int (Int32.ofInt v) :: .int (Int32.ofInt i) :: .ref (ad x.toNat) :: st.map (cv ad ros fm))) (by rw [List.map_cons, List.map_cons, List.map_cons, cv_ref hc.1]; rfl) ?_
  refine va_bast (D := D) hx hb hK hR.1 hR.2.1 hS x.toNat 2 (ent_i hc (by omega)) rfl (i_in h0 h1 h31) hd (fun H1 locs1 hP1 hD1 hS1 => ?_)
  have e1 : (i.toNat : Int) = i := by omega
  have h1s : sh x.toNat = (12, len) := hc.2.2
  have ew := wl_upI (ad := ad) (cA := cA) (n := n) (sh := sh) (c := ct) (k := x.toNat) (i := i.toNat) (x := v) (by rw [h1s]; simp)
  rw [h1s] at ew
  simp only [hc.c, e1] at ew
  rw [i_clamp h0 (by omega), nar_byte hz, show ((n, sh, ct) : hp).2.2 = ct from rfl, ew] at hP1 hD1
  have hHV : HV (n, sh, up2 ct x i v) := by
    have := hR.2.2.upN (k := x.toNat) (i := i.toNat) (x := v) (by show refSlot (sh x.toNat).1 i.toNat = false; rw [h1s]; rfl)
    rwa [hc.c, e1] at this
  exact k p e s m args below meth c D cA ros fm A n0 ad0 QW ad H1 locs1 ls C ⟨hP1, hD1, hHV⟩ hS1 hn0 ha hl
theorem R_lastore {K : Launch × Nat × (Nat → Int)} {d : Nat} {y : mth} {kc ks pc pc' : Nat} {L st : List av} {G : hp} {Q : hp → av → Prop} {x i v : Int} {len : Nat} (hd : decode y.2.1 pc = .ok (.lastore, 1)) (hc : isC G x 13 len) (h31 : len ≤ 2147483648) (h0 : 0 ≤ i) (h1 : i < len)  (hn : pc + 1 = pc') (k : WP K d y kc ks pc' L (st) (hup G x i v) Q) : WP K d y kc ks pc L ((1, v) :: (0, i) :: (2, x) :: st) G Q := by
  subst hn
  intro p e s m args below meth c D cA ros fm A n0 ad0 QW ad H locs ls C hR hS hn0 ha hl
  obtain ⟨⟨hx, hb, hml, hr, hlk, hown, hmn, hts, hnw⟩, hK, hSW, hA, hRC⟩ := id C
  obtain ⟨n, sh, ct⟩ := G
  refine W.eq (g2 := F0 m pc ls (.long (Int64.ofInt v) :: .int (Int32.ofInt i) :: .ref (ad x.toNat) :: st.map (cv ad ros fm))) (by rw [List.map_cons, List.map_cons, List.map_cons, cv_ref hc.1]; rfl) ?_
  refine va_last (D := D) hx hb hK hR.1 hR.2.1 hS x.toNat 3 (ent_l hc) rfl (i_in h0 h1 h31) hd (fun H1 locs1 hP1 hD1 hS1 => ?_)
  have e1 : (i.toNat : Int) = i := by omega
  have h1s : sh x.toNat = (13, len) := hc.2.2
  have ew := wl_upL (ad := ad) (cA := cA) (n := n) (sh := sh) (c := ct) (k := x.toNat) (i := i.toNat) (x := v) (by rw [h1s])
  rw [h1s] at ew
  simp only [hc.c, e1] at ew
  rw [i_clamp h0 (by omega), show ((n, sh, ct) : hp).2.2 = ct from rfl, ew] at hP1 hD1
  have hHV : HV (n, sh, up2 ct x i v) := by
    have := hR.2.2.upN (k := x.toNat) (i := i.toNat) (x := v) (by show refSlot (sh x.toNat).1 i.toNat = false; rw [h1s]; rfl)
    rwa [hc.c, e1] at this
  exact k p e s m args below meth c D cA ros fm A n0 ad0 QW ad H1 locs1 ls C ⟨hP1, hD1, hHV⟩ hS1 hn0 ha hl
theorem R_aastore14 {K : Launch × Nat × (Nat → Int)} {d : Nat} {y : mth} {kc ks pc pc' : Nat} {L st : List av} {G : hp} {Q : hp → av → Prop} {x i v : Int} {len len2 : Nat} (hd : decode y.2.1 pc = .ok (.aastore, 1)) (hc : isC G x 14 len) (h31 : len ≤ 2147483648) (h0 : 0 ≤ i) (h1 : i < len) (hv : isC G v 2 len2) (hn : pc + 1 = pc') (k : WP K d y kc ks pc' L (st) (hup G x i v) Q) : WP K d y kc ks pc L ((2, v) :: (0, i) :: (2, x) :: st) G Q := by
  subst hn
  intro p e s m args below meth c D cA ros fm A n0 ad0 QW ad H locs ls C hR hS hn0 ha hl
  obtain ⟨⟨hx, hb, hml, hr, hlk, hown, hmn, hts, hnw⟩, hK, hSW, hA, hRC⟩ := id C
  obtain ⟨n, sh, ct⟩ := G
  refine W.eq (g2 := F0 m pc ls (.ref (ad v.toNat) :: .int (Int32.ofInt i) :: .ref (ad x.toNat) :: st.map (cv ad ros fm))) (by rw [List.map_cons, List.map_cons, List.map_cons, cv_ref hc.1, cv_ref hv.1]; rfl) ?_
  refine va_astq (D := D) hx hb hK hR.1 hR.2.1 hS x.toNat 4 v.toNat 2 (ent_r hc (by omega)) rfl (ent_obj hv (by omega)) (vwCl_at 2 (by omega)) (i_in h0 h1 h31) hd (fun H1 locs1 hP1 hD1 hS1 => ?_)
  have e1 : (i.toNat : Int) = i := by omega
  have h1s : sh x.toNat = (14, len) := hc.2.2
  have hcr : some (ad v.toNat) = cr ad v := by simp only [cr, if_neg (Int.not_lt.mpr hv.1)]
  have ew := wl_upR (ad := ad) (cA := cA) (n := n) (sh := sh) (c := ct) (k := x.toNat) (i := i.toNat) (x := v) (by rw [h1s]; simp)
  rw [h1s] at ew
  simp only [hc.c, e1] at ew
  rw [i_clamp h0 (by omega), hcr, show ((n, sh, ct) : hp).2.2 = ct from rfl, ew] at hP1 hD1
  have hHV : HV (n, sh, up2 ct x i v) := by
    have := hR.2.2.up (k := x.toNat) (i := i.toNat) (x := v) (fun _ => hv.2.1)
    rwa [hc.c, e1] at this
  exact k p e s m args below meth c D cA ros fm A n0 ad0 QW ad H1 locs1 ls C ⟨hP1, hD1, hHV⟩ hS1 hn0 ha hl
theorem R_aastore15 {K : Launch × Nat × (Nat → Int)} {d : Nat} {y : mth} {kc ks pc pc' : Nat} {L st : List av} {G : hp} {Q : hp → av → Prop} {x i v : Int} {len len2 : Nat} (hd : decode y.2.1 pc = .ok (.aastore, 1)) (hc : isC G x 15 len) (h31 : len ≤ 2147483648) (h0 : 0 ≤ i) (h1 : i < len) (hv : isC G v 7 len2) (hn : pc + 1 = pc') (k : WP K d y kc ks pc' L (st) (hup G x i v) Q) : WP K d y kc ks pc L ((2, v) :: (0, i) :: (2, x) :: st) G Q := by
  subst hn
  intro p e s m args below meth c D cA ros fm A n0 ad0 QW ad H locs ls C hR hS hn0 ha hl
  obtain ⟨⟨hx, hb, hml, hr, hlk, hown, hmn, hts, hnw⟩, hK, hSW, hA, hRC⟩ := id C
  obtain ⟨n, sh, ct⟩ := G
  refine W.eq (g2 := F0 m pc ls (.ref (ad v.toNat) :: .int (Int32.ofInt i) :: .ref (ad x.toNat) :: st.map (cv ad ros fm))) (by rw [List.map_cons, List.map_cons, List.map_cons, cv_ref hc.1, cv_ref hv.1]; rfl) ?_
  refine va_astq (D := D) hx hb hK hR.1 hR.2.1 hS x.toNat 5 v.toNat 7 (ent_r hc (by omega)) rfl (ent_obj hv (by omega)) (vwCl_at 7 (by omega)) (i_in h0 h1 h31) hd (fun H1 locs1 hP1 hD1 hS1 => ?_)
  have e1 : (i.toNat : Int) = i := by omega
  have h1s : sh x.toNat = (15, len) := hc.2.2
  have hcr : some (ad v.toNat) = cr ad v := by simp only [cr, if_neg (Int.not_lt.mpr hv.1)]
  have ew := wl_upR (ad := ad) (cA := cA) (n := n) (sh := sh) (c := ct) (k := x.toNat) (i := i.toNat) (x := v) (by rw [h1s]; simp)
  rw [h1s] at ew
  simp only [hc.c, e1] at ew
  rw [i_clamp h0 (by omega), hcr, show ((n, sh, ct) : hp).2.2 = ct from rfl, ew] at hP1 hD1
  have hHV : HV (n, sh, up2 ct x i v) := by
    have := hR.2.2.up (k := x.toNat) (i := i.toNat) (x := v) (fun _ => hv.2.1)
    rwa [hc.c, e1] at this
  exact k p e s m args below meth c D cA ros fm A n0 ad0 QW ad H1 locs1 ls C ⟨hP1, hD1, hHV⟩ hS1 hn0 ha hl
theorem R_alen10 {K : Launch × Nat × (Nat → Int)} {d : Nat} {y : mth} {kc ks pc pc' : Nat} {L st : List av} {G : hp} {Q : hp → av → Prop} {x : Int} {len : Nat} (hd : decode y.2.1 pc = .ok (.arraylength, 1)) (hc : isC G x 10 len) (hn : pc + 1 = pc') (k : WP K d y kc ks pc' L ((0, (len : Int)) :: st) G Q) : WP K d y kc ks pc L ((2, x) :: st) G Q := by
  subst hn
  intro p e s m args below meth c D cA ros fm A n0 ad0 QW ad H locs ls C hR hS hn0 ha hl
  obtain ⟨⟨hx, hb, hml, hr, hlk, hown, hmn, hts, hnw⟩, hK, hSW, hA, hRC⟩ := id C
  have k' := k p e s m args below meth c D cA ros fm A n0 ad0 QW ad H locs ls C hR hS hn0 ha hl
  refine W.eq (g2 := F0 m pc ls (.ref (ad x.toNat) :: st.map (cv ad ros fm))) (by rw [List.map_cons, cv_ref hc.1]) ?_
  exact va_alen (D := D) (v := Int32.ofInt (len : Int)) hx hb hK hR.1 x.toNat 0 (ent_i hc (by omega)) (ty := .int) rfl (by rw [Int32.ofInt_eq_ofNat]) hd k'
theorem R_alen12 {K : Launch × Nat × (Nat → Int)} {d : Nat} {y : mth} {kc ks pc pc' : Nat} {L st : List av} {G : hp} {Q : hp → av → Prop} {x : Int} {len : Nat} (hd : decode y.2.1 pc = .ok (.arraylength, 1)) (hc : isC G x 12 len) (hn : pc + 1 = pc') (k : WP K d y kc ks pc' L ((0, (len : Int)) :: st) G Q) : WP K d y kc ks pc L ((2, x) :: st) G Q := by
  subst hn
  intro p e s m args below meth c D cA ros fm A n0 ad0 QW ad H locs ls C hR hS hn0 ha hl
  obtain ⟨⟨hx, hb, hml, hr, hlk, hown, hmn, hts, hnw⟩, hK, hSW, hA, hRC⟩ := id C
  have k' := k p e s m args below meth c D cA ros fm A n0 ad0 QW ad H locs ls C hR hS hn0 ha hl
  refine W.eq (g2 := F0 m pc ls (.ref (ad x.toNat) :: st.map (cv ad ros fm))) (by rw [List.map_cons, cv_ref hc.1]) ?_
  exact va_alen (D := D) (v := Int32.ofInt (len : Int)) hx hb hK hR.1 x.toNat 2 (ent_i hc (by omega)) (ty := .byte) rfl (by rw [Int32.ofInt_eq_ofNat]) hd k'
def kSt (own : String) (idx i : Nat) : Prop := Cond.fieldLink own idx (stC i) (stN i) "[I" ∈ wsA
def kStN (own : String) (idx i : Nat) : Prop := ∃ host, Cond.fieldLinkNest own idx (stC i) (stN i) "[I" host ∈ nestW
theorem ro_len {K : Launch × Nat × (Nat → Int)} (h : roLen K 0 < 2 ^ 31) : ∀ i, roLen K i < 2 ^ 31
  | 0 => h
  | 1 => by show 6 < 2 ^ 31; decide
  | 2 => by show 6 < 2 ^ 31; decide
  | 3 => by show 7 < 2 ^ 31; decide
  | 4 => by show 21 < 2 ^ 31; decide
  | k + 5 => by show 7 < 2 ^ 31; decide
theorem R_roload {K : Launch × Nat × (Nat → Int)} {d : Nat} {y : mth} {kc ks pc pc' : Nat} {L st : List av} {G : hp} {Q : hp → av → Prop} {i : Nat} {j : Int} (hd : decode y.2.1 pc = .ok (.iaload, 1)) (h6 : i < 6) (h0 : 0 ≤ j) (h1 : j < roLen K i) (hn : pc + 1 = pc') (k : WP K d y kc ks pc' L ((0, roC K i j.toNat) :: st) G Q) : WP K d y kc ks pc L ((0, j) :: (3, (i : Int)) :: st) G Q := by
  subst hn
  intro p e s m args below meth c D cA ros fm A n0 ad0 QW ad H locs ls C hR hS hn0 ha hl
  obtain ⟨⟨hx, hb, hml, hr, hlk, hown, hmn, hts, hnw⟩, hK, hSW, hA, hRC⟩ := id C
  have k' := k p e s m args below meth c D cA ros fm A n0 ad0 QW ad H locs ls C hR hS hn0 ha hl
  have hlen := ro_len hSW.2.2.2.2.2.2.2 i
  exact va_ti hx hb (i := Int32.ofInt j) (v := .int (Int32.ofInt (roC K i j.toNat))) (hSW.1 i h6) hS (i_in h0 h1 (by omega)) (by rw [i_clamp h0 (by omega)]) hd k'
theorem R_rolen {K : Launch × Nat × (Nat → Int)} {d : Nat} {y : mth} {kc ks pc pc' : Nat} {L st : List av} {G : hp} {Q : hp → av → Prop} {i : Nat} (hd : decode y.2.1 pc = .ok (.arraylength, 1)) (h6 : i < 6) (hn : pc + 1 = pc') (k : WP K d y kc ks pc' L ((0, (roLen K i : Int)) :: st) G Q) : WP K d y kc ks pc L ((3, (i : Int)) :: st) G Q := by
  subst hn
  intro p e s m args below meth c D cA ros fm A n0 ad0 QW ad H locs ls C hR hS hn0 ha hl
  obtain ⟨⟨hx, hb, hml, hr, hlk, hown, hmn, hts, hnw⟩, hK, hSW, hA, hRC⟩ := id C
  have k' := k p e s m args below meth c D cA ros fm A n0 ad0 QW ad H locs ls C hR hS hn0 ha hl
  exact va_tlen hx hb (v := Int32.ofInt (roLen K i : Int)) (hSW.1 i h6) hS (by rw [Int32.ofInt_eq_ofNat]) hd k'
theorem R_gets {K : Launch × Nat × (Nat → Int)} {d : Nat} {y : mth} {kc ks pc pc' : Nat} {L st : List av} {G : hp} {Q : hp → av → Prop} {idx i : Nat} (hd : decode y.2.1 pc = .ok (.getstatic idx, 3)) (hw : kSt y.1.cls idx i) (h1 : 1 ≤ i) (h6 : i < 6) (hn : pc + 3 = pc') (k : WP K d y kc ks pc' L ((3, (i : Int)) :: st) G Q) : WP K d y kc ks pc L (st) G Q := by
  subst hn
  intro p e s m args below meth c D cA ros fm A n0 ad0 QW ad H locs ls C hR hS hn0 ha hl
  obtain ⟨⟨hx, hb, hml, hr, hlk, hown, hmn, hts, hnw⟩, hK, hSW, hA, hRC⟩ := id C
  have k' := k p e s m args below meth c D cA ros fm A n0 ad0 QW ad H locs ls C hR hS hn0 ha hl
  exact va_gets hx hb (hSW.2.1 i h1 h6) hS hown (hts _ hw) (fun _ h => h) hd k'
theorem R_getsN {K : Launch × Nat × (Nat → Int)} {d : Nat} {y : mth} {kc ks pc pc' : Nat} {L st : List av} {G : hp} {Q : hp → av → Prop} {idx i : Nat} (hd : decode y.2.1 pc = .ok (.getstatic idx, 3)) (hw : kStN y.1.cls idx i) (h1 : 1 ≤ i) (h6 : i < 6) (hn : pc + 3 = pc') (k : WP K d y kc ks pc' L ((3, (i : Int)) :: st) G Q) : WP K d y kc ks pc L (st) G Q := by
  subst hn
  intro p e s m args below meth c D cA ros fm A n0 ad0 QW ad H locs ls C hR hS hn0 ha hl
  obtain ⟨⟨hx, hb, hml, hr, hlk, hown, hmn, hts, hnw⟩, hK, hSW, hA, hRC⟩ := id C
  have k' := k p e s m args below meth c D cA ros fm A n0 ad0 QW ad H locs ls C hR hS hn0 ha hl
  obtain ⟨host, hw⟩ := hw
  exact va_getsN hx hb (hSW.2.1 i h1 h6) hS hown (va_Nw.use rfl (hnw _ hw)) (fun _ h => h) hd k'
theorem R_getsC {K : Launch × Nat × (Nat → Int)} {d : Nat} {y : mth} {kc ks pc pc' : Nat} {L st : List av} {G : hp} {Q : hp → av → Prop} {idx : Nat} (hd : decode y.2.1 pc = .ok (.getstatic idx, 3)) (hw : Cond.fieldLink y.1.cls idx "java/lang/String" "COMPACT_STRINGS" "Z" ∈ wsA) (hn : pc + 3 = pc') (k : WP K d y kc ks pc' L ((0, 1) :: st) G Q) : WP K d y kc ks pc L (st) G Q := by
  subst hn
  intro p e s m args below meth c D cA ros fm A n0 ad0 QW ad H locs ls C hR hS hn0 ha hl
  obtain ⟨⟨hx, hb, hml, hr, hlk, hown, hmn, hts, hnw⟩, hK, hSW, hA, hRC⟩ := id C
  have k' := k p e s m args below meth c D cA ros fm A n0 ad0 QW ad H locs ls C hR hS hn0 ha hl
  exact va_gets hx hb hSW.2.2.1 hS hown (hts _ hw) (fun _ h => h) hd k'
theorem R_getsF {K : Launch × Nat × (Nat → Int)} {d : Nat} {y : mth} {kc ks pc pc' : Nat} {L st : List av} {G : hp} {Q : hp → av → Prop} {idx : Nat} (hd : decode y.2.1 pc = .ok (.getstatic idx, 3)) (hw : Cond.fieldLink y.1.cls idx "jdk/internal/util/Preconditions" "SIOOBE_FORMATTER" "Ljava/util/function/BiFunction;" ∈ wsA) (hn : pc + 3 = pc') (k : WP K d y kc ks pc' L ((4, 0) :: st) G Q) : WP K d y kc ks pc L (st) G Q := by
  subst hn
  intro p e s m args below meth c D cA ros fm A n0 ad0 QW ad H locs ls C hR hS hn0 ha hl
  obtain ⟨⟨hx, hb, hml, hr, hlk, hown, hmn, hts, hnw⟩, hK, hSW, hA, hRC⟩ := id C
  have k' := k p e s m args below meth c D cA ros fm A n0 ad0 QW ad H locs ls C hR hS hn0 ha hl
  exact va_gets hx hb hSW.2.2.2.1 hS hown (hts _ hw) (fun _ h => h) hd k'
theorem R_ldcS {K : Launch × Nat × (Nat → Int)} {d : Nat} {y : mth} {kc ks pc pc' : Nat} {L st : List av} {G : hp} {Q : hp → av → Prop} {i : Nat} (hd : decode y.2.1 pc = .ok (.ldc (76 + 2 * i), 2)) (hy : y.1.cls = RX4) (h4 : i < 4) (hn : pc + 2 = pc') (k : WP K d y kc ks pc' L ((3, ((6 + i : Nat) : Int)) :: st) G Q) : WP K d y kc ks pc L (st) G Q := by
  subst hn
  intro p e s m args below meth c D cA ros fm A n0 ad0 QW ad H locs ls C hR hS hn0 ha hl
  obtain ⟨⟨hx, hb, hml, hr, hlk, hown, hmn, hts, hnw⟩, hK, hSW, hA, hRC⟩ := id C
  have k' := k p e s m args below meth c D cA ros fm A n0 ad0 QW ad H locs ls C hR hS hn0 ha hl
  exact va_ldcS hx hb hown (by rw [hy]; exact hSW.2.2.2.2.2.1 i h4) hd k'
theorem R_strV {K : Launch × Nat × (Nat → Int)} {d : Nat} {y : mth} {kc ks pc pc' : Nat} {L st : List av} {G : hp} {Q : hp → av → Prop} {idx i : Nat} (hd : decode y.2.1 pc = .ok (.getfield idx, 3)) (hw : Cond.fieldLink y.1.cls idx "java/lang/String" "value" "[B" ∈ wsA) (h4 : i < 4) (hn : pc + 3 = pc') (k : WP K d y kc ks pc' L ((3, ((10 + i : Nat) : Int)) :: st) G Q) : WP K d y kc ks pc L ((3, ((6 + i : Nat) : Int)) :: st) G Q := by
  subst hn
  intro p e s m args below meth c D cA ros fm A n0 ad0 QW ad H locs ls C hR hS hn0 ha hl
  obtain ⟨⟨hx, hb, hml, hr, hlk, hown, hmn, hts, hnw⟩, hK, hSW, hA, hRC⟩ := id C
  have k' := k p e s m args below meth c D cA ros fm A n0 ad0 QW ad H locs ls C hR hS hn0 ha hl
  exact vk_getf hx hb (hSW.2.2.2.2.1.1 i h4).2.2.1 hS hown (hts _ hw) (fun _ h => h) hd k'
theorem R_strK {K : Launch × Nat × (Nat → Int)} {d : Nat} {y : mth} {kc ks pc pc' : Nat} {L st : List av} {G : hp} {Q : hp → av → Prop} {idx i : Nat} (hd : decode y.2.1 pc = .ok (.getfield idx, 3)) (hw : Cond.fieldLink y.1.cls idx "java/lang/String" "coder" "B" ∈ wsA) (h4 : i < 4) (hn : pc + 3 = pc') (k : WP K d y kc ks pc' L ((0, 0) :: st) G Q) : WP K d y kc ks pc L ((3, ((6 + i : Nat) : Int)) :: st) G Q := by
  subst hn
  intro p e s m args below meth c D cA ros fm A n0 ad0 QW ad H locs ls C hR hS hn0 ha hl
  obtain ⟨⟨hx, hb, hml, hr, hlk, hown, hmn, hts, hnw⟩, hK, hSW, hA, hRC⟩ := id C
  have k' := k p e s m args below meth c D cA ros fm A n0 ad0 QW ad H locs ls C hR hS hn0 ha hl
  exact vk_getf hx hb (hSW.2.2.2.2.1.1 i h4).2.1 hS hown (hts _ hw) (fun _ h => h) hd k'
theorem R_strN {K : Launch × Nat × (Nat → Int)} {d : Nat} {y : mth} {kc ks pc pc' : Nat} {L st : List av} {G : hp} {Q : hp → av → Prop} {i : Nat} (hd : decode y.2.1 pc = .ok (.arraylength, 1)) (h4 : i < 4) (hn : pc + 1 = pc') (k : WP K d y kc ks pc' L ((0, ((strLen.getD i 0 : Nat) : Int)) :: st) G Q) : WP K d y kc ks pc L ((3, ((10 + i : Nat) : Int)) :: st) G Q := by
  subst hn
  intro p e s m args below meth c D cA ros fm A n0 ad0 QW ad H locs ls C hR hS hn0 ha hl
  obtain ⟨⟨hx, hb, hml, hr, hlk, hown, hmn, hts, hnw⟩, hK, hSW, hA, hRC⟩ := id C
  have k' := k p e s m args below meth c D cA ros fm A n0 ad0 QW ad H locs ls C hR hS hn0 ha hl
  exact va_tlen hx hb (v := Int32.ofInt ((strLen.getD i 0 : Nat) : Int)) (hSW.2.2.2.2.1.1 i h4).2.2.2 hS (by rw [Int32.ofInt_eq_ofNat]) hd k'
theorem R_strB {K : Launch × Nat × (Nat → Int)} {d : Nat} {y : mth} {kc ks pc pc' : Nat} {L st : List av} {G : hp} {Q : hp → av → Prop} {i : Nat} {j : Int} (hd : decode y.2.1 pc = .ok (.baload, 1)) (h4 : i < 4) (h0 : 0 ≤ j) (h1 : j < (strLen.getD i 0 : Nat)) (hn : pc + 1 = pc') (k : WP K d y kc ks pc' L ((0, (strB.getD i []).getD j.toNat 0) :: st) G Q) : WP K d y kc ks pc L ((0, j) :: (3, ((10 + i : Nat) : Int)) :: st) G Q := by
  subst hn
  intro p e s m args below meth c D cA ros fm A n0 ad0 QW ad H locs ls C hR hS hn0 ha hl
  obtain ⟨⟨hx, hb, hml, hr, hlk, hown, hmn, hts, hnw⟩, hK, hSW, hA, hRC⟩ := id C
  have k' := k p e s m args below meth c D cA ros fm A n0 ad0 QW ad H locs ls C hR hS hn0 ha hl
  have hlen : strLen.getD i 0 ≤ 7 := (show ∀ i, i < 4 → strLen.getD i 0 ≤ 7 by decide) i h4
  have hby : (strByt.getD i []).getD j.toNat 0 = Int32.ofInt ((strB.getD i []).getD j.toNat 0) := (show ∀ i, i < 4 → ∀ k, k < 7 → (strByt.getD i []).getD k 0 = Int32.ofInt ((strB.getD i []).getD k 0) by decide) i h4 j.toNat (by omega)
  exact va_tb hx hb (i := Int32.ofInt j) (v := .int (Int32.ofInt ((strB.getD i []).getD j.toNat 0))) (hSW.2.2.2.2.1.1 i h4).2.2.2 hS (i_in h0 h1 (by omega)) (by rw [i_clamp h0 (by omega), hby]) hd k'
end
section
/-! RULES: calls, new cells, copies -/
def okR (n : Nat) (l : List av) : Prop := ∀ v ∈ l, v.1 = 2 → v.2 < n
def pv (v : av) (st : List av) : List av := if v.1 = 8 then st else v :: st
theorem cr_eq {n : Nat} {ad ad' : Nat → Nat} {x : Int} (h : ∀ k, k < n → ad' k = ad k) (hx : x < n) : cr ad' x = cr ad x := by
  unfold cr
  split
  · rfl
  · rw [h _ (by omega)]
theorem cv_eq {n : Nat} {ad ad' ros : Nat → Nat} {fm : Value} {v : av} (h : ∀ k, k < n → ad' k = ad k) (hv : v.1 = 2 → v.2 < n) : cv ad' ros fm v = cv ad ros fm v := by
  obtain ⟨t, x⟩ := v
  match t with
  | 0 => rfl
  | 1 => rfl
  | 2 => show va_rf (cr ad' x) = va_rf (cr ad x); rw [cr_eq h (hv rfl)]
  | 3 => rfl
  | 4 => rfl
  | k + 5 => rfl
theorem map_eq {n : Nat} {ad ad' ros : Nat → Nat} {fm : Value} {l : List av} (h : ∀ k, k < n → ad' k = ad k) (hl : okR n l) : l.map (cv ad' ros fm) = l.map (cv ad ros fm) :=
  List.map_congr_left fun v hv => cv_eq h (hl v hv)
theorem Lok.ad {n nL : Nat} {ad ad' ros : Nat → Nat} {fm : Value} {L : List av} {ls : Array Slot} (h : ∀ k, k < n → ad' k = ad k) (hl : okR n L) (hk : Lok (cv ad ros fm) nL L ls) : Lok (cv ad' ros fm) nL L ls :=
  ⟨hk.1, hk.2.1, fun i v hi h9 => by rw [cv_eq h (hl v (List.mem_of_getElem? hi))]; exact hk.2.2 i v hi h9⟩
theorem call_fin {K : Launch × Nat × (Nat → Int)} {d : Nat} {y : mth} {kc ks mc ms pc pc' : Nat} {L st : List av} {st0 : List Value} {G : hp} {Q : hp → av → Prop} {p : Program} {e : Env} {s : State} {m : MethodId} {args : Array Value} {below : List Frame} {meth : Method} {c : Code} {D : va_G} {cA : Nat → ClassId} {ros : Nat → Nat} {fm : Value} {A : Nat → Prop} {n0 : Nat} {ad0 : Nat → Nat} {QW : State → Prop} {ad : Nat → Nat} {H : Heap} {locs : List Loc} {ls : Array Slot} {aargs : Array Value} (hn : pc + 3 = pc')
    (hr : va_Run p K.1 e (rmd d y) s m args below meth c H locs kc ks mc ms (F0 m pc ls st0) (st.map (cv ad ros fm)) (cPost mc D cA ad ros fm A G (fun G' v => WP K d y (kc + mc) (ks + ms) pc' L (pv v st) G' Q) aargs) A)
    (C : Cx K d y Q p e s m args below meth c D cA ros fm A n0 ad0 QW) (hS : va_S A s.heap H locs) (hn0 : n0 ≤ G.1) (ha : ∀ k, k < n0 ∨ y.2.2.2.2.1 = 0 → ad k = ad0 k) (hl : Lok (cv ad ros fm) y.2.2.1 L ls) (hm : kc + mc ≤ y.2.2.2.2.1) (hval : mc = 0 ∨ (okR G.1 L ∧ okR G.1 st)) :
    W p K.1 e (rmd d y) s m args below meth c H locs kc ks QW (F0 m pc ls st0) := by
  subst hn
  intro T hT X
  obtain ⟨v, st₀, t, T', L', h0, X', hL, e1, e2, ⟨⟨G', v', ad', hv, hQ, hle, had, hRH⟩, hF⟩, hst⟩ := hr T hT X
  cases hv
  have hl' : Lok (cv ad' ros fm) y.2.2.1 L ls := by
    rcases hval with hz | ⟨h1, -⟩
    · have : ad' = ad := funext fun k => had k (Or.inr hz)
      rw [this]; exact hl
    · exact hl.ad (fun k hk => had k (Or.inl hk)) h1
  have hst' : st.map (cv ad' ros fm) = st.map (cv ad ros fm) := by
    rcases hval with hz | ⟨-, h2⟩
    · have : ad' = ad := funext fun k => had k (Or.inr hz)
      rw [this]
    · exact map_eq (fun k hk => had k (Or.inl hk)) h2
  have ha' : ∀ k, k < n0 ∨ y.2.2.2.2.1 = 0 → ad' k = ad0 k := by
    intro k hk
    rw [← ha k hk]
    rcases hk with hk | hk
    · exact had k (Or.inl (by omega))
    · exact had k (Or.inr (by omega))
  have hS' : va_S A s.heap T'.heap (locs ++ L') := by
    obtain ⟨f1, f2⟩ := hF
    rw [h0] at f1 f2
    refine ⟨Nat.le_trans hS.1 (by rw [e1]; exact f1), fun q h1 h2 => by rw [e1, f2 q (Nat.lt_of_lt_of_le h1 hS.1) h2]; exact hS.2.1 q h1 h2, fun q hq => ?_⟩
    rcases List.mem_append.mp hq with h | h
    · exact hS.2.2 q h
    · exact hL q h
  have K2 := hQ p e s m args below meth c D cA ros fm A n0 ad0 QW ad' T'.heap (locs ++ L') ls C (by rw [e1]; exact hRH) hS' (by omega) ha' hl'
  obtain ⟨t2, a1, b1⟩ := K2 T' rfl X'
  refine ⟨t2, hst t2 ?_, b1⟩
  have ef : ({ F0 m pc ls st0 with pc := (F0 m pc ls st0).pc + 3, stack := (rvo (cv ad' ros fm v') v').toList ++ st.map (cv ad ros fm) } : JFrame) = F0 m (pc + 3) ls ((pv v' st).map (cv ad' ros fm)) := by
    unfold rvo pv
    split
    · rw [hst']; rfl
    · rw [List.map_cons, hst']; rfl
  rw [ef]
  exact a1
def kY (y : mth) (n : Nat) : Prop := Cond.code y.1 y.2.1 y.2.2.1 y.2.2.2.1 ∈ wsA ∧ Cond.initialized y.1.cls ∈ wsA ∧ (y.1.cls ≠ "java/lang/invoke/MethodHandle" ∧ y.1.cls ≠ "java/lang/invoke/VarHandle" ∧ (parseMethodDescriptor y.1.desc).map (fun d => d.parameters.length) = some n) ∧ y.2.2.1 ≤ 22
def kV (own : String) (idx : Nat) (y : mth) (n : Nat) : Prop := kY y n ∧ Cond.methodLink own idx y.1 ∈ wsA ∧ Cond.instanceMethod y.1 ∈ wsA ∧ Cond.selects y.1.cls y.1 y.1 ∈ wsA
def kS (own : String) (idx : Nat) (y : mth) (n : Nat) : Prop := kY y n ∧ Cond.methodLink own idx y.1 ∈ wsA ∧ Cond.static y.1 ∈ wsA
def kI (own : String) (idx : Nat) (y : mth) (n : Nat) : Prop := kY y n ∧ Cond.methodLink own idx y.1 ∈ wsA ∧ y.1.name = "<init>" ∧ Cond.instanceMethod y.1 ∈ wsA ∧ y.2.2.2.1 = none
def kSN (own : String) (idx : Nat) (y : mth) (n : Nat) : Prop := kY y n ∧ (∃ host, Cond.methodLinkNest own idx y.1 host ∈ nestW) ∧ Cond.static y.1 ∈ wsA
def kIN (own : String) (idx : Nat) (y : mth) (n : Nat) : Prop := kY y n ∧ (∃ host, Cond.methodLinkNest own idx y.1 host ∈ nestW) ∧ y.1.name = "<init>" ∧ Cond.instanceMethod y.1 ∈ wsA ∧ y.2.2.2.1 = none
theorem good_A : ∀ w ∈ wsA, w ∈ wsA ∧ ((w.onTables && w.keeps) = true ∨ ∃ ty, w = .arrayClass ty) := fun w hw => ⟨hw, good_of_word (List.mem_filter.mp hw).2⟩
theorem pre_of {K : Launch × Nat × (Nat → Int)} {D : va_G} {cA : Nat → ClassId} {ad ros : Nat → Nat} {fm : Value} {A : Nat → Prop} {vs : List av} {G : hp} {s : State} {H : Heap} {locs : List Loc} (hSW : SW K ros fm A s s.heap) (hS : va_S A s.heap H locs) (hR : RH D cA ad A G H) (hK : va_K D vwCl (tyl cA) s) (hA : ∀ q, s.heap.size ≤ q → A q) (hnw : ∀ w ∈ nestW, va_Nw w s) :
    ∀ U : State, U.heap = H → s.WarmedH U.vm → cPre K D cA ad ros fm A vs G (vs.map (cv ad ros fm)).toArray U := by
  intro U hU hW
  refine ⟨rfl, ?_, by rw [hU]; exact hR, va_K.moved hW.alike hK, fun q hq => hA q (Nat.le_trans hS.1 (by rw [hU] at hq; exact hq)), fun w hw => nest_warm (List.mem_filter.mp hw).2 hW (hnw w hw)⟩
  rw [hU]
  exact SW.warm hW (hSW.kept (fun a h1 h2 => hS.2.1 a h1 h2))
theorem hw8 {ad ros : Nat → Nat} {fm : Value} (hf : fm = .null ∨ ∃ a, fm = .ref a) {m : MethodId} {pc : Nat} {ls : Array Slot} {r : List Value} {st : List av} (h : (st.map avc).sum ≤ 8) : 2 * (F0 m pc ls r).monitorRoom + ((st.map (cv ad ros fm)).map fun v => v.category).sum ≤ 8 := by
  rw [cat_sum hf]
  exact Nat.le_trans (Nat.le_of_eq (by show 2 * 0 + _ = _; omega)) h
theorem arg_rev {ad ros : Nat → Nat} {fm : Value} {vs st : List av} : (vs.reverse ++ st).map (cv ad ros fm) = (vs.map (cv ad ros fm)).reverse ++ st.map (cv ad ros fm) := by
  rw [List.map_append, List.map_reverse]

theorem R_callV {K : Launch × Nat × (Nat → Int)} {d : Nat} {y : mth} {kc ks pc pc' : Nat} {L st : List av} {G : hp} {Q : hp → av → Prop} {y' : mth} {vs : List av} {idx n : Nat} {x : Int} {ci len : Nat} (hd : decode y.2.1 pc = .ok (.invokevirtual idx, 3)) (hk : kV y.1.cls idx y' n) (hc : isC G x ci len) (h10 : ci < 10) (hcl : clsN ci = y'.1.cls) (hn : vs.length = n) (hst : (st.map avc).sum ≤ 8) (hm : kc + y'.2.2.2.2.1 ≤ y.2.2.2.2.1) (hm2 : ks + y'.2.2.2.2.2 ≤ y.2.2.2.2.2) (hval : y'.2.2.2.2.1 = 0 ∨ (okR G.1 L ∧ okR G.1 st)) (hpc : pc + 3 = pc') (hM : CM K d y' ((2, x) :: vs) G (fun G' v => WP K (d + 1) y (kc + y'.2.2.2.2.1) (ks + y'.2.2.2.2.2) pc' L (pv v st) G' Q)) : WP K (d + 1) y kc ks pc L (vs.reverse ++ (2, x) :: st) G Q := by
  intro p e s m args below meth c D cA ros fm A n0 ad0 QW ad H locs ls C hR hS hn0 ha hl
  obtain ⟨⟨hx, hb, hml, hr, hlk, hown, hmn, hts, hnw⟩, hK, hSW, hA, hRC⟩ := id C
  have hfm := hSW.2.2.2.2.2.2.1
  obtain ⟨⟨h1, h2, h3, h4⟩, hlk2, hin, hse⟩ := hk
  have h0 := hc.1
  have hcx : cv ad ros fm (2, x) = .ref (ad x.toNat) := cv_ref h0
  refine call_fin (aargs := #[]) hpc (st := st) (mc := y'.2.2.2.2.1) (ms := y'.2.2.2.2.2) ?_ C hS hn0 ha hl hm hval
  exact va_runV (As := vs.map (cv ad ros fm)) (rest := st.map (cv ad ros fm)) ⟨hx, hb, hml, hown, hts⟩ (hM D cA ad ros fm A) ⟨⟨rfl, rfl, Nat.le_refl _, (by show 8 + (y'.2.2.1 + 11) + (41 * d + 32) ≤ 41 * (d + 1) + 32; omega), pay_in hts (good_Y h1), List.mem_cons_self, hts _ h1, hts _ h2, ⟨h3.1, h3.2.1⟩, (fun sig h => by have h9 := h3.2.2; rw [h] at h9; exact (Option.some.inj h9).symm), hts _ hlk2⟩, hts _ hin, hts _ hse⟩ ⟨cPre_blind, by rw [← hcl]; exact va_recv hK hR.1 (vwCl_at ci h10) (ent_obj hc h10), fun U hU hW => by have := pre_of (vs := (2, x) :: vs) hSW hS hR hK hA hnw U hU hW; rw [List.map_cons, hcx] at this; exact this⟩ rfl (by rw [List.length_map]; exact hn) hl.1 (by show List.map _ _ = _; rw [arg_rev]; rw [List.map_cons, hcx]) (hw8 hfm hst) hd ⟨hm, hm2⟩
theorem R_callS {K : Launch × Nat × (Nat → Int)} {d : Nat} {y : mth} {kc ks pc pc' : Nat} {L st : List av} {G : hp} {Q : hp → av → Prop} {y' : mth} {vs : List av} {idx n : Nat} (hd : decode y.2.1 pc = .ok (.invokestatic idx, 3)) (hk : kS y.1.cls idx y' n)  (hn : vs.length = n) (hst : (st.map avc).sum ≤ 8) (hm : kc + y'.2.2.2.2.1 ≤ y.2.2.2.2.1) (hm2 : ks + y'.2.2.2.2.2 ≤ y.2.2.2.2.2) (hval : y'.2.2.2.2.1 = 0 ∨ (okR G.1 L ∧ okR G.1 st)) (hpc : pc + 3 = pc') (hM : CM K d y' vs G (fun G' v => WP K (d + 1) y (kc + y'.2.2.2.2.1) (ks + y'.2.2.2.2.2) pc' L (pv v st) G' Q)) : WP K (d + 1) y kc ks pc L (vs.reverse ++ st) G Q := by
  intro p e s m args below meth c D cA ros fm A n0 ad0 QW ad H locs ls C hR hS hn0 ha hl
  obtain ⟨⟨hx, hb, hml, hr, hlk, hown, hmn, hts, hnw⟩, hK, hSW, hA, hRC⟩ := id C
  have hfm := hSW.2.2.2.2.2.2.1
  obtain ⟨⟨h1, h2, h3, h4⟩, hlk2, hse⟩ := hk
  refine call_fin (aargs := #[]) hpc (st := st) (mc := y'.2.2.2.2.1) (ms := y'.2.2.2.2.2) ?_ C hS hn0 ha hl hm hval
  exact va_runS (As := vs.map (cv ad ros fm)) (rest := st.map (cv ad ros fm)) ⟨hx, hb, hml, hown, hts⟩ (hM D cA ad ros fm A) ⟨⟨rfl, rfl, Nat.le_refl _, (by show 8 + (y'.2.2.1 + 11) + (41 * d + 32) ≤ 41 * (d + 1) + 32; omega), pay_in hts (good_Y h1), List.mem_cons_self, hts _ h1, hts _ h2, ⟨h3.1, h3.2.1⟩, (fun sig h => by have h9 := h3.2.2; rw [h] at h9; exact (Option.some.inj h9).symm), hts _ hlk2⟩, hts _ hse⟩ ⟨cPre_blind, pre_of (vs := vs) hSW hS hR hK hA hnw⟩ rfl (by rw [List.length_map]; exact hn) hl.1 (by show List.map _ _ = _; rw [arg_rev]) (hw8 hfm hst) hd ⟨hm, hm2⟩
theorem R_callSN {K : Launch × Nat × (Nat → Int)} {d : Nat} {y : mth} {kc ks pc pc' : Nat} {L st : List av} {G : hp} {Q : hp → av → Prop} {y' : mth} {vs : List av} {idx n : Nat} (hd : decode y.2.1 pc = .ok (.invokestatic idx, 3)) (hk : kSN y.1.cls idx y' n)  (hn : vs.length = n) (hst : (st.map avc).sum ≤ 8) (hm : kc + y'.2.2.2.2.1 ≤ y.2.2.2.2.1) (hm2 : ks + y'.2.2.2.2.2 ≤ y.2.2.2.2.2) (hval : y'.2.2.2.2.1 = 0 ∨ (okR G.1 L ∧ okR G.1 st)) (hpc : pc + 3 = pc') (hM : CM K d y' vs G (fun G' v => WP K (d + 1) y (kc + y'.2.2.2.2.1) (ks + y'.2.2.2.2.2) pc' L (pv v st) G' Q)) : WP K (d + 1) y kc ks pc L (vs.reverse ++ st) G Q := by
  intro p e s m args below meth c D cA ros fm A n0 ad0 QW ad H locs ls C hR hS hn0 ha hl
  obtain ⟨⟨hx, hb, hml, hr, hlk, hown, hmn, hts, hnw⟩, hK, hSW, hA, hRC⟩ := id C
  have hfm := hSW.2.2.2.2.2.2.1
  obtain ⟨⟨h1, h2, h3, h4⟩, ⟨host, hlk2⟩, hse⟩ := hk
  refine call_fin (aargs := #[]) hpc (st := st) (mc := y'.2.2.2.2.1) (ms := y'.2.2.2.2.2) ?_ C hS hn0 ha hl hm hval
  exact va_runSN (host := host) (As := vs.map (cv ad ros fm)) (rest := st.map (cv ad ros fm)) ⟨hx, hb, hml, hown, hts⟩ (hM D cA ad ros fm A) ⟨⟨⟨rfl, rfl, Nat.le_refl _, (by show 8 + (y'.2.2.1 + 11) + (41 * d + 32) ≤ 41 * (d + 1) + 32; omega), pay_in hts (good_Y h1), List.mem_cons_self⟩, hts _ h1, hts _ h2, ⟨h3.1, h3.2.1⟩, (fun sig h => by have h9 := h3.2.2; rw [h] at h9; exact (Option.some.inj h9).symm), va_Nw.use rfl (hnw _ hlk2)⟩, hts _ hse, trivial⟩ ⟨cPre_blind, pre_of (vs := vs) hSW hS hR hK hA hnw⟩ rfl (by rw [List.length_map]; exact hn) hl.1 (by show List.map _ _ = _; rw [arg_rev]) (hw8 hfm hst) hd ⟨hm, hm2⟩
theorem R_callI {K : Launch × Nat × (Nat → Int)} {d : Nat} {y : mth} {kc ks pc pc' : Nat} {L st : List av} {G : hp} {Q : hp → av → Prop} {y' : mth} {vs : List av} {idx n : Nat} {x : Int} (hd : decode y.2.1 pc = .ok (.invokespecial idx, 3)) (hk : kI y.1.cls idx y' n) (h0 : 0 ≤ x) (hn : vs.length = n) (hst : (st.map avc).sum ≤ 8) (hm : kc + y'.2.2.2.2.1 ≤ y.2.2.2.2.1) (hm2 : ks + y'.2.2.2.2.2 ≤ y.2.2.2.2.2) (hval : y'.2.2.2.2.1 = 0 ∨ (okR G.1 L ∧ okR G.1 st)) (hpc : pc + 3 = pc') (hM : CM K d y' ((2, x) :: vs) G (fun G' v => WP K (d + 1) y (kc + y'.2.2.2.2.1) (ks + y'.2.2.2.2.2) pc' L (pv v st) G' Q)) : WP K (d + 1) y kc ks pc L (vs.reverse ++ (2, x) :: st) G Q := by
  intro p e s m args below meth c D cA ros fm A n0 ad0 QW ad H locs ls C hR hS hn0 ha hl
  obtain ⟨⟨hx, hb, hml, hr, hlk, hown, hmn, hts, hnw⟩, hK, hSW, hA, hRC⟩ := id C
  have hfm := hSW.2.2.2.2.2.2.1
  obtain ⟨⟨h1, h2, h3, h4⟩, hlk2, hnm, hin, hrt⟩ := hk
  have hcx : cv ad ros fm (2, x) = .ref (ad x.toNat) := cv_ref h0
  refine call_fin (aargs := #[]) hpc (st := st) (mc := y'.2.2.2.2.1) (ms := y'.2.2.2.2.2) ?_ C hS hn0 ha hl hm hval
  have hCB : CallB (rmd (d + 1) y) s args y.1.cls idx y'.1 y'.2.1 y'.2.2.1 none (wsY y') (rmd d y') y'.2.2.2.2.1 y'.2.2.2.2.2 n := by
    have := (⟨rfl, rfl, Nat.le_refl _, (by show 8 + (y'.2.2.1 + 11) + (41 * d + 32) ≤ 41 * (d + 1) + 32; omega), pay_in hts (good_Y h1), List.mem_cons_self, hts _ h1, hts _ h2, ⟨h3.1, h3.2.1⟩, (fun sig h => by have h9 := h3.2.2; rw [h] at h9; exact (Option.some.inj h9).symm), hts _ hlk2⟩ : CallB (rmd (d + 1) y) s args y.1.cls idx y'.1 y'.2.1 y'.2.2.1 y'.2.2.2.1 (wsY y') (rmd d y') y'.2.2.2.2.1 y'.2.2.2.2.2 n)
    rwa [hrt] at this
  exact va_runI (As := vs.map (cv ad ros fm)) (rest := st.map (cv ad ros fm)) ⟨hx, hb, hml, hown, hts⟩ (hM D cA ad ros fm A) ⟨hCB, hnm, hts _ hin⟩ ⟨cPre_blind, fun U hU hW => by have := pre_of (vs := (2, x) :: vs) hSW hS hR hK hA hnw U hU hW; rw [List.map_cons, hcx] at this; exact this⟩ rfl (by rw [List.length_map]; exact hn) hl.1 (by show List.map _ _ = _; rw [arg_rev]; rw [List.map_cons, hcx]) (hw8 hfm hst) hd ⟨hm, hm2⟩
theorem R_callIN {K : Launch × Nat × (Nat → Int)} {d : Nat} {y : mth} {kc ks pc pc' : Nat} {L st : List av} {G : hp} {Q : hp → av → Prop} {y' : mth} {vs : List av} {idx n : Nat} {x : Int} (hd : decode y.2.1 pc = .ok (.invokespecial idx, 3)) (hk : kIN y.1.cls idx y' n) (h0 : 0 ≤ x) (hn : vs.length = n) (hst : (st.map avc).sum ≤ 8) (hm : kc + y'.2.2.2.2.1 ≤ y.2.2.2.2.1) (hm2 : ks + y'.2.2.2.2.2 ≤ y.2.2.2.2.2) (hval : y'.2.2.2.2.1 = 0 ∨ (okR G.1 L ∧ okR G.1 st)) (hpc : pc + 3 = pc') (hM : CM K d y' ((2, x) :: vs) G (fun G' v => WP K (d + 1) y (kc + y'.2.2.2.2.1) (ks + y'.2.2.2.2.2) pc' L (pv v st) G' Q)) : WP K (d + 1) y kc ks pc L (vs.reverse ++ (2, x) :: st) G Q := by
  intro p e s m args below meth c D cA ros fm A n0 ad0 QW ad H locs ls C hR hS hn0 ha hl
  obtain ⟨⟨hx, hb, hml, hr, hlk, hown, hmn, hts, hnw⟩, hK, hSW, hA, hRC⟩ := id C
  have hfm := hSW.2.2.2.2.2.2.1
  obtain ⟨⟨h1, h2, h3, h4⟩, ⟨host, hlk2⟩, hnm, hin, hrt⟩ := hk
  have hcx : cv ad ros fm (2, x) = .ref (ad x.toNat) := cv_ref h0
  refine call_fin (aargs := #[]) hpc (st := st) (mc := y'.2.2.2.2.1) (ms := y'.2.2.2.2.2) ?_ C hS hn0 ha hl hm hval
  have hCB : va_CN (rmd (d + 1) y) s args y.1.cls idx y'.1 host y'.2.1 y'.2.2.1 none (wsY y') (rmd d y') y'.2.2.2.2.1 y'.2.2.2.2.2 n := by
    have := (⟨⟨rfl, rfl, Nat.le_refl _, (by show 8 + (y'.2.2.1 + 11) + (41 * d + 32) ≤ 41 * (d + 1) + 32; omega), pay_in hts (good_Y h1), List.mem_cons_self⟩, hts _ h1, hts _ h2, ⟨h3.1, h3.2.1⟩, (fun sig h => by have h9 := h3.2.2; rw [h] at h9; exact (Option.some.inj h9).symm), va_Nw.use rfl (hnw _ hlk2)⟩ : va_CN (rmd (d + 1) y) s args y.1.cls idx y'.1 host y'.2.1 y'.2.2.1 y'.2.2.2.1 (wsY y') (rmd d y') y'.2.2.2.2.1 y'.2.2.2.2.2 n)
    rwa [hrt] at this
  exact va_runIN (host := host) (As := vs.map (cv ad ros fm)) (rest := st.map (cv ad ros fm)) ⟨hx, hb, hml, hown, hts⟩ (hM D cA ad ros fm A) ⟨hCB, hnm, hts _ hin⟩ ⟨cPre_blind, fun U hU hW => by have := pre_of (vs := (2, x) :: vs) hSW hS hR hK hA hnw U hU hW; rw [List.map_cons, hcx] at this; exact this⟩ rfl (by rw [List.length_map]; exact hn) hl.1 (by show List.map _ _ = _; rw [arg_rev]; rw [List.map_cons, hcx]) (hw8 hfm hst) hd ⟨hm, hm2⟩
theorem R_callStr {K : Launch × Nat × (Nat → Int)} {d : Nat} {y : mth} {kc ks pc pc' : Nat} {L st : List av} {G : hp} {Q : hp → av → Prop} {y' : mth} {vs : List av} {idx n : Nat} {i : Nat} (hd : decode y.2.1 pc = .ok (.invokevirtual idx, 3)) (hk : kV y.1.cls idx y' n) (h4i : i < 4) (hcl : "java/lang/String" = y'.1.cls) (hn : vs.length = n) (hst : (st.map avc).sum ≤ 8) (hm : kc + y'.2.2.2.2.1 ≤ y.2.2.2.2.1) (hm2 : ks + y'.2.2.2.2.2 ≤ y.2.2.2.2.2) (hval : y'.2.2.2.2.1 = 0 ∨ (okR G.1 L ∧ okR G.1 st)) (hpc : pc + 3 = pc') (hM : CM K d y' ((3, ((6 + i : Nat) : Int)) :: vs) G (fun G' v => WP K (d + 1) y (kc + y'.2.2.2.2.1) (ks + y'.2.2.2.2.2) pc' L (pv v st) G' Q)) : WP K (d + 1) y kc ks pc L (vs.reverse ++ (3, ((6 + i : Nat) : Int)) :: st) G Q := by
  intro p e s m args below meth c D cA ros fm A n0 ad0 QW ad H locs ls C hR hS hn0 ha hl
  obtain ⟨⟨hx, hb, hml, hr, hlk, hown, hmn, hts, hnw⟩, hK, hSW, hA, hRC⟩ := id C
  have hfm := hSW.2.2.2.2.2.2.1
  obtain ⟨⟨h1, h2, h3, h4⟩, hlk2, hin, hse⟩ := hk
  refine call_fin (aargs := #[]) hpc (st := st) (mc := y'.2.2.2.2.1) (ms := y'.2.2.2.2.2) ?_ C hS hn0 ha hl hm hval
  exact va_runV (b := ros (6 + i)) (As := vs.map (cv ad ros fm)) (rest := st.map (cv ad ros fm)) ⟨hx, hb, hml, hown, hts⟩ (hM D cA ad ros fm A) ⟨⟨rfl, rfl, Nat.le_refl _, (by show 8 + (y'.2.2.1 + 11) + (41 * d + 32) ≤ 41 * (d + 1) + 32; omega), pay_in hts (good_Y h1), List.mem_cons_self, hts _ h1, hts _ h2, ⟨h3.1, h3.2.1⟩, (fun sig h => by have h9 := h3.2.2; rw [h] at h9; exact (Option.some.inj h9).symm), hts _ hlk2⟩, hts _ hin, hts _ hse⟩ ⟨cPre_blind, by rw [← hcl]; exact vk_recv (i := i) hSW.2.2.2.2.1 h4i hS, fun U hU hW => pre_of (vs := (3, ((6 + i : Nat) : Int)) :: vs) hSW hS hR hK hA hnw U hU hW⟩ rfl (by rw [List.length_map]; exact hn) hl.1 (by show List.map _ _ = _; rw [arg_rev]; rfl) (hw8 hfm hst) hd ⟨hm, hm2⟩
theorem R_objInit {K : Launch × Nat × (Nat → Int)} {d : Nat} {y : mth} {kc ks pc pc' : Nat} {L st : List av} {G : hp} {Q : hp → av → Prop} {x : Int} {idx : Nat} (hd : decode y.2.1 pc = .ok (.invokespecial idx, 3)) (h0 : 0 ≤ x) (hd1 : 1 ≤ d) (hst : (st.map avc).sum ≤ 8) (hw : Cond.methodLink y.1.cls idx Lib.objectInit ∈ wsA) (hw2 : Cond.instanceMethod Lib.objectInit ∈ wsA) (hw3 : Cond.code Lib.objectInit ⟨#[0xb1]⟩ 1 none ∈ wsA) (hn : pc + 3 = pc') (k : WP K d y kc ks pc' L st G Q) : WP K d y kc ks pc L ((2, x) :: st) G Q := by
  subst hn
  intro p e s m args below meth c D cA ros fm A n0 ad0 QW ad H locs ls C hR hS hn0 ha hl
  obtain ⟨⟨hx, hb, hml, hr, hlk, hown, hmn, hts, hnw⟩, hK, hSW, hA, hRC⟩ := id C
  have k' := k p e s m args below meth c D cA ros fm A n0 ad0 QW ad H locs ls C hR hS hn0 ha hl
  refine W.objInit (a := ad x.toNat) hx hb hown (hts _ hw) (hts _ hw2) (hts _ hw3) rfl (by rw [hml]; exact hl.1) (rest := st.map (cv ad ros fm)) (by show List.map _ _ = _; rw [List.map_cons, cv_ref h0]) hd hd1 (by have := hw8 (ad := ad) (ros := ros) hSW.2.2.2.2.2.2.1 (m := m) (pc := pc) (ls := ls) (r := List.map (cv ad ros fm) ((2, x) :: st)) hst; show _ + 12 ≤ 41 * d + 32; omega) ?_
  exact k'
theorem R_mmax {K : Launch × Nat × (Nat → Int)} {d : Nat} {y : mth} {kc ks pc pc' : Nat} {L st : List av} {G : hp} {Q : hp → av → Prop} {a b : Int} {idx : Nat} (hd : decode y.2.1 pc = .ok (.invokestatic idx, 3)) (hd1 : 1 ≤ d) (h1 : ir a) (h2 : ir b) (hst : (st.map avc).sum ≤ 8) (hc : kc ≤ y.2.2.2.2.1) (hs : ks ≤ y.2.2.2.2.2) (hw : Cond.methodLink y.1.cls idx Lib.Math.max.name ∈ wsA) (hw2 : Cond.static Lib.Math.max.name ∈ wsA) (hw3 : Cond.initialized "java/lang/Math" ∈ wsA) (hw4 : Cond.code Lib.Math.max.name Lib.Math.max.code 2 (some .int) ∈ wsA) (hn : pc + 3 = pc') (k : WP K d y kc ks pc' L ((0, if a < b then b else a) :: st) G Q) : WP K d y kc ks pc L ((0, b) :: (0, a) :: st) G Q := by
  subst hn
  intro p e s m args below meth c D cA ros fm A n0 ad0 QW ad H locs ls C hR hS hn0 ha hl
  obtain ⟨⟨hx, hb, hml, hr, hlk, hown, hmn, hts, hnw⟩, hK, hSW, hA, hRC⟩ := id C
  have k' := k p e s m args below meth c D cA ros fm A n0 ad0 QW ad H locs ls C hR hS hn0 ha hl
  refine va_mmax hx hb (hml.trans hl.1.symm) hown (hts _ hw) (hts _ hw2) (hts _ hw3) (hts _ hw4) hd1 (by rw [cat_sum hSW.2.2.2.2.2.2.1]; show _ + 13 ≤ 41 * d + 32; omega) hc hs (x := Int32.ofInt a) (y := Int32.ofInt b) hd (W.eq ?_ k')
  have e1 := i_lt h1 h2
  show F0 _ _ _ (_ :: _) = F0 _ _ _ (Value.int (Int32.ofInt (if a < b then b else a)) :: _)
  simp only [e1]
  split <;> rfl
theorem R_mmin {K : Launch × Nat × (Nat → Int)} {d : Nat} {y : mth} {kc ks pc pc' : Nat} {L st : List av} {G : hp} {Q : hp → av → Prop} {a b : Int} {idx : Nat} (hd : decode y.2.1 pc = .ok (.invokestatic idx, 3)) (hd1 : 1 ≤ d) (h1 : ir a) (h2 : ir b) (hst : (st.map avc).sum ≤ 8) (hc : kc ≤ y.2.2.2.2.1) (hs : ks ≤ y.2.2.2.2.2) (hw : Cond.methodLink y.1.cls idx Lib.Math.min.name ∈ wsA) (hw2 : Cond.static Lib.Math.min.name ∈ wsA) (hw3 : Cond.initialized "java/lang/Math" ∈ wsA) (hw4 : Cond.code Lib.Math.min.name Lib.Math.min.code 2 (some .int) ∈ wsA) (hn : pc + 3 = pc') (k : WP K d y kc ks pc' L ((0, if b < a then b else a) :: st) G Q) : WP K d y kc ks pc L ((0, b) :: (0, a) :: st) G Q := by
  subst hn
  intro p e s m args below meth c D cA ros fm A n0 ad0 QW ad H locs ls C hR hS hn0 ha hl
  obtain ⟨⟨hx, hb, hml, hr, hlk, hown, hmn, hts, hnw⟩, hK, hSW, hA, hRC⟩ := id C
  have k' := k p e s m args below meth c D cA ros fm A n0 ad0 QW ad H locs ls C hR hS hn0 ha hl
  refine va_mmin hx hb (hml.trans hl.1.symm) hown (hts _ hw) (hts _ hw2) (hts _ hw3) (hts _ hw4) hd1 (by rw [cat_sum hSW.2.2.2.2.2.2.1]; show _ + 13 ≤ 41 * d + 32; omega) hc hs (x := Int32.ofInt a) (y := Int32.ofInt b) hd (W.eq ?_ k')
  have e1 := i_lt h2 h1
  show F0 _ _ _ (_ :: _) = F0 _ _ _ (Value.int (Int32.ofInt (if b < a then b else a)) :: _)
  simp only [e1]
  split <;> rfl
def dfl (kd : Nat) (b : Int) : Int := if refSlot kd b.toNat then -1 else 0
/-- the heap with one more cell, of a kind and length, empty -/
def hnew (G : hp) (kd len : Nat) : hp := (G.1 + 1, (fun k => if k = G.1 then (kd, len) else G.2.1 k), fun a b => if a = (G.1 : Int) then dfl kd b else G.2.2 a b)
def okT : FieldType → Bool
  | .object _ => true
  | .array _ => true
  | .int => true
  | .boolean => true
  | _ => false
theorem fld_okT : ∀ ci, ci < 10 → ∀ k, k < nflds ci → okT (fldT ci k) = true := by decide +kernel
theorem HV.new {G : hp} {kd len : Nat} (h : HV G) : HV (hnew G kd len) := by
  intro k j hk hr
  simp only [hnew] at hk hr ⊢
  by_cases e : k = G.1
  · subst e
    simp only [if_true] at hr ⊢
    simp only [dfl, Int.toNat_natCast, hr, if_true]
    omega
  · have e2 : ¬ ((k : Int) = (G.1 : Int)) := by omega
    simp only [e, e2, if_false] at hr ⊢
    have := h k j (by omega) hr
    omega
theorem ent_ad {ad ad' : Nat → Nat} {cA : Nat → ClassId} {c c' : Int → Int → Int} {k : Nat} {s : Nat × Nat} (h : ∀ j : Nat, c' k j = c k j) (hr : ∀ j : Nat, refSlot s.1 j = true → cr ad' (c k j) = cr ad (c k j)) : ent ad' cA c' k s = ent ad cA c k s := by
  simp only [ent, h]
  by_cases h1 : s.1 < 10
  · simp only [h1, if_true]
    congr 2
    apply List.map_congr_left
    intro j _
    unfold cf
    by_cases h2 : isRefT (fldT s.1 j) = true
    · rw [if_pos h2, if_pos h2, hr j (by simp only [refSlot, h1, if_true, h2])]
    · rw [if_neg h2, if_neg h2]
  · simp only [h1, if_false]
    by_cases h2 : s.1 < 13
    · simp only [h2, if_true]
    · simp only [h2, if_false]
      by_cases h3 : s.1 = 13
      · simp only [h3, if_true]
      · simp only [h3, if_false]
        have h4 : ∀ j : Nat, cr ad' (c k j) = cr ad (c k j) := fun j => hr j (by simp only [refSlot, h1, if_false, show 14 ≤ s.1 from by omega, decide_true])
        simp only [h4]
theorem wl_new {ad : Nat → Nat} {cA : Nat → ClassId} {G : hp} {kd len q : Nat} (h : HV G) :
    wl (fun k => if k = G.1 then q else ad k) cA (hnew G kd len) = wl ad cA G ++ [(q, ent (fun k => if k = G.1 then q else ad k) cA (fun a b => if a = (G.1 : Int) then dfl kd b else G.2.2 a b) G.1 (kd, len))] := by
  unfold wl hnew
  simp only [List.range_succ, List.map_append, List.map_cons, List.map_nil, if_true]
  congr 1
  apply List.map_congr_left
  intro k hk
  have hk := List.mem_range.mp hk
  have e : ¬ k = G.1 := by omega
  have e2 : ¬ ((k : Int) = (G.1 : Int)) := by omega
  simp only [e, if_false, Prod.mk.injEq, true_and]
  refine ent_ad (fun j => by simp only [e2, if_false]) (fun j hj => cr_eq (n := G.1) (fun k' hk' => if_neg (by omega)) (h k j hk hj))
theorem new_fin {K : Launch × Nat × (Nat → Int)} {d : Nat} {y : mth} {kc ks pc : Nat} {L st : List av} {G : hp} {Q : hp → av → Prop} {p : Program} {e : Env} {s : State} {m : MethodId} {args : Array Value} {below : List Frame} {meth : Method} {c : Code} {D : va_G} {cA : Nat → ClassId} {ros : Nat → Nat} {fm : Value} {A : Nat → Prop} {n0 : Nat} {ad0 : Nat → Nat} {QW : State → Prop} {ad : Nat → Nat} {H1 : Heap} {locs : List Loc} {ls : Array Slot} {kd len q : Nat} {en : va_E}
    (C : Cx K d y Q p e s m args below meth c D cA ros fm A n0 ad0 QW) (hHV : HV G) (hn0 : n0 ≤ G.1) (ha : ∀ k, k < n0 ∨ y.2.2.2.2.1 = 0 → ad k = ad0 k) (hl : Lok (cv ad ros fm) y.2.2.1 L ls) (hmc : y.2.2.2.2.1 ≠ 0) (hvL : okR G.1 L) (hvs : okR G.1 st)
    (he : en = ent (fun k => if k = G.1 then q else ad k) cA (fun a b => if a = (G.1 : Int) then dfl kd b else G.2.2 a b) G.1 (kd, len))
    (hP : va_P D vwCl (wl ad cA G ++ [(q, en)]) H1) (hD : va_D A (wl ad cA G ++ [(q, en)])) (hS : va_S A s.heap H1 locs) (k : WP K d y kc ks pc L ((2, (G.1 : Int)) :: st) (hnew G kd len) Q) :
    W p K.1 e (rmd d y) s m args below meth c H1 locs kc ks QW (F0 m pc ls (.ref q :: st.map (cv ad ros fm))) := by
  subst he
  rw [← wl_new hHV] at hP hD
  have hag : ∀ k', k' < G.1 → (fun k => if k = G.1 then q else ad k) k' = ad k' := fun k' hk' => if_neg (by omega)
  have k' := k p e s m args below meth c D cA ros fm A n0 ad0 QW (fun k => if k = G.1 then q else ad k) H1 locs ls C ⟨hP, hD, hHV.new⟩ hS (by show n0 ≤ G.1 + 1; omega)
    (fun k' hk' => by
      rcases hk' with hk' | hk'
      · rw [← ha k' (Or.inl hk')]; exact hag k' (by omega)
      · exact absurd hk' hmc) (hl.ad hag hvL)
  refine W.eq ?_ k'
  rw [List.map_cons, cv_ref (by omega), map_eq hag hvs]
  simp
theorem dflt_obj {ad : Nat → Nat} {ci : Nat} (h : ci < 10) : ∀ j, j < nflds ci → defaultValue (fldT ci j) = vp_V ((List.range (nflds ci)).map (fun j => cf ad (fldT ci j) (dfl ci j))) j := by
  intro j hj
  have ht := fld_okT ci h j hj
  simp only [vp_V, List.getD_eq_getElem?_getD, List.getElem?_map, List.getElem?_range hj, Option.map_some, Option.getD_some]
  unfold cf dfl refSlot
  simp only [h, if_true, Int.toNat_natCast]
  revert ht
  cases fldT ci j <;> intro ht <;> first | (cases ht; done) | rfl
theorem row_def {ad : Nat → Nat} {cA : Nat → ClassId} {kd len : Nat} {c : Int → Int → Int} {k : Nat} (hc : ∀ j : Nat, c k j = dfl kd j) (h : 10 ≤ kd ∧ kd < 13) : ent ad cA c k (kd, len) = .inl (cA kd, len, .inl (fun _ => 0)) := by
  have h1 : ¬ kd < 10 := by omega
  have h2 : ¬ 14 ≤ kd := by omega
  simp [ent, hc, h1, h.2, dfl, refSlot, h2]
theorem row_defL {ad : Nat → Nat} {cA : Nat → ClassId} {len : Nat} {c : Int → Int → Int} {k : Nat} (hc : ∀ j : Nat, c k j = dfl 13 j) : ent ad cA c k (13, len) = .inl (cA 13, len, .inr (.inl (fun _ => 0))) := by
  simp [ent, hc, dfl, refSlot]
theorem row_defR {ad : Nat → Nat} {cA : Nat → ClassId} {kd len : Nat} {c : Int → Int → Int} {k : Nat} (hc : ∀ j : Nat, c k j = dfl kd j) (h : 14 ≤ kd) : ent ad cA c k (kd, len) = .inl (cA kd, len, .inr (.inr (.inr (.inr (fun _ => none))))) := by
  have h1 : ¬ kd < 10 := by omega
  have h2 : ¬ kd < 13 := by omega
  have h3 : ¬ kd = 13 := by omega
  simp [ent, hc, h1, h2, h3, dfl, refSlot, h, cr]

theorem R_new {K : Launch × Nat × (Nat → Int)} {d : Nat} {y : mth} {kc ks pc pc' : Nat} {L st : List av} {G : hp} {Q : hp → av → Prop} {idx ci : Nat} (hd : decode y.2.1 pc = .ok (.new idx, 3)) (h10 : ci < 10) (hw : Cond.classLink y.1.cls idx (clsN ci) ∈ wsA) (hw2 : Cond.instantiable (clsN ci) (nflds ci) ∈ wsA) (hw3 : Cond.initialized (clsN ci) ∈ wsA) (hm : kc + 1 ≤ y.2.2.2.2.1) (hm2 : ks + nflds ci ≤ y.2.2.2.2.2) (hvL : okR G.1 L) (hvs : okR G.1 st) (hn : pc + 3 = pc') (k : WP K d y (kc + 1) (ks + nflds ci) pc' L ((2, (G.1 : Int)) :: st) (hnew G ci 0) Q) : WP K d y kc ks pc L st G Q := by
  subst hn
  intro p e s m args below meth c D cA ros fm A n0 ad0 QW ad H locs ls C hR hS hn0 ha hl
  obtain ⟨⟨hx, hb, hml, hr, hlk, hown, hmn, hts, hnw⟩, hK, hSW, hA, hRC⟩ := id C
  refine va_new (ci := ci) (fs := (List.range (nflds ci)).map (fun j => cf ad (fldT ci j) (dfl ci j))) (C := clsN ci) (T := fldN ci) (N := nflds ci) hx hb hts (fld_in ci h10) (fldT ci) (fld_ty ci h10) hown (hts _ hw) (hts _ hw2) (hts _ hw3) hK hR.1 hR.2.1 hS hA (vwCl_at ci h10) (dflt_obj h10) hm hm2 hd (fun q H1 hP1 hD1 hS1 => ?_)
  refine new_fin C hR.2.2 hn0 ha hl (by omega) hvL hvs ?_ hP1 hD1 hS1 k
  simp only [ent, h10, if_true]
  congr 2
  apply List.map_congr_left
  intro j _
  simp only [cf]
  by_cases h2 : isRefT (fldT ci j) = true
  · simp [h2, dfl, refSlot, h10, cr]
  · simp [h2]
theorem R_newa_int {K : Launch × Nat × (Nat → Int)} {d : Nat} {y : mth} {kc ks pc pc' : Nat} {L st : List av} {G : hp} {Q : hp → av → Prop} {len : Nat} (hd : decode y.2.1 pc = .ok (.newarray .int, 2)) (hw : Cond.arrayClass .int ∈ wsA) (hlen : len ≤ 65536) (hm : kc + 1 ≤ y.2.2.2.2.1) (hm2 : ks + len ≤ y.2.2.2.2.2) (hvL : okR G.1 L) (hvs : okR G.1 st) (hn : pc + 2 = pc') (k : WP K d y (kc + 1) (ks + len) pc' L ((2, (G.1 : Int)) :: st) (hnew G 10 len) Q) : WP K d y kc ks pc L ((0, (len : Int)) :: st) G Q := by
  subst hn
  intro p e s m args below meth c D cA ros fm A n0 ad0 QW ad H locs ls C hR hS hn0 ha hl
  obtain ⟨⟨hx, hb, hml, hr, hlk, hown, hmn, hts, hnw⟩, hK, hSW, hA, hRC⟩ := id C
  have hi : ir (len : Int) := ⟨by omega, by omega⟩
  have hneg : ¬ Int32.ofInt (len : Int) < 0 := fun q => by have := (i_lt hi ir0).mp q; omega
  refine va_newa (ty := .int) (N' := len) (a0 := (len, .inl (fun _ => 0))) (atype := .int) hx hb (hts _ hw) rfl hK hR.1 hR.2.1 hS hA (fun cA' => by rfl) hneg (by rw [i_clamp (by omega) (by omega)]; omega) (by exact Nat.le_trans (Nat.mul_le_mul hlen (show componentBytes .int ≤ 8 by decide)) (by omega)) hm hm2 hd (fun q cA' H1 hK1 hP1 hD1 hS1 => ?_)
  have e1 : cA' = cA 10 := by
    have z1 := va_nm_int (hK1.2 6 (cA', .int) rfl).2
    have z2 := va_nm_int (hK.2 0 (cA 10, .int) rfl).2
    exact Option.some.inj (z1.symm.trans z2)
  subst e1
  exact new_fin C hR.2.2 hn0 ha hl (by omega) hvL hvs (row_def (fun j => by simp) (by omega)).symm hP1 hD1 hS1 k
theorem R_newa_boolean {K : Launch × Nat × (Nat → Int)} {d : Nat} {y : mth} {kc ks pc pc' : Nat} {L st : List av} {G : hp} {Q : hp → av → Prop} {len : Nat} (hd : decode y.2.1 pc = .ok (.newarray .boolean, 2)) (hw : Cond.arrayClass .boolean ∈ wsA) (hlen : len ≤ 65536) (hm : kc + 1 ≤ y.2.2.2.2.1) (hm2 : ks + len ≤ y.2.2.2.2.2) (hvL : okR G.1 L) (hvs : okR G.1 st) (hn : pc + 2 = pc') (k : WP K d y (kc + 1) (ks + len) pc' L ((2, (G.1 : Int)) :: st) (hnew G 11 len) Q) : WP K d y kc ks pc L ((0, (len : Int)) :: st) G Q := by
  subst hn
  intro p e s m args below meth c D cA ros fm A n0 ad0 QW ad H locs ls C hR hS hn0 ha hl
  obtain ⟨⟨hx, hb, hml, hr, hlk, hown, hmn, hts, hnw⟩, hK, hSW, hA, hRC⟩ := id C
  have hi : ir (len : Int) := ⟨by omega, by omega⟩
  have hneg : ¬ Int32.ofInt (len : Int) < 0 := fun q => by have := (i_lt hi ir0).mp q; omega
  refine va_newa (ty := .boolean) (N' := len) (a0 := (len, .inl (fun _ => 0))) (atype := .boolean) hx hb (hts _ hw) rfl hK hR.1 hR.2.1 hS hA (fun cA' => by rfl) hneg (by rw [i_clamp (by omega) (by omega)]; omega) (by exact Nat.le_trans (Nat.mul_le_mul hlen (show componentBytes .boolean ≤ 8 by decide)) (by omega)) hm hm2 hd (fun q cA' H1 hK1 hP1 hD1 hS1 => ?_)
  have e1 : cA' = cA 11 := by
    have z1 := va_nm_boolean (hK1.2 6 (cA', .boolean) rfl).2
    have z2 := va_nm_boolean (hK.2 1 (cA 11, .boolean) rfl).2
    exact Option.some.inj (z1.symm.trans z2)
  subst e1
  exact new_fin C hR.2.2 hn0 ha hl (by omega) hvL hvs (row_def (fun j => by simp) (by omega)).symm hP1 hD1 hS1 k
theorem R_newa_byte {K : Launch × Nat × (Nat → Int)} {d : Nat} {y : mth} {kc ks pc pc' : Nat} {L st : List av} {G : hp} {Q : hp → av → Prop} {len : Nat} (hd : decode y.2.1 pc = .ok (.newarray .byte, 2)) (hw : Cond.arrayClass .byte ∈ wsA) (hlen : len ≤ 65536) (hm : kc + 1 ≤ y.2.2.2.2.1) (hm2 : ks + len ≤ y.2.2.2.2.2) (hvL : okR G.1 L) (hvs : okR G.1 st) (hn : pc + 2 = pc') (k : WP K d y (kc + 1) (ks + len) pc' L ((2, (G.1 : Int)) :: st) (hnew G 12 len) Q) : WP K d y kc ks pc L ((0, (len : Int)) :: st) G Q := by
  subst hn
  intro p e s m args below meth c D cA ros fm A n0 ad0 QW ad H locs ls C hR hS hn0 ha hl
  obtain ⟨⟨hx, hb, hml, hr, hlk, hown, hmn, hts, hnw⟩, hK, hSW, hA, hRC⟩ := id C
  have hi : ir (len : Int) := ⟨by omega, by omega⟩
  have hneg : ¬ Int32.ofInt (len : Int) < 0 := fun q => by have := (i_lt hi ir0).mp q; omega
  refine va_newa (ty := .byte) (N' := len) (a0 := (len, .inl (fun _ => 0))) (atype := .byte) hx hb (hts _ hw) rfl hK hR.1 hR.2.1 hS hA (fun cA' => by rfl) hneg (by rw [i_clamp (by omega) (by omega)]; omega) (by exact Nat.le_trans (Nat.mul_le_mul hlen (show componentBytes .byte ≤ 8 by decide)) (by omega)) hm hm2 hd (fun q cA' H1 hK1 hP1 hD1 hS1 => ?_)
  have e1 : cA' = cA 12 := by
    have z1 := va_nm_byte (hK1.2 6 (cA', .byte) rfl).2
    have z2 := va_nm_byte (hK.2 2 (cA 12, .byte) rfl).2
    exact Option.some.inj (z1.symm.trans z2)
  subst e1
  exact new_fin C hR.2.2 hn0 ha hl (by omega) hvL hvs (row_def (fun j => by simp) (by omega)).symm hP1 hD1 hS1 k
theorem R_newa_long {K : Launch × Nat × (Nat → Int)} {d : Nat} {y : mth} {kc ks pc pc' : Nat} {L st : List av} {G : hp} {Q : hp → av → Prop} {len : Nat} (hd : decode y.2.1 pc = .ok (.newarray .long, 2)) (hw : Cond.arrayClass .long ∈ wsA) (hlen : len ≤ 65536) (hm : kc + 1 ≤ y.2.2.2.2.1) (hm2 : ks + len ≤ y.2.2.2.2.2) (hvL : okR G.1 L) (hvs : okR G.1 st) (hn : pc + 2 = pc') (k : WP K d y (kc + 1) (ks + len) pc' L ((2, (G.1 : Int)) :: st) (hnew G 13 len) Q) : WP K d y kc ks pc L ((0, (len : Int)) :: st) G Q := by
  subst hn
  intro p e s m args below meth c D cA ros fm A n0 ad0 QW ad H locs ls C hR hS hn0 ha hl
  obtain ⟨⟨hx, hb, hml, hr, hlk, hown, hmn, hts, hnw⟩, hK, hSW, hA, hRC⟩ := id C
  have hi : ir (len : Int) := ⟨by omega, by omega⟩
  have hneg : ¬ Int32.ofInt (len : Int) < 0 := fun q => by have := (i_lt hi ir0).mp q; omega
  refine va_newa (ty := .long) (N' := len) (a0 := (len, .inr (.inl (fun _ => 0)))) (atype := .long) hx hb (hts _ hw) rfl hK hR.1 hR.2.1 hS hA (fun cA' => by rfl) hneg (by rw [i_clamp (by omega) (by omega)]; omega) (by exact Nat.le_trans (Nat.mul_le_mul hlen (show componentBytes .long ≤ 8 by decide)) (by omega)) hm hm2 hd (fun q cA' H1 hK1 hP1 hD1 hS1 => ?_)
  have e1 : cA' = cA 13 := by
    have z1 := va_nm_long (hK1.2 6 (cA', .long) rfl).2
    have z2 := va_nm_long (hK.2 3 (cA 13, .long) rfl).2
    exact Option.some.inj (z1.symm.trans z2)
  subst e1
  exact new_fin C hR.2.2 hn0 ha hl (by omega) hvL hvs (row_defL (fun j => by simp)).symm hP1 hD1 hS1 k
theorem R_newq_House {K : Launch × Nat × (Nat → Int)} {d : Nat} {y : mth} {kc ks pc pc' : Nat} {L st : List av} {G : hp} {Q : hp → av → Prop} {idx len : Nat} (hd : decode y.2.1 pc = .ok (.anewarray idx, 3)) (hw : Cond.classLink y.1.cls idx (clsN 2) ∈ wsA) (hw2 : Cond.arrayOver (.object (clsN 2)) ∈ nestW) (hlen : len ≤ 65536) (hm : kc + 1 ≤ y.2.2.2.2.1) (hm2 : ks + len ≤ y.2.2.2.2.2) (hvL : okR G.1 L) (hvs : okR G.1 st) (hn : pc + 3 = pc') (k : WP K d y (kc + 1) (ks + len) pc' L ((2, (G.1 : Int)) :: st) (hnew G 14 len) Q) : WP K d y kc ks pc L ((0, (len : Int)) :: st) G Q := by
  subst hn
  intro p e s m args below meth c D cA ros fm A n0 ad0 QW ad H locs ls C hR hS hn0 ha hl
  obtain ⟨⟨hx, hb, hml, hr, hlk, hown, hmn, hts, hnw⟩, hK, hSW, hA, hRC⟩ := id C
  have hi : ir (len : Int) := ⟨by omega, by omega⟩
  have hneg : ¬ Int32.ofInt (len : Int) < 0 := fun q => by have := (i_lt hi ir0).mp q; omega
  refine va_newq (C := clsN 2) (N' := len) hx hb hown (hts _ hw) (hnw _ hw2) hK hR.1 hR.2.1 hS hA hneg (by rw [i_clamp (by omega) (by omega)]; omega) (by omega) hm hm2 hd (fun q cA' H1 hK1 hP1 hD1 hS1 => ?_)
  have e1 : cA' = cA 14 := by
    obtain ⟨kA, comp, -, -, -, z1⟩ := (hK1.2 6 (cA', .object (clsN 2)) rfl).2
    obtain ⟨kA2, comp2, -, -, -, z2⟩ := (hK.2 4 (cA 14, .object (clsN 2)) rfl).2
    exact Option.some.inj (z1.symm.trans z2)
  subst e1
  exact new_fin C hR.2.2 hn0 ha hl (by omega) hvL hvs (row_defR (fun j => by simp) (by omega)).symm hP1 hD1 hS1 k
theorem R_newq_Tape {K : Launch × Nat × (Nat → Int)} {d : Nat} {y : mth} {kc ks pc pc' : Nat} {L st : List av} {G : hp} {Q : hp → av → Prop} {idx len : Nat} (hd : decode y.2.1 pc = .ok (.anewarray idx, 3)) (hw : Cond.classLink y.1.cls idx (clsN 7) ∈ wsA) (hw2 : Cond.arrayOver (.object (clsN 7)) ∈ nestW) (hlen : len ≤ 65536) (hm : kc + 1 ≤ y.2.2.2.2.1) (hm2 : ks + len ≤ y.2.2.2.2.2) (hvL : okR G.1 L) (hvs : okR G.1 st) (hn : pc + 3 = pc') (k : WP K d y (kc + 1) (ks + len) pc' L ((2, (G.1 : Int)) :: st) (hnew G 15 len) Q) : WP K d y kc ks pc L ((0, (len : Int)) :: st) G Q := by
  subst hn
  intro p e s m args below meth c D cA ros fm A n0 ad0 QW ad H locs ls C hR hS hn0 ha hl
  obtain ⟨⟨hx, hb, hml, hr, hlk, hown, hmn, hts, hnw⟩, hK, hSW, hA, hRC⟩ := id C
  have hi : ir (len : Int) := ⟨by omega, by omega⟩
  have hneg : ¬ Int32.ofInt (len : Int) < 0 := fun q => by have := (i_lt hi ir0).mp q; omega
  refine va_newq (C := clsN 7) (N' := len) hx hb hown (hts _ hw) (hnw _ hw2) hK hR.1 hR.2.1 hS hA hneg (by rw [i_clamp (by omega) (by omega)]; omega) (by omega) hm hm2 hd (fun q cA' H1 hK1 hP1 hD1 hS1 => ?_)
  have e1 : cA' = cA 15 := by
    obtain ⟨kA, comp, -, -, -, z1⟩ := (hK1.2 6 (cA', .object (clsN 7)) rfl).2
    obtain ⟨kA2, comp2, -, -, -, z2⟩ := (hK.2 5 (cA 15, .object (clsN 7)) rfl).2
    exact Option.some.inj (z1.symm.trans z2)
  subst e1
  exact new_fin C hR.2.2 hn0 ha hl (by omega) hvL hvs (row_defR (fun j => by simp) (by omega)).symm hP1 hD1 hS1 k
/-- row a of the content becomes what f says -/
def upRow (c : Int → Int → Int) (k : Int) (f : Int → Int) : Int → Int → Int := fun a b => if a = k then f b else c a b
def cpyI (f g : Int → Int) (sp dp n : Int) : Int → Int := fun j => if dp ≤ j ∧ j < dp + n then f (sp + (j - dp)) else g j
def hrow (G : hp) (k : Int) (f : Int → Int) : hp := (G.1, G.2.1, upRow G.2.2 k f)
theorem upRow_off {c : Int → Int → Int} {k : Nat} {f : Int → Int} : ∀ k' : Nat, k' ≠ k → ∀ j : Nat, upRow c k f k' j = c k' j := by
  intro k' h j
  have h2 : ¬ (k' : Int) = (k : Int) := by omega
  simp [upRow, h2]
theorem HV.row {n : Nat} {sh : Nat → Nat × Nat} {c : Int → Int → Int} {k : Nat} {f : Int → Int} (h : HV (n, sh, c)) (hx : ∀ j : Nat, refSlot (sh k).1 j = false) : HV (n, sh, upRow c k f) := by
  intro a b ha hr
  by_cases e : a = k
  · subst e; rw [show ((n, sh, upRow c a f) : hp).2.1 = sh from rfl, hx b] at hr; cases hr
  · have := h a b ha hr
    show upRow c k f a b < n
    rw [upRow_off a e b]; exact this
theorem cpy_to {α : Type} (F : Int → α) (f g : Int → Int) {sp dp n : Int} (h1 : 0 ≤ sp) (h2 : 0 ≤ dp) (h3 : 0 ≤ n) : va_cpy (fun j : Nat => F (f j)) (fun j : Nat => F (g j)) sp.toNat dp.toNat n.toNat = fun j : Nat => F (cpyI f g sp dp n j) := by
  funext j
  unfold va_cpy cpyI
  by_cases h : dp.toNat ≤ j ∧ j < dp.toNat + n.toNat
  · have h' : dp ≤ (j : Int) ∧ (j : Int) < dp + n := by omega
    have e : ((sp.toNat + (j - dp.toNat) : Nat) : Int) = sp + ((j : Int) - dp) := by omega
    rw [if_pos h, if_pos h']
    show F (f ((sp.toNat + (j - dp.toNat) : Nat) : Int)) = _
    rw [e]
  · have h' : ¬ (dp ≤ (j : Int) ∧ (j : Int) < dp + n) := by omega
    rw [if_neg h, if_neg h']
def kCp (own : String) (idx : Nat) : Prop := Cond.methodLink own idx arraycopyName ∈ wsA ∧ Cond.native arraycopyName ∈ wsA ∧ Cond.static arraycopyName ∈ wsA ∧ Cond.initialized "java/lang/System" ∈ wsA
theorem R_cpyi {K : Launch × Nat × (Nat → Int)} {d : Nat} {y : mth} {kc ks pc pc' : Nat} {L st : List av} {G : hp} {Q : hp → av → Prop} {x0 x1 sp dp n : Int} {len0 len1 idx : Nat} (hd : decode y.2.1 pc = .ok (.invokestatic idx, 3)) (hk : kCp y.1.cls idx) (hd1 : 1 ≤ d) (hst : (st.map avc).sum ≤ 8) (hc0 : isC G x0 10 len0) (hc1 : isC G x1 10 len1) (hl0 : len0 ≤ 65536) (hl1 : len1 ≤ 65536) (h1 : 0 ≤ sp) (h2 : 0 ≤ dp) (h3 : 0 ≤ n) (h4 : sp + n ≤ len0) (h5 : dp + n ≤ len1) (hn : pc + 3 = pc') (k : WP K d y kc ks pc' L st (hrow G x1 (cpyI (G.2.2 x0) (G.2.2 x1) sp dp n)) Q) : WP K d y kc ks pc L ((0, n) :: (0, dp) :: (2, x1) :: (0, sp) :: (2, x0) :: st) G Q := by
  subst hn
  intro p e s m args below meth c D cA ros fm A n0 ad0 QW ad H locs ls C hR hS hn0 ha hl
  obtain ⟨⟨hx, hb, hml, hr, hlk, hown, hmn, hts, hnw⟩, hK, hSW, hA, hRC⟩ := id C
  obtain ⟨nn, sh, ct⟩ := G
  obtain ⟨hw1, hw2, hw3, hw4⟩ := hk
  have neg : ∀ z : Int, 0 ≤ z → z ≤ 65536 → ¬ Int32.ofInt z < 0 := fun z hz0 hz1 q => by have := (i_lt (a := z) ⟨by omega, by omega⟩ ir0).mp q; omega
  refine W.eq (g2 := F0 m pc ls (.int (Int32.ofInt n) :: .int (Int32.ofInt dp) :: .ref (ad x1.toNat) :: .int (Int32.ofInt sp) :: .ref (ad x0.toNat) :: st.map (cv ad ros fm))) (by simp only [List.map_cons, cv_ref hc0.1, cv_ref hc1.1]; rfl) ?_
  have c1 := i_clamp h1 (show sp < 2147483648 by omega)
  have c2 := i_clamp h2 (show dp < 2147483648 by omega)
  have c3 := i_clamp h3 (show n < 2147483648 by omega)
  refine va_copyi (D := D) (ty := .int) hx hb (hml.trans hl.1.symm) hown (hts _ hw1) (hts _ hw2) (hts _ hw3) (hts _ hw4) hK hR.1 hR.2.1 hS x0.toNat x1.toNat 0 0 (ent_i hc0 (by omega)) (ent_i hc1 (by omega)) rfl rfl rfl (neg sp h1 (by omega)) (neg dp h2 (by omega)) (neg n h3 (by omega)) (by rw [c1, c3]; omega) (by rw [c2, c3]; omega) ?_ hd1 ?_ hd (fun H1 locs1 hP1 hD1 hS1 => ?_)
  · intro j hj
    rw [c1]
    rw [c3] at hj
    exact rfl
  · rw [cat_sum hSW.2.2.2.2.2.2.1]
    show _ + (nativeFrameWords "java/lang/System" "arraycopy" 5 + 11) ≤ 41 * d + 32
    have : nativeFrameWords "java/lang/System" "arraycopy" 5 ≤ 7 := by decide
    omega
  have h1s : sh x1.toNat = (10, len1) := hc1.2.2
  have hoff := upRow_off (c := ct) (k := x1.toNat) (f := cpyI (ct x0) (ct x1) sp dp n)
  rw [hc1.c] at hoff
  rw [c1, c2, c3, cpy_to (fun z => Int32.ofInt z) (ct x0) (ct x1) h1 h2 h3, wl_set (c' := upRow ct x1 (cpyI (ct x0) (ct x1) sp dp n)) hoff (by rw [h1s]; simp [ent, upRow, hc1.c])] at hP1 hD1
  have hHV : HV (nn, sh, upRow ct x1 (cpyI (ct x0) (ct x1) sp dp n)) := by
    have := hR.2.2.row (k := x1.toNat) (f := cpyI (ct x0) (ct x1) sp dp n) (fun j => by rw [h1s]; rfl)
    rwa [hc1.c] at this
  exact k p e s m args below meth c D cA ros fm A n0 ad0 QW ad H1 locs1 ls C ⟨hP1, hD1, hHV⟩ hS1 hn0 ha hl
theorem R_cpyz {K : Launch × Nat × (Nat → Int)} {d : Nat} {y : mth} {kc ks pc pc' : Nat} {L st : List av} {G : hp} {Q : hp → av → Prop} {x0 x1 sp dp n : Int} {len0 len1 idx : Nat} (hd : decode y.2.1 pc = .ok (.invokestatic idx, 3)) (hk : kCp y.1.cls idx) (hd1 : 1 ≤ d) (hst : (st.map avc).sum ≤ 8) (hc0 : isC G x0 11 len0) (hc1 : isC G x1 11 len1) (hl0 : len0 ≤ 65536) (hl1 : len1 ≤ 65536) (h1 : 0 ≤ sp) (h2 : 0 ≤ dp) (h3 : 0 ≤ n) (h4 : sp + n ≤ len0) (h5 : dp + n ≤ len1) (hz : ∀ j : Int, 0 ≤ j → j < len0 → G.2.2 x0 j = 0 ∨ G.2.2 x0 j = 1) (hn : pc + 3 = pc') (k : WP K d y kc ks pc' L st (hrow G x1 (cpyI (G.2.2 x0) (G.2.2 x1) sp dp n)) Q) : WP K d y kc ks pc L ((0, n) :: (0, dp) :: (2, x1) :: (0, sp) :: (2, x0) :: st) G Q := by
  subst hn
  intro p e s m args below meth c D cA ros fm A n0 ad0 QW ad H locs ls C hR hS hn0 ha hl
  obtain ⟨⟨hx, hb, hml, hr, hlk, hown, hmn, hts, hnw⟩, hK, hSW, hA, hRC⟩ := id C
  obtain ⟨nn, sh, ct⟩ := G
  obtain ⟨hw1, hw2, hw3, hw4⟩ := hk
  have neg : ∀ z : Int, 0 ≤ z → z ≤ 65536 → ¬ Int32.ofInt z < 0 := fun z hz0 hz1 q => by have := (i_lt (a := z) ⟨by omega, by omega⟩ ir0).mp q; omega
  refine W.eq (g2 := F0 m pc ls (.int (Int32.ofInt n) :: .int (Int32.ofInt dp) :: .ref (ad x1.toNat) :: .int (Int32.ofInt sp) :: .ref (ad x0.toNat) :: st.map (cv ad ros fm))) (by simp only [List.map_cons, cv_ref hc0.1, cv_ref hc1.1]; rfl) ?_
  have c1 := i_clamp h1 (show sp < 2147483648 by omega)
  have c2 := i_clamp h2 (show dp < 2147483648 by omega)
  have c3 := i_clamp h3 (show n < 2147483648 by omega)
  refine va_copyi (D := D) (ty := .boolean) hx hb (hml.trans hl.1.symm) hown (hts _ hw1) (hts _ hw2) (hts _ hw3) (hts _ hw4) hK hR.1 hR.2.1 hS x0.toNat x1.toNat 1 1 (ent_i hc0 (by omega)) (ent_i hc1 (by omega)) rfl rfl rfl (neg sp h1 (by omega)) (neg dp h2 (by omega)) (neg n h3 (by omega)) (by rw [c1, c3]; omega) (by rw [c2, c3]; omega) ?_ hd1 ?_ hd (fun H1 locs1 hP1 hD1 hS1 => ?_)
  · intro j hj
    rw [c1]
    rw [c3] at hj
    exact (nar_bool (hz ((sp.toNat + j : Nat) : Int) (by omega) (by omega))).2
  · rw [cat_sum hSW.2.2.2.2.2.2.1]
    show _ + (nativeFrameWords "java/lang/System" "arraycopy" 5 + 11) ≤ 41 * d + 32
    have : nativeFrameWords "java/lang/System" "arraycopy" 5 ≤ 7 := by decide
    omega
  have h1s : sh x1.toNat = (11, len1) := hc1.2.2
  have hoff := upRow_off (c := ct) (k := x1.toNat) (f := cpyI (ct x0) (ct x1) sp dp n)
  rw [hc1.c] at hoff
  rw [c1, c2, c3, cpy_to (fun z => Int32.ofInt z) (ct x0) (ct x1) h1 h2 h3, wl_set (c' := upRow ct x1 (cpyI (ct x0) (ct x1) sp dp n)) hoff (by rw [h1s]; simp [ent, upRow, hc1.c])] at hP1 hD1
  have hHV : HV (nn, sh, upRow ct x1 (cpyI (ct x0) (ct x1) sp dp n)) := by
    have := hR.2.2.row (k := x1.toNat) (f := cpyI (ct x0) (ct x1) sp dp n) (fun j => by rw [h1s]; rfl)
    rwa [hc1.c] at this
  exact k p e s m args below meth c D cA ros fm A n0 ad0 QW ad H1 locs1 ls C ⟨hP1, hD1, hHV⟩ hS1 hn0 ha hl
theorem R_cpyl {K : Launch × Nat × (Nat → Int)} {d : Nat} {y : mth} {kc ks pc pc' : Nat} {L st : List av} {G : hp} {Q : hp → av → Prop} {x0 x1 sp dp n : Int} {len0 len1 idx : Nat} (hd : decode y.2.1 pc = .ok (.invokestatic idx, 3)) (hk : kCp y.1.cls idx) (hd1 : 1 ≤ d) (hst : (st.map avc).sum ≤ 8) (hc0 : isC G x0 13 len0) (hc1 : isC G x1 13 len1) (hl0 : len0 ≤ 65536) (hl1 : len1 ≤ 65536) (h1 : 0 ≤ sp) (h2 : 0 ≤ dp) (h3 : 0 ≤ n) (h4 : sp + n ≤ len0) (h5 : dp + n ≤ len1) (hn : pc + 3 = pc') (k : WP K d y kc ks pc' L st (hrow G x1 (cpyI (G.2.2 x0) (G.2.2 x1) sp dp n)) Q) : WP K d y kc ks pc L ((0, n) :: (0, dp) :: (2, x1) :: (0, sp) :: (2, x0) :: st) G Q := by
  subst hn
  intro p e s m args below meth c D cA ros fm A n0 ad0 QW ad H locs ls C hR hS hn0 ha hl
  obtain ⟨⟨hx, hb, hml, hr, hlk, hown, hmn, hts, hnw⟩, hK, hSW, hA, hRC⟩ := id C
  obtain ⟨nn, sh, ct⟩ := G
  obtain ⟨hw1, hw2, hw3, hw4⟩ := hk
  have neg : ∀ z : Int, 0 ≤ z → z ≤ 65536 → ¬ Int32.ofInt z < 0 := fun z hz0 hz1 q => by have := (i_lt (a := z) ⟨by omega, by omega⟩ ir0).mp q; omega
  refine W.eq (g2 := F0 m pc ls (.int (Int32.ofInt n) :: .int (Int32.ofInt dp) :: .ref (ad x1.toNat) :: .int (Int32.ofInt sp) :: .ref (ad x0.toNat) :: st.map (cv ad ros fm))) (by simp only [List.map_cons, cv_ref hc0.1, cv_ref hc1.1]; rfl) ?_
  have c1 := i_clamp h1 (show sp < 2147483648 by omega)
  have c2 := i_clamp h2 (show dp < 2147483648 by omega)
  have c3 := i_clamp h3 (show n < 2147483648 by omega)
  refine va_copyl (D := D) (ty := .long) hx hb (hml.trans hl.1.symm) hown (hts _ hw1) (hts _ hw2) (hts _ hw3) (hts _ hw4) hK hR.1 hR.2.1 hS x0.toNat x1.toNat 3 3 (ent_l hc0) (ent_l hc1) rfl rfl rfl (neg sp h1 (by omega)) (neg dp h2 (by omega)) (neg n h3 (by omega)) (by rw [c1, c3]; omega) (by rw [c2, c3]; omega) ?_ hd1 ?_ hd (fun H1 locs1 hP1 hD1 hS1 => ?_)
  · intro j hj
    rw [c1]
    rw [c3] at hj
    exact rfl
  · rw [cat_sum hSW.2.2.2.2.2.2.1]
    show _ + (nativeFrameWords "java/lang/System" "arraycopy" 5 + 11) ≤ 41 * d + 32
    have : nativeFrameWords "java/lang/System" "arraycopy" 5 ≤ 7 := by decide
    omega
  have h1s : sh x1.toNat = (13, len1) := hc1.2.2
  have hoff := upRow_off (c := ct) (k := x1.toNat) (f := cpyI (ct x0) (ct x1) sp dp n)
  rw [hc1.c] at hoff
  rw [c1, c2, c3, cpy_to (fun z => Int64.ofInt z) (ct x0) (ct x1) h1 h2 h3, wl_set (c' := upRow ct x1 (cpyI (ct x0) (ct x1) sp dp n)) hoff (by rw [h1s]; simp [ent, upRow, hc1.c])] at hP1 hD1
  have hHV : HV (nn, sh, upRow ct x1 (cpyI (ct x0) (ct x1) sp dp n)) := by
    have := hR.2.2.row (k := x1.toNat) (f := cpyI (ct x0) (ct x1) sp dp n) (fun j => by rw [h1s]; rfl)
    rwa [hc1.c] at this
  exact k p e s m args below meth c D cA ros fm A n0 ad0 QW ad H1 locs1 ls C ⟨hP1, hD1, hHV⟩ hS1 hn0 ha hl
end
section
/-! THE WORLD AS IT STANDS BEHIND THE CONSTRUCTORS: 153 cells; final references are known by their places -/
def shL : List (Nat × Nat) := [(8, 0), (12, 100), (14, 6), (4, 0), (0, 0), (10, 20), (15, 6), (2, 0), (10, 100), (10, 10), (10, 10), (1, 0), (5, 0), (10, 5), (10, 5), (10, 5), (5, 0), (10, 10), (10, 10), (10, 10), (5, 0), (10, 8), (10, 8), (10, 8), (6, 0), (10, 6), (10, 6), (10, 6), (10, 6), (11, 6), (11, 6), (10, 24), (10, 6), (10, 36), (10, 6), (1, 0), (5, 0), (10, 5), (10, 5), (10, 5), (5, 0), (10, 10), (10, 10), (10, 10), (5, 0), (10, 8), (10, 8), (10, 8), (6, 0), (10, 6), (10, 6), (10, 6), (10, 6), (11, 6), (11, 6), (10, 24), (10, 6), (10, 36), (10, 6), (6, 0), (10, 6), (10, 6), (10, 6), (10, 6), (11, 6), (11, 6), (10, 24), (10, 6), (10, 36), (10, 6), (3, 0), (10, 6), (2, 0), (10, 100), (10, 10), (10, 10), (2, 0), (10, 100), (10, 10), (10, 10), (2, 0), (10, 100), (10, 10), (10, 10), (2, 0), (10, 100), (10, 10), (10, 10), (2, 0), (10, 100), (10, 10), (10, 10), (2, 0), (10, 100), (10, 10), (10, 10), (7, 0), (13, 60), (7, 0), (13, 60), (7, 0), (13, 60), (7, 0), (13, 60), (7, 0), (13, 60), (7, 0), (13, 60), (9, 0), (10, 6), (10, 6), (10, 6), (10, 6), (10, 24), (10, 100), (10, 6), (10, 60), (10, 60), (10, 60), (10, 60), (10, 600), (10, 101), (10, 20), (11, 100), (10, 36), (10, 6), (10, 6), (10, 6), (10, 5), (10, 5), (11, 5), (10, 6), (10, 10), (10, 10), (10, 8), (10, 8), (10, 6), (10, 6), (10, 6), (10, 6), (10, 24), (10, 5), (10, 5), (10, 10), (10, 10), (10, 8), (10, 8), (11, 5), (10, 20), (10, 6), (10, 6), (13, 360), (13, 60)]
def SH (k : Nat) : Nat × Nat := shL.getD k (0, 0)
def frX : List Int := [11, 35, 0, 59, 1, 0, 2, 0, 3, 70, 4, 6]
def frM : List Int := [0, 0, 0, 0, 0, 109, 110, 111, 112, 113, 0, 0, 0, 0, 0, 114, 115, 116, 117, 118, 119, 120, 121, 0, 0, 0, 122, 123, 124, 0, 0, 0, 0, 0, 125, 126, 127, 0, 0, 0, 128, 129, 130, 131, 0, 0, 132, 133, 134, 135, 0, 0, 0, 0, 0, 0, 0, 0, 0, 0, 136, 137, 138, 139, 140, 141, 142, 143, 144, 145, 146, 147, 0, 148, 149, 150, 151, 152]
def finR (kd j : Nat) : Bool := if kd < 10 then (fldN kd j).2.2.2 && isRefT (fldT kd j) else decide (14 ≤ kd)
/-- where final reference b of cell a leads -/
def FR (a b : Int) : Int := match (SH a.toNat).1 with
  | 0 => a + 1
  | 1 => if b = 0 then a + 13 else a + 4 * b - 3
  | 2 => if b = 0 then a + 1 else a + b
  | 3 => if b = 0 then 59 else a + 1
  | 5 => a + 1 + b
  | 6 => a + 1 + b
  | 7 => a + 1
  | 8 => frX.getD b.toNat 0
  | 9 => frM.getD b.toNat 0
  | 14 => if 0 ≤ b ∧ b < 6 then 72 + 4 * b else -1
  | 15 => if 0 ≤ b ∧ b < 6 then 96 + 2 * b else -1
  | _ => 0
abbrev ct : Type := Int → Int → Int
def mrg (c : ct) : ct := fun a b => if finR (SH a.toNat).1 b.toNat = true then FR a b else c a b
abbrev wG (c : ct) : hp := (153, SH, mrg c)
def isS (x : Int) (kd len : Nat) : Prop := 0 ≤ x ∧ x < 153 ∧ SH x.toNat = (kd, len)
theorem isS.C {x : Int} {kd len : Nat} (h : isS x kd len) (c : ct) : isC (wG c) x kd len := h
theorem mrg_n {x : Int} {kd len : Nat} (h : isS x kd len) {j : Int} (hf : finR kd j.toNat = false) (c : ct) : mrg c x j = c x j := by
  simp only [mrg, h.2.2, hf]
  rfl
theorem mrg_f {x : Int} {kd len : Nat} (h : isS x kd len) {j : Int} (hf : finR kd j.toNat = true) (c : ct) : mrg c x j = FR x j := by
  simp only [mrg, h.2.2, hf, if_true]
theorem mrg_up {x : Int} {kd len : Nat} (h : isS x kd len) {j v : Int} (hf : finR kd j.toNat = false) (c : ct) : up2 (mrg c) x j v = mrg (up2 c x j v) := by
  funext a b
  simp only [up2, mrg]
  by_cases e : a = x ∧ b = j
  · obtain ⟨rfl, rfl⟩ := e
    simp [h.2.2, hf]
  · simp only [e, if_false]
theorem mrg_row {x : Int} {kd len : Nat} (h : isS x kd len) (hf : ∀ j, finR kd j = false) (f g : Int → Int) (hg : ∀ j, f j = g j) (c : ct) : upRow (mrg c) x f = mrg (upRow c x g) := by
  funext a b
  simp only [upRow, mrg]
  by_cases e : a = x
  · subst e
    simp [h.2.2, hf, hg]
  · simp only [e, if_false]
theorem fin_arr {kd : Nat} (h : 10 ≤ kd ∧ kd < 14) (j : Nat) : finR kd j = false := by
  have h1 : ¬ kd < 10 := by omega
  have h2 : ¬ 14 ≤ kd := by omega
  simp [finR, h1, h2]
/-- what a typed end asks -/
abbrev eI (Q : ct → Int → Prop) : hp → av → Prop := fun G v => ∃ c, G = wG c ∧ ∃ r, v = (0, r) ∧ Q c r
abbrev eL2 (Q : ct → Int → Prop) : hp → av → Prop := fun G v => ∃ c, G = wG c ∧ ∃ r, v = (1, r) ∧ Q c r
abbrev eV (Q : ct → Prop) : hp → av → Prop := fun G v => ∃ c, G = wG c ∧ v = (8, 0) ∧ Q c
abbrev eA (Q : ct → Int → Prop) : hp → av → Prop := fun G v => ∃ c, G = wG c ∧ ∃ r, v = (3, r) ∧ Q c r
abbrev SK : Type := Launch × Nat × (Nat → Int)
def WI (K : SK) (d : Nat) (y : mth) (pc : Nat) (L st : List av) (c : ct) (Q : ct → Int → Prop) : Prop := WP K d y 0 0 pc L st (wG c) (eI Q)
def WLg (K : SK) (d : Nat) (y : mth) (pc : Nat) (L st : List av) (c : ct) (Q : ct → Int → Prop) : Prop := WP K d y 0 0 pc L st (wG c) (eL2 Q)
def WV (K : SK) (d : Nat) (y : mth) (pc : Nat) (L st : List av) (c : ct) (Q : ct → Prop) : Prop := WP K d y 0 0 pc L st (wG c) (eV Q)
def WA (K : SK) (d : Nat) (y : mth) (pc : Nat) (L st : List av) (c : ct) (Q : ct → Int → Prop) : Prop := WP K d y 0 0 pc L st (wG c) (eA Q)
def CI (K : SK) (d : Nat) (y : mth) (vs : List av) (c : ct) (Q : ct → Int → Prop) : Prop := CM K d y vs (wG c) (eI Q)
def CL (K : SK) (d : Nat) (y : mth) (vs : List av) (c : ct) (Q : ct → Int → Prop) : Prop := CM K d y vs (wG c) (eL2 Q)
def CV (K : SK) (d : Nat) (y : mth) (vs : List av) (c : ct) (Q : ct → Prop) : Prop := CM K d y vs (wG c) (eV Q)
def CA (K : SK) (d : Nat) (y : mth) (vs : List av) (c : ct) (Q : ct → Int → Prop) : Prop := CM K d y vs (wG c) (eA Q)
theorem CI.mono {K : SK} {d : Nat} {y : mth} {vs : List av} {c : ct} {Q Q' : ct → Int → Prop} (h : CI K d y vs c Q) (hQ : ∀ c' r, Q c' r → Q' c' r) : CI K d y vs c Q' := CM.mono h (fun _ _ ⟨c', e, r, e2, q⟩ => ⟨c', e, r, e2, hQ _ _ q⟩)
theorem CL.mono {K : SK} {d : Nat} {y : mth} {vs : List av} {c : ct} {Q Q' : ct → Int → Prop} (h : CL K d y vs c Q) (hQ : ∀ c' r, Q c' r → Q' c' r) : CL K d y vs c Q' := CM.mono h (fun _ _ ⟨c', e, r, e2, q⟩ => ⟨c', e, r, e2, hQ _ _ q⟩)
theorem CA.mono {K : SK} {d : Nat} {y : mth} {vs : List av} {c : ct} {Q Q' : ct → Int → Prop} (h : CA K d y vs c Q) (hQ : ∀ c' r, Q c' r → Q' c' r) : CA K d y vs c Q' := CM.mono h (fun _ _ ⟨c', e, r, e2, q⟩ => ⟨c', e, r, e2, hQ _ _ q⟩)
theorem CV.mono {K : SK} {d : Nat} {y : mth} {vs : List av} {c : ct} {Q Q' : ct → Prop} (h : CV K d y vs c Q) (hQ : ∀ c', Q c' → Q' c') : CV K d y vs c Q' := CM.mono h (fun _ _ ⟨c', e, e2, q⟩ => ⟨c', e, e2, hQ _ q⟩)
/-- fewer locals known -/
def wk (L' L : List av) : Prop := ∀ (i : Nat) (v : av), L'[i]? = some v → v.1 ≠ 9 → L[i]? = some v
theorem wk_n : wk [] [] := fun _ _ h => by simp at h
theorem wk_e {a : av} {L' L : List av} (h : wk L' L) : wk (a :: L') (a :: L)
  | 0, _, h0, _ => h0
  | i + 1, v, h0, h9 => h i v (by simpa using h0) h9
theorem wk_u {x : Int} {a : av} {L' L : List av} (h : wk L' L) : wk ((9, x) :: L') (a :: L)
  | 0, v, h0, h9 => by simp at h0; subst h0; exact absurd rfl h9
  | i + 1, v, h0, h9 => h i v (by simpa using h0) h9
theorem WP_wk {K : SK} {d : Nat} {y : mth} {kc ks pc : Nat} {L L' st : List av} {G : hp} {Q : hp → av → Prop} (hw : wk L' L) (k : WP K d y kc ks pc L' st G Q) : WP K d y kc ks pc L st G Q := by
  intro p e s m args below meth c D cA ros fm A n0 ad0 QW ad H locs ls C hR hS hn0 ha hl
  exact k p e s m args below meth c D cA ros fm A n0 ad0 QW ad H locs ls C hR hS hn0 ha ⟨hl.1, hl.2.1, fun i v hi h9 => hl.2.2 i v (hw i v hi h9) h9⟩
def isTab (t : Int) : Prop := t = 24 ∨ t = 48 ∨ t = 59
def isHou (t : Int) : Prop := t = 7 ∨ t = 72 ∨ t = 76 ∨ t = 80 ∨ t = 84 ∨ t = 88 ∨ t = 92
def isRow (t : Int) (n : Nat) : Prop := ((t = 12 ∨ t = 36) ∧ n = 5) ∨ ((t = 16 ∨ t = 40) ∧ n = 10) ∨ ((t = 20 ∨ t = 44) ∧ n = 8)
def isEve (t : Int) : Prop := t = 11 ∨ t = 35
def isTap (t : Int) : Prop := t = 96 ∨ t = 98 ∨ t = 100 ∨ t = 102 ∨ t = 104 ∨ t = 106
theorem tab_s {t : Int} (h : isTab t) : isS t 6 0 := by rcases h with rfl | rfl | rfl <;> (unfold isS; decide)
theorem tab_0 {t : Int} (h : isTab t) : isS (t + 1) 10 6 := by rcases h with rfl | rfl | rfl <;> (unfold isS; decide)
theorem tab_f0 {t : Int} (h : isTab t) : FR t 0 = t + 1 := by rcases h with rfl | rfl | rfl <;> decide
theorem tab_1 {t : Int} (h : isTab t) : isS (t + 2) 10 6 := by rcases h with rfl | rfl | rfl <;> (unfold isS; decide)
theorem tab_f1 {t : Int} (h : isTab t) : FR t 1 = t + 2 := by rcases h with rfl | rfl | rfl <;> decide
theorem tab_2 {t : Int} (h : isTab t) : isS (t + 3) 10 6 := by rcases h with rfl | rfl | rfl <;> (unfold isS; decide)
theorem tab_f2 {t : Int} (h : isTab t) : FR t 2 = t + 3 := by rcases h with rfl | rfl | rfl <;> decide
theorem tab_3 {t : Int} (h : isTab t) : isS (t + 4) 10 6 := by rcases h with rfl | rfl | rfl <;> (unfold isS; decide)
theorem tab_f3 {t : Int} (h : isTab t) : FR t 3 = t + 4 := by rcases h with rfl | rfl | rfl <;> decide
theorem tab_4 {t : Int} (h : isTab t) : isS (t + 5) 11 6 := by rcases h with rfl | rfl | rfl <;> (unfold isS; decide)
theorem tab_f4 {t : Int} (h : isTab t) : FR t 4 = t + 5 := by rcases h with rfl | rfl | rfl <;> decide
theorem tab_5 {t : Int} (h : isTab t) : isS (t + 6) 11 6 := by rcases h with rfl | rfl | rfl <;> (unfold isS; decide)
theorem tab_f5 {t : Int} (h : isTab t) : FR t 5 = t + 6 := by rcases h with rfl | rfl | rfl <;> decide
theorem tab_6 {t : Int} (h : isTab t) : isS (t + 7) 10 24 := by rcases h with rfl | rfl | rfl <;> (unfold isS; decide)
theorem tab_f6 {t : Int} (h : isTab t) : FR t 6 = t + 7 := by rcases h with rfl | rfl | rfl <;> decide
theorem tab_7 {t : Int} (h : isTab t) : isS (t + 8) 10 6 := by rcases h with rfl | rfl | rfl <;> (unfold isS; decide)
theorem tab_f7 {t : Int} (h : isTab t) : FR t 7 = t + 8 := by rcases h with rfl | rfl | rfl <;> decide
theorem tab_8 {t : Int} (h : isTab t) : isS (t + 9) 10 36 := by rcases h with rfl | rfl | rfl <;> (unfold isS; decide)
theorem tab_f8 {t : Int} (h : isTab t) : FR t 8 = t + 9 := by rcases h with rfl | rfl | rfl <;> decide
theorem tab_9 {t : Int} (h : isTab t) : isS (t + 10) 10 6 := by rcases h with rfl | rfl | rfl <;> (unfold isS; decide)
theorem tab_f9 {t : Int} (h : isTab t) : FR t 9 = t + 10 := by rcases h with rfl | rfl | rfl <;> decide
theorem hou_s {t : Int} (h : isHou t) : isS t 2 0 := by rcases h with rfl | rfl | rfl | rfl | rfl | rfl | rfl <;> (unfold isS; decide)
theorem hou_0 {t : Int} (h : isHou t) : isS (t + 1) 10 100 := by rcases h with rfl | rfl | rfl | rfl | rfl | rfl | rfl <;> (unfold isS; decide)
theorem hou_f0 {t : Int} (h : isHou t) : FR t 0 = t + 1 := by rcases h with rfl | rfl | rfl | rfl | rfl | rfl | rfl <;> decide
theorem hou_2 {t : Int} (h : isHou t) : isS (t + 2) 10 10 := by rcases h with rfl | rfl | rfl | rfl | rfl | rfl | rfl <;> (unfold isS; decide)
theorem hou_f2 {t : Int} (h : isHou t) : FR t 2 = t + 2 := by rcases h with rfl | rfl | rfl | rfl | rfl | rfl | rfl <;> decide
theorem hou_3 {t : Int} (h : isHou t) : isS (t + 3) 10 10 := by rcases h with rfl | rfl | rfl | rfl | rfl | rfl | rfl <;> (unfold isS; decide)
theorem hou_f3 {t : Int} (h : isHou t) : FR t 3 = t + 3 := by rcases h with rfl | rfl | rfl | rfl | rfl | rfl | rfl <;> decide
theorem row_s {t : Int} {n : Nat} (h : isRow t n) : isS t 5 0 := by rcases h with ⟨h | h, rfl⟩ | ⟨h | h, rfl⟩ | ⟨h | h, rfl⟩ <;> subst h <;> (unfold isS; decide)
theorem row_0 {t : Int} {n : Nat} (h : isRow t n) : isS (t + 1) 10 n := by rcases h with ⟨h | h, rfl⟩ | ⟨h | h, rfl⟩ | ⟨h | h, rfl⟩ <;> subst h <;> (unfold isS; decide)
theorem row_f0 {t : Int} {n : Nat} (h : isRow t n) : FR t 0 = t + 1 := by rcases h with ⟨h | h, rfl⟩ | ⟨h | h, rfl⟩ | ⟨h | h, rfl⟩ <;> subst h <;> decide
theorem row_1 {t : Int} {n : Nat} (h : isRow t n) : isS (t + 2) 10 n := by rcases h with ⟨h | h, rfl⟩ | ⟨h | h, rfl⟩ | ⟨h | h, rfl⟩ <;> subst h <;> (unfold isS; decide)
theorem row_f1 {t : Int} {n : Nat} (h : isRow t n) : FR t 1 = t + 2 := by rcases h with ⟨h | h, rfl⟩ | ⟨h | h, rfl⟩ | ⟨h | h, rfl⟩ <;> subst h <;> decide
theorem row_2 {t : Int} {n : Nat} (h : isRow t n) : isS (t + 3) 10 n := by rcases h with ⟨h | h, rfl⟩ | ⟨h | h, rfl⟩ | ⟨h | h, rfl⟩ <;> subst h <;> (unfold isS; decide)
theorem row_f2 {t : Int} {n : Nat} (h : isRow t n) : FR t 2 = t + 3 := by rcases h with ⟨h | h, rfl⟩ | ⟨h | h, rfl⟩ | ⟨h | h, rfl⟩ <;> subst h <;> decide
theorem eve_s {t : Int} (h : isEve t) : isS t 1 0 := by rcases h with rfl | rfl <;> (unfold isS; decide)
theorem eve_f0 {t : Int} (h : isEve t) : FR t 0 = t + 13 := by rcases h with rfl | rfl <;> decide
theorem eve_f1 {t : Int} (h : isEve t) : FR t 1 = t + 1 := by rcases h with rfl | rfl <;> decide
theorem eve_f2 {t : Int} (h : isEve t) : FR t 2 = t + 5 := by rcases h with rfl | rfl <;> decide
theorem eve_f3 {t : Int} (h : isEve t) : FR t 3 = t + 9 := by rcases h with rfl | rfl <;> decide
theorem eve_t {t : Int} (h : isEve t) : isTab (t + 13) := by rcases h with rfl | rfl <;> (unfold isTab; decide)
theorem eve_r1 {t : Int} (h : isEve t) : isRow (t + 1) 5 := by rcases h with rfl | rfl <;> (unfold isRow; decide)
theorem eve_r2 {t : Int} (h : isEve t) : isRow (t + 5) 10 := by rcases h with rfl | rfl <;> (unfold isRow; decide)
theorem eve_r3 {t : Int} (h : isEve t) : isRow (t + 9) 8 := by rcases h with rfl | rfl <;> (unfold isRow; decide)
theorem tap_s {t : Int} (h : isTap t) : isS t 7 0 := by rcases h with rfl | rfl | rfl | rfl | rfl | rfl <;> (unfold isS; decide)
theorem tap_0 {t : Int} (h : isTap t) : isS (t + 1) 13 60 := by rcases h with rfl | rfl | rfl | rfl | rfl | rfl <;> (unfold isS; decide)
theorem tap_f0 {t : Int} (h : isTap t) : FR t 0 = t + 1 := by rcases h with rfl | rfl | rfl | rfl | rfl | rfl <;> decide
theorem hou_at {i : Int} (h0 : 0 ≤ i) (h1 : i < 6) : isHou (72 + 4 * i) := by unfold isHou; omega
theorem tap_at {i : Int} (h0 : 0 ≤ i) (h1 : i < 6) : isTap (96 + 2 * i) := by unfold isTap; omega
theorem i0 : isS 0 8 0 := by unfold isS; decide
theorem i1 : isS 1 12 100 := by unfold isS; decide
theorem i2 : isS 2 14 6 := by unfold isS; decide
theorem i3 : isS 3 4 0 := by unfold isS; decide
theorem i4 : isS 4 0 0 := by unfold isS; decide
theorem i5 : isS 5 10 20 := by unfold isS; decide
theorem i6 : isS 6 15 6 := by unfold isS; decide
theorem i7 : isS 7 2 0 := by unfold isS; decide
theorem i8 : isS 8 10 100 := by unfold isS; decide
theorem i9 : isS 9 10 10 := by unfold isS; decide
theorem i10 : isS 10 10 10 := by unfold isS; decide
theorem i11 : isS 11 1 0 := by unfold isS; decide
theorem i12 : isS 12 5 0 := by unfold isS; decide
theorem i13 : isS 13 10 5 := by unfold isS; decide
theorem i14 : isS 14 10 5 := by unfold isS; decide
theorem i15 : isS 15 10 5 := by unfold isS; decide
theorem i16 : isS 16 5 0 := by unfold isS; decide
theorem i17 : isS 17 10 10 := by unfold isS; decide
theorem i18 : isS 18 10 10 := by unfold isS; decide
theorem i19 : isS 19 10 10 := by unfold isS; decide
theorem i20 : isS 20 5 0 := by unfold isS; decide
theorem i21 : isS 21 10 8 := by unfold isS; decide
theorem i22 : isS 22 10 8 := by unfold isS; decide
theorem i23 : isS 23 10 8 := by unfold isS; decide
theorem i24 : isS 24 6 0 := by unfold isS; decide
theorem i25 : isS 25 10 6 := by unfold isS; decide
theorem i26 : isS 26 10 6 := by unfold isS; decide
theorem i27 : isS 27 10 6 := by unfold isS; decide
theorem i28 : isS 28 10 6 := by unfold isS; decide
theorem i29 : isS 29 11 6 := by unfold isS; decide
theorem i30 : isS 30 11 6 := by unfold isS; decide
theorem i31 : isS 31 10 24 := by unfold isS; decide
theorem i32 : isS 32 10 6 := by unfold isS; decide
theorem i33 : isS 33 10 36 := by unfold isS; decide
theorem i34 : isS 34 10 6 := by unfold isS; decide
theorem i35 : isS 35 1 0 := by unfold isS; decide
theorem i36 : isS 36 5 0 := by unfold isS; decide
theorem i37 : isS 37 10 5 := by unfold isS; decide
theorem i38 : isS 38 10 5 := by unfold isS; decide
theorem i39 : isS 39 10 5 := by unfold isS; decide
theorem i40 : isS 40 5 0 := by unfold isS; decide
theorem i41 : isS 41 10 10 := by unfold isS; decide
theorem i42 : isS 42 10 10 := by unfold isS; decide
theorem i43 : isS 43 10 10 := by unfold isS; decide
theorem i44 : isS 44 5 0 := by unfold isS; decide
theorem i45 : isS 45 10 8 := by unfold isS; decide
theorem i46 : isS 46 10 8 := by unfold isS; decide
theorem i47 : isS 47 10 8 := by unfold isS; decide
theorem i48 : isS 48 6 0 := by unfold isS; decide
theorem i49 : isS 49 10 6 := by unfold isS; decide
theorem i50 : isS 50 10 6 := by unfold isS; decide
theorem i51 : isS 51 10 6 := by unfold isS; decide
theorem i52 : isS 52 10 6 := by unfold isS; decide
theorem i53 : isS 53 11 6 := by unfold isS; decide
theorem i54 : isS 54 11 6 := by unfold isS; decide
theorem i55 : isS 55 10 24 := by unfold isS; decide
theorem i56 : isS 56 10 6 := by unfold isS; decide
theorem i57 : isS 57 10 36 := by unfold isS; decide
theorem i58 : isS 58 10 6 := by unfold isS; decide
theorem i59 : isS 59 6 0 := by unfold isS; decide
theorem i60 : isS 60 10 6 := by unfold isS; decide
theorem i61 : isS 61 10 6 := by unfold isS; decide
theorem i62 : isS 62 10 6 := by unfold isS; decide
theorem i63 : isS 63 10 6 := by unfold isS; decide
theorem i64 : isS 64 11 6 := by unfold isS; decide
theorem i65 : isS 65 11 6 := by unfold isS; decide
theorem i66 : isS 66 10 24 := by unfold isS; decide
theorem i67 : isS 67 10 6 := by unfold isS; decide
theorem i68 : isS 68 10 36 := by unfold isS; decide
theorem i69 : isS 69 10 6 := by unfold isS; decide
theorem i70 : isS 70 3 0 := by unfold isS; decide
theorem i71 : isS 71 10 6 := by unfold isS; decide
theorem i72 : isS 72 2 0 := by unfold isS; decide
theorem i73 : isS 73 10 100 := by unfold isS; decide
theorem i74 : isS 74 10 10 := by unfold isS; decide
theorem i75 : isS 75 10 10 := by unfold isS; decide
theorem i76 : isS 76 2 0 := by unfold isS; decide
theorem i77 : isS 77 10 100 := by unfold isS; decide
theorem i78 : isS 78 10 10 := by unfold isS; decide
theorem i79 : isS 79 10 10 := by unfold isS; decide
theorem i80 : isS 80 2 0 := by unfold isS; decide
theorem i81 : isS 81 10 100 := by unfold isS; decide
theorem i82 : isS 82 10 10 := by unfold isS; decide
theorem i83 : isS 83 10 10 := by unfold isS; decide
theorem i84 : isS 84 2 0 := by unfold isS; decide
theorem i85 : isS 85 10 100 := by unfold isS; decide
theorem i86 : isS 86 10 10 := by unfold isS; decide
theorem i87 : isS 87 10 10 := by unfold isS; decide
theorem i88 : isS 88 2 0 := by unfold isS; decide
theorem i89 : isS 89 10 100 := by unfold isS; decide
theorem i90 : isS 90 10 10 := by unfold isS; decide
theorem i91 : isS 91 10 10 := by unfold isS; decide
theorem i92 : isS 92 2 0 := by unfold isS; decide
theorem i93 : isS 93 10 100 := by unfold isS; decide
theorem i94 : isS 94 10 10 := by unfold isS; decide
theorem i95 : isS 95 10 10 := by unfold isS; decide
theorem i96 : isS 96 7 0 := by unfold isS; decide
theorem i97 : isS 97 13 60 := by unfold isS; decide
theorem i98 : isS 98 7 0 := by unfold isS; decide
theorem i99 : isS 99 13 60 := by unfold isS; decide
theorem i100 : isS 100 7 0 := by unfold isS; decide
theorem i101 : isS 101 13 60 := by unfold isS; decide
theorem i102 : isS 102 7 0 := by unfold isS; decide
theorem i103 : isS 103 13 60 := by unfold isS; decide
theorem i104 : isS 104 7 0 := by unfold isS; decide
theorem i105 : isS 105 13 60 := by unfold isS; decide
theorem i106 : isS 106 7 0 := by unfold isS; decide
theorem i107 : isS 107 13 60 := by unfold isS; decide
theorem i108 : isS 108 9 0 := by unfold isS; decide
theorem i109 : isS 109 10 6 := by unfold isS; decide
theorem i110 : isS 110 10 6 := by unfold isS; decide
theorem i111 : isS 111 10 6 := by unfold isS; decide
theorem i112 : isS 112 10 6 := by unfold isS; decide
theorem i113 : isS 113 10 24 := by unfold isS; decide
theorem i114 : isS 114 10 100 := by unfold isS; decide
theorem i115 : isS 115 10 6 := by unfold isS; decide
theorem i116 : isS 116 10 60 := by unfold isS; decide
theorem i117 : isS 117 10 60 := by unfold isS; decide
theorem i118 : isS 118 10 60 := by unfold isS; decide
theorem i119 : isS 119 10 60 := by unfold isS; decide
theorem i120 : isS 120 10 600 := by unfold isS; decide
theorem i121 : isS 121 10 101 := by unfold isS; decide
theorem i122 : isS 122 10 20 := by unfold isS; decide
theorem i123 : isS 123 11 100 := by unfold isS; decide
theorem i124 : isS 124 10 36 := by unfold isS; decide
theorem i125 : isS 125 10 6 := by unfold isS; decide
theorem i126 : isS 126 10 6 := by unfold isS; decide
theorem i127 : isS 127 10 6 := by unfold isS; decide
theorem i128 : isS 128 10 5 := by unfold isS; decide
theorem i129 : isS 129 10 5 := by unfold isS; decide
theorem i130 : isS 130 11 5 := by unfold isS; decide
theorem i131 : isS 131 10 6 := by unfold isS; decide
theorem i132 : isS 132 10 10 := by unfold isS; decide
theorem i133 : isS 133 10 10 := by unfold isS; decide
theorem i134 : isS 134 10 8 := by unfold isS; decide
theorem i135 : isS 135 10 8 := by unfold isS; decide
theorem i136 : isS 136 10 6 := by unfold isS; decide
theorem i137 : isS 137 10 6 := by unfold isS; decide
theorem i138 : isS 138 10 6 := by unfold isS; decide
theorem i139 : isS 139 10 6 := by unfold isS; decide
theorem i140 : isS 140 10 24 := by unfold isS; decide
theorem i141 : isS 141 10 5 := by unfold isS; decide
theorem i142 : isS 142 10 5 := by unfold isS; decide
theorem i143 : isS 143 10 10 := by unfold isS; decide
theorem i144 : isS 144 10 10 := by unfold isS; decide
theorem i145 : isS 145 10 8 := by unfold isS; decide
theorem i146 : isS 146 10 8 := by unfold isS; decide
theorem i147 : isS 147 11 5 := by unfold isS; decide
theorem i148 : isS 148 10 20 := by unfold isS; decide
theorem i149 : isS 149 10 6 := by unfold isS; decide
theorem i150 : isS 150 10 6 := by unfold isS; decide
theorem i151 : isS 151 13 360 := by unfold isS; decide
theorem i152 : isS 152 13 60 := by unfold isS; decide
theorem f0_0 : FR 0 0 = 11 := by decide
theorem f0_1 : FR 0 1 = 35 := by decide
theorem f0_3 : FR 0 3 = 59 := by decide
theorem f0_4 : FR 0 4 = 1 := by decide
theorem f0_6 : FR 0 6 = 2 := by decide
theorem f0_8 : FR 0 8 = 3 := by decide
theorem f0_9 : FR 0 9 = 70 := by decide
theorem f0_10 : FR 0 10 = 4 := by decide
theorem f0_11 : FR 0 11 = 6 := by decide
theorem f4_0 : FR 4 0 = 5 := by decide
theorem f7_0 : FR 7 0 = 8 := by decide
theorem f7_2 : FR 7 2 = 9 := by decide
theorem f7_3 : FR 7 3 = 10 := by decide
theorem f11_0 : FR 11 0 = 24 := by decide
theorem f11_1 : FR 11 1 = 12 := by decide
theorem f11_2 : FR 11 2 = 16 := by decide
theorem f11_3 : FR 11 3 = 20 := by decide
theorem f12_0 : FR 12 0 = 13 := by decide
theorem f12_1 : FR 12 1 = 14 := by decide
theorem f12_2 : FR 12 2 = 15 := by decide
theorem f16_0 : FR 16 0 = 17 := by decide
theorem f16_1 : FR 16 1 = 18 := by decide
theorem f16_2 : FR 16 2 = 19 := by decide
theorem f20_0 : FR 20 0 = 21 := by decide
theorem f20_1 : FR 20 1 = 22 := by decide
theorem f20_2 : FR 20 2 = 23 := by decide
theorem f24_0 : FR 24 0 = 25 := by decide
theorem f24_1 : FR 24 1 = 26 := by decide
theorem f24_2 : FR 24 2 = 27 := by decide
theorem f24_3 : FR 24 3 = 28 := by decide
theorem f24_4 : FR 24 4 = 29 := by decide
theorem f24_5 : FR 24 5 = 30 := by decide
theorem f24_6 : FR 24 6 = 31 := by decide
theorem f24_7 : FR 24 7 = 32 := by decide
theorem f24_8 : FR 24 8 = 33 := by decide
theorem f24_9 : FR 24 9 = 34 := by decide
theorem f35_0 : FR 35 0 = 48 := by decide
theorem f35_1 : FR 35 1 = 36 := by decide
theorem f35_2 : FR 35 2 = 40 := by decide
theorem f35_3 : FR 35 3 = 44 := by decide
theorem f36_0 : FR 36 0 = 37 := by decide
theorem f36_1 : FR 36 1 = 38 := by decide
theorem f36_2 : FR 36 2 = 39 := by decide
theorem f40_0 : FR 40 0 = 41 := by decide
theorem f40_1 : FR 40 1 = 42 := by decide
theorem f40_2 : FR 40 2 = 43 := by decide
theorem f44_0 : FR 44 0 = 45 := by decide
theorem f44_1 : FR 44 1 = 46 := by decide
theorem f44_2 : FR 44 2 = 47 := by decide
theorem f48_0 : FR 48 0 = 49 := by decide
theorem f48_1 : FR 48 1 = 50 := by decide
theorem f48_2 : FR 48 2 = 51 := by decide
theorem f48_3 : FR 48 3 = 52 := by decide
theorem f48_4 : FR 48 4 = 53 := by decide
theorem f48_5 : FR 48 5 = 54 := by decide
theorem f48_6 : FR 48 6 = 55 := by decide
theorem f48_7 : FR 48 7 = 56 := by decide
theorem f48_8 : FR 48 8 = 57 := by decide
theorem f48_9 : FR 48 9 = 58 := by decide
theorem f59_0 : FR 59 0 = 60 := by decide
theorem f59_1 : FR 59 1 = 61 := by decide
theorem f59_2 : FR 59 2 = 62 := by decide
theorem f59_3 : FR 59 3 = 63 := by decide
theorem f59_4 : FR 59 4 = 64 := by decide
theorem f59_5 : FR 59 5 = 65 := by decide
theorem f59_6 : FR 59 6 = 66 := by decide
theorem f59_7 : FR 59 7 = 67 := by decide
theorem f59_8 : FR 59 8 = 68 := by decide
theorem f59_9 : FR 59 9 = 69 := by decide
theorem f70_0 : FR 70 0 = 59 := by decide
theorem f70_1 : FR 70 1 = 71 := by decide
theorem f72_0 : FR 72 0 = 73 := by decide
theorem f72_2 : FR 72 2 = 74 := by decide
theorem f72_3 : FR 72 3 = 75 := by decide
theorem f76_0 : FR 76 0 = 77 := by decide
theorem f76_2 : FR 76 2 = 78 := by decide
theorem f76_3 : FR 76 3 = 79 := by decide
theorem f80_0 : FR 80 0 = 81 := by decide
theorem f80_2 : FR 80 2 = 82 := by decide
theorem f80_3 : FR 80 3 = 83 := by decide
theorem f84_0 : FR 84 0 = 85 := by decide
theorem f84_2 : FR 84 2 = 86 := by decide
theorem f84_3 : FR 84 3 = 87 := by decide
theorem f88_0 : FR 88 0 = 89 := by decide
theorem f88_2 : FR 88 2 = 90 := by decide
theorem f88_3 : FR 88 3 = 91 := by decide
theorem f92_0 : FR 92 0 = 93 := by decide
theorem f92_2 : FR 92 2 = 94 := by decide
theorem f92_3 : FR 92 3 = 95 := by decide
theorem f96_0 : FR 96 0 = 97 := by decide
theorem f98_0 : FR 98 0 = 99 := by decide
theorem f100_0 : FR 100 0 = 101 := by decide
theorem f102_0 : FR 102 0 = 103 := by decide
theorem f104_0 : FR 104 0 = 105 := by decide
theorem f106_0 : FR 106 0 = 107 := by decide
theorem f108_5 : FR 108 5 = 109 := by decide
theorem f108_6 : FR 108 6 = 110 := by decide
theorem f108_7 : FR 108 7 = 111 := by decide
theorem f108_8 : FR 108 8 = 112 := by decide
theorem f108_9 : FR 108 9 = 113 := by decide
theorem f108_15 : FR 108 15 = 114 := by decide
theorem f108_16 : FR 108 16 = 115 := by decide
theorem f108_17 : FR 108 17 = 116 := by decide
theorem f108_18 : FR 108 18 = 117 := by decide
theorem f108_19 : FR 108 19 = 118 := by decide
theorem f108_20 : FR 108 20 = 119 := by decide
theorem f108_21 : FR 108 21 = 120 := by decide
theorem f108_22 : FR 108 22 = 121 := by decide
theorem f108_26 : FR 108 26 = 122 := by decide
theorem f108_27 : FR 108 27 = 123 := by decide
theorem f108_28 : FR 108 28 = 124 := by decide
theorem f108_34 : FR 108 34 = 125 := by decide
theorem f108_35 : FR 108 35 = 126 := by decide
theorem f108_36 : FR 108 36 = 127 := by decide
theorem f108_40 : FR 108 40 = 128 := by decide
theorem f108_41 : FR 108 41 = 129 := by decide
theorem f108_42 : FR 108 42 = 130 := by decide
theorem f108_43 : FR 108 43 = 131 := by decide
theorem f108_46 : FR 108 46 = 132 := by decide
theorem f108_47 : FR 108 47 = 133 := by decide
theorem f108_48 : FR 108 48 = 134 := by decide
theorem f108_49 : FR 108 49 = 135 := by decide
theorem f108_60 : FR 108 60 = 136 := by decide
theorem f108_61 : FR 108 61 = 137 := by decide
theorem f108_62 : FR 108 62 = 138 := by decide
theorem f108_63 : FR 108 63 = 139 := by decide
theorem f108_64 : FR 108 64 = 140 := by decide
theorem f108_65 : FR 108 65 = 141 := by decide
theorem f108_66 : FR 108 66 = 142 := by decide
theorem f108_67 : FR 108 67 = 143 := by decide
theorem f108_68 : FR 108 68 = 144 := by decide
theorem f108_69 : FR 108 69 = 145 := by decide
theorem f108_70 : FR 108 70 = 146 := by decide
theorem f108_71 : FR 108 71 = 147 := by decide
theorem f108_73 : FR 108 73 = 148 := by decide
theorem f108_74 : FR 108 74 = 149 := by decide
theorem f108_75 : FR 108 75 = 150 := by decide
theorem f108_76 : FR 108 76 = 151 := by decide
theorem f108_77 : FR 108 77 = 152 := by decide
theorem f2 {i : Int} (h0 : 0 ≤ i) (h1 : i < 6) : FR 2 i = 72 + 4 * i := by simp only [FR, i2.2.2]; rw [if_pos ⟨h0, h1⟩]
theorem f6 {i : Int} (h0 : 0 ≤ i) (h1 : i < 6) : FR 6 i = 96 + 2 * i := by simp only [FR, i6.2.2]; rw [if_pos ⟨h0, h1⟩]
theorem Q_getfi {K : SK} {d : Nat} {y : mth} {kc ks pc pc' : Nat} {L st : List av} {c : ct} {Q : hp → av → Prop} {x J : Int} {idx ci j len : Nat} (hJ : (j : Int) = J) (hd : decode y.2.1 pc = .ok (.getfield idx, 3)) (hw : kF y.1.cls idx ci j) (hc : isS x ci len) (h10 : ci < 10) (hj : j < nflds ci) (ht : isRefT (fldT ci j) = false) (hn : pc + 3 = pc') (k : WP K d y kc ks pc' L ((0, c x J) :: st) (wG (c)) Q) : WP K d y kc ks pc L ((2, x) :: st) (wG (c)) Q := by
  subst hJ
  refine R_getfi hd hw (hc.C c) h10 hj ht hn ?_
  rw [show (wG c).2.2 x j = c x j from mrg_n hc (by simp [finR, h10, ht]) c]
  exact k
theorem Q_getfr {K : SK} {d : Nat} {y : mth} {kc ks pc pc' : Nat} {L st : List av} {c : ct} {Q : hp → av → Prop} {x v J : Int} {idx ci j len : Nat} (hJ : (j : Int) = J) (hd : decode y.2.1 pc = .ok (.getfield idx, 3)) (hw : kF y.1.cls idx ci j) (hc : isS x ci len) (h10 : ci < 10) (hj : j < nflds ci) (ht : isRefT (fldT ci j) = true) (hf : (fldN ci j).2.2.2 = true) (hv : FR x J = v) (hn : pc + 3 = pc') (k : WP K d y kc ks pc' L ((2, v) :: st) (wG (c)) Q) : WP K d y kc ks pc L ((2, x) :: st) (wG (c)) Q := by
  subst hJ
  refine R_getfr hd hw (hc.C c) h10 hj ht hn ?_
  rw [show (wG c).2.2 x j = v from (mrg_f hc (by simp [finR, h10, ht, hf]) c).trans hv]
  exact k
theorem Q_getfq {K : SK} {d : Nat} {y : mth} {kc ks pc pc' : Nat} {L st : List av} {c : ct} {Q : hp → av → Prop} {x J : Int} {idx ci j len : Nat} (hJ : (j : Int) = J) (hd : decode y.2.1 pc = .ok (.getfield idx, 3)) (hw : kF y.1.cls idx ci j) (hc : isS x ci len) (h10 : ci < 10) (hj : j < nflds ci) (ht : isRefT (fldT ci j) = true) (hf : (fldN ci j).2.2.2 = false) (hn : pc + 3 = pc') (k : WP K d y kc ks pc' L ((2, c x J) :: st) (wG (c)) Q) : WP K d y kc ks pc L ((2, x) :: st) (wG (c)) Q := by
  subst hJ
  refine R_getfr hd hw (hc.C c) h10 hj ht hn ?_
  rw [show (wG c).2.2 x j = c x j from mrg_n hc (by simp [finR, h10, hf]) c]
  exact k
theorem Q_putfi {K : SK} {d : Nat} {y : mth} {kc ks pc pc' : Nat} {L st : List av} {c : ct} {Q : hp → av → Prop} {x v J : Int} {idx ci j len : Nat} (hJ : (j : Int) = J) (hd : decode y.2.1 pc = .ok (.putfield idx, 3)) (hw : kF y.1.cls idx ci j) (hc : isS x ci len) (h10 : ci < 10) (hj : j < nflds ci) (hf : (fldN ci j).2.2.2 = false) (ht : fldT ci j = .int) (hn : pc + 3 = pc') (k : ∀ c1, c1 = up2 c x J v → WP K d y kc ks pc' L (st) (wG (c1)) Q) : WP K d y kc ks pc L ((0, v) :: (2, x) :: st) (wG (c)) Q := by
  subst hJ
  refine R_putfi hd hw (hc.C c) h10 hj hf ht hn ?_
  rw [show hup (wG c) x j v = wG (up2 c x j v) from congrArg (fun z => ((153, SH, z) : hp)) (mrg_up hc (by simp [finR, h10, hf]) c)]
  exact k _ rfl
theorem Q_putfz {K : SK} {d : Nat} {y : mth} {kc ks pc pc' : Nat} {L st : List av} {c : ct} {Q : hp → av → Prop} {x v J : Int} {idx ci j len : Nat} (hJ : (j : Int) = J) (hd : decode y.2.1 pc = .ok (.putfield idx, 3)) (hw : kF y.1.cls idx ci j) (hc : isS x ci len) (h10 : ci < 10) (hj : j < nflds ci) (hf : (fldN ci j).2.2.2 = false) (ht : fldT ci j = .boolean) (hz : v = 0 ∨ v = 1) (hn : pc + 3 = pc') (k : ∀ c1, c1 = up2 c x J v → WP K d y kc ks pc' L (st) (wG (c1)) Q) : WP K d y kc ks pc L ((0, v) :: (2, x) :: st) (wG (c)) Q := by
  subst hJ
  refine R_putfz hd hw (hc.C c) h10 hj hf ht hz hn ?_
  rw [show hup (wG c) x j v = wG (up2 c x j v) from congrArg (fun z => ((153, SH, z) : hp)) (mrg_up hc (by simp [finR, h10, hf]) c)]
  exact k _ rfl
theorem Q_putfr {K : SK} {d : Nat} {y : mth} {kc ks pc pc' : Nat} {L st : List av} {c : ct} {Q : hp → av → Prop} {x v J : Int} {idx ci j len : Nat} (hJ : (j : Int) = J) (hd : decode y.2.1 pc = .ok (.putfield idx, 3)) (hw : kF y.1.cls idx ci j) (hc : isS x ci len) (h10 : ci < 10) (hj : j < nflds ci) (hf : (fldN ci j).2.2.2 = false) (ht : isRefT (fldT ci j) = true) (hv0 : v < 153) (hn : pc + 3 = pc') (k : ∀ c1, c1 = up2 c x J v → WP K d y kc ks pc' L (st) (wG (c1)) Q) : WP K d y kc ks pc L ((2, v) :: (2, x) :: st) (wG (c)) Q := by
  subst hJ
  refine R_putfr hd hw (hc.C c) h10 hj hf ht hv0 hn ?_
  rw [show hup (wG c) x j v = wG (up2 c x j v) from congrArg (fun z => ((153, SH, z) : hp)) (mrg_up hc (by simp [finR, h10, hf]) c)]
  exact k _ rfl
theorem Q_getfNi {K : SK} {d : Nat} {y : mth} {kc ks pc pc' : Nat} {L st : List av} {c : ct} {Q : hp → av → Prop} {x J : Int} {idx ci j len : Nat} (hJ : (j : Int) = J) (hd : decode y.2.1 pc = .ok (.getfield idx, 3)) (hw : kFN y.1.cls idx ci j) (hc : isS x ci len) (h10 : ci < 10) (hj : j < nflds ci) (ht : isRefT (fldT ci j) = false) (hn : pc + 3 = pc') (k : WP K d y kc ks pc' L ((0, c x J) :: st) (wG (c)) Q) : WP K d y kc ks pc L ((2, x) :: st) (wG (c)) Q := by
  subst hJ
  refine R_getfNi hd hw (hc.C c) h10 hj ht hn ?_
  rw [show (wG c).2.2 x j = c x j from mrg_n hc (by simp [finR, h10, ht]) c]
  exact k
theorem Q_getfNr {K : SK} {d : Nat} {y : mth} {kc ks pc pc' : Nat} {L st : List av} {c : ct} {Q : hp → av → Prop} {x v J : Int} {idx ci j len : Nat} (hJ : (j : Int) = J) (hd : decode y.2.1 pc = .ok (.getfield idx, 3)) (hw : kFN y.1.cls idx ci j) (hc : isS x ci len) (h10 : ci < 10) (hj : j < nflds ci) (ht : isRefT (fldT ci j) = true) (hf : (fldN ci j).2.2.2 = true) (hv : FR x J = v) (hn : pc + 3 = pc') (k : WP K d y kc ks pc' L ((2, v) :: st) (wG (c)) Q) : WP K d y kc ks pc L ((2, x) :: st) (wG (c)) Q := by
  subst hJ
  refine R_getfNr hd hw (hc.C c) h10 hj ht hn ?_
  rw [show (wG c).2.2 x j = v from (mrg_f hc (by simp [finR, h10, ht, hf]) c).trans hv]
  exact k
theorem Q_getfNq {K : SK} {d : Nat} {y : mth} {kc ks pc pc' : Nat} {L st : List av} {c : ct} {Q : hp → av → Prop} {x J : Int} {idx ci j len : Nat} (hJ : (j : Int) = J) (hd : decode y.2.1 pc = .ok (.getfield idx, 3)) (hw : kFN y.1.cls idx ci j) (hc : isS x ci len) (h10 : ci < 10) (hj : j < nflds ci) (ht : isRefT (fldT ci j) = true) (hf : (fldN ci j).2.2.2 = false) (hn : pc + 3 = pc') (k : WP K d y kc ks pc' L ((2, c x J) :: st) (wG (c)) Q) : WP K d y kc ks pc L ((2, x) :: st) (wG (c)) Q := by
  subst hJ
  refine R_getfNr hd hw (hc.C c) h10 hj ht hn ?_
  rw [show (wG c).2.2 x j = c x j from mrg_n hc (by simp [finR, h10, hf]) c]
  exact k
theorem Q_putfNi {K : SK} {d : Nat} {y : mth} {kc ks pc pc' : Nat} {L st : List av} {c : ct} {Q : hp → av → Prop} {x v J : Int} {idx ci j len : Nat} (hJ : (j : Int) = J) (hd : decode y.2.1 pc = .ok (.putfield idx, 3)) (hw : kFN y.1.cls idx ci j) (hc : isS x ci len) (h10 : ci < 10) (hj : j < nflds ci) (hf : (fldN ci j).2.2.2 = false) (ht : fldT ci j = .int) (hn : pc + 3 = pc') (k : ∀ c1, c1 = up2 c x J v → WP K d y kc ks pc' L (st) (wG (c1)) Q) : WP K d y kc ks pc L ((0, v) :: (2, x) :: st) (wG (c)) Q := by
  subst hJ
  refine R_putfNi hd hw (hc.C c) h10 hj hf ht hn ?_
  rw [show hup (wG c) x j v = wG (up2 c x j v) from congrArg (fun z => ((153, SH, z) : hp)) (mrg_up hc (by simp [finR, h10, hf]) c)]
  exact k _ rfl
theorem Q_putfNz {K : SK} {d : Nat} {y : mth} {kc ks pc pc' : Nat} {L st : List av} {c : ct} {Q : hp → av → Prop} {x v J : Int} {idx ci j len : Nat} (hJ : (j : Int) = J) (hd : decode y.2.1 pc = .ok (.putfield idx, 3)) (hw : kFN y.1.cls idx ci j) (hc : isS x ci len) (h10 : ci < 10) (hj : j < nflds ci) (hf : (fldN ci j).2.2.2 = false) (ht : fldT ci j = .boolean) (hz : v = 0 ∨ v = 1) (hn : pc + 3 = pc') (k : ∀ c1, c1 = up2 c x J v → WP K d y kc ks pc' L (st) (wG (c1)) Q) : WP K d y kc ks pc L ((0, v) :: (2, x) :: st) (wG (c)) Q := by
  subst hJ
  refine R_putfNz hd hw (hc.C c) h10 hj hf ht hz hn ?_
  rw [show hup (wG c) x j v = wG (up2 c x j v) from congrArg (fun z => ((153, SH, z) : hp)) (mrg_up hc (by simp [finR, h10, hf]) c)]
  exact k _ rfl
theorem Q_putfNr {K : SK} {d : Nat} {y : mth} {kc ks pc pc' : Nat} {L st : List av} {c : ct} {Q : hp → av → Prop} {x v J : Int} {idx ci j len : Nat} (hJ : (j : Int) = J) (hd : decode y.2.1 pc = .ok (.putfield idx, 3)) (hw : kFN y.1.cls idx ci j) (hc : isS x ci len) (h10 : ci < 10) (hj : j < nflds ci) (hf : (fldN ci j).2.2.2 = false) (ht : isRefT (fldT ci j) = true) (hv0 : v < 153) (hn : pc + 3 = pc') (k : ∀ c1, c1 = up2 c x J v → WP K d y kc ks pc' L (st) (wG (c1)) Q) : WP K d y kc ks pc L ((2, v) :: (2, x) :: st) (wG (c)) Q := by
  subst hJ
  refine R_putfNr hd hw (hc.C c) h10 hj hf ht hv0 hn ?_
  rw [show hup (wG c) x j v = wG (up2 c x j v) from congrArg (fun z => ((153, SH, z) : hp)) (mrg_up hc (by simp [finR, h10, hf]) c)]
  exact k _ rfl
theorem Q_iaload {K : SK} {d : Nat} {y : mth} {kc ks pc pc' : Nat} {L st : List av} {c : ct} {Q : hp → av → Prop} {x i N : Int} {len : Nat} (hN : (len : Int) = N) (hd : decode y.2.1 pc = .ok (.iaload, 1)) (hc : isS x 10 len) (h31 : len ≤ 2147483648) (h01 : 0 ≤ i ∧ i < N) (hn : pc + 1 = pc') (k : WP K d y kc ks pc' L ((0, c x i) :: st) (wG (c)) Q) : WP K d y kc ks pc L ((0, i) :: (2, x) :: st) (wG (c)) Q := by
  subst hN
  refine R_iaload hd (hc.C c) h31 h01.1 h01.2 hn ?_
  rw [show (wG c).2.2 x i = c x i from mrg_n hc (fin_arr (by omega) _) c]
  exact k
theorem Q_zaload {K : SK} {d : Nat} {y : mth} {kc ks pc pc' : Nat} {L st : List av} {c : ct} {Q : hp → av → Prop} {x i N : Int} {len : Nat} (hN : (len : Int) = N) (hd : decode y.2.1 pc = .ok (.baload, 1)) (hc : isS x 11 len) (h31 : len ≤ 2147483648) (h01 : 0 ≤ i ∧ i < N) (hn : pc + 1 = pc') (k : WP K d y kc ks pc' L ((0, c x i) :: st) (wG (c)) Q) : WP K d y kc ks pc L ((0, i) :: (2, x) :: st) (wG (c)) Q := by
  subst hN
  refine R_zaload hd (hc.C c) h31 h01.1 h01.2 hn ?_
  rw [show (wG c).2.2 x i = c x i from mrg_n hc (fin_arr (by omega) _) c]
  exact k
theorem Q_baload {K : SK} {d : Nat} {y : mth} {kc ks pc pc' : Nat} {L st : List av} {c : ct} {Q : hp → av → Prop} {x i N : Int} {len : Nat} (hN : (len : Int) = N) (hd : decode y.2.1 pc = .ok (.baload, 1)) (hc : isS x 12 len) (h31 : len ≤ 2147483648) (h01 : 0 ≤ i ∧ i < N) (hn : pc + 1 = pc') (k : WP K d y kc ks pc' L ((0, c x i) :: st) (wG (c)) Q) : WP K d y kc ks pc L ((0, i) :: (2, x) :: st) (wG (c)) Q := by
  subst hN
  refine R_baload hd (hc.C c) h31 h01.1 h01.2 hn ?_
  rw [show (wG c).2.2 x i = c x i from mrg_n hc (fin_arr (by omega) _) c]
  exact k
theorem Q_laload {K : SK} {d : Nat} {y : mth} {kc ks pc pc' : Nat} {L st : List av} {c : ct} {Q : hp → av → Prop} {x i N : Int} {len : Nat} (hN : (len : Int) = N) (hd : decode y.2.1 pc = .ok (.laload, 1)) (hc : isS x 13 len) (h31 : len ≤ 2147483648) (h01 : 0 ≤ i ∧ i < N) (hn : pc + 1 = pc') (k : WP K d y kc ks pc' L ((1, c x i) :: st) (wG (c)) Q) : WP K d y kc ks pc L ((0, i) :: (2, x) :: st) (wG (c)) Q := by
  subst hN
  refine R_laload hd (hc.C c) h31 h01.1 h01.2 hn ?_
  rw [show (wG c).2.2 x i = c x i from mrg_n hc (fin_arr (by omega) _) c]
  exact k
theorem Q_aaload14 {K : SK} {d : Nat} {y : mth} {kc ks pc pc' : Nat} {L st : List av} {c : ct} {Q : hp → av → Prop} {x i v N : Int} {len : Nat} (hN : (len : Int) = N) (hd : decode y.2.1 pc = .ok (.aaload, 1)) (hc : isS x 14 len) (h31 : len ≤ 2147483648) (h01 : 0 ≤ i ∧ i < N) (hv : FR x i = v) (hn : pc + 1 = pc') (k : WP K d y kc ks pc' L ((2, v) :: st) (wG (c)) Q) : WP K d y kc ks pc L ((0, i) :: (2, x) :: st) (wG (c)) Q := by
  subst hN
  refine R_aaload14 hd (hc.C c) h31 h01.1 h01.2 hn ?_
  rw [show (wG c).2.2 x i = v from (mrg_f hc (by simp [finR]) c).trans hv]
  exact k
theorem Q_aaload15 {K : SK} {d : Nat} {y : mth} {kc ks pc pc' : Nat} {L st : List av} {c : ct} {Q : hp → av → Prop} {x i v N : Int} {len : Nat} (hN : (len : Int) = N) (hd : decode y.2.1 pc = .ok (.aaload, 1)) (hc : isS x 15 len) (h31 : len ≤ 2147483648) (h01 : 0 ≤ i ∧ i < N) (hv : FR x i = v) (hn : pc + 1 = pc') (k : WP K d y kc ks pc' L ((2, v) :: st) (wG (c)) Q) : WP K d y kc ks pc L ((0, i) :: (2, x) :: st) (wG (c)) Q := by
  subst hN
  refine R_aaload15 hd (hc.C c) h31 h01.1 h01.2 hn ?_
  rw [show (wG c).2.2 x i = v from (mrg_f hc (by simp [finR]) c).trans hv]
  exact k
theorem Q_iastore {K : SK} {d : Nat} {y : mth} {kc ks pc pc' : Nat} {L st : List av} {c : ct} {Q : hp → av → Prop} {x i v N : Int} {len : Nat} (hN : (len : Int) = N) (hd : decode y.2.1 pc = .ok (.iastore, 1)) (hc : isS x 10 len) (h31 : len ≤ 2147483648) (h01 : 0 ≤ i ∧ i < N) (hn : pc + 1 = pc') (k : ∀ c1, c1 = up2 c x i v → WP K d y kc ks pc' L (st) (wG (c1)) Q) : WP K d y kc ks pc L ((0, v) :: (0, i) :: (2, x) :: st) (wG (c)) Q := by
  subst hN
  refine R_iastore hd (hc.C c) h31 h01.1 h01.2 hn ?_
  rw [show hup (wG c) x i v = wG (up2 c x i v) from congrArg (fun z => ((153, SH, z) : hp)) (mrg_up hc (fin_arr (by omega) _) c)]
  exact k _ rfl
theorem Q_zastore {K : SK} {d : Nat} {y : mth} {kc ks pc pc' : Nat} {L st : List av} {c : ct} {Q : hp → av → Prop} {x i v N : Int} {len : Nat} (hN : (len : Int) = N) (hd : decode y.2.1 pc = .ok (.bastore, 1)) (hc : isS x 11 len) (h31 : len ≤ 2147483648) (h01 : 0 ≤ i ∧ i < N) (hz : v = 0 ∨ v = 1) (hn : pc + 1 = pc') (k : ∀ c1, c1 = up2 c x i v → WP K d y kc ks pc' L (st) (wG (c1)) Q) : WP K d y kc ks pc L ((0, v) :: (0, i) :: (2, x) :: st) (wG (c)) Q := by
  subst hN
  refine R_zastore hd (hc.C c) h31 h01.1 h01.2 hz hn ?_
  rw [show hup (wG c) x i v = wG (up2 c x i v) from congrArg (fun z => ((153, SH, z) : hp)) (mrg_up hc (fin_arr (by omega) _) c)]
  exact k _ rfl
theorem Q_bastore {K : SK} {d : Nat} {y : mth} {kc ks pc pc' : Nat} {L st : List av} {c : ct} {Q : hp → av → Prop} {x i v N : Int} {len : Nat} (hN : (len : Int) = N) (hd : decode y.2.1 pc = .ok (.bastore, 1)) (hc : isS x 12 len) (h31 : len ≤ 2147483648) (h01 : 0 ≤ i ∧ i < N) (hz : -128 ≤ v ∧ v ≤ 127) (hn : pc + 1 = pc') (k : ∀ c1, c1 = up2 c x i v → WP K d y kc ks pc' L (st) (wG (c1)) Q) : WP K d y kc ks pc L ((0, v) :: (0, i) :: (2, x) :: st) (wG (c)) Q := by
  subst hN
  refine R_bastore hd (hc.C c) h31 h01.1 h01.2 hz hn ?_
  rw [show hup (wG c) x i v = wG (up2 c x i v) from congrArg (fun z => ((153, SH, z) : hp)) (mrg_up hc (fin_arr (by omega) _) c)]
  exact k _ rfl
theorem Q_lastore {K : SK} {d : Nat} {y : mth} {kc ks pc pc' : Nat} {L st : List av} {c : ct} {Q : hp → av → Prop} {x i v N : Int} {len : Nat} (hN : (len : Int) = N) (hd : decode y.2.1 pc = .ok (.lastore, 1)) (hc : isS x 13 len) (h31 : len ≤ 2147483648) (h01 : 0 ≤ i ∧ i < N) (hn : pc + 1 = pc') (k : ∀ c1, c1 = up2 c x i v → WP K d y kc ks pc' L (st) (wG (c1)) Q) : WP K d y kc ks pc L ((1, v) :: (0, i) :: (2, x) :: st) (wG (c)) Q := by
  subst hN
  refine R_lastore hd (hc.C c) h31 h01.1 h01.2 hn ?_
  rw [show hup (wG c) x i v = wG (up2 c x i v) from congrArg (fun z => ((153, SH, z) : hp)) (mrg_up hc (fin_arr (by omega) _) c)]
  exact k _ rfl
theorem Q_cpyi {K : SK} {d : Nat} {y : mth} {kc ks pc pc' : Nat} {L st : List av} {c : ct} {Q : hp → av → Prop} {x0 x1 sp dp n : Int} {len0 len1 idx : Nat} (hd : decode y.2.1 pc = .ok (.invokestatic idx, 3)) (hk : kCp y.1.cls idx) (hd1 : 1 ≤ d) (hst : (st.map avc).sum ≤ 8) (hc0 : isS x0 10 len0) (hc1 : isS x1 10 len1) (hl0 : len0 ≤ 65536) (hl1 : len1 ≤ 65536) (hb : (0 ≤ sp ∧ 0 ≤ dp ∧ 0 ≤ n) ∧ sp + n ≤ len0 ∧ dp + n ≤ len1) (hn : pc + 3 = pc') (k : ∀ c1, c1 = upRow c x1 (cpyI (c x0) (c x1) sp dp n) → WP K d y kc ks pc' L (st) (wG (c1)) Q) : WP K d y kc ks pc L ((0, n) :: (0, dp) :: (2, x1) :: (0, sp) :: (2, x0) :: st) (wG (c)) Q := by
  refine R_cpyi hd hk hd1 hst (hc0.C c) (hc1.C c) hl0 hl1 hb.1.1 hb.1.2.1 hb.1.2.2 hb.2.1 hb.2.2 hn ?_
  have e0 : ∀ j, mrg c x0 j = c x0 j := fun j => mrg_n hc0 (fin_arr (by omega) _) c
  have e1 : ∀ j, mrg c x1 j = c x1 j := fun j => mrg_n hc1 (fin_arr (by omega) _) c
  rw [show hrow (wG c) x1 (cpyI ((wG c).2.2 x0) ((wG c).2.2 x1) sp dp n) = wG (upRow c x1 (cpyI (c x0) (c x1) sp dp n)) from congrArg (fun z => ((153, SH, z) : hp)) (mrg_row hc1 (fun j => fin_arr (by omega) j) _ _ (fun j => by simp only [cpyI, e0, e1]) c)]
  exact k _ rfl
theorem Q_cpyz {K : SK} {d : Nat} {y : mth} {kc ks pc pc' : Nat} {L st : List av} {c : ct} {Q : hp → av → Prop} {x0 x1 sp dp n : Int} {len0 len1 idx : Nat} (hd : decode y.2.1 pc = .ok (.invokestatic idx, 3)) (hk : kCp y.1.cls idx) (hd1 : 1 ≤ d) (hst : (st.map avc).sum ≤ 8) (hc0 : isS x0 11 len0) (hc1 : isS x1 11 len1) (hl0 : len0 ≤ 65536) (hl1 : len1 ≤ 65536) (hb : (0 ≤ sp ∧ 0 ≤ dp ∧ 0 ≤ n) ∧ sp + n ≤ len0 ∧ dp + n ≤ len1) (hz : ∀ j : Int, 0 ≤ j → j < len0 → c x0 j = 0 ∨ c x0 j = 1) (hn : pc + 3 = pc') (k : ∀ c1, c1 = upRow c x1 (cpyI (c x0) (c x1) sp dp n) → WP K d y kc ks pc' L (st) (wG (c1)) Q) : WP K d y kc ks pc L ((0, n) :: (0, dp) :: (2, x1) :: (0, sp) :: (2, x0) :: st) (wG (c)) Q := by
  refine R_cpyz hd hk hd1 hst (hc0.C c) (hc1.C c) hl0 hl1 hb.1.1 hb.1.2.1 hb.1.2.2 hb.2.1 hb.2.2 (fun j h0 h1 => by rw [show (wG c).2.2 x0 j = c x0 j from mrg_n hc0 (fin_arr (by omega) _) c]; exact hz j h0 h1) hn ?_
  have e0 : ∀ j, mrg c x0 j = c x0 j := fun j => mrg_n hc0 (fin_arr (by omega) _) c
  have e1 : ∀ j, mrg c x1 j = c x1 j := fun j => mrg_n hc1 (fin_arr (by omega) _) c
  rw [show hrow (wG c) x1 (cpyI ((wG c).2.2 x0) ((wG c).2.2 x1) sp dp n) = wG (upRow c x1 (cpyI (c x0) (c x1) sp dp n)) from congrArg (fun z => ((153, SH, z) : hp)) (mrg_row hc1 (fun j => fin_arr (by omega) j) _ _ (fun j => by simp only [cpyI, e0, e1]) c)]
  exact k _ rfl
theorem Q_cpyl {K : SK} {d : Nat} {y : mth} {kc ks pc pc' : Nat} {L st : List av} {c : ct} {Q : hp → av → Prop} {x0 x1 sp dp n : Int} {len0 len1 idx : Nat} (hd : decode y.2.1 pc = .ok (.invokestatic idx, 3)) (hk : kCp y.1.cls idx) (hd1 : 1 ≤ d) (hst : (st.map avc).sum ≤ 8) (hc0 : isS x0 13 len0) (hc1 : isS x1 13 len1) (hl0 : len0 ≤ 65536) (hl1 : len1 ≤ 65536) (hb : (0 ≤ sp ∧ 0 ≤ dp ∧ 0 ≤ n) ∧ sp + n ≤ len0 ∧ dp + n ≤ len1) (hn : pc + 3 = pc') (k : ∀ c1, c1 = upRow c x1 (cpyI (c x0) (c x1) sp dp n) → WP K d y kc ks pc' L (st) (wG (c1)) Q) : WP K d y kc ks pc L ((0, n) :: (0, dp) :: (2, x1) :: (0, sp) :: (2, x0) :: st) (wG (c)) Q := by
  refine R_cpyl hd hk hd1 hst (hc0.C c) (hc1.C c) hl0 hl1 hb.1.1 hb.1.2.1 hb.1.2.2 hb.2.1 hb.2.2 hn ?_
  have e0 : ∀ j, mrg c x0 j = c x0 j := fun j => mrg_n hc0 (fin_arr (by omega) _) c
  have e1 : ∀ j, mrg c x1 j = c x1 j := fun j => mrg_n hc1 (fin_arr (by omega) _) c
  rw [show hrow (wG c) x1 (cpyI ((wG c).2.2 x0) ((wG c).2.2 x1) sp dp n) = wG (upRow c x1 (cpyI (c x0) (c x1) sp dp n)) from congrArg (fun z => ((153, SH, z) : hp)) (mrg_row hc1 (fun j => fin_arr (by omega) j) _ _ (fun j => by simp only [cpyI, e0, e1]) c)]
  exact k _ rfl
theorem Q_iret {K : SK} {d : Nat} {y : mth} {pc : Nat} {L : List av} {c : ct} {Q : ct → Int → Prop} {a : Int} (hd : decode y.2.1 pc = .ok (.ireturn, 1)) (hr0 : y.2.2.2.1 = some .int) (k : Q c a) : WP K d y 0 0 pc L [(0, a)] (wG c) (eI Q) := R_iret hd hr0 (Nat.zero_le _) (Nat.zero_le _) ⟨c, rfl, a, rfl, k⟩
theorem Q_zret {K : SK} {d : Nat} {y : mth} {pc : Nat} {L : List av} {c : ct} {Q : ct → Int → Prop} {a : Int} (hd : decode y.2.1 pc = .ok (.ireturn, 1)) (hr0 : y.2.2.2.1 = some .boolean) (hz : a = 0 ∨ a = 1) (k : Q c a) : WP K d y 0 0 pc L [(0, a)] (wG c) (eI Q) := R_zret hd hr0 (nar_bool hz).1 (Nat.zero_le _) (Nat.zero_le _) ⟨c, rfl, a, rfl, k⟩
theorem Q_nret {K : SK} {d : Nat} {y : mth} {pc : Nat} {L : List av} {c : ct} {Q : ct → Int → Prop} {a : Int} {ty : FieldType} (hd : decode y.2.1 pc = .ok (.ireturn, 1)) (hr0 : y.2.2.2.1 = some ty) (hz : narrow ty (.int (Int32.ofInt a)) = .int (Int32.ofInt a)) (k : Q c a) : WP K d y 0 0 pc L [(0, a)] (wG c) (eI Q) := R_zret hd hr0 hz (Nat.zero_le _) (Nat.zero_le _) ⟨c, rfl, a, rfl, k⟩
theorem Q_lret {K : SK} {d : Nat} {y : mth} {pc : Nat} {L : List av} {c : ct} {Q : ct → Int → Prop} {a : Int} (hd : decode y.2.1 pc = .ok (.lreturn, 1)) (hr0 : y.2.2.2.1 = some .long) (k : Q c a) : WP K d y 0 0 pc L [(1, a)] (wG c) (eL2 Q) := R_lret hd hr0 (Nat.zero_le _) (Nat.zero_le _) ⟨c, rfl, a, rfl, k⟩
theorem Q_ret {K : SK} {d : Nat} {y : mth} {pc : Nat} {L : List av} {c : ct} {Q : ct → Prop} (hd : decode y.2.1 pc = .ok (.return_, 1)) (hr0 : y.2.2.2.1 = none) (k : Q c) : WP K d y 0 0 pc L [] (wG c) (eV Q) := R_ret hd hr0 (Nat.zero_le _) (Nat.zero_le _) ⟨c, rfl, rfl, k⟩
theorem Q_aret {K : SK} {d : Nat} {y : mth} {pc : Nat} {L : List av} {c : ct} {Q : ct → Int → Prop} {a : Int} {nm : String} (hd : decode y.2.1 pc = .ok (.areturn, 1)) (hr0 : y.2.2.2.1 = some (.object nm)) (k : Q c a) : WP K d y 0 0 pc L [(3, a)] (wG c) (eA Q) := R_aret3 hd hr0 (Nat.zero_le _) (Nat.zero_le _) ⟨c, rfl, a, rfl, k⟩
theorem Q_roload {K : SK} {d : Nat} {y : mth} {kc ks pc pc' : Nat} {L st : List av} {c : ct} {Q : hp → av → Prop} {i : Nat} {j N : Int} (hN : (roLen K i : Int) = N) (hd : decode y.2.1 pc = .ok (.iaload, 1)) (h6 : i < 6) (h01 : 0 ≤ j ∧ j < N) (hn : pc + 1 = pc') (k : WP K d y kc ks pc' L ((0, roC K i j.toNat) :: st) (wG c) Q) : WP K d y kc ks pc L ((0, j) :: (3, (i : Int)) :: st) (wG c) Q := by
  subst hN
  exact R_roload hd h6 h01.1 h01.2 hn k
theorem lg_sum {ad ros : Nat → Nat} {fm : Value} (hf : fm = .null ∨ ∃ a, fm = .ref a) : ∀ vs : List av, (lg_sl (vs.map (cv ad ros fm))).length = (vs.map avc).sum
  | [] => rfl
  | v :: vs => by
    have ih := lg_sum (ad := ad) (ros := ros) hf vs
    have e1 := cv_cat ad ros hf v
    simp only [lg_sl, List.map_cons, List.flatMap_cons, List.length_append, List.sum_cons, e1] at ih ⊢
    rw [ih, avc]
    split <;> rfl
theorem CM_ofS {K : SK} {d : Nat} {y : mth} {vs : List av} {G : hp} {Q : hp → av → Prop} (hpl : plainName y.1.cls = true) (hsz : (vs.map avc).sum ≤ y.2.2.1) (L : List av) (hL : L0 vs y.2.2.1 = L) (h : WP K d y 0 0 0 L [] G Q) : CM K d y vs G Q :=
  CM_of hpl (by rw [lg_sum (Or.inl rfl)]; exact hsz) L hL h
theorem Q_callVI {K : SK} {d : Nat} {y : mth} {kc ks pc pc' : Nat} {L st : List av} {c : ct} {Q : hp → av → Prop} {y' : mth} {vs : List av} {idx n : Nat} {x : Int} {ci len : Nat} (hd : decode y.2.1 pc = .ok (.invokevirtual idx, 3)) (hk : kV y.1.cls idx y' n) (hc : isS x ci len) (h10 : ci < 10) (hcl : clsN ci = y'.1.cls) (hn : vs.length = n) (hst : (st.map avc).sum ≤ 8) (hz : y'.2.2.2.2 = (0, 0)) (hm : kc ≤ y.2.2.2.2.1) (hm2 : ks ≤ y.2.2.2.2.2) (hpc : pc + 3 = pc') (k : CI K d y' ((2, x) :: vs) c (fun c1 r => WP K (d + 1) y kc ks pc' L ((0, r) :: st) (wG c1) Q)) : WP K (d + 1) y kc ks pc L (vs.reverse ++ (2, x) :: st) (wG c) Q := by
  have z1 : y'.2.2.2.2.1 = 0 := by rw [hz]
  have z2 : y'.2.2.2.2.2 = 0 := by rw [hz]
  refine R_callV (n := n) hd hk (hc.C c) h10 hcl hn hst (by rw [z1]; exact hm) (by rw [z2]; exact hm2) (Or.inl z1) hpc (CM.mono k (fun G v hq => ?_))
  rw [z1, z2]
  obtain ⟨c1, rfl, r, rfl, hq⟩ := hq
  exact hq
theorem Q_callVL {K : SK} {d : Nat} {y : mth} {kc ks pc pc' : Nat} {L st : List av} {c : ct} {Q : hp → av → Prop} {y' : mth} {vs : List av} {idx n : Nat} {x : Int} {ci len : Nat} (hd : decode y.2.1 pc = .ok (.invokevirtual idx, 3)) (hk : kV y.1.cls idx y' n) (hc : isS x ci len) (h10 : ci < 10) (hcl : clsN ci = y'.1.cls) (hn : vs.length = n) (hst : (st.map avc).sum ≤ 8) (hz : y'.2.2.2.2 = (0, 0)) (hm : kc ≤ y.2.2.2.2.1) (hm2 : ks ≤ y.2.2.2.2.2) (hpc : pc + 3 = pc') (k : CL K d y' ((2, x) :: vs) c (fun c1 r => WP K (d + 1) y kc ks pc' L ((1, r) :: st) (wG c1) Q)) : WP K (d + 1) y kc ks pc L (vs.reverse ++ (2, x) :: st) (wG c) Q := by
  have z1 : y'.2.2.2.2.1 = 0 := by rw [hz]
  have z2 : y'.2.2.2.2.2 = 0 := by rw [hz]
  refine R_callV (n := n) hd hk (hc.C c) h10 hcl hn hst (by rw [z1]; exact hm) (by rw [z2]; exact hm2) (Or.inl z1) hpc (CM.mono k (fun G v hq => ?_))
  rw [z1, z2]
  obtain ⟨c1, rfl, r, rfl, hq⟩ := hq
  exact hq
theorem Q_callVV {K : SK} {d : Nat} {y : mth} {kc ks pc pc' : Nat} {L st : List av} {c : ct} {Q : hp → av → Prop} {y' : mth} {vs : List av} {idx n : Nat} {x : Int} {ci len : Nat} (hd : decode y.2.1 pc = .ok (.invokevirtual idx, 3)) (hk : kV y.1.cls idx y' n) (hc : isS x ci len) (h10 : ci < 10) (hcl : clsN ci = y'.1.cls) (hn : vs.length = n) (hst : (st.map avc).sum ≤ 8) (hz : y'.2.2.2.2 = (0, 0)) (hm : kc ≤ y.2.2.2.2.1) (hm2 : ks ≤ y.2.2.2.2.2) (hpc : pc + 3 = pc') (k : CV K d y' ((2, x) :: vs) c (fun c1 => WP K (d + 1) y kc ks pc' L (st) (wG c1) Q)) : WP K (d + 1) y kc ks pc L (vs.reverse ++ (2, x) :: st) (wG c) Q := by
  have z1 : y'.2.2.2.2.1 = 0 := by rw [hz]
  have z2 : y'.2.2.2.2.2 = 0 := by rw [hz]
  refine R_callV (n := n) hd hk (hc.C c) h10 hcl hn hst (by rw [z1]; exact hm) (by rw [z2]; exact hm2) (Or.inl z1) hpc (CM.mono k (fun G v hq => ?_))
  rw [z1, z2]
  obtain ⟨c1, rfl, rfl, hq⟩ := hq
  exact hq
theorem Q_callVA {K : SK} {d : Nat} {y : mth} {kc ks pc pc' : Nat} {L st : List av} {c : ct} {Q : hp → av → Prop} {y' : mth} {vs : List av} {idx n : Nat} {x : Int} {ci len : Nat} (hd : decode y.2.1 pc = .ok (.invokevirtual idx, 3)) (hk : kV y.1.cls idx y' n) (hc : isS x ci len) (h10 : ci < 10) (hcl : clsN ci = y'.1.cls) (hn : vs.length = n) (hst : (st.map avc).sum ≤ 8) (hz : y'.2.2.2.2 = (0, 0)) (hm : kc ≤ y.2.2.2.2.1) (hm2 : ks ≤ y.2.2.2.2.2) (hpc : pc + 3 = pc') (k : CA K d y' ((2, x) :: vs) c (fun c1 r => WP K (d + 1) y kc ks pc' L ((3, r) :: st) (wG c1) Q)) : WP K (d + 1) y kc ks pc L (vs.reverse ++ (2, x) :: st) (wG c) Q := by
  have z1 : y'.2.2.2.2.1 = 0 := by rw [hz]
  have z2 : y'.2.2.2.2.2 = 0 := by rw [hz]
  refine R_callV (n := n) hd hk (hc.C c) h10 hcl hn hst (by rw [z1]; exact hm) (by rw [z2]; exact hm2) (Or.inl z1) hpc (CM.mono k (fun G v hq => ?_))
  rw [z1, z2]
  obtain ⟨c1, rfl, r, rfl, hq⟩ := hq
  exact hq
theorem Q_callSI {K : SK} {d : Nat} {y : mth} {kc ks pc pc' : Nat} {L st : List av} {c : ct} {Q : hp → av → Prop} {y' : mth} {vs : List av} {idx n : Nat} (hd : decode y.2.1 pc = .ok (.invokestatic idx, 3)) (hk : kS y.1.cls idx y' n)  (hn : vs.length = n) (hst : (st.map avc).sum ≤ 8) (hz : y'.2.2.2.2 = (0, 0)) (hm : kc ≤ y.2.2.2.2.1) (hm2 : ks ≤ y.2.2.2.2.2) (hpc : pc + 3 = pc') (k : CI K d y' vs c (fun c1 r => WP K (d + 1) y kc ks pc' L ((0, r) :: st) (wG c1) Q)) : WP K (d + 1) y kc ks pc L (vs.reverse ++ st) (wG c) Q := by
  have z1 : y'.2.2.2.2.1 = 0 := by rw [hz]
  have z2 : y'.2.2.2.2.2 = 0 := by rw [hz]
  refine R_callS (n := n) hd hk hn hst (by rw [z1]; exact hm) (by rw [z2]; exact hm2) (Or.inl z1) hpc (CM.mono k (fun G v hq => ?_))
  rw [z1, z2]
  obtain ⟨c1, rfl, r, rfl, hq⟩ := hq
  exact hq
theorem Q_callSL {K : SK} {d : Nat} {y : mth} {kc ks pc pc' : Nat} {L st : List av} {c : ct} {Q : hp → av → Prop} {y' : mth} {vs : List av} {idx n : Nat} (hd : decode y.2.1 pc = .ok (.invokestatic idx, 3)) (hk : kS y.1.cls idx y' n)  (hn : vs.length = n) (hst : (st.map avc).sum ≤ 8) (hz : y'.2.2.2.2 = (0, 0)) (hm : kc ≤ y.2.2.2.2.1) (hm2 : ks ≤ y.2.2.2.2.2) (hpc : pc + 3 = pc') (k : CL K d y' vs c (fun c1 r => WP K (d + 1) y kc ks pc' L ((1, r) :: st) (wG c1) Q)) : WP K (d + 1) y kc ks pc L (vs.reverse ++ st) (wG c) Q := by
  have z1 : y'.2.2.2.2.1 = 0 := by rw [hz]
  have z2 : y'.2.2.2.2.2 = 0 := by rw [hz]
  refine R_callS (n := n) hd hk hn hst (by rw [z1]; exact hm) (by rw [z2]; exact hm2) (Or.inl z1) hpc (CM.mono k (fun G v hq => ?_))
  rw [z1, z2]
  obtain ⟨c1, rfl, r, rfl, hq⟩ := hq
  exact hq
theorem Q_callSV {K : SK} {d : Nat} {y : mth} {kc ks pc pc' : Nat} {L st : List av} {c : ct} {Q : hp → av → Prop} {y' : mth} {vs : List av} {idx n : Nat} (hd : decode y.2.1 pc = .ok (.invokestatic idx, 3)) (hk : kS y.1.cls idx y' n)  (hn : vs.length = n) (hst : (st.map avc).sum ≤ 8) (hz : y'.2.2.2.2 = (0, 0)) (hm : kc ≤ y.2.2.2.2.1) (hm2 : ks ≤ y.2.2.2.2.2) (hpc : pc + 3 = pc') (k : CV K d y' vs c (fun c1 => WP K (d + 1) y kc ks pc' L (st) (wG c1) Q)) : WP K (d + 1) y kc ks pc L (vs.reverse ++ st) (wG c) Q := by
  have z1 : y'.2.2.2.2.1 = 0 := by rw [hz]
  have z2 : y'.2.2.2.2.2 = 0 := by rw [hz]
  refine R_callS (n := n) hd hk hn hst (by rw [z1]; exact hm) (by rw [z2]; exact hm2) (Or.inl z1) hpc (CM.mono k (fun G v hq => ?_))
  rw [z1, z2]
  obtain ⟨c1, rfl, rfl, hq⟩ := hq
  exact hq
theorem Q_callSA {K : SK} {d : Nat} {y : mth} {kc ks pc pc' : Nat} {L st : List av} {c : ct} {Q : hp → av → Prop} {y' : mth} {vs : List av} {idx n : Nat} (hd : decode y.2.1 pc = .ok (.invokestatic idx, 3)) (hk : kS y.1.cls idx y' n)  (hn : vs.length = n) (hst : (st.map avc).sum ≤ 8) (hz : y'.2.2.2.2 = (0, 0)) (hm : kc ≤ y.2.2.2.2.1) (hm2 : ks ≤ y.2.2.2.2.2) (hpc : pc + 3 = pc') (k : CA K d y' vs c (fun c1 r => WP K (d + 1) y kc ks pc' L ((3, r) :: st) (wG c1) Q)) : WP K (d + 1) y kc ks pc L (vs.reverse ++ st) (wG c) Q := by
  have z1 : y'.2.2.2.2.1 = 0 := by rw [hz]
  have z2 : y'.2.2.2.2.2 = 0 := by rw [hz]
  refine R_callS (n := n) hd hk hn hst (by rw [z1]; exact hm) (by rw [z2]; exact hm2) (Or.inl z1) hpc (CM.mono k (fun G v hq => ?_))
  rw [z1, z2]
  obtain ⟨c1, rfl, r, rfl, hq⟩ := hq
  exact hq
theorem Q_callSNI {K : SK} {d : Nat} {y : mth} {kc ks pc pc' : Nat} {L st : List av} {c : ct} {Q : hp → av → Prop} {y' : mth} {vs : List av} {idx n : Nat} (hd : decode y.2.1 pc = .ok (.invokestatic idx, 3)) (hk : kSN y.1.cls idx y' n)  (hn : vs.length = n) (hst : (st.map avc).sum ≤ 8) (hz : y'.2.2.2.2 = (0, 0)) (hm : kc ≤ y.2.2.2.2.1) (hm2 : ks ≤ y.2.2.2.2.2) (hpc : pc + 3 = pc') (k : CI K d y' vs c (fun c1 r => WP K (d + 1) y kc ks pc' L ((0, r) :: st) (wG c1) Q)) : WP K (d + 1) y kc ks pc L (vs.reverse ++ st) (wG c) Q := by
  have z1 : y'.2.2.2.2.1 = 0 := by rw [hz]
  have z2 : y'.2.2.2.2.2 = 0 := by rw [hz]
  refine R_callSN (n := n) hd hk hn hst (by rw [z1]; exact hm) (by rw [z2]; exact hm2) (Or.inl z1) hpc (CM.mono k (fun G v hq => ?_))
  rw [z1, z2]
  obtain ⟨c1, rfl, r, rfl, hq⟩ := hq
  exact hq
theorem Q_callSNL {K : SK} {d : Nat} {y : mth} {kc ks pc pc' : Nat} {L st : List av} {c : ct} {Q : hp → av → Prop} {y' : mth} {vs : List av} {idx n : Nat} (hd : decode y.2.1 pc = .ok (.invokestatic idx, 3)) (hk : kSN y.1.cls idx y' n)  (hn : vs.length = n) (hst : (st.map avc).sum ≤ 8) (hz : y'.2.2.2.2 = (0, 0)) (hm : kc ≤ y.2.2.2.2.1) (hm2 : ks ≤ y.2.2.2.2.2) (hpc : pc + 3 = pc') (k : CL K d y' vs c (fun c1 r => WP K (d + 1) y kc ks pc' L ((1, r) :: st) (wG c1) Q)) : WP K (d + 1) y kc ks pc L (vs.reverse ++ st) (wG c) Q := by
  have z1 : y'.2.2.2.2.1 = 0 := by rw [hz]
  have z2 : y'.2.2.2.2.2 = 0 := by rw [hz]
  refine R_callSN (n := n) hd hk hn hst (by rw [z1]; exact hm) (by rw [z2]; exact hm2) (Or.inl z1) hpc (CM.mono k (fun G v hq => ?_))
  rw [z1, z2]
  obtain ⟨c1, rfl, r, rfl, hq⟩ := hq
  exact hq
theorem Q_callSNV {K : SK} {d : Nat} {y : mth} {kc ks pc pc' : Nat} {L st : List av} {c : ct} {Q : hp → av → Prop} {y' : mth} {vs : List av} {idx n : Nat} (hd : decode y.2.1 pc = .ok (.invokestatic idx, 3)) (hk : kSN y.1.cls idx y' n)  (hn : vs.length = n) (hst : (st.map avc).sum ≤ 8) (hz : y'.2.2.2.2 = (0, 0)) (hm : kc ≤ y.2.2.2.2.1) (hm2 : ks ≤ y.2.2.2.2.2) (hpc : pc + 3 = pc') (k : CV K d y' vs c (fun c1 => WP K (d + 1) y kc ks pc' L (st) (wG c1) Q)) : WP K (d + 1) y kc ks pc L (vs.reverse ++ st) (wG c) Q := by
  have z1 : y'.2.2.2.2.1 = 0 := by rw [hz]
  have z2 : y'.2.2.2.2.2 = 0 := by rw [hz]
  refine R_callSN (n := n) hd hk hn hst (by rw [z1]; exact hm) (by rw [z2]; exact hm2) (Or.inl z1) hpc (CM.mono k (fun G v hq => ?_))
  rw [z1, z2]
  obtain ⟨c1, rfl, rfl, hq⟩ := hq
  exact hq
theorem Q_callSNA {K : SK} {d : Nat} {y : mth} {kc ks pc pc' : Nat} {L st : List av} {c : ct} {Q : hp → av → Prop} {y' : mth} {vs : List av} {idx n : Nat} (hd : decode y.2.1 pc = .ok (.invokestatic idx, 3)) (hk : kSN y.1.cls idx y' n)  (hn : vs.length = n) (hst : (st.map avc).sum ≤ 8) (hz : y'.2.2.2.2 = (0, 0)) (hm : kc ≤ y.2.2.2.2.1) (hm2 : ks ≤ y.2.2.2.2.2) (hpc : pc + 3 = pc') (k : CA K d y' vs c (fun c1 r => WP K (d + 1) y kc ks pc' L ((3, r) :: st) (wG c1) Q)) : WP K (d + 1) y kc ks pc L (vs.reverse ++ st) (wG c) Q := by
  have z1 : y'.2.2.2.2.1 = 0 := by rw [hz]
  have z2 : y'.2.2.2.2.2 = 0 := by rw [hz]
  refine R_callSN (n := n) hd hk hn hst (by rw [z1]; exact hm) (by rw [z2]; exact hm2) (Or.inl z1) hpc (CM.mono k (fun G v hq => ?_))
  rw [z1, z2]
  obtain ⟨c1, rfl, r, rfl, hq⟩ := hq
  exact hq
theorem Q_callStrI {K : SK} {d : Nat} {y : mth} {kc ks pc pc' : Nat} {L st : List av} {c : ct} {Q : hp → av → Prop} {y' : mth} {vs : List av} {idx n : Nat} {i : Nat} (hd : decode y.2.1 pc = .ok (.invokevirtual idx, 3)) (hk : kV y.1.cls idx y' n) (h4i : i < 4) (hcl : "java/lang/String" = y'.1.cls) (hn : vs.length = n) (hst : (st.map avc).sum ≤ 8) (hz : y'.2.2.2.2 = (0, 0)) (hm : kc ≤ y.2.2.2.2.1) (hm2 : ks ≤ y.2.2.2.2.2) (hpc : pc + 3 = pc') (k : CI K d y' ((3, ((6 + i : Nat) : Int)) :: vs) c (fun c1 r => WP K (d + 1) y kc ks pc' L ((0, r) :: st) (wG c1) Q)) : WP K (d + 1) y kc ks pc L (vs.reverse ++ (3, ((6 + i : Nat) : Int)) :: st) (wG c) Q := by
  have z1 : y'.2.2.2.2.1 = 0 := by rw [hz]
  have z2 : y'.2.2.2.2.2 = 0 := by rw [hz]
  refine R_callStr (n := n) hd hk h4i hcl hn hst (by rw [z1]; exact hm) (by rw [z2]; exact hm2) (Or.inl z1) hpc (CM.mono k (fun G v hq => ?_))
  rw [z1, z2]
  obtain ⟨c1, rfl, r, rfl, hq⟩ := hq
  exact hq
end
section
theorem sT1 : ∀ w ∈ tables_1_1, w ∈ lw_tbl := fun w h => List.mem_append_right _ (by unfold tables_1; simp only [List.mem_append]; simp [h])
theorem mT1 {w : Cond} (i : Nat) (h : tables_1_1[i]? = some w) (g : goodWord w = true) : w ∈ wsA := List.mem_filter.mpr ⟨sT1 w (List.mem_of_getElem? h), g⟩
theorem nT1 {w : Cond} (i : Nat) (h : tables_1_1[i]? = some w) (g : isNestW w = true) : w ∈ nestW := List.mem_filter.mpr ⟨sT1 w (List.mem_of_getElem? h), g⟩
theorem sT2 : ∀ w ∈ tables_1_2, w ∈ lw_tbl := fun w h => List.mem_append_right _ (by unfold tables_1; simp only [List.mem_append]; simp [h])
theorem mT2 {w : Cond} (i : Nat) (h : tables_1_2[i]? = some w) (g : goodWord w = true) : w ∈ wsA := List.mem_filter.mpr ⟨sT2 w (List.mem_of_getElem? h), g⟩
theorem nT2 {w : Cond} (i : Nat) (h : tables_1_2[i]? = some w) (g : isNestW w = true) : w ∈ nestW := List.mem_filter.mpr ⟨sT2 w (List.mem_of_getElem? h), g⟩
theorem sT3 : ∀ w ∈ tables_1_3, w ∈ lw_tbl := fun w h => List.mem_append_right _ (by unfold tables_1; simp only [List.mem_append]; simp [h])
theorem mT3 {w : Cond} (i : Nat) (h : tables_1_3[i]? = some w) (g : goodWord w = true) : w ∈ wsA := List.mem_filter.mpr ⟨sT3 w (List.mem_of_getElem? h), g⟩
theorem nT3 {w : Cond} (i : Nat) (h : tables_1_3[i]? = some w) (g : isNestW w = true) : w ∈ nestW := List.mem_filter.mpr ⟨sT3 w (List.mem_of_getElem? h), g⟩
theorem sT4 : ∀ w ∈ tables_1_4, w ∈ lw_tbl := fun w h => List.mem_append_right _ (by unfold tables_1; simp only [List.mem_append]; simp [h])
theorem mT4 {w : Cond} (i : Nat) (h : tables_1_4[i]? = some w) (g : goodWord w = true) : w ∈ wsA := List.mem_filter.mpr ⟨sT4 w (List.mem_of_getElem? h), g⟩
theorem nT4 {w : Cond} (i : Nat) (h : tables_1_4[i]? = some w) (g : isNestW w = true) : w ∈ nestW := List.mem_filter.mpr ⟨sT4 w (List.mem_of_getElem? h), g⟩
theorem sT5 : ∀ w ∈ tables_1_5, w ∈ lw_tbl := fun w h => List.mem_append_right _ (by unfold tables_1; simp only [List.mem_append]; simp [h])
theorem mT5 {w : Cond} (i : Nat) (h : tables_1_5[i]? = some w) (g : goodWord w = true) : w ∈ wsA := List.mem_filter.mpr ⟨sT5 w (List.mem_of_getElem? h), g⟩
theorem nT5 {w : Cond} (i : Nat) (h : tables_1_5[i]? = some w) (g : isNestW w = true) : w ∈ nestW := List.mem_filter.mpr ⟨sT5 w (List.mem_of_getElem? h), g⟩
theorem sT6 : ∀ w ∈ tables_1_6, w ∈ lw_tbl := fun w h => List.mem_append_right _ (by unfold tables_1; simp only [List.mem_append]; simp [h])
theorem mT6 {w : Cond} (i : Nat) (h : tables_1_6[i]? = some w) (g : goodWord w = true) : w ∈ wsA := List.mem_filter.mpr ⟨sT6 w (List.mem_of_getElem? h), g⟩
theorem nT6 {w : Cond} (i : Nat) (h : tables_1_6[i]? = some w) (g : isNestW w = true) : w ∈ nestW := List.mem_filter.mpr ⟨sT6 w (List.mem_of_getElem? h), g⟩
theorem sT7 : ∀ w ∈ tables_1_7, w ∈ lw_tbl := fun w h => List.mem_append_right _ (by unfold tables_1; simp only [List.mem_append]; simp [h])
theorem mT7 {w : Cond} (i : Nat) (h : tables_1_7[i]? = some w) (g : goodWord w = true) : w ∈ wsA := List.mem_filter.mpr ⟨sT7 w (List.mem_of_getElem? h), g⟩
theorem nT7 {w : Cond} (i : Nat) (h : tables_1_7[i]? = some w) (g : isNestW w = true) : w ∈ nestW := List.mem_filter.mpr ⟨sT7 w (List.mem_of_getElem? h), g⟩
abbrev mX0_init : mth := (yX0_init, cX0_init, 1, none, 1, 20)
abbrev mX0_forget : mth := (yX0_forget, cX0_forget, 1, none, 0, 0)
abbrev mX0_kept : mth := (yX0_kept, cX0_kept, 1, (some .int), 0, 0)
abbrev mX0_begin : mth := (yX0_begin, cX0_begin, 6, (some .int), 0, 0)
abbrev mX0_own : mth := (yX0_own, cX0_own, 4, (some .int), 0, 0)
abbrev mX0_from : mth := (yX0_from, cX0_from, 7, (some .int), 0, 0)
abbrev mX0_runBody : mth := (yX0_runBody, cX0_runBody, 4, (some .int), 0, 0)
abbrev mX1_init : mth := (yX1_init, cX1_init, 2, none, 23, 233)
abbrev mX1_copyFrom : mth := (yX1_copyFrom, cX1_copyFrom, 2, none, 0, 0)
abbrev mX2_init : mth := (yX2_init, cX2_init, 1, none, 3, 120)
abbrev mX2_clear : mth := (yX2_clear, cX2_clear, 1, none, 0, 0)
abbrev mX2_addStep : mth := (yX2_addStep, cX2_addStep, 2, none, 0, 0)
abbrev mX2_addTest : mth := (yX2_addTest, cX2_addTest, 4, none, 0, 0)
abbrev mX2_addWeight : mth := (yX2_addWeight, cX2_addWeight, 2, none, 0, 0)
abbrev mX2_liking : mth := (yX2_liking, cX2_liking, 5, (some .int), 0, 0)
abbrev mX2_holds : mth := (yX2_holds, cX2_holds, 7, (some .boolean), 0, 0)
abbrev mX2_isSo : mth := (yX2_isSo, cX2_isSo, 5, (some .boolean), 0, 0)
abbrev mX3_init : mth := (yX3_init, cX3_init, 2, none, 1, 6)
abbrev mX3_find : mth := (yX3_find, cX3_find, 4, none, 0, 0)
abbrev mX3_placeFrom : mth := (yX3_placeFrom, cX3_placeFrom, 3, none, 0, 0)
abbrev mX3_placeOn : mth := (yX3_placeOn, cX3_placeOn, 3, none, 0, 0)
abbrev mX3_weigh : mth := (yX3_weigh, cX3_weigh, 4, none, 0, 0)
abbrev mX4_init : mth := (yX4_init, cX4_init, 1, none, 0, 0)
abbrev mX4_readInto : mth := (yX4_readInto, cX4_readInto, 5, (some .int), 0, 0)
abbrev mX4_isClause : mth := (yX4_isClause, cX4_isClause, 3, (some .boolean), 0, 0)
abbrev mX4_wordFrom : mth := (yX4_wordFrom, cX4_wordFrom, 1, (some (.object "java/lang/String")), 0, 0)
abbrev mX4_isEither : mth := (yX4_isEither, cX4_isEither, 5, (some .boolean), 0, 0)
abbrev mX4_isFactor : mth := (yX4_isFactor, cX4_isFactor, 5, (some .boolean), 0, 0)
abbrev mX4_isNest : mth := (yX4_isNest, cX4_isNest, 3, (some .boolean), 0, 0)
abbrev mX4_factOf : mth := (yX4_factOf, cX4_factOf, 1, (some .int), 0, 0)
abbrev mX4_compareOf : mth := (yX4_compareOf, cX4_compareOf, 1, (some .int), 0, 0)
abbrev mX4_isNumber : mth := (yX4_isNumber, cX4_isNumber, 3, (some .boolean), 0, 0)
abbrev mX4_isWord : mth := (yX4_isWord, cX4_isWord, 3, (some .boolean), 0, 0)
abbrev mX4_isSign : mth := (yX4_isSign, cX4_isSign, 2, (some .boolean), 0, 0)
abbrev mX4_next : mth := (yX4_next, cX4_next, 1, (some .int), 0, 0)
abbrev mX5_init : mth := (yX5_init, cX5_init, 2, none, 3, 30)
abbrev mX5_empty : mth := (yX5_empty, cX5_empty, 1, (some .int), 0, 0)
abbrev mX5_add : mth := (yX5_add, cX5_add, 4, (some .int), 0, 0)
abbrev mX5_greatestThird : mth := (yX5_greatestThird, cX5_greatestThird, 3, (some .int), 0, 0)
abbrev mX5_copyFrom : mth := (yX5_copyFrom, cX5_copyFrom, 2, none, 0, 0)
abbrev mX6_init : mth := (yX6_init, cX6_init, 3, none, 10, 114)
abbrev mX6_copyFrom : mth := (yX6_copyFrom, cX6_copyFrom, 2, none, 0, 0)
abbrev mX6_takeIn : mth := (yX6_takeIn, cX6_takeIn, 5, (some .int), 0, 0)
abbrev mX6_freeSeat : mth := (yX6_freeSeat, cX6_freeSeat, 2, (some .int), 0, 0)
abbrev mX6_place : mth := (yX6_place, cX6_place, 3, none, 0, 0)
abbrev mX6_moveTo : mth := (yX6_moveTo, cX6_moveTo, 5, none, 0, 0)
abbrev mX6_hold : mth := (yX6_hold, cX6_hold, 2, none, 0, 0)
abbrev mX6_becomeV : mth := (yX6_becomeV, cX6_becomeV, 3, none, 0, 0)
abbrev mX6_reckon : mth := (yX6_reckon, cX6_reckon, 3, none, 0, 0)
abbrev mX6_liking : mth := (yX6_liking, cX6_liking, 3, (some .int), 0, 0)
abbrev mX6_neighbourAt : mth := (yX6_neighbourAt, cX6_neighbourAt, 3, (some .int), 0, 0)
abbrev mX6_neighbours : mth := (yX6_neighbours, cX6_neighbours, 4, (some .int), 0, 0)
abbrev mX6_fondOf : mth := (yX6_fondOf, cX6_fondOf, 5, (some .int), 0, 0)
abbrev mX6_warmth : mth := (yX6_warmth, cX6_warmth, 5, (some .int), 0, 0)
abbrev mX6_fondOfAll : mth := (yX6_fondOfAll, cX6_fondOfAll, 3, (some .int), 0, 0)
abbrev mX6_clashes : mth := (yX6_clashes, cX6_clashes, 5, (some .int), 0, 0)
abbrev mX6_yearsGo : mth := (yX6_yearsGo, cX6_yearsGo, 4, none, 0, 0)
abbrev mX6_pourAt : mth := (yX6_pourAt, cX6_pourAt, 2, none, 0, 0)
abbrev mX6_emptyCups : mth := (yX6_emptyCups, cX6_emptyCups, 3, (some .int), 0, 0)
abbrev mX6_usedOfAll : mth := (yX6_usedOfAll, cX6_usedOfAll, 3, (some .int), 0, 0)
abbrev mX6_round : mth := (yX6_round, cX6_round, 1, (some .int), 0, 0)
abbrev mX6_toward : mth := (yX6_toward, cX6_toward, 2, (some .int), 0, 0)
abbrev mX6_stepsOn : mth := (yX6_stepsOn, cX6_stepsOn, 5, (some .int), 0, 0)
abbrev mX6_stepsBack : mth := (yX6_stepsBack, cX6_stepsBack, 4, (some .int), 0, 0)
abbrev mX6_farthestBack : mth := (yX6_farthestBack, cX6_farthestBack, 4, (some .int), 0, 0)
abbrev mX7_init : mth := (yX7_init, cX7_init, 1, none, 1, 60)
abbrev mX7_become : mth := (yX7_become, cX7_become, 4, none, 0, 0)
abbrev mX7_hasPlace : mth := (yX7_hasPlace, cX7_hasPlace, 2, (some .boolean), 0, 0)
abbrev mX7_hasPlaces : mth := (yX7_hasPlaces, cX7_hasPlaces, 3, (some .boolean), 0, 0)
abbrev mX7_put : mth := (yX7_put, cX7_put, 4, none, 0, 0)
abbrev mX8_init : mth := (yX8_init, cX8_init, 3, none, 107, 4000)
abbrev mX8_guest : mth := (yX8_guest, cX8_guest, 3, (some .int), 0, 0)
abbrev mX8_of : mth := (yX8_of, cX8_of, 4, (some .int), 0, 0)
abbrev mX8_likes : mth := (yX8_likes, cX8_likes, 3, (some .int), 0, 0)
abbrev mX8_sit : mth := (yX8_sit, cX8_sit, 3, (some .int), 0, 0)
abbrev mX8_leave : mth := (yX8_leave, cX8_leave, 4, (some .int), 0, 0)
abbrev mX8_pour : mth := (yX8_pour, cX8_pour, 2, (some .int), 0, 0)
abbrev mX8_row : mth := (yX8_row, cX8_row, 6, (some .int), 0, 0)
abbrev mX8_feed : mth := (yX8_feed, cX8_feed, 2, (some .int), 0, 0)
abbrev mX8_house : mth := (yX8_house, cX8_house, 3, (some .int), 0, 0)
abbrev mX8_told : mth := (yX8_told, cX8_told, 3, (some .int), 0, 0)
abbrev mX8_sitterOr : mth := (yX8_sitterOr, cX8_sitterOr, 3, (some .int), 0, 0)
abbrev mX8_pass : mth := (yX8_pass, cX8_pass, 2, (some .int), 0, 0)
abbrev mX8_on : mth := (yX8_on, cX8_on, 4, (some .int), 0, 0)
abbrev mX8_soon : mth := (yX8_soon, cX8_soon, 3, (some .int), 0, 0)
abbrev mX8_usedMore : mth := (yX8_usedMore, cX8_usedMore, 1, (some .int), 0, 0)
abbrev mX8_best : mth := (yX8_best, cX8_best, 3, (some .int), 0, 0)
abbrev mX8_peace : mth := (yX8_peace, cX8_peace, 3, (some .int), 0, 0)
abbrev mX8_change : mth := (yX8_change, cX8_change, 6, (some .int), 0, 0)
abbrev mX8_seat : mth := (yX8_seat, cX8_seat, 6, (some .int), 0, 0)
abbrev mX8_see : mth := (yX8_see, cX8_see, 4, (some .int), 0, 0)
abbrev mX8_where : mth := (yX8_where, cX8_where, 4, (some .int), 0, 0)
abbrev mX8_can : mth := (yX8_can, cX8_can, 6, (some .int), 0, 0)
abbrev mX8_isAllSeenSo : mth := (yX8_isAllSeenSo, cX8_isAllSeenSo, 3, (some .boolean), 0, 0)
abbrev mX8_isOneSeenOtherwise : mth := (yX8_isOneSeenOtherwise, cX8_isOneSeenOtherwise, 5, (some .boolean), 0, 0)
abbrev mX8_odds : mth := (yX8_odds, cX8_odds, 5, (some .long), 0, 0)
abbrev mX8_mean : mth := (yX8_mean, cX8_mean, 2, (some .long), 0, 0)
abbrev mX8_lowest : mth := (yX8_lowest, cX8_lowest, 5, (some .long), 0, 0)
abbrev mX8_plan : mth := (yX8_plan, cX8_plan, 4, (some .int), 0, 0)
abbrev mX8_ends : mth := (yX8_ends, cX8_ends, 3, (some .int), 0, 0)
abbrev mX8_tryPlanned : mth := (yX8_tryPlanned, cX8_tryPlanned, 3, none, 0, 0)
abbrev mX8_book : mth := (yX8_book, cX8_book, 3, (some .int), 0, 0)
abbrev mX8_looked : mth := (yX8_looked, cX8_looked, 3, (some .int), 0, 0)
abbrev mX8_judge : mth := (yX8_judge, cX8_judge, 5, (some .int), 0, 0)
abbrev mX8_image : mth := (yX8_image, cX8_image, 1, (some .int), 0, 0)
abbrev mX8_undo : mth := (yX8_undo, cX8_undo, 1, (some .int), 0, 0)
abbrev mX8_act : mth := (yX8_act, cX8_act, 4, (some .int), 0, 0)
abbrev mX8_trace : mth := (yX8_trace, cX8_trace, 2, (some .int), 0, 0)
abbrev mX8_taken : mth := (yX8_taken, cX8_taken, 6, (some .int), 0, 0)
abbrev mX8_count : mth := (yX8_count, cX8_count, 2, (some .int), 0, 0)
abbrev mX8_tape : mth := (yX8_tape, cX8_tape, 4, (some .int), 0, 0)
abbrev mX8_item : mth := (yX8_item, cX8_item, 5, (some .int), 0, 0)
abbrev mX8_read : mth := (yX8_read, cX8_read, 3, (some .long), 0, 0)
abbrev mX8_shift : mth := (yX8_shift, cX8_shift, 8, (some .int), 0, 0)
abbrev mX8_isGuest : mth := (yX8_isGuest, cX8_isGuest, 2, (some .boolean), 0, 0)
abbrev mX8_isSeat : mth := (yX8_isSeat, cX8_isSeat, 1, (some .boolean), 0, 0)
abbrev mX8_isTape : mth := (yX8_isTape, cX8_isTape, 1, (some .boolean), 0, 0)
abbrev mX8_isDigit : mth := (yX8_isDigit, cX8_isDigit, 1, (some .boolean), 0, 0)
abbrev mX8_oneIf : mth := (yX8_oneIf, cX8_oneIf, 1, (some .int), 0, 0)
abbrev mX9_init : mth := (yX9_init, cX9_init, 1, none, 44, 2200)
abbrev mX9_in : mth := (yX9_in, cX9_in, 4, (some .boolean), 0, 0)
abbrev mX9_has : mth := (yX9_has, cX9_has, 3, (some .boolean), 0, 0)
abbrev mX9_least : mth := (yX9_least, cX9_least, 3, (some .int), 0, 0)
abbrev mX9_bits : mth := (yX9_bits, cX9_bits, 4, (some .int), 0, 0)
abbrev mX9_isGuest : mth := (yX9_isGuest, cX9_isGuest, 2, (some .boolean), 0, 0)
abbrev mX9_isSeat : mth := (yX9_isSeat, cX9_isSeat, 2, (some .boolean), 0, 0)
abbrev mX9_isYears : mth := (yX9_isYears, cX9_isYears, 2, (some .boolean), 0, 0)
abbrev mX9_whoSits : mth := (yX9_whoSits, cX9_whoSits, 3, (some .int), 0, 0)
abbrev mX9_guest : mth := (yX9_guest, cX9_guest, 5, (some .int), 0, 0)
abbrev mX9_goes : mth := (yX9_goes, cX9_goes, 3, none, 0, 0)
abbrev mX9_leave : mth := (yX9_leave, cX9_leave, 4, (some .int), 0, 0)
abbrev mX9_takesSeat : mth := (yX9_takesSeat, cX9_takesSeat, 4, none, 0, 0)
abbrev mX9_sit : mth := (yX9_sit, cX9_sit, 3, (some .int), 0, 0)
abbrev mX9_pours : mth := (yX9_pours, cX9_pours, 3, none, 0, 0)
abbrev mX9_pour : mth := (yX9_pour, cX9_pour, 2, (some .int), 0, 0)
abbrev mX9_row : mth := (yX9_row, cX9_row, 5, (some .int), 0, 0)
abbrev mX9_feed : mth := (yX9_feed, cX9_feed, 2, (some .int), 0, 0)
abbrev mX9_next : mth := (yX9_next, cX9_next, 1, (some .int), 0, 0)
abbrev mX9_takes : mth := (yX9_takes, cX9_takes, 2, (some .boolean), 0, 0)
abbrev mX9_takesWord : mth := (yX9_takesWord, cX9_takesWord, 4, (some .boolean), 0, 0)
abbrev mX9_isDigit : mth := (yX9_isDigit, cX9_isDigit, 1, (some .boolean), 0, 0)
abbrev mX9_takesNumber : mth := (yX9_takesNumber, cX9_takesNumber, 2, (some .boolean), 0, 0)
abbrev mX9_emits : mth := (yX9_emits, cX9_emits, 2, none, 0, 0)
abbrev mX9_whole : mth := (yX9_whole, cX9_whole, 1, none, 0, 0)
abbrev mX9_settle : mth := (yX9_settle, cX9_settle, 2, none, 0, 0)
abbrev mX9_place : mth := (yX9_place, cX9_place, 2, (some .int), 0, 0)
abbrev mX9_takesTest : mth := (yX9_takesTest, cX9_takesTest, 3, (some .boolean), 0, 0)
abbrev mX9_takesE : mth := (yX9_takesE, cX9_takesE, 4, (some .boolean), 0, 0)
abbrev mX9_takesHead : mth := (yX9_takesHead, cX9_takesHead, 2, (some .boolean), 0, 0)
abbrev mX9_takesClause : mth := (yX9_takesClause, cX9_takesClause, 2, (some .boolean), 0, 0)
abbrev mX9_goesText : mth := (yX9_goesText, cX9_goesText, 3, (some .boolean), 0, 0)
abbrev mX9_house : mth := (yX9_house, cX9_house, 2, (some .int), 0, 0)
abbrev mX9_begin : mth := (yX9_begin, cX9_begin, 1, (some .int), 0, 0)
abbrev mX9_behind : mth := (yX9_behind, cX9_behind, 1, (some .int), 0, 0)
abbrev mX9_lastOf : mth := (yX9_lastOf, cX9_lastOf, 5, (some .int), 0, 0)
abbrev mX9_factOf : mth := (yX9_factOf, cX9_factOf, 4, (some .int), 0, 0)
abbrev mX9_holds : mth := (yX9_holds, cX9_holds, 9, (some .boolean), 0, 0)
abbrev mX9_likesOf : mth := (yX9_likesOf, cX9_likesOf, 5, (some .int), 0, 0)
abbrev mX9_likes : mth := (yX9_likes, cX9_likes, 3, (some .int), 0, 0)
abbrev mX9_layLikes : mth := (yX9_layLikes, cX9_layLikes, 3, none, 0, 0)
abbrev mX9_isBeside : mth := (yX9_isBeside, cX9_isBeside, 3, (some .boolean), 0, 0)
abbrev mX9_isCompany : mth := (yX9_isCompany, cX9_isCompany, 2, (some .boolean), 0, 0)
abbrev mX9_beside : mth := (yX9_beside, cX9_beside, 4, (some .int), 0, 0)
abbrev mX9_fondBy : mth := (yX9_fondBy, cX9_fondBy, 6, (some .int), 0, 0)
abbrev mX9_fond : mth := (yX9_fond, cX9_fond, 2, (some .int), 0, 0)
abbrev mX9_allFondBy : mth := (yX9_allFondBy, cX9_allFondBy, 3, (some .int), 0, 0)
abbrev mX9_allFond : mth := (yX9_allFond, cX9_allFond, 1, (some .int), 0, 0)
abbrev mX9_clashesBy : mth := (yX9_clashesBy, cX9_clashesBy, 4, (some .int), 0, 0)
abbrev mX9_clashes : mth := (yX9_clashes, cX9_clashes, 1, (some .int), 0, 0)
abbrev mX9_of : mth := (yX9_of, cX9_of, 3, (some .int), 0, 0)
abbrev mX9_isDue : mth := (yX9_isDue, cX9_isDue, 3, (some .boolean), 0, 0)
abbrev mX9_isCovered : mth := (yX9_isCovered, cX9_isCovered, 4, (some .boolean), 0, 0)
abbrev mX9_steps : mth := (yX9_steps, cX9_steps, 6, (some .int), 0, 0)
abbrev mX9_round : mth := (yX9_round, cX9_round, 1, (some .int), 0, 0)
abbrev mX9_toward : mth := (yX9_toward, cX9_toward, 1, (some .int), 0, 0)
abbrev mX9_told : mth := (yX9_told, cX9_told, 2, (some .int), 0, 0)
abbrev mX9_goYear : mth := (yX9_goYear, cX9_goYear, 3, none, 0, 0)
abbrev mX9_goYears : mth := (yX9_goYears, cX9_goYears, 3, none, 0, 0)
abbrev mX9_pass : mth := (yX9_pass, cX9_pass, 2, (some .int), 0, 0)
abbrev mX9_save : mth := (yX9_save, cX9_save, 2, none, 0, 0)
abbrev mX9_putBack : mth := (yX9_putBack, cX9_putBack, 2, none, 0, 0)
abbrev mX9_usesMore : mth := (yX9_usesMore, cX9_usesMore, 3, (some .int), 0, 0)
abbrev mX9_on : mth := (yX9_on, cX9_on, 4, (some .int), 0, 0)
abbrev mX9_soon : mth := (yX9_soon, cX9_soon, 3, (some .int), 0, 0)
abbrev mX9_layPlacing : mth := (yX9_layPlacing, cX9_layPlacing, 5, (some .boolean), 0, 0)
abbrev mX9_layBest : mth := (yX9_layBest, cX9_layBest, 8, none, 0, 0)
abbrev mX9_best : mth := (yX9_best, cX9_best, 2, (some .int), 0, 0)
abbrev mX9_peace : mth := (yX9_peace, cX9_peace, 2, (some .int), 0, 0)
abbrev mX9_change : mth := (yX9_change, cX9_change, 6, (some .int), 0, 0)
abbrev mX9_seat : mth := (yX9_seat, cX9_seat, 6, (some .int), 0, 0)
abbrev mX9_see : mth := (yX9_see, cX9_see, 4, (some .int), 0, 0)
abbrev mX9_isSeen : mth := (yX9_isSeen, cX9_isSeen, 3, (some .boolean), 0, 0)
abbrev mX9_where : mth := (yX9_where, cX9_where, 5, (some .int), 0, 0)
abbrev mX9_can : mth := (yX9_can, cX9_can, 7, (some .int), 0, 0)
abbrev mX9_divisor : mth := (yX9_divisor, cX9_divisor, 6, (some .int), 0, 0)
abbrev mX9_lowest : mth := (yX9_lowest, cX9_lowest, 5, (some .long), 0, 0)
abbrev mX9_odds : mth := (yX9_odds, cX9_odds, 6, (some .long), 0, 0)
abbrev mX9_mean : mth := (yX9_mean, cX9_mean, 2, (some .long), 0, 0)
abbrev mX9_plan : mth := (yX9_plan, cX9_plan, 3, (some .int), 0, 0)
abbrev mX9_ends : mth := (yX9_ends, cX9_ends, 3, (some .int), 0, 0)
abbrev mX9_book : mth := (yX9_book, cX9_book, 3, (some .int), 0, 0)
abbrev mX9_looked : mth := (yX9_looked, cX9_looked, 2, (some .int), 0, 0)
abbrev mX9_judge : mth := (yX9_judge, cX9_judge, 4, (some .int), 0, 0)
abbrev mX9_image : mth := (yX9_image, cX9_image, 2, (some .int), 0, 0)
abbrev mX9_undo : mth := (yX9_undo, cX9_undo, 2, (some .int), 0, 0)
abbrev mX9_body : mth := (yX9_body, cX9_body, 2, none, 0, 0)
abbrev mX9_guestSips : mth := (yX9_guestSips, cX9_guestSips, 3, (some .int), 0, 0)
abbrev mX9_sipsAct : mth := (yX9_sipsAct, cX9_sipsAct, 3, (some .int), 0, 0)
abbrev mX9_guestChats : mth := (yX9_guestChats, cX9_guestChats, 3, (some .int), 0, 0)
abbrev mX9_wouldChats : mth := (yX9_wouldChats, cX9_wouldChats, 3, (some .int), 0, 0)
abbrev mX9_chatsAct : mth := (yX9_chatsAct, cX9_chatsAct, 4, (some .int), 0, 0)
abbrev mX9_guestTells : mth := (yX9_guestTells, cX9_guestTells, 3, (some .int), 0, 0)
abbrev mX9_tellsAct : mth := (yX9_tellsAct, cX9_tellsAct, 4, (some .int), 0, 0)
abbrev mX9_act : mth := (yX9_act, cX9_act, 4, (some .int), 0, 0)
abbrev mX9_trace : mth := (yX9_trace, cX9_trace, 2, (some .int), 0, 0)
abbrev mX9_taken : mth := (yX9_taken, cX9_taken, 4, (some .int), 0, 0)
abbrev mX9_count : mth := (yX9_count, cX9_count, 2, (some .int), 0, 0)
abbrev mX9_isTape : mth := (yX9_isTape, cX9_isTape, 2, (some .boolean), 0, 0)
abbrev mX9_tape : mth := (yX9_tape, cX9_tape, 5, (some .int), 0, 0)
abbrev mX9_narrow : mth := (yX9_narrow, cX9_narrow, 4, (some .long), 0, 0)
abbrev mX9_item : mth := (yX9_item, cX9_item, 5, (some .int), 0, 0)
abbrev mX9_read : mth := (yX9_read, cX9_read, 3, (some .long), 0, 0)
abbrev mX9_shift : mth := (yX9_shift, cX9_shift, 7, (some .int), 0, 0)
abbrev mJ6_bitCount_0f7a4 : mth := (yJ6_bitCount_0f7a4, cJ6_bitCount_0f7a4, 1, (some .int), 0, 0)
abbrev mJ9_max_7cf53 : mth := (yJ9_max_7cf53, cJ9_max_7cf53, 2, (some .int), 0, 0)
abbrev mJ9_min_7cf53 : mth := (yJ9_min_7cf53, cJ9_min_7cf53, 2, (some .int), 0, 0)
abbrev mJ0_length_8abf5 : mth := (yJ0_length_8abf5, cJ0_length_8abf5, 1, (some .int), 0, 0)
abbrev mJ0_charAt_5068e : mth := (yJ0_charAt_5068e, cJ0_charAt_5068e, 2, (some .char), 0, 0)
abbrev mJ0_coder_7d493 : mth := (yJ0_coder_7d493, cJ0_coder_7d493, 1, (some .byte), 0, 0)
abbrev mJ0_isLatin1_aae02 : mth := (yJ0_isLatin1_aae02, cJ0_isLatin1_aae02, 1, (some .boolean), 0, 0)
abbrev mJ0_checkIndex_df160 : mth := (yJ0_checkIndex_df160, cJ0_checkIndex_df160, 2, none, 0, 0)
abbrev mJ1_charAt_3b067 : mth := (yJ1_charAt_3b067, cJ1_charAt_3b067, 2, (some .char), 0, 0)
abbrev mJ2_getChar_3b067 : mth := (yJ2_getChar_3b067, cJ2_getChar_3b067, 2, (some .char), 0, 0)
abbrev mJ2_length_9d52b : mth := (yJ2_length_9d52b, cJ2_length_9d52b, 1, (some .int), 0, 0)
abbrev mJ2_charAt_3b067 : mth := (yJ2_charAt_3b067, cJ2_charAt_3b067, 2, (some .char), 0, 0)
abbrev mJ2_checkIndex_2214a : mth := (yJ2_checkIndex_2214a, cJ2_checkIndex_2214a, 2, none, 0, 0)
abbrev mJ3_checkIndex_8e157 : mth := (yJ3_checkIndex_8e157, cJ3_checkIndex_8e157, 3, (some .int), 0, 0)
abbrev mL_law : mth := (yL_law, cL_law, 4, (some .boolean), 600000, 7302250)
theorem fd0_0 : 0 < 10 ∧ 0 < nflds 0 ∧ isRefT (fldT 0 0) = true ∧ (fldN 0 0).2.2.2 = true := by decide +kernel
theorem fd0_1 : 0 < 10 ∧ 1 < nflds 0 ∧ isRefT (fldT 0 1) = false ∧ (fldN 0 1).2.2.2 = false ∧ fldT 0 1 = .int := by decide +kernel
theorem fd0_2 : 0 < 10 ∧ 2 < nflds 0 ∧ isRefT (fldT 0 2) = false ∧ (fldN 0 2).2.2.2 = false ∧ fldT 0 2 = .int := by decide +kernel
theorem fd0_3 : 0 < 10 ∧ 3 < nflds 0 ∧ isRefT (fldT 0 3) = false ∧ (fldN 0 3).2.2.2 = false ∧ fldT 0 3 = .int := by decide +kernel
theorem fd0_4 : 0 < 10 ∧ 4 < nflds 0 ∧ isRefT (fldT 0 4) = false ∧ (fldN 0 4).2.2.2 = false ∧ fldT 0 4 = .int := by decide +kernel
theorem fd1_0 : 1 < 10 ∧ 0 < nflds 1 ∧ isRefT (fldT 1 0) = true ∧ (fldN 1 0).2.2.2 = true := by decide +kernel
theorem fd1_1 : 1 < 10 ∧ 1 < nflds 1 ∧ isRefT (fldT 1 1) = true ∧ (fldN 1 1).2.2.2 = true := by decide +kernel
theorem fd1_2 : 1 < 10 ∧ 2 < nflds 1 ∧ isRefT (fldT 1 2) = true ∧ (fldN 1 2).2.2.2 = true := by decide +kernel
theorem fd1_3 : 1 < 10 ∧ 3 < nflds 1 ∧ isRefT (fldT 1 3) = true ∧ (fldN 1 3).2.2.2 = true := by decide +kernel
theorem fd2_0 : 2 < 10 ∧ 0 < nflds 2 ∧ isRefT (fldT 2 0) = true ∧ (fldN 2 0).2.2.2 = true := by decide +kernel
theorem fd2_1 : 2 < 10 ∧ 1 < nflds 2 ∧ isRefT (fldT 2 1) = false ∧ (fldN 2 1).2.2.2 = false ∧ fldT 2 1 = .int := by decide +kernel
theorem fd2_2 : 2 < 10 ∧ 2 < nflds 2 ∧ isRefT (fldT 2 2) = true ∧ (fldN 2 2).2.2.2 = true := by decide +kernel
theorem fd2_3 : 2 < 10 ∧ 3 < nflds 2 ∧ isRefT (fldT 2 3) = true ∧ (fldN 2 3).2.2.2 = true := by decide +kernel
theorem fd2_4 : 2 < 10 ∧ 4 < nflds 2 ∧ isRefT (fldT 2 4) = false ∧ (fldN 2 4).2.2.2 = false ∧ fldT 2 4 = .int := by decide +kernel
theorem fd2_5 : 2 < 10 ∧ 5 < nflds 2 ∧ isRefT (fldT 2 5) = false ∧ (fldN 2 5).2.2.2 = false ∧ fldT 2 5 = .int := by decide +kernel
theorem fd2_6 : 2 < 10 ∧ 6 < nflds 2 ∧ isRefT (fldT 2 6) = false ∧ (fldN 2 6).2.2.2 = false ∧ fldT 2 6 = .int := by decide +kernel
theorem fd2_7 : 2 < 10 ∧ 7 < nflds 2 ∧ isRefT (fldT 2 7) = false ∧ (fldN 2 7).2.2.2 = false ∧ fldT 2 7 = .boolean := by decide +kernel
theorem fd3_0 : 3 < 10 ∧ 0 < nflds 3 ∧ isRefT (fldT 3 0) = true ∧ (fldN 3 0).2.2.2 = true := by decide +kernel
theorem fd3_1 : 3 < 10 ∧ 1 < nflds 3 ∧ isRefT (fldT 3 1) = true ∧ (fldN 3 1).2.2.2 = true := by decide +kernel
theorem fd3_2 : 3 < 10 ∧ 2 < nflds 3 ∧ isRefT (fldT 3 2) = false ∧ (fldN 3 2).2.2.2 = false ∧ fldT 3 2 = .int := by decide +kernel
theorem fd3_3 : 3 < 10 ∧ 3 < nflds 3 ∧ isRefT (fldT 3 3) = false ∧ (fldN 3 3).2.2.2 = false ∧ fldT 3 3 = .int := by decide +kernel
theorem fd3_4 : 3 < 10 ∧ 4 < nflds 3 ∧ isRefT (fldT 3 4) = false ∧ (fldN 3 4).2.2.2 = false ∧ fldT 3 4 = .boolean := by decide +kernel
theorem fd3_5 : 3 < 10 ∧ 5 < nflds 3 ∧ isRefT (fldT 3 5) = false ∧ (fldN 3 5).2.2.2 = false ∧ fldT 3 5 = .boolean := by decide +kernel
theorem fd4_0 : 4 < 10 ∧ 0 < nflds 4 ∧ isRefT (fldT 4 0) = true ∧ (fldN 4 0).2.2.2 = false := by decide +kernel
theorem fd4_1 : 4 < 10 ∧ 1 < nflds 4 ∧ isRefT (fldT 4 1) = true ∧ (fldN 4 1).2.2.2 = false := by decide +kernel
theorem fd4_2 : 4 < 10 ∧ 2 < nflds 4 ∧ isRefT (fldT 4 2) = false ∧ (fldN 4 2).2.2.2 = false ∧ fldT 4 2 = .int := by decide +kernel
theorem fd4_3 : 4 < 10 ∧ 3 < nflds 4 ∧ isRefT (fldT 4 3) = false ∧ (fldN 4 3).2.2.2 = false ∧ fldT 4 3 = .int := by decide +kernel
theorem fd4_4 : 4 < 10 ∧ 4 < nflds 4 ∧ isRefT (fldT 4 4) = false ∧ (fldN 4 4).2.2.2 = false ∧ fldT 4 4 = .int := by decide +kernel
theorem fd5_0 : 5 < 10 ∧ 0 < nflds 5 ∧ isRefT (fldT 5 0) = true ∧ (fldN 5 0).2.2.2 = true := by decide +kernel
theorem fd5_1 : 5 < 10 ∧ 1 < nflds 5 ∧ isRefT (fldT 5 1) = true ∧ (fldN 5 1).2.2.2 = true := by decide +kernel
theorem fd5_2 : 5 < 10 ∧ 2 < nflds 5 ∧ isRefT (fldT 5 2) = true ∧ (fldN 5 2).2.2.2 = true := by decide +kernel
theorem fd5_3 : 5 < 10 ∧ 3 < nflds 5 ∧ isRefT (fldT 5 3) = false ∧ (fldN 5 3).2.2.2 = true ∧ fldT 5 3 = .int := by decide +kernel
theorem fd5_4 : 5 < 10 ∧ 4 < nflds 5 ∧ isRefT (fldT 5 4) = false ∧ (fldN 5 4).2.2.2 = false ∧ fldT 5 4 = .int := by decide +kernel
theorem fd6_0 : 6 < 10 ∧ 0 < nflds 6 ∧ isRefT (fldT 6 0) = true ∧ (fldN 6 0).2.2.2 = true := by decide +kernel
theorem fd6_1 : 6 < 10 ∧ 1 < nflds 6 ∧ isRefT (fldT 6 1) = true ∧ (fldN 6 1).2.2.2 = true := by decide +kernel
theorem fd6_2 : 6 < 10 ∧ 2 < nflds 6 ∧ isRefT (fldT 6 2) = true ∧ (fldN 6 2).2.2.2 = true := by decide +kernel
theorem fd6_3 : 6 < 10 ∧ 3 < nflds 6 ∧ isRefT (fldT 6 3) = true ∧ (fldN 6 3).2.2.2 = true := by decide +kernel
theorem fd6_4 : 6 < 10 ∧ 4 < nflds 6 ∧ isRefT (fldT 6 4) = true ∧ (fldN 6 4).2.2.2 = true := by decide +kernel
theorem fd6_5 : 6 < 10 ∧ 5 < nflds 6 ∧ isRefT (fldT 6 5) = true ∧ (fldN 6 5).2.2.2 = true := by decide +kernel
theorem fd6_6 : 6 < 10 ∧ 6 < nflds 6 ∧ isRefT (fldT 6 6) = true ∧ (fldN 6 6).2.2.2 = true := by decide +kernel
theorem fd6_7 : 6 < 10 ∧ 7 < nflds 6 ∧ isRefT (fldT 6 7) = true ∧ (fldN 6 7).2.2.2 = true := by decide +kernel
theorem fd6_8 : 6 < 10 ∧ 8 < nflds 6 ∧ isRefT (fldT 6 8) = true ∧ (fldN 6 8).2.2.2 = true := by decide +kernel
theorem fd6_9 : 6 < 10 ∧ 9 < nflds 6 ∧ isRefT (fldT 6 9) = true ∧ (fldN 6 9).2.2.2 = true := by decide +kernel
theorem fd6_10 : 6 < 10 ∧ 10 < nflds 6 ∧ isRefT (fldT 6 10) = false ∧ (fldN 6 10).2.2.2 = false ∧ fldT 6 10 = .int := by decide +kernel
theorem fd6_11 : 6 < 10 ∧ 11 < nflds 6 ∧ isRefT (fldT 6 11) = false ∧ (fldN 6 11).2.2.2 = false ∧ fldT 6 11 = .int := by decide +kernel
theorem fd6_12 : 6 < 10 ∧ 12 < nflds 6 ∧ isRefT (fldT 6 12) = false ∧ (fldN 6 12).2.2.2 = false ∧ fldT 6 12 = .int := by decide +kernel
theorem fd6_13 : 6 < 10 ∧ 13 < nflds 6 ∧ isRefT (fldT 6 13) = true ∧ (fldN 6 13).2.2.2 = false := by decide +kernel
theorem fd7_0 : 7 < 10 ∧ 0 < nflds 7 ∧ isRefT (fldT 7 0) = true ∧ (fldN 7 0).2.2.2 = true := by decide +kernel
theorem fd7_1 : 7 < 10 ∧ 1 < nflds 7 ∧ isRefT (fldT 7 1) = false ∧ (fldN 7 1).2.2.2 = false ∧ fldT 7 1 = .int := by decide +kernel
theorem fd7_2 : 7 < 10 ∧ 2 < nflds 7 ∧ isRefT (fldT 7 2) = false ∧ (fldN 7 2).2.2.2 = false ∧ fldT 7 2 = .int := by decide +kernel
theorem fd8_0 : 8 < 10 ∧ 0 < nflds 8 ∧ isRefT (fldT 8 0) = true ∧ (fldN 8 0).2.2.2 = true := by decide +kernel
theorem fd8_1 : 8 < 10 ∧ 1 < nflds 8 ∧ isRefT (fldT 8 1) = true ∧ (fldN 8 1).2.2.2 = true := by decide +kernel
theorem fd8_2 : 8 < 10 ∧ 2 < nflds 8 ∧ isRefT (fldT 8 2) = false ∧ (fldN 8 2).2.2.2 = false ∧ fldT 8 2 = .boolean := by decide +kernel
theorem fd8_3 : 8 < 10 ∧ 3 < nflds 8 ∧ isRefT (fldT 8 3) = true ∧ (fldN 8 3).2.2.2 = true := by decide +kernel
theorem fd8_4 : 8 < 10 ∧ 4 < nflds 8 ∧ isRefT (fldT 8 4) = true ∧ (fldN 8 4).2.2.2 = true := by decide +kernel
theorem fd8_5 : 8 < 10 ∧ 5 < nflds 8 ∧ isRefT (fldT 8 5) = false ∧ (fldN 8 5).2.2.2 = false ∧ fldT 8 5 = .int := by decide +kernel
theorem fd8_6 : 8 < 10 ∧ 6 < nflds 8 ∧ isRefT (fldT 8 6) = true ∧ (fldN 8 6).2.2.2 = true := by decide +kernel
theorem fd8_7 : 8 < 10 ∧ 7 < nflds 8 ∧ isRefT (fldT 8 7) = false ∧ (fldN 8 7).2.2.2 = false ∧ fldT 8 7 = .int := by decide +kernel
theorem fd8_8 : 8 < 10 ∧ 8 < nflds 8 ∧ isRefT (fldT 8 8) = true ∧ (fldN 8 8).2.2.2 = true := by decide +kernel
theorem fd8_9 : 8 < 10 ∧ 9 < nflds 8 ∧ isRefT (fldT 8 9) = true ∧ (fldN 8 9).2.2.2 = true := by decide +kernel
theorem fd8_10 : 8 < 10 ∧ 10 < nflds 8 ∧ isRefT (fldT 8 10) = true ∧ (fldN 8 10).2.2.2 = true := by decide +kernel
theorem fd8_11 : 8 < 10 ∧ 11 < nflds 8 ∧ isRefT (fldT 8 11) = true ∧ (fldN 8 11).2.2.2 = true := by decide +kernel
theorem fd9_0 : 9 < 10 ∧ 0 < nflds 9 ∧ isRefT (fldT 9 0) = false ∧ (fldN 9 0).2.2.2 = false ∧ fldT 9 0 = .int := by decide +kernel
theorem fd9_1 : 9 < 10 ∧ 1 < nflds 9 ∧ isRefT (fldT 9 1) = false ∧ (fldN 9 1).2.2.2 = false ∧ fldT 9 1 = .int := by decide +kernel
theorem fd9_2 : 9 < 10 ∧ 2 < nflds 9 ∧ isRefT (fldT 9 2) = false ∧ (fldN 9 2).2.2.2 = false ∧ fldT 9 2 = .int := by decide +kernel
theorem fd9_3 : 9 < 10 ∧ 3 < nflds 9 ∧ isRefT (fldT 9 3) = false ∧ (fldN 9 3).2.2.2 = false ∧ fldT 9 3 = .int := by decide +kernel
theorem fd9_4 : 9 < 10 ∧ 4 < nflds 9 ∧ isRefT (fldT 9 4) = false ∧ (fldN 9 4).2.2.2 = false ∧ fldT 9 4 = .int := by decide +kernel
theorem fd9_5 : 9 < 10 ∧ 5 < nflds 9 ∧ isRefT (fldT 9 5) = true ∧ (fldN 9 5).2.2.2 = true := by decide +kernel
theorem fd9_6 : 9 < 10 ∧ 6 < nflds 9 ∧ isRefT (fldT 9 6) = true ∧ (fldN 9 6).2.2.2 = true := by decide +kernel
theorem fd9_7 : 9 < 10 ∧ 7 < nflds 9 ∧ isRefT (fldT 9 7) = true ∧ (fldN 9 7).2.2.2 = true := by decide +kernel
theorem fd9_8 : 9 < 10 ∧ 8 < nflds 9 ∧ isRefT (fldT 9 8) = true ∧ (fldN 9 8).2.2.2 = true := by decide +kernel
theorem fd9_9 : 9 < 10 ∧ 9 < nflds 9 ∧ isRefT (fldT 9 9) = true ∧ (fldN 9 9).2.2.2 = true := by decide +kernel
theorem fd9_10 : 9 < 10 ∧ 10 < nflds 9 ∧ isRefT (fldT 9 10) = false ∧ (fldN 9 10).2.2.2 = false ∧ fldT 9 10 = .int := by decide +kernel
theorem fd9_11 : 9 < 10 ∧ 11 < nflds 9 ∧ isRefT (fldT 9 11) = false ∧ (fldN 9 11).2.2.2 = false ∧ fldT 9 11 = .int := by decide +kernel
theorem fd9_12 : 9 < 10 ∧ 12 < nflds 9 ∧ isRefT (fldT 9 12) = false ∧ (fldN 9 12).2.2.2 = false ∧ fldT 9 12 = .int := by decide +kernel
theorem fd9_13 : 9 < 10 ∧ 13 < nflds 9 ∧ isRefT (fldT 9 13) = false ∧ (fldN 9 13).2.2.2 = false ∧ fldT 9 13 = .int := by decide +kernel
theorem fd9_14 : 9 < 10 ∧ 14 < nflds 9 ∧ isRefT (fldT 9 14) = false ∧ (fldN 9 14).2.2.2 = false ∧ fldT 9 14 = .int := by decide +kernel
theorem fd9_15 : 9 < 10 ∧ 15 < nflds 9 ∧ isRefT (fldT 9 15) = true ∧ (fldN 9 15).2.2.2 = true := by decide +kernel
theorem fd9_16 : 9 < 10 ∧ 16 < nflds 9 ∧ isRefT (fldT 9 16) = true ∧ (fldN 9 16).2.2.2 = true := by decide +kernel
theorem fd9_17 : 9 < 10 ∧ 17 < nflds 9 ∧ isRefT (fldT 9 17) = true ∧ (fldN 9 17).2.2.2 = true := by decide +kernel
theorem fd9_18 : 9 < 10 ∧ 18 < nflds 9 ∧ isRefT (fldT 9 18) = true ∧ (fldN 9 18).2.2.2 = true := by decide +kernel
theorem fd9_19 : 9 < 10 ∧ 19 < nflds 9 ∧ isRefT (fldT 9 19) = true ∧ (fldN 9 19).2.2.2 = true := by decide +kernel
theorem fd9_20 : 9 < 10 ∧ 20 < nflds 9 ∧ isRefT (fldT 9 20) = true ∧ (fldN 9 20).2.2.2 = true := by decide +kernel
theorem fd9_21 : 9 < 10 ∧ 21 < nflds 9 ∧ isRefT (fldT 9 21) = true ∧ (fldN 9 21).2.2.2 = true := by decide +kernel
theorem fd9_22 : 9 < 10 ∧ 22 < nflds 9 ∧ isRefT (fldT 9 22) = true ∧ (fldN 9 22).2.2.2 = true := by decide +kernel
theorem fd9_23 : 9 < 10 ∧ 23 < nflds 9 ∧ isRefT (fldT 9 23) = false ∧ (fldN 9 23).2.2.2 = false ∧ fldT 9 23 = .int := by decide +kernel
theorem fd9_24 : 9 < 10 ∧ 24 < nflds 9 ∧ isRefT (fldT 9 24) = false ∧ (fldN 9 24).2.2.2 = false ∧ fldT 9 24 = .int := by decide +kernel
theorem fd9_25 : 9 < 10 ∧ 25 < nflds 9 ∧ isRefT (fldT 9 25) = false ∧ (fldN 9 25).2.2.2 = false ∧ fldT 9 25 = .int := by decide +kernel
theorem fd9_26 : 9 < 10 ∧ 26 < nflds 9 ∧ isRefT (fldT 9 26) = true ∧ (fldN 9 26).2.2.2 = true := by decide +kernel
theorem fd9_27 : 9 < 10 ∧ 27 < nflds 9 ∧ isRefT (fldT 9 27) = true ∧ (fldN 9 27).2.2.2 = true := by decide +kernel
theorem fd9_28 : 9 < 10 ∧ 28 < nflds 9 ∧ isRefT (fldT 9 28) = true ∧ (fldN 9 28).2.2.2 = true := by decide +kernel
theorem fd9_29 : 9 < 10 ∧ 29 < nflds 9 ∧ isRefT (fldT 9 29) = false ∧ (fldN 9 29).2.2.2 = false ∧ fldT 9 29 = .int := by decide +kernel
theorem fd9_30 : 9 < 10 ∧ 30 < nflds 9 ∧ isRefT (fldT 9 30) = false ∧ (fldN 9 30).2.2.2 = false ∧ fldT 9 30 = .int := by decide +kernel
theorem fd9_31 : 9 < 10 ∧ 31 < nflds 9 ∧ isRefT (fldT 9 31) = false ∧ (fldN 9 31).2.2.2 = false ∧ fldT 9 31 = .int := by decide +kernel
theorem fd9_32 : 9 < 10 ∧ 32 < nflds 9 ∧ isRefT (fldT 9 32) = false ∧ (fldN 9 32).2.2.2 = false ∧ fldT 9 32 = .int := by decide +kernel
theorem fd9_33 : 9 < 10 ∧ 33 < nflds 9 ∧ isRefT (fldT 9 33) = false ∧ (fldN 9 33).2.2.2 = false ∧ fldT 9 33 = .int := by decide +kernel
theorem fd9_34 : 9 < 10 ∧ 34 < nflds 9 ∧ isRefT (fldT 9 34) = true ∧ (fldN 9 34).2.2.2 = true := by decide +kernel
theorem fd9_35 : 9 < 10 ∧ 35 < nflds 9 ∧ isRefT (fldT 9 35) = true ∧ (fldN 9 35).2.2.2 = true := by decide +kernel
theorem fd9_36 : 9 < 10 ∧ 36 < nflds 9 ∧ isRefT (fldT 9 36) = true ∧ (fldN 9 36).2.2.2 = true := by decide +kernel
theorem fd9_37 : 9 < 10 ∧ 37 < nflds 9 ∧ isRefT (fldT 9 37) = false ∧ (fldN 9 37).2.2.2 = false ∧ fldT 9 37 = .int := by decide +kernel
theorem fd9_38 : 9 < 10 ∧ 38 < nflds 9 ∧ isRefT (fldT 9 38) = false ∧ (fldN 9 38).2.2.2 = false ∧ fldT 9 38 = .int := by decide +kernel
theorem fd9_39 : 9 < 10 ∧ 39 < nflds 9 ∧ isRefT (fldT 9 39) = false ∧ (fldN 9 39).2.2.2 = false ∧ fldT 9 39 = .int := by decide +kernel
theorem fd9_40 : 9 < 10 ∧ 40 < nflds 9 ∧ isRefT (fldT 9 40) = true ∧ (fldN 9 40).2.2.2 = true := by decide +kernel
theorem fd9_41 : 9 < 10 ∧ 41 < nflds 9 ∧ isRefT (fldT 9 41) = true ∧ (fldN 9 41).2.2.2 = true := by decide +kernel
theorem fd9_42 : 9 < 10 ∧ 42 < nflds 9 ∧ isRefT (fldT 9 42) = true ∧ (fldN 9 42).2.2.2 = true := by decide +kernel
theorem fd9_43 : 9 < 10 ∧ 43 < nflds 9 ∧ isRefT (fldT 9 43) = true ∧ (fldN 9 43).2.2.2 = true := by decide +kernel
theorem fd9_44 : 9 < 10 ∧ 44 < nflds 9 ∧ isRefT (fldT 9 44) = false ∧ (fldN 9 44).2.2.2 = false ∧ fldT 9 44 = .int := by decide +kernel
theorem fd9_45 : 9 < 10 ∧ 45 < nflds 9 ∧ isRefT (fldT 9 45) = false ∧ (fldN 9 45).2.2.2 = false ∧ fldT 9 45 = .int := by decide +kernel
theorem fd9_46 : 9 < 10 ∧ 46 < nflds 9 ∧ isRefT (fldT 9 46) = true ∧ (fldN 9 46).2.2.2 = true := by decide +kernel
theorem fd9_47 : 9 < 10 ∧ 47 < nflds 9 ∧ isRefT (fldT 9 47) = true ∧ (fldN 9 47).2.2.2 = true := by decide +kernel
theorem fd9_48 : 9 < 10 ∧ 48 < nflds 9 ∧ isRefT (fldT 9 48) = true ∧ (fldN 9 48).2.2.2 = true := by decide +kernel
theorem fd9_49 : 9 < 10 ∧ 49 < nflds 9 ∧ isRefT (fldT 9 49) = true ∧ (fldN 9 49).2.2.2 = true := by decide +kernel
theorem fd9_50 : 9 < 10 ∧ 50 < nflds 9 ∧ isRefT (fldT 9 50) = false ∧ (fldN 9 50).2.2.2 = false ∧ fldT 9 50 = .boolean := by decide +kernel
theorem fd9_51 : 9 < 10 ∧ 51 < nflds 9 ∧ isRefT (fldT 9 51) = false ∧ (fldN 9 51).2.2.2 = false ∧ fldT 9 51 = .int := by decide +kernel
theorem fd9_52 : 9 < 10 ∧ 52 < nflds 9 ∧ isRefT (fldT 9 52) = false ∧ (fldN 9 52).2.2.2 = false ∧ fldT 9 52 = .int := by decide +kernel
theorem fd9_53 : 9 < 10 ∧ 53 < nflds 9 ∧ isRefT (fldT 9 53) = false ∧ (fldN 9 53).2.2.2 = false ∧ fldT 9 53 = .int := by decide +kernel
theorem fd9_54 : 9 < 10 ∧ 54 < nflds 9 ∧ isRefT (fldT 9 54) = false ∧ (fldN 9 54).2.2.2 = false ∧ fldT 9 54 = .int := by decide +kernel
theorem fd9_55 : 9 < 10 ∧ 55 < nflds 9 ∧ isRefT (fldT 9 55) = false ∧ (fldN 9 55).2.2.2 = false ∧ fldT 9 55 = .int := by decide +kernel
theorem fd9_56 : 9 < 10 ∧ 56 < nflds 9 ∧ isRefT (fldT 9 56) = false ∧ (fldN 9 56).2.2.2 = false ∧ fldT 9 56 = .int := by decide +kernel
theorem fd9_57 : 9 < 10 ∧ 57 < nflds 9 ∧ isRefT (fldT 9 57) = false ∧ (fldN 9 57).2.2.2 = false ∧ fldT 9 57 = .int := by decide +kernel
theorem fd9_58 : 9 < 10 ∧ 58 < nflds 9 ∧ isRefT (fldT 9 58) = false ∧ (fldN 9 58).2.2.2 = false ∧ fldT 9 58 = .int := by decide +kernel
theorem fd9_59 : 9 < 10 ∧ 59 < nflds 9 ∧ isRefT (fldT 9 59) = false ∧ (fldN 9 59).2.2.2 = false ∧ fldT 9 59 = .int := by decide +kernel
theorem fd9_60 : 9 < 10 ∧ 60 < nflds 9 ∧ isRefT (fldT 9 60) = true ∧ (fldN 9 60).2.2.2 = true := by decide +kernel
theorem fd9_61 : 9 < 10 ∧ 61 < nflds 9 ∧ isRefT (fldT 9 61) = true ∧ (fldN 9 61).2.2.2 = true := by decide +kernel
theorem fd9_62 : 9 < 10 ∧ 62 < nflds 9 ∧ isRefT (fldT 9 62) = true ∧ (fldN 9 62).2.2.2 = true := by decide +kernel
theorem fd9_63 : 9 < 10 ∧ 63 < nflds 9 ∧ isRefT (fldT 9 63) = true ∧ (fldN 9 63).2.2.2 = true := by decide +kernel
theorem fd9_64 : 9 < 10 ∧ 64 < nflds 9 ∧ isRefT (fldT 9 64) = true ∧ (fldN 9 64).2.2.2 = true := by decide +kernel
theorem fd9_65 : 9 < 10 ∧ 65 < nflds 9 ∧ isRefT (fldT 9 65) = true ∧ (fldN 9 65).2.2.2 = true := by decide +kernel
theorem fd9_66 : 9 < 10 ∧ 66 < nflds 9 ∧ isRefT (fldT 9 66) = true ∧ (fldN 9 66).2.2.2 = true := by decide +kernel
theorem fd9_67 : 9 < 10 ∧ 67 < nflds 9 ∧ isRefT (fldT 9 67) = true ∧ (fldN 9 67).2.2.2 = true := by decide +kernel
theorem fd9_68 : 9 < 10 ∧ 68 < nflds 9 ∧ isRefT (fldT 9 68) = true ∧ (fldN 9 68).2.2.2 = true := by decide +kernel
theorem fd9_69 : 9 < 10 ∧ 69 < nflds 9 ∧ isRefT (fldT 9 69) = true ∧ (fldN 9 69).2.2.2 = true := by decide +kernel
theorem fd9_70 : 9 < 10 ∧ 70 < nflds 9 ∧ isRefT (fldT 9 70) = true ∧ (fldN 9 70).2.2.2 = true := by decide +kernel
theorem fd9_71 : 9 < 10 ∧ 71 < nflds 9 ∧ isRefT (fldT 9 71) = true ∧ (fldN 9 71).2.2.2 = true := by decide +kernel
theorem fd9_72 : 9 < 10 ∧ 72 < nflds 9 ∧ isRefT (fldT 9 72) = false ∧ (fldN 9 72).2.2.2 = false ∧ fldT 9 72 = .int := by decide +kernel
theorem fd9_73 : 9 < 10 ∧ 73 < nflds 9 ∧ isRefT (fldT 9 73) = true ∧ (fldN 9 73).2.2.2 = true := by decide +kernel
theorem fd9_74 : 9 < 10 ∧ 74 < nflds 9 ∧ isRefT (fldT 9 74) = true ∧ (fldN 9 74).2.2.2 = true := by decide +kernel
theorem fd9_75 : 9 < 10 ∧ 75 < nflds 9 ∧ isRefT (fldT 9 75) = true ∧ (fldN 9 75).2.2.2 = true := by decide +kernel
theorem fd9_76 : 9 < 10 ∧ 76 < nflds 9 ∧ isRefT (fldT 9 76) = true ∧ (fldN 9 76).2.2.2 = true := by decide +kernel
theorem fd9_77 : 9 < 10 ∧ 77 < nflds 9 ∧ isRefT (fldT 9 77) = true ∧ (fldN 9 77).2.2.2 = true := by decide +kernel
theorem w_oi : Cond.instanceMethod Lib.objectInit ∈ wsA := mT1 24 rfl rfl
theorem w_oc : Cond.code Lib.objectInit ⟨#[0xb1]⟩ 1 none ∈ wsA := mT1 25 rfl rfl
theorem w_mmaxs : Cond.static Lib.Math.max.name ∈ wsA := mT3 211 rfl rfl
theorem w_mmaxc : Cond.code Lib.Math.max.name Lib.Math.max.code 2 (some .int) ∈ wsA := mT3 212 rfl rfl
theorem w_mmins : Cond.static Lib.Math.min.name ∈ wsA := mT2 201 rfl rfl
theorem w_mminc : Cond.code Lib.Math.min.name Lib.Math.min.code 2 (some .int) ∈ wsA := mT2 202 rfl rfl
theorem w_acn : Cond.native arraycopyName ∈ wsA := mT3 136 rfl rfl
theorem w_acs : Cond.static arraycopyName ∈ wsA := mT3 135 rfl rfl
theorem w_ini_LeavesRoomLaw : Cond.initialized "LeavesRoomLaw" ∈ wsA := mT1 0 rfl rfl
theorem w_ini_LeavesRoom : Cond.initialized "LeavesRoom" ∈ wsA := mT1 1 rfl rfl
theorem w_ini_LeavesRoom_Reader : Cond.initialized "LeavesRoom$Reader" ∈ wsA := mT1 2 rfl rfl
theorem w_ini_LeavesRoom_Acts : Cond.initialized "LeavesRoom$Acts" ∈ wsA := mT1 3 rfl rfl
theorem w_ini_LeavesRoom_House : Cond.initialized "LeavesRoom$House" ∈ wsA := mT1 4 rfl rfl
theorem w_ini_LeavesRoom_Evening : Cond.initialized "LeavesRoom$Evening" ∈ wsA := mT1 5 rfl rfl
theorem w_ini_LeavesRoom_Rows : Cond.initialized "LeavesRoom$Rows" ∈ wsA := mT1 6 rfl rfl
theorem w_ini_LeavesRoom_Table : Cond.initialized "LeavesRoom$Table" ∈ wsA := mT1 7 rfl rfl
theorem w_ini_LeavesRoom_Placings : Cond.initialized "LeavesRoom$Placings" ∈ wsA := mT1 8 rfl rfl
theorem w_ini_LeavesRoom_Tape : Cond.initialized "LeavesRoom$Tape" ∈ wsA := mT1 9 rfl rfl
theorem w_ini_LeavesRoomModel : Cond.initialized "LeavesRoomModel" ∈ wsA := mT1 10 rfl rfl
theorem w_ini_java_lang_Integer : Cond.initialized "java/lang/Integer" ∈ wsA := mT1 11 rfl rfl
theorem w_ini_java_lang_Math : Cond.initialized "java/lang/Math" ∈ wsA := mT1 12 rfl rfl
theorem w_ini_java_lang_String : Cond.initialized "java/lang/String" ∈ wsA := mT1 13 rfl rfl
theorem w_ini_java_lang_StringLatin1 : Cond.initialized "java/lang/StringLatin1" ∈ wsA := mT1 14 rfl rfl
theorem w_ini_jdk_internal_util_Preconditions : Cond.initialized "jdk/internal/util/Preconditions" ∈ wsA := mT1 15 rfl rfl
theorem w_ini_java_lang_StringUTF16 : Cond.initialized "java/lang/StringUTF16" ∈ wsA := mT1 16 rfl rfl
theorem w_ini_java_lang_System : Cond.initialized "java/lang/System" ∈ wsA := mT1 17 rfl rfl
theorem w_ins_8 : Cond.instantiable (clsN 8) (nflds 8) ∈ wsA := mT1 19 rfl rfl
theorem w_ao_2 : Cond.arrayOver (.object (clsN 2)) ∈ nestW := nT1 27 rfl rfl
theorem w_ins_4 : Cond.instantiable (clsN 4) (nflds 4) ∈ wsA := mT1 29 rfl rfl
theorem w_ac_byte : Cond.arrayClass .byte ∈ wsA := mT1 50 rfl rfl
theorem w_ins_0 : Cond.instantiable (clsN 0) (nflds 0) ∈ wsA := mT1 52 rfl rfl
theorem w_ac_int : Cond.arrayClass .int ∈ wsA := mT1 75 rfl rfl
theorem w_ao_7 : Cond.arrayOver (.object (clsN 7)) ∈ nestW := nT1 77 rfl rfl
theorem w_ins_2 : Cond.instantiable (clsN 2) (nflds 2) ∈ wsA := mT1 78 rfl rfl
theorem w_ins_1 : Cond.instantiable (clsN 1) (nflds 1) ∈ wsA := mT1 116 rfl rfl
theorem w_ins_5 : Cond.instantiable (clsN 5) (nflds 5) ∈ wsA := mT1 122 rfl rfl
theorem w_ins_6 : Cond.instantiable (clsN 6) (nflds 6) ∈ wsA := mT1 148 rfl rfl
theorem w_ac_boolean : Cond.arrayClass .boolean ∈ wsA := mT1 211 rfl rfl
theorem w_ins_3 : Cond.instantiable (clsN 3) (nflds 3) ∈ wsA := mT1 232 rfl rfl
theorem w_ins_7 : Cond.instantiable (clsN 7) (nflds 7) ∈ wsA := mT2 19 rfl rfl
theorem w_ac_long : Cond.arrayClass .long ∈ wsA := mT2 36 rfl rfl
theorem w_ins_9 : Cond.instantiable (clsN 9) (nflds 9) ∈ wsA := mT4 124 rfl rfl
theorem nmh_RJ0 : RJ0 ≠ "java/lang/invoke/MethodHandle" ∧ RJ0 ≠ "java/lang/invoke/VarHandle" := by decide +kernel
theorem nmh_RJ1 : RJ1 ≠ "java/lang/invoke/MethodHandle" ∧ RJ1 ≠ "java/lang/invoke/VarHandle" := by decide +kernel
theorem nmh_RJ2 : RJ2 ≠ "java/lang/invoke/MethodHandle" ∧ RJ2 ≠ "java/lang/invoke/VarHandle" := by decide +kernel
theorem nmh_RJ3 : RJ3 ≠ "java/lang/invoke/MethodHandle" ∧ RJ3 ≠ "java/lang/invoke/VarHandle" := by decide +kernel
theorem nmh_RJ6 : RJ6 ≠ "java/lang/invoke/MethodHandle" ∧ RJ6 ≠ "java/lang/invoke/VarHandle" := by decide +kernel
theorem nmh_RJ9 : RJ9 ≠ "java/lang/invoke/MethodHandle" ∧ RJ9 ≠ "java/lang/invoke/VarHandle" := by decide +kernel
theorem nmh_RL : RL ≠ "java/lang/invoke/MethodHandle" ∧ RL ≠ "java/lang/invoke/VarHandle" := by decide +kernel
theorem nmh_RX0 : RX0 ≠ "java/lang/invoke/MethodHandle" ∧ RX0 ≠ "java/lang/invoke/VarHandle" := by decide +kernel
theorem nmh_RX1 : RX1 ≠ "java/lang/invoke/MethodHandle" ∧ RX1 ≠ "java/lang/invoke/VarHandle" := by decide +kernel
theorem nmh_RX2 : RX2 ≠ "java/lang/invoke/MethodHandle" ∧ RX2 ≠ "java/lang/invoke/VarHandle" := by decide +kernel
theorem nmh_RX3 : RX3 ≠ "java/lang/invoke/MethodHandle" ∧ RX3 ≠ "java/lang/invoke/VarHandle" := by decide +kernel
theorem nmh_RX4 : RX4 ≠ "java/lang/invoke/MethodHandle" ∧ RX4 ≠ "java/lang/invoke/VarHandle" := by decide +kernel
theorem nmh_RX5 : RX5 ≠ "java/lang/invoke/MethodHandle" ∧ RX5 ≠ "java/lang/invoke/VarHandle" := by decide +kernel
theorem nmh_RX6 : RX6 ≠ "java/lang/invoke/MethodHandle" ∧ RX6 ≠ "java/lang/invoke/VarHandle" := by decide +kernel
theorem nmh_RX7 : RX7 ≠ "java/lang/invoke/MethodHandle" ∧ RX7 ≠ "java/lang/invoke/VarHandle" := by decide +kernel
theorem nmh_RX8 : RX8 ≠ "java/lang/invoke/MethodHandle" ∧ RX8 ≠ "java/lang/invoke/VarHandle" := by decide +kernel
theorem nmh_RX9 : RX9 ≠ "java/lang/invoke/MethodHandle" ∧ RX9 ≠ "java/lang/invoke/VarHandle" := by decide +kernel
end
section
theorem ky_X0_init : kY mX0_init 0 := ⟨mT1 55 rfl rfl, w_ini_LeavesRoom_Acts, ⟨nmh_RX0.1, nmh_RX0.2, by decide +kernel⟩, by decide⟩
theorem kt_X0_init : Cond.instanceMethod mX0_init.1 ∈ wsA := mT1 54 rfl rfl
theorem ky_X0_forget : kY mX0_forget 0 := ⟨mT4 53 rfl rfl, w_ini_LeavesRoom_Acts, ⟨nmh_RX0.1, nmh_RX0.2, by decide +kernel⟩, by decide⟩
theorem kt_X0_forget : Cond.instanceMethod mX0_forget.1 ∈ wsA := mT4 51 rfl rfl
theorem ks_X0_forget : Cond.selects mX0_forget.1.cls mX0_forget.1 mX0_forget.1 ∈ wsA := mT4 52 rfl rfl
theorem ky_X0_kept : kY mX0_kept 0 := ⟨mT4 82 rfl rfl, w_ini_LeavesRoom_Acts, ⟨nmh_RX0.1, nmh_RX0.2, by decide +kernel⟩, by decide⟩
theorem kt_X0_kept : Cond.instanceMethod mX0_kept.1 ∈ wsA := mT4 80 rfl rfl
theorem ks_X0_kept : Cond.selects mX0_kept.1.cls mX0_kept.1 mX0_kept.1 ∈ wsA := mT4 81 rfl rfl
theorem ky_X0_begin : kY mX0_begin 5 := ⟨mT4 57 rfl rfl, w_ini_LeavesRoom_Acts, ⟨nmh_RX0.1, nmh_RX0.2, by decide +kernel⟩, by decide⟩
theorem kt_X0_begin : Cond.instanceMethod mX0_begin.1 ∈ wsA := mT4 55 rfl rfl
theorem ks_X0_begin : Cond.selects mX0_begin.1.cls mX0_begin.1 mX0_begin.1 ∈ wsA := mT4 56 rfl rfl
theorem ky_X0_own : kY mX0_own 3 := ⟨mT4 62 rfl rfl, w_ini_LeavesRoom_Acts, ⟨nmh_RX0.1, nmh_RX0.2, by decide +kernel⟩, by decide⟩
theorem kt_X0_own : Cond.instanceMethod mX0_own.1 ∈ wsA := mT4 61 rfl rfl
theorem ks_X0_own : Cond.selects mX0_own.1.cls mX0_own.1 mX0_own.1 ∈ wsA := mem_P 25 rfl rfl
theorem ky_X0_from : kY mX0_from 4 := ⟨mT4 66 rfl rfl, w_ini_LeavesRoom_Acts, ⟨nmh_RX0.1, nmh_RX0.2, by decide +kernel⟩, by decide⟩
theorem kt_X0_from : Cond.instanceMethod mX0_from.1 ∈ wsA := mT4 65 rfl rfl
theorem ks_X0_from : Cond.selects mX0_from.1.cls mX0_from.1 mX0_from.1 ∈ wsA := mem_P 26 rfl rfl
theorem ky_X0_runBody : kY mX0_runBody 3 := ⟨mT4 74 rfl rfl, w_ini_LeavesRoom_Acts, ⟨nmh_RX0.1, nmh_RX0.2, by decide +kernel⟩, by decide⟩
theorem kt_X0_runBody : Cond.instanceMethod mX0_runBody.1 ∈ wsA := mT4 73 rfl rfl
theorem ks_X0_runBody : Cond.selects mX0_runBody.1.cls mX0_runBody.1 mX0_runBody.1 ∈ wsA := mem_P 27 rfl rfl
theorem ky_X1_init : kY mX1_init 1 := ⟨mT1 119 rfl rfl, w_ini_LeavesRoom_Evening, ⟨nmh_RX1.1, nmh_RX1.2, by decide +kernel⟩, by decide⟩
theorem kt_X1_init : Cond.instanceMethod mX1_init.1 ∈ wsA := mT1 118 rfl rfl
theorem ky_X1_copyFrom : kY mX1_copyFrom 1 := ⟨mT4 35 rfl rfl, w_ini_LeavesRoom_Evening, ⟨nmh_RX1.1, nmh_RX1.2, by decide +kernel⟩, by decide⟩
theorem kt_X1_copyFrom : Cond.instanceMethod mX1_copyFrom.1 ∈ wsA := mT4 33 rfl rfl
theorem ks_X1_copyFrom : Cond.selects mX1_copyFrom.1.cls mX1_copyFrom.1 mX1_copyFrom.1 ∈ wsA := mT4 34 rfl rfl
theorem ky_X2_init : kY mX2_init 0 := ⟨mT1 81 rfl rfl, w_ini_LeavesRoom_House, ⟨nmh_RX2.1, nmh_RX2.2, by decide +kernel⟩, by decide⟩
theorem kt_X2_init : Cond.instanceMethod mX2_init.1 ∈ wsA := mT1 80 rfl rfl
theorem ky_X2_clear : kY mX2_clear 0 := ⟨mT2 206 rfl rfl, w_ini_LeavesRoom_House, ⟨nmh_RX2.1, nmh_RX2.2, by decide +kernel⟩, by decide⟩
theorem kt_X2_clear : Cond.instanceMethod mX2_clear.1 ∈ wsA := mT2 204 rfl rfl
theorem ks_X2_clear : Cond.selects mX2_clear.1.cls mX2_clear.1 mX2_clear.1 ∈ wsA := mT2 205 rfl rfl
theorem ky_X2_addStep : kY mX2_addStep 1 := ⟨mT3 58 rfl rfl, w_ini_LeavesRoom_House, ⟨nmh_RX2.1, nmh_RX2.2, by decide +kernel⟩, by decide⟩
theorem kt_X2_addStep : Cond.instanceMethod mX2_addStep.1 ∈ wsA := mT3 56 rfl rfl
theorem ks_X2_addStep : Cond.selects mX2_addStep.1.cls mX2_addStep.1 mX2_addStep.1 ∈ wsA := mT3 57 rfl rfl
theorem ky_X2_addTest : kY mX2_addTest 3 := ⟨mT3 68 rfl rfl, w_ini_LeavesRoom_House, ⟨nmh_RX2.1, nmh_RX2.2, by decide +kernel⟩, by decide⟩
theorem kt_X2_addTest : Cond.instanceMethod mX2_addTest.1 ∈ wsA := mT3 66 rfl rfl
theorem ks_X2_addTest : Cond.selects mX2_addTest.1.cls mX2_addTest.1 mX2_addTest.1 ∈ wsA := mT3 67 rfl rfl
theorem ky_X2_addWeight : kY mX2_addWeight 1 := ⟨mT3 73 rfl rfl, w_ini_LeavesRoom_House, ⟨nmh_RX2.1, nmh_RX2.2, by decide +kernel⟩, by decide⟩
theorem kt_X2_addWeight : Cond.instanceMethod mX2_addWeight.1 ∈ wsA := mT3 71 rfl rfl
theorem ks_X2_addWeight : Cond.selects mX2_addWeight.1.cls mX2_addWeight.1 mX2_addWeight.1 ∈ wsA := mT3 72 rfl rfl
theorem ky_X2_liking : kY mX2_liking 1 := ⟨mT2 100 rfl rfl, w_ini_LeavesRoom_House, ⟨nmh_RX2.1, nmh_RX2.2, by decide +kernel⟩, by decide⟩
theorem kt_X2_liking : Cond.instanceMethod mX2_liking.1 ∈ wsA := mT2 98 rfl rfl
theorem ks_X2_liking : Cond.selects mX2_liking.1.cls mX2_liking.1 mX2_liking.1 ∈ wsA := mT2 99 rfl rfl
theorem ky_X2_holds : kY mX2_holds 3 := ⟨mT2 104 rfl rfl, w_ini_LeavesRoom_House, ⟨nmh_RX2.1, nmh_RX2.2, by decide +kernel⟩, by decide⟩
theorem kt_X2_holds : Cond.instanceMethod mX2_holds.1 ∈ wsA := mT2 103 rfl rfl
theorem ks_X2_holds : Cond.selects mX2_holds.1.cls mX2_holds.1 mX2_holds.1 ∈ wsA := mem_P 2 rfl rfl
theorem ky_X2_isSo : kY mX2_isSo 2 := ⟨mT2 107 rfl rfl, w_ini_LeavesRoom_House, ⟨nmh_RX2.1, nmh_RX2.2, by decide +kernel⟩, by decide⟩
theorem kt_X2_isSo : Cond.static mX2_isSo.1 ∈ wsA := mT2 106 rfl rfl
theorem ky_X3_init : kY mX3_init 1 := ⟨mT1 235 rfl rfl, w_ini_LeavesRoom_Placings, ⟨nmh_RX3.1, nmh_RX3.2, by decide +kernel⟩, by decide⟩
theorem kt_X3_init : Cond.instanceMethod mX3_init.1 ∈ wsA := mT1 234 rfl rfl
theorem ky_X3_find : kY mX3_find 2 := ⟨mT3 156 rfl rfl, w_ini_LeavesRoom_Placings, ⟨nmh_RX3.1, nmh_RX3.2, by decide +kernel⟩, by decide⟩
theorem kt_X3_find : Cond.instanceMethod mX3_find.1 ∈ wsA := mT3 154 rfl rfl
theorem ks_X3_find : Cond.selects mX3_find.1.cls mX3_find.1 mX3_find.1 ∈ wsA := mT3 155 rfl rfl
theorem ky_X3_placeFrom : kY mX3_placeFrom 1 := ⟨mT3 161 rfl rfl, w_ini_LeavesRoom_Placings, ⟨nmh_RX3.1, nmh_RX3.2, by decide +kernel⟩, by decide⟩
theorem kt_X3_placeFrom : Cond.instanceMethod mX3_placeFrom.1 ∈ wsA := mT3 160 rfl rfl
theorem ks_X3_placeFrom : Cond.selects mX3_placeFrom.1.cls mX3_placeFrom.1 mX3_placeFrom.1 ∈ wsA := mem_P 19 rfl rfl
theorem ky_X3_placeOn : kY mX3_placeOn 2 := ⟨mT3 172 rfl rfl, w_ini_LeavesRoom_Placings, ⟨nmh_RX3.1, nmh_RX3.2, by decide +kernel⟩, by decide⟩
theorem kt_X3_placeOn : Cond.instanceMethod mX3_placeOn.1 ∈ wsA := mT3 171 rfl rfl
theorem ks_X3_placeOn : Cond.selects mX3_placeOn.1.cls mX3_placeOn.1 mX3_placeOn.1 ∈ wsA := mem_P 21 rfl rfl
theorem ky_X3_weigh : kY mX3_weigh 2 := ⟨mT3 167 rfl rfl, w_ini_LeavesRoom_Placings, ⟨nmh_RX3.1, nmh_RX3.2, by decide +kernel⟩, by decide⟩
theorem kt_X3_weigh : Cond.instanceMethod mX3_weigh.1 ∈ wsA := mT3 166 rfl rfl
theorem ks_X3_weigh : Cond.selects mX3_weigh.1.cls mX3_weigh.1 mX3_weigh.1 ∈ wsA := mem_P 20 rfl rfl
theorem ky_X4_init : kY mX4_init 0 := ⟨mT1 32 rfl rfl, w_ini_LeavesRoom_Reader, ⟨nmh_RX4.1, nmh_RX4.2, by decide +kernel⟩, by decide⟩
theorem kt_X4_init : Cond.instanceMethod mX4_init.1 ∈ wsA := mT1 31 rfl rfl
theorem ky_X4_readInto : kY mX4_readInto 3 := ⟨mT2 199 rfl rfl, w_ini_LeavesRoom_Reader, ⟨nmh_RX4.1, nmh_RX4.2, by decide +kernel⟩, by decide⟩
theorem kt_X4_readInto : Cond.instanceMethod mX4_readInto.1 ∈ wsA := mT2 197 rfl rfl
theorem ks_X4_readInto : Cond.selects mX4_readInto.1.cls mX4_readInto.1 mX4_readInto.1 ∈ wsA := mT2 198 rfl rfl
theorem ky_X4_isClause : kY mX4_isClause 0 := ⟨mT2 210 rfl rfl, w_ini_LeavesRoom_Reader, ⟨nmh_RX4.1, nmh_RX4.2, by decide +kernel⟩, by decide⟩
theorem kt_X4_isClause : Cond.instanceMethod mX4_isClause.1 ∈ wsA := mT2 209 rfl rfl
theorem ks_X4_isClause : Cond.selects mX4_isClause.1.cls mX4_isClause.1 mX4_isClause.1 ∈ wsA := mem_P 6 rfl rfl
theorem ky_X4_wordFrom : kY mX4_wordFrom 1 := ⟨mT2 217 rfl rfl, w_ini_LeavesRoom_Reader, ⟨nmh_RX4.1, nmh_RX4.2, by decide +kernel⟩, by decide⟩
theorem kt_X4_wordFrom : Cond.static mX4_wordFrom.1 ∈ wsA := mT2 216 rfl rfl
theorem ky_X4_isEither : kY mX4_isEither 1 := ⟨mT3 46 rfl rfl, w_ini_LeavesRoom_Reader, ⟨nmh_RX4.1, nmh_RX4.2, by decide +kernel⟩, by decide⟩
theorem kt_X4_isEither : Cond.instanceMethod mX4_isEither.1 ∈ wsA := mT3 45 rfl rfl
theorem ks_X4_isEither : Cond.selects mX4_isEither.1.cls mX4_isEither.1 mX4_isEither.1 ∈ wsA := mem_P 11 rfl rfl
theorem ky_X4_isFactor : kY mX4_isFactor 1 := ⟨mT3 50 rfl rfl, w_ini_LeavesRoom_Reader, ⟨nmh_RX4.1, nmh_RX4.2, by decide +kernel⟩, by decide⟩
theorem kt_X4_isFactor : Cond.instanceMethod mX4_isFactor.1 ∈ wsA := mT3 49 rfl rfl
theorem ks_X4_isFactor : Cond.selects mX4_isFactor.1.cls mX4_isFactor.1 mX4_isFactor.1 ∈ wsA := mem_P 12 rfl rfl
theorem ky_X4_isNest : kY mX4_isNest 2 := ⟨mT3 54 rfl rfl, w_ini_LeavesRoom_Reader, ⟨nmh_RX4.1, nmh_RX4.2, by decide +kernel⟩, by decide⟩
theorem kt_X4_isNest : Cond.instanceMethod mX4_isNest.1 ∈ wsA := mT3 53 rfl rfl
theorem ks_X4_isNest : Cond.selects mX4_isNest.1.cls mX4_isNest.1 mX4_isNest.1 ∈ wsA := mem_P 13 rfl rfl
theorem ky_X4_factOf : kY mX4_factOf 1 := ⟨mT3 61 rfl rfl, w_ini_LeavesRoom_Reader, ⟨nmh_RX4.1, nmh_RX4.2, by decide +kernel⟩, by decide⟩
theorem kt_X4_factOf : Cond.static mX4_factOf.1 ∈ wsA := mT3 60 rfl rfl
theorem ky_X4_compareOf : kY mX4_compareOf 1 := ⟨mT3 64 rfl rfl, w_ini_LeavesRoom_Reader, ⟨nmh_RX4.1, nmh_RX4.2, by decide +kernel⟩, by decide⟩
theorem kt_X4_compareOf : Cond.static mX4_compareOf.1 ∈ wsA := mT3 63 rfl rfl
theorem ky_X4_isNumber : kY mX4_isNumber 0 := ⟨mT3 41 rfl rfl, w_ini_LeavesRoom_Reader, ⟨nmh_RX4.1, nmh_RX4.2, by decide +kernel⟩, by decide⟩
theorem kt_X4_isNumber : Cond.instanceMethod mX4_isNumber.1 ∈ wsA := mT3 40 rfl rfl
theorem ks_X4_isNumber : Cond.selects mX4_isNumber.1.cls mX4_isNumber.1 mX4_isNumber.1 ∈ wsA := mem_P 10 rfl rfl
theorem ky_X4_isWord : kY mX4_isWord 1 := ⟨mT2 225 rfl rfl, w_ini_LeavesRoom_Reader, ⟨nmh_RX4.1, nmh_RX4.2, by decide +kernel⟩, by decide⟩
theorem kt_X4_isWord : Cond.instanceMethod mX4_isWord.1 ∈ wsA := mT2 224 rfl rfl
theorem ks_X4_isWord : Cond.selects mX4_isWord.1.cls mX4_isWord.1 mX4_isWord.1 ∈ wsA := mem_P 8 rfl rfl
theorem ky_X4_isSign : kY mX4_isSign 1 := ⟨mT3 37 rfl rfl, w_ini_LeavesRoom_Reader, ⟨nmh_RX4.1, nmh_RX4.2, by decide +kernel⟩, by decide⟩
theorem kt_X4_isSign : Cond.instanceMethod mX4_isSign.1 ∈ wsA := mT3 36 rfl rfl
theorem ks_X4_isSign : Cond.selects mX4_isSign.1.cls mX4_isSign.1 mX4_isSign.1 ∈ wsA := mem_P 9 rfl rfl
theorem ky_X4_next : kY mX4_next 0 := ⟨mT2 214 rfl rfl, w_ini_LeavesRoom_Reader, ⟨nmh_RX4.1, nmh_RX4.2, by decide +kernel⟩, by decide⟩
theorem kt_X4_next : Cond.instanceMethod mX4_next.1 ∈ wsA := mT2 213 rfl rfl
theorem ks_X4_next : Cond.selects mX4_next.1.cls mX4_next.1 mX4_next.1 ∈ wsA := mem_P 7 rfl rfl
theorem ky_X5_init : kY mX5_init 1 := ⟨mT1 125 rfl rfl, w_ini_LeavesRoom_Rows, ⟨nmh_RX5.1, nmh_RX5.2, by decide +kernel⟩, by decide⟩
theorem kt_X5_init : Cond.instanceMethod mX5_init.1 ∈ wsA := mT1 124 rfl rfl
theorem ky_X5_empty : kY mX5_empty 0 := ⟨mT3 193 rfl rfl, w_ini_LeavesRoom_Rows, ⟨nmh_RX5.1, nmh_RX5.2, by decide +kernel⟩, by decide⟩
theorem kt_X5_empty : Cond.instanceMethod mX5_empty.1 ∈ wsA := mT3 191 rfl rfl
theorem ks_X5_empty : Cond.selects mX5_empty.1.cls mX5_empty.1 mX5_empty.1 ∈ wsA := mT3 192 rfl rfl
theorem ky_X5_add : kY mX5_add 3 := ⟨mT3 197 rfl rfl, w_ini_LeavesRoom_Rows, ⟨nmh_RX5.1, nmh_RX5.2, by decide +kernel⟩, by decide⟩
theorem kt_X5_add : Cond.instanceMethod mX5_add.1 ∈ wsA := mT3 195 rfl rfl
theorem ks_X5_add : Cond.selects mX5_add.1.cls mX5_add.1 mX5_add.1 ∈ wsA := mT3 196 rfl rfl
theorem ky_X5_greatestThird : kY mX5_greatestThird 0 := ⟨mT3 209 rfl rfl, w_ini_LeavesRoom_Rows, ⟨nmh_RX5.1, nmh_RX5.2, by decide +kernel⟩, by decide⟩
theorem kt_X5_greatestThird : Cond.instanceMethod mX5_greatestThird.1 ∈ wsA := mT3 207 rfl rfl
theorem ks_X5_greatestThird : Cond.selects mX5_greatestThird.1.cls mX5_greatestThird.1 mX5_greatestThird.1 ∈ wsA := mT3 208 rfl rfl
theorem ky_X5_copyFrom : kY mX5_copyFrom 1 := ⟨mT4 40 rfl rfl, w_ini_LeavesRoom_Rows, ⟨nmh_RX5.1, nmh_RX5.2, by decide +kernel⟩, by decide⟩
theorem kt_X5_copyFrom : Cond.instanceMethod mX5_copyFrom.1 ∈ wsA := mT4 38 rfl rfl
theorem ks_X5_copyFrom : Cond.selects mX5_copyFrom.1.cls mX5_copyFrom.1 mX5_copyFrom.1 ∈ wsA := mT4 39 rfl rfl
theorem ky_X6_init : kY mX6_init 1 := ⟨mT1 151 rfl rfl, w_ini_LeavesRoom_Table, ⟨nmh_RX6.1, nmh_RX6.2, by decide +kernel⟩, by decide⟩
theorem kt_X6_init : Cond.instanceMethod mX6_init.1 ∈ wsA := mT1 150 rfl rfl
theorem ky_X6_copyFrom : kY mX6_copyFrom 1 := ⟨mT3 133 rfl rfl, w_ini_LeavesRoom_Table, ⟨nmh_RX6.1, nmh_RX6.2, by decide +kernel⟩, by decide⟩
theorem kt_X6_copyFrom : Cond.instanceMethod mX6_copyFrom.1 ∈ wsA := mT3 131 rfl rfl
theorem ks_X6_copyFrom : Cond.selects mX6_copyFrom.1.cls mX6_copyFrom.1 mX6_copyFrom.1 ∈ wsA := mT3 132 rfl rfl
theorem ky_X6_takeIn : kY mX6_takeIn 2 := ⟨mT2 84 rfl rfl, w_ini_LeavesRoom_Table, ⟨nmh_RX6.1, nmh_RX6.2, by decide +kernel⟩, by decide⟩
theorem kt_X6_takeIn : Cond.instanceMethod mX6_takeIn.1 ∈ wsA := mT2 82 rfl rfl
theorem ks_X6_takeIn : Cond.selects mX6_takeIn.1.cls mX6_takeIn.1 mX6_takeIn.1 ∈ wsA := mT2 83 rfl rfl
theorem ky_X6_freeSeat : kY mX6_freeSeat 0 := ⟨mT2 88 rfl rfl, w_ini_LeavesRoom_Table, ⟨nmh_RX6.1, nmh_RX6.2, by decide +kernel⟩, by decide⟩
theorem kt_X6_freeSeat : Cond.instanceMethod mX6_freeSeat.1 ∈ wsA := mT2 87 rfl rfl
theorem ks_X6_freeSeat : Cond.selects mX6_freeSeat.1.cls mX6_freeSeat.1 mX6_freeSeat.1 ∈ wsA := mem_P 0 rfl rfl
theorem ky_X6_place : kY mX6_place 2 := ⟨mT2 92 rfl rfl, w_ini_LeavesRoom_Table, ⟨nmh_RX6.1, nmh_RX6.2, by decide +kernel⟩, by decide⟩
theorem kt_X6_place : Cond.instanceMethod mX6_place.1 ∈ wsA := mT2 90 rfl rfl
theorem ks_X6_place : Cond.selects mX6_place.1.cls mX6_place.1 mX6_place.1 ∈ wsA := mT2 91 rfl rfl
theorem ky_X6_moveTo : kY mX6_moveTo 2 := ⟨mT2 160 rfl rfl, w_ini_LeavesRoom_Table, ⟨nmh_RX6.1, nmh_RX6.2, by decide +kernel⟩, by decide⟩
theorem kt_X6_moveTo : Cond.instanceMethod mX6_moveTo.1 ∈ wsA := mT2 158 rfl rfl
theorem ks_X6_moveTo : Cond.selects mX6_moveTo.1.cls mX6_moveTo.1 mX6_moveTo.1 ∈ wsA := mT2 159 rfl rfl
theorem ky_X6_hold : kY mX6_hold 1 := ⟨mT3 77 rfl rfl, w_ini_LeavesRoom_Table, ⟨nmh_RX6.1, nmh_RX6.2, by decide +kernel⟩, by decide⟩
theorem kt_X6_hold : Cond.instanceMethod mX6_hold.1 ∈ wsA := mT3 75 rfl rfl
theorem ks_X6_hold : Cond.selects mX6_hold.1.cls mX6_hold.1 mX6_hold.1 ∈ wsA := mT3 76 rfl rfl
theorem ky_X6_becomeV : kY mX6_becomeV 2 := ⟨mT3 224 rfl rfl, w_ini_LeavesRoom_Table, ⟨nmh_RX6.1, nmh_RX6.2, by decide +kernel⟩, by decide⟩
theorem kt_X6_becomeV : Cond.instanceMethod mX6_becomeV.1 ∈ wsA := mT3 222 rfl rfl
theorem ks_X6_becomeV : Cond.selects mX6_becomeV.1.cls mX6_becomeV.1 mX6_becomeV.1 ∈ wsA := mT3 223 rfl rfl
theorem ky_X6_reckon : kY mX6_reckon 0 := ⟨mT2 96 rfl rfl, w_ini_LeavesRoom_Table, ⟨nmh_RX6.1, nmh_RX6.2, by decide +kernel⟩, by decide⟩
theorem kt_X6_reckon : Cond.instanceMethod mX6_reckon.1 ∈ wsA := mT2 95 rfl rfl
theorem ks_X6_reckon : Cond.selects mX6_reckon.1.cls mX6_reckon.1 mX6_reckon.1 ∈ wsA := mem_P 1 rfl rfl
theorem ky_X6_liking : kY mX6_liking 2 := ⟨mT2 149 rfl rfl, w_ini_LeavesRoom_Table, ⟨nmh_RX6.1, nmh_RX6.2, by decide +kernel⟩, by decide⟩
theorem kt_X6_liking : Cond.instanceMethod mX6_liking.1 ∈ wsA := mT2 147 rfl rfl
theorem ks_X6_liking : Cond.selects mX6_liking.1.cls mX6_liking.1 mX6_liking.1 ∈ wsA := mT2 148 rfl rfl
theorem ky_X6_neighbourAt : kY mX6_neighbourAt 1 := ⟨mT2 129 rfl rfl, w_ini_LeavesRoom_Table, ⟨nmh_RX6.1, nmh_RX6.2, by decide +kernel⟩, by decide⟩
theorem kt_X6_neighbourAt : Cond.instanceMethod mX6_neighbourAt.1 ∈ wsA := mT2 128 rfl rfl
theorem ks_X6_neighbourAt : Cond.selects mX6_neighbourAt.1.cls mX6_neighbourAt.1 mX6_neighbourAt.1 ∈ wsA := mem_P 4 rfl rfl
theorem ky_X6_neighbours : kY mX6_neighbours 1 := ⟨mT2 123 rfl rfl, w_ini_LeavesRoom_Table, ⟨nmh_RX6.1, nmh_RX6.2, by decide +kernel⟩, by decide⟩
theorem kt_X6_neighbours : Cond.instanceMethod mX6_neighbours.1 ∈ wsA := mT2 121 rfl rfl
theorem ks_X6_neighbours : Cond.selects mX6_neighbours.1.cls mX6_neighbours.1 mX6_neighbours.1 ∈ wsA := mT2 122 rfl rfl
theorem ky_X6_fondOf : kY mX6_fondOf 1 := ⟨mT2 135 rfl rfl, w_ini_LeavesRoom_Table, ⟨nmh_RX6.1, nmh_RX6.2, by decide +kernel⟩, by decide⟩
theorem kt_X6_fondOf : Cond.instanceMethod mX6_fondOf.1 ∈ wsA := mT2 133 rfl rfl
theorem ks_X6_fondOf : Cond.selects mX6_fondOf.1.cls mX6_fondOf.1 mX6_fondOf.1 ∈ wsA := mT2 134 rfl rfl
theorem ky_X6_warmth : kY mX6_warmth 2 := ⟨mT2 139 rfl rfl, w_ini_LeavesRoom_Table, ⟨nmh_RX6.1, nmh_RX6.2, by decide +kernel⟩, by decide⟩
theorem kt_X6_warmth : Cond.instanceMethod mX6_warmth.1 ∈ wsA := mT2 138 rfl rfl
theorem ks_X6_warmth : Cond.selects mX6_warmth.1.cls mX6_warmth.1 mX6_warmth.1 ∈ wsA := mem_P 5 rfl rfl
theorem ky_X6_fondOfAll : kY mX6_fondOfAll 0 := ⟨mT3 85 rfl rfl, w_ini_LeavesRoom_Table, ⟨nmh_RX6.1, nmh_RX6.2, by decide +kernel⟩, by decide⟩
theorem kt_X6_fondOfAll : Cond.instanceMethod mX6_fondOfAll.1 ∈ wsA := mT3 83 rfl rfl
theorem ks_X6_fondOfAll : Cond.selects mX6_fondOfAll.1.cls mX6_fondOfAll.1 mX6_fondOfAll.1 ∈ wsA := mT3 84 rfl rfl
theorem ky_X6_clashes : kY mX6_clashes 0 := ⟨mT3 90 rfl rfl, w_ini_LeavesRoom_Table, ⟨nmh_RX6.1, nmh_RX6.2, by decide +kernel⟩, by decide⟩
theorem kt_X6_clashes : Cond.instanceMethod mX6_clashes.1 ∈ wsA := mT3 88 rfl rfl
theorem ks_X6_clashes : Cond.selects mX6_clashes.1.cls mX6_clashes.1 mX6_clashes.1 ∈ wsA := mT3 89 rfl rfl
theorem ky_X6_yearsGo : kY mX6_yearsGo 1 := ⟨mT3 125 rfl rfl, w_ini_LeavesRoom_Table, ⟨nmh_RX6.1, nmh_RX6.2, by decide +kernel⟩, by decide⟩
theorem kt_X6_yearsGo : Cond.instanceMethod mX6_yearsGo.1 ∈ wsA := mT3 123 rfl rfl
theorem ks_X6_yearsGo : Cond.selects mX6_yearsGo.1.cls mX6_yearsGo.1 mX6_yearsGo.1 ∈ wsA := mT3 124 rfl rfl
theorem ky_X6_pourAt : kY mX6_pourAt 1 := ⟨mT2 172 rfl rfl, w_ini_LeavesRoom_Table, ⟨nmh_RX6.1, nmh_RX6.2, by decide +kernel⟩, by decide⟩
theorem kt_X6_pourAt : Cond.instanceMethod mX6_pourAt.1 ∈ wsA := mT2 170 rfl rfl
theorem ks_X6_pourAt : Cond.selects mX6_pourAt.1.cls mX6_pourAt.1 mX6_pourAt.1 ∈ wsA := mT2 171 rfl rfl
theorem ky_X6_emptyCups : kY mX6_emptyCups 0 := ⟨mT2 176 rfl rfl, w_ini_LeavesRoom_Table, ⟨nmh_RX6.1, nmh_RX6.2, by decide +kernel⟩, by decide⟩
theorem kt_X6_emptyCups : Cond.instanceMethod mX6_emptyCups.1 ∈ wsA := mT2 174 rfl rfl
theorem ks_X6_emptyCups : Cond.selects mX6_emptyCups.1.cls mX6_emptyCups.1 mX6_emptyCups.1 ∈ wsA := mT2 175 rfl rfl
theorem ky_X6_usedOfAll : kY mX6_usedOfAll 0 := ⟨mT3 144 rfl rfl, w_ini_LeavesRoom_Table, ⟨nmh_RX6.1, nmh_RX6.2, by decide +kernel⟩, by decide⟩
theorem kt_X6_usedOfAll : Cond.instanceMethod mX6_usedOfAll.1 ∈ wsA := mT3 142 rfl rfl
theorem ks_X6_usedOfAll : Cond.selects mX6_usedOfAll.1.cls mX6_usedOfAll.1 mX6_usedOfAll.1 ∈ wsA := mT3 143 rfl rfl
theorem ky_X6_round : kY mX6_round 0 := ⟨mT3 95 rfl rfl, w_ini_LeavesRoom_Table, ⟨nmh_RX6.1, nmh_RX6.2, by decide +kernel⟩, by decide⟩
theorem kt_X6_round : Cond.instanceMethod mX6_round.1 ∈ wsA := mT3 93 rfl rfl
theorem ks_X6_round : Cond.selects mX6_round.1.cls mX6_round.1 mX6_round.1 ∈ wsA := mT3 94 rfl rfl
theorem ky_X6_toward : kY mX6_toward 0 := ⟨mT3 112 rfl rfl, w_ini_LeavesRoom_Table, ⟨nmh_RX6.1, nmh_RX6.2, by decide +kernel⟩, by decide⟩
theorem kt_X6_toward : Cond.instanceMethod mX6_toward.1 ∈ wsA := mT3 110 rfl rfl
theorem ks_X6_toward : Cond.selects mX6_toward.1.cls mX6_toward.1 mX6_toward.1 ∈ wsA := mT3 111 rfl rfl
theorem ky_X6_stepsOn : kY mX6_stepsOn 0 := ⟨mT3 99 rfl rfl, w_ini_LeavesRoom_Table, ⟨nmh_RX6.1, nmh_RX6.2, by decide +kernel⟩, by decide⟩
theorem kt_X6_stepsOn : Cond.instanceMethod mX6_stepsOn.1 ∈ wsA := mT3 98 rfl rfl
theorem ks_X6_stepsOn : Cond.selects mX6_stepsOn.1.cls mX6_stepsOn.1 mX6_stepsOn.1 ∈ wsA := mem_P 14 rfl rfl
theorem ky_X6_stepsBack : kY mX6_stepsBack 0 := ⟨mT3 108 rfl rfl, w_ini_LeavesRoom_Table, ⟨nmh_RX6.1, nmh_RX6.2, by decide +kernel⟩, by decide⟩
theorem kt_X6_stepsBack : Cond.instanceMethod mX6_stepsBack.1 ∈ wsA := mT3 107 rfl rfl
theorem ks_X6_stepsBack : Cond.selects mX6_stepsBack.1.cls mX6_stepsBack.1 mX6_stepsBack.1 ∈ wsA := mem_P 16 rfl rfl
theorem ky_X6_farthestBack : kY mX6_farthestBack 1 := ⟨mT3 103 rfl rfl, w_ini_LeavesRoom_Table, ⟨nmh_RX6.1, nmh_RX6.2, by decide +kernel⟩, by decide⟩
theorem kt_X6_farthestBack : Cond.instanceMethod mX6_farthestBack.1 ∈ wsA := mT3 102 rfl rfl
theorem ks_X6_farthestBack : Cond.selects mX6_farthestBack.1.cls mX6_farthestBack.1 mX6_farthestBack.1 ∈ wsA := mem_P 15 rfl rfl
theorem ky_X7_init : kY mX7_init 0 := ⟨mT2 22 rfl rfl, w_ini_LeavesRoom_Tape, ⟨nmh_RX7.1, nmh_RX7.2, by decide +kernel⟩, by decide⟩
theorem kt_X7_init : Cond.instanceMethod mX7_init.1 ∈ wsA := mT2 21 rfl rfl
theorem ky_X7_become : kY mX7_become 2 := ⟨mT4 100 rfl rfl, w_ini_LeavesRoom_Tape, ⟨nmh_RX7.1, nmh_RX7.2, by decide +kernel⟩, by decide⟩
theorem kt_X7_become : Cond.instanceMethod mX7_become.1 ∈ wsA := mT4 98 rfl rfl
theorem ks_X7_become : Cond.selects mX7_become.1.cls mX7_become.1 mX7_become.1 ∈ wsA := mT4 99 rfl rfl
theorem ky_X7_hasPlace : kY mX7_hasPlace 1 := ⟨mT4 27 rfl rfl, w_ini_LeavesRoom_Tape, ⟨nmh_RX7.1, nmh_RX7.2, by decide +kernel⟩, by decide⟩
theorem kt_X7_hasPlace : Cond.instanceMethod mX7_hasPlace.1 ∈ wsA := mT4 25 rfl rfl
theorem ks_X7_hasPlace : Cond.selects mX7_hasPlace.1.cls mX7_hasPlace.1 mX7_hasPlace.1 ∈ wsA := mT4 26 rfl rfl
theorem ky_X7_hasPlaces : kY mX7_hasPlaces 2 := ⟨mT4 121 rfl rfl, w_ini_LeavesRoom_Tape, ⟨nmh_RX7.1, nmh_RX7.2, by decide +kernel⟩, by decide⟩
theorem kt_X7_hasPlaces : Cond.instanceMethod mX7_hasPlaces.1 ∈ wsA := mT4 119 rfl rfl
theorem ks_X7_hasPlaces : Cond.selects mX7_hasPlaces.1.cls mX7_hasPlaces.1 mX7_hasPlaces.1 ∈ wsA := mT4 120 rfl rfl
theorem ky_X7_put : kY mX7_put 2 := ⟨mT4 108 rfl rfl, w_ini_LeavesRoom_Tape, ⟨nmh_RX7.1, nmh_RX7.2, by decide +kernel⟩, by decide⟩
theorem kt_X7_put : Cond.instanceMethod mX7_put.1 ∈ wsA := mT4 106 rfl rfl
theorem ks_X7_put : Cond.selects mX7_put.1.cls mX7_put.1 mX7_put.1 ∈ wsA := mT4 107 rfl rfl
theorem ky_X8_init : kY mX8_init 0 := ⟨mT1 22 rfl rfl, w_ini_LeavesRoom, ⟨nmh_RX8.1, nmh_RX8.2, by decide +kernel⟩, by decide⟩
theorem kt_X8_init : Cond.instanceMethod mX8_init.1 ∈ wsA := mT1 21 rfl rfl
theorem ky_X8_guest : kY mX8_guest 2 := ⟨mT2 77 rfl rfl, w_ini_LeavesRoom, ⟨nmh_RX8.1, nmh_RX8.2, by decide +kernel⟩, by decide⟩
theorem kt_X8_guest : Cond.instanceMethod mX8_guest.1 ∈ wsA := mT2 75 rfl rfl
theorem ks_X8_guest : Cond.selects mX8_guest.1.cls mX8_guest.1 mX8_guest.1 ∈ wsA := mT2 76 rfl rfl
theorem ky_X8_of : kY mX8_of 2 := ⟨mT2 114 rfl rfl, w_ini_LeavesRoom, ⟨nmh_RX8.1, nmh_RX8.2, by decide +kernel⟩, by decide⟩
theorem kt_X8_of : Cond.instanceMethod mX8_of.1 ∈ wsA := mT2 112 rfl rfl
theorem ks_X8_of : Cond.selects mX8_of.1.cls mX8_of.1 mX8_of.1 ∈ wsA := mT2 113 rfl rfl
theorem ky_X8_likes : kY mX8_likes 2 := ⟨mT2 145 rfl rfl, w_ini_LeavesRoom, ⟨nmh_RX8.1, nmh_RX8.2, by decide +kernel⟩, by decide⟩
theorem kt_X8_likes : Cond.instanceMethod mX8_likes.1 ∈ wsA := mT2 143 rfl rfl
theorem ks_X8_likes : Cond.selects mX8_likes.1.cls mX8_likes.1 mX8_likes.1 ∈ wsA := mT2 144 rfl rfl
theorem ky_X8_sit : kY mX8_sit 2 := ⟨mT2 153 rfl rfl, w_ini_LeavesRoom, ⟨nmh_RX8.1, nmh_RX8.2, by decide +kernel⟩, by decide⟩
theorem kt_X8_sit : Cond.instanceMethod mX8_sit.1 ∈ wsA := mT2 151 rfl rfl
theorem ks_X8_sit : Cond.selects mX8_sit.1.cls mX8_sit.1 mX8_sit.1 ∈ wsA := mT2 152 rfl rfl
theorem ky_X8_leave : kY mX8_leave 2 := ⟨mT2 164 rfl rfl, w_ini_LeavesRoom, ⟨nmh_RX8.1, nmh_RX8.2, by decide +kernel⟩, by decide⟩
theorem kt_X8_leave : Cond.instanceMethod mX8_leave.1 ∈ wsA := mT2 162 rfl rfl
theorem ks_X8_leave : Cond.selects mX8_leave.1.cls mX8_leave.1 mX8_leave.1 ∈ wsA := mT2 163 rfl rfl
theorem ky_X8_pour : kY mX8_pour 1 := ⟨mT2 168 rfl rfl, w_ini_LeavesRoom, ⟨nmh_RX8.1, nmh_RX8.2, by decide +kernel⟩, by decide⟩
theorem kt_X8_pour : Cond.instanceMethod mX8_pour.1 ∈ wsA := mT2 166 rfl rfl
theorem ks_X8_pour : Cond.selects mX8_pour.1.cls mX8_pour.1 mX8_pour.1 ∈ wsA := mT2 167 rfl rfl
theorem ky_X8_row : kY mX8_row 3 := ⟨mT2 187 rfl rfl, w_ini_LeavesRoom, ⟨nmh_RX8.1, nmh_RX8.2, by decide +kernel⟩, by decide⟩
theorem kt_X8_row : Cond.instanceMethod mX8_row.1 ∈ wsA := mT2 185 rfl rfl
theorem ks_X8_row : Cond.selects mX8_row.1.cls mX8_row.1 mX8_row.1 ∈ wsA := mT2 186 rfl rfl
theorem ky_X8_feed : kY mX8_feed 1 := ⟨mT2 191 rfl rfl, w_ini_LeavesRoom, ⟨nmh_RX8.1, nmh_RX8.2, by decide +kernel⟩, by decide⟩
theorem kt_X8_feed : Cond.instanceMethod mX8_feed.1 ∈ wsA := mT2 189 rfl rfl
theorem ks_X8_feed : Cond.selects mX8_feed.1.cls mX8_feed.1 mX8_feed.1 ∈ wsA := mT2 190 rfl rfl
theorem ky_X8_house : kY mX8_house 0 := ⟨mT2 195 rfl rfl, w_ini_LeavesRoom, ⟨nmh_RX8.1, nmh_RX8.2, by decide +kernel⟩, by decide⟩
theorem kt_X8_house : Cond.instanceMethod mX8_house.1 ∈ wsA := mT2 193 rfl rfl
theorem ks_X8_house : Cond.selects mX8_house.1.cls mX8_house.1 mX8_house.1 ∈ wsA := mT2 194 rfl rfl
theorem ky_X8_told : kY mX8_told 1 := ⟨mT3 81 rfl rfl, w_ini_LeavesRoom, ⟨nmh_RX8.1, nmh_RX8.2, by decide +kernel⟩, by decide⟩
theorem kt_X8_told : Cond.instanceMethod mX8_told.1 ∈ wsA := mT3 79 rfl rfl
theorem ks_X8_told : Cond.selects mX8_told.1.cls mX8_told.1 mX8_told.1 ∈ wsA := mT3 80 rfl rfl
theorem ky_X8_sitterOr : kY mX8_sitterOr 1 := ⟨mT3 117 rfl rfl, w_ini_LeavesRoom, ⟨nmh_RX8.1, nmh_RX8.2, by decide +kernel⟩, by decide⟩
theorem kt_X8_sitterOr : Cond.instanceMethod mX8_sitterOr.1 ∈ wsA := mT3 116 rfl rfl
theorem ks_X8_sitterOr : Cond.selects mX8_sitterOr.1.cls mX8_sitterOr.1 mX8_sitterOr.1 ∈ wsA := mem_P 17 rfl rfl
theorem ky_X8_pass : kY mX8_pass 1 := ⟨mT3 121 rfl rfl, w_ini_LeavesRoom, ⟨nmh_RX8.1, nmh_RX8.2, by decide +kernel⟩, by decide⟩
theorem kt_X8_pass : Cond.instanceMethod mX8_pass.1 ∈ wsA := mT3 119 rfl rfl
theorem ks_X8_pass : Cond.selects mX8_pass.1.cls mX8_pass.1 mX8_pass.1 ∈ wsA := mT3 120 rfl rfl
theorem ky_X8_on : kY mX8_on 2 := ⟨mT3 129 rfl rfl, w_ini_LeavesRoom, ⟨nmh_RX8.1, nmh_RX8.2, by decide +kernel⟩, by decide⟩
theorem kt_X8_on : Cond.instanceMethod mX8_on.1 ∈ wsA := mT3 127 rfl rfl
theorem ks_X8_on : Cond.selects mX8_on.1.cls mX8_on.1 mX8_on.1 ∈ wsA := mT3 128 rfl rfl
theorem ky_X8_soon : kY mX8_soon 1 := ⟨mT3 148 rfl rfl, w_ini_LeavesRoom, ⟨nmh_RX8.1, nmh_RX8.2, by decide +kernel⟩, by decide⟩
theorem kt_X8_soon : Cond.instanceMethod mX8_soon.1 ∈ wsA := mT3 146 rfl rfl
theorem ks_X8_soon : Cond.selects mX8_soon.1.cls mX8_soon.1 mX8_soon.1 ∈ wsA := mT3 147 rfl rfl
theorem ky_X8_usedMore : kY mX8_usedMore 0 := ⟨mT3 140 rfl rfl, w_ini_LeavesRoom, ⟨nmh_RX8.1, nmh_RX8.2, by decide +kernel⟩, by decide⟩
theorem kt_X8_usedMore : Cond.instanceMethod mX8_usedMore.1 ∈ wsA := mT3 139 rfl rfl
theorem ks_X8_usedMore : Cond.selects mX8_usedMore.1.cls mX8_usedMore.1 mX8_usedMore.1 ∈ wsA := mem_P 18 rfl rfl
theorem ky_X8_best : kY mX8_best 1 := ⟨mT3 152 rfl rfl, w_ini_LeavesRoom, ⟨nmh_RX8.1, nmh_RX8.2, by decide +kernel⟩, by decide⟩
theorem kt_X8_best : Cond.instanceMethod mX8_best.1 ∈ wsA := mT3 150 rfl rfl
theorem ks_X8_best : Cond.selects mX8_best.1.cls mX8_best.1 mX8_best.1 ∈ wsA := mT3 151 rfl rfl
theorem ky_X8_peace : kY mX8_peace 1 := ⟨mT3 177 rfl rfl, w_ini_LeavesRoom, ⟨nmh_RX8.1, nmh_RX8.2, by decide +kernel⟩, by decide⟩
theorem kt_X8_peace : Cond.instanceMethod mX8_peace.1 ∈ wsA := mT3 175 rfl rfl
theorem ks_X8_peace : Cond.selects mX8_peace.1.cls mX8_peace.1 mX8_peace.1 ∈ wsA := mT3 176 rfl rfl
theorem ky_X8_change : kY mX8_change 0 := ⟨mT3 181 rfl rfl, w_ini_LeavesRoom, ⟨nmh_RX8.1, nmh_RX8.2, by decide +kernel⟩, by decide⟩
theorem kt_X8_change : Cond.instanceMethod mX8_change.1 ∈ wsA := mT3 179 rfl rfl
theorem ks_X8_change : Cond.selects mX8_change.1.cls mX8_change.1 mX8_change.1 ∈ wsA := mT3 180 rfl rfl
theorem ky_X8_seat : kY mX8_seat 1 := ⟨mT3 185 rfl rfl, w_ini_LeavesRoom, ⟨nmh_RX8.1, nmh_RX8.2, by decide +kernel⟩, by decide⟩
theorem kt_X8_seat : Cond.instanceMethod mX8_seat.1 ∈ wsA := mT3 183 rfl rfl
theorem ks_X8_seat : Cond.selects mX8_seat.1.cls mX8_seat.1 mX8_seat.1 ∈ wsA := mT3 184 rfl rfl
theorem ky_X8_see : kY mX8_see 3 := ⟨mT3 189 rfl rfl, w_ini_LeavesRoom, ⟨nmh_RX8.1, nmh_RX8.2, by decide +kernel⟩, by decide⟩
theorem kt_X8_see : Cond.instanceMethod mX8_see.1 ∈ wsA := mT3 187 rfl rfl
theorem ks_X8_see : Cond.selects mX8_see.1.cls mX8_see.1 mX8_see.1 ∈ wsA := mT3 188 rfl rfl
theorem ky_X8_where : kY mX8_where 1 := ⟨mT3 201 rfl rfl, w_ini_LeavesRoom, ⟨nmh_RX8.1, nmh_RX8.2, by decide +kernel⟩, by decide⟩
theorem kt_X8_where : Cond.instanceMethod mX8_where.1 ∈ wsA := mT3 199 rfl rfl
theorem ks_X8_where : Cond.selects mX8_where.1.cls mX8_where.1 mX8_where.1 ∈ wsA := mT3 200 rfl rfl
theorem ky_X8_can : kY mX8_can 2 := ⟨mT3 220 rfl rfl, w_ini_LeavesRoom, ⟨nmh_RX8.1, nmh_RX8.2, by decide +kernel⟩, by decide⟩
theorem kt_X8_can : Cond.instanceMethod mX8_can.1 ∈ wsA := mT3 218 rfl rfl
theorem ks_X8_can : Cond.selects mX8_can.1.cls mX8_can.1 mX8_can.1 ∈ wsA := mT3 219 rfl rfl
theorem ky_X8_isAllSeenSo : kY mX8_isAllSeenSo 0 := ⟨mT3 205 rfl rfl, w_ini_LeavesRoom, ⟨nmh_RX8.1, nmh_RX8.2, by decide +kernel⟩, by decide⟩
theorem kt_X8_isAllSeenSo : Cond.instanceMethod mX8_isAllSeenSo.1 ∈ wsA := mT3 204 rfl rfl
theorem ks_X8_isAllSeenSo : Cond.selects mX8_isAllSeenSo.1.cls mX8_isAllSeenSo.1 mX8_isAllSeenSo.1 ∈ wsA := mem_P 22 rfl rfl
theorem ky_X8_isOneSeenOtherwise : kY mX8_isOneSeenOtherwise 1 := ⟨mT3 216 rfl rfl, w_ini_LeavesRoom, ⟨nmh_RX8.1, nmh_RX8.2, by decide +kernel⟩, by decide⟩
theorem kt_X8_isOneSeenOtherwise : Cond.instanceMethod mX8_isOneSeenOtherwise.1 ∈ wsA := mT3 215 rfl rfl
theorem ks_X8_isOneSeenOtherwise : Cond.selects mX8_isOneSeenOtherwise.1.cls mX8_isOneSeenOtherwise.1 mX8_isOneSeenOtherwise.1 ∈ wsA := mem_P 23 rfl rfl
theorem ky_X8_odds : kY mX8_odds 2 := ⟨mT3 228 rfl rfl, w_ini_LeavesRoom, ⟨nmh_RX8.1, nmh_RX8.2, by decide +kernel⟩, by decide⟩
theorem kt_X8_odds : Cond.instanceMethod mX8_odds.1 ∈ wsA := mT3 226 rfl rfl
theorem ks_X8_odds : Cond.selects mX8_odds.1.cls mX8_odds.1 mX8_odds.1 ∈ wsA := mT3 227 rfl rfl
theorem ky_X8_mean : kY mX8_mean 1 := ⟨mT3 236 rfl rfl, w_ini_LeavesRoom, ⟨nmh_RX8.1, nmh_RX8.2, by decide +kernel⟩, by decide⟩
theorem kt_X8_mean : Cond.instanceMethod mX8_mean.1 ∈ wsA := mT3 234 rfl rfl
theorem ks_X8_mean : Cond.selects mX8_mean.1.cls mX8_mean.1 mX8_mean.1 ∈ wsA := mT3 235 rfl rfl
theorem ky_X8_lowest : kY mX8_lowest 3 := ⟨mT3 232 rfl rfl, w_ini_LeavesRoom, ⟨nmh_RX8.1, nmh_RX8.2, by decide +kernel⟩, by decide⟩
theorem kt_X8_lowest : Cond.static mX8_lowest.1 ∈ wsA := mT3 231 rfl rfl
theorem ky_X8_plan : kY mX8_plan 2 := ⟨mT4 0 rfl rfl, w_ini_LeavesRoom, ⟨nmh_RX8.1, nmh_RX8.2, by decide +kernel⟩, by decide⟩
theorem kt_X8_plan : Cond.instanceMethod mX8_plan.1 ∈ wsA := mT3 238 rfl rfl
theorem ks_X8_plan : Cond.selects mX8_plan.1.cls mX8_plan.1 mX8_plan.1 ∈ wsA := mT3 239 rfl rfl
theorem ky_X8_ends : kY mX8_ends 1 := ⟨mT4 4 rfl rfl, w_ini_LeavesRoom, ⟨nmh_RX8.1, nmh_RX8.2, by decide +kernel⟩, by decide⟩
theorem kt_X8_ends : Cond.instanceMethod mX8_ends.1 ∈ wsA := mT4 2 rfl rfl
theorem ks_X8_ends : Cond.selects mX8_ends.1.cls mX8_ends.1 mX8_ends.1 ∈ wsA := mT4 3 rfl rfl
theorem ky_X8_tryPlanned : kY mX8_tryPlanned 2 := ⟨mT4 8 rfl rfl, w_ini_LeavesRoom, ⟨nmh_RX8.1, nmh_RX8.2, by decide +kernel⟩, by decide⟩
theorem kt_X8_tryPlanned : Cond.instanceMethod mX8_tryPlanned.1 ∈ wsA := mT4 7 rfl rfl
theorem ks_X8_tryPlanned : Cond.selects mX8_tryPlanned.1.cls mX8_tryPlanned.1 mX8_tryPlanned.1 ∈ wsA := mem_P 24 rfl rfl
theorem ky_X8_book : kY mX8_book 2 := ⟨mT4 12 rfl rfl, w_ini_LeavesRoom, ⟨nmh_RX8.1, nmh_RX8.2, by decide +kernel⟩, by decide⟩
theorem kt_X8_book : Cond.instanceMethod mX8_book.1 ∈ wsA := mT4 10 rfl rfl
theorem ks_X8_book : Cond.selects mX8_book.1.cls mX8_book.1 mX8_book.1 ∈ wsA := mT4 11 rfl rfl
theorem ky_X8_looked : kY mX8_looked 0 := ⟨mT4 16 rfl rfl, w_ini_LeavesRoom, ⟨nmh_RX8.1, nmh_RX8.2, by decide +kernel⟩, by decide⟩
theorem kt_X8_looked : Cond.instanceMethod mX8_looked.1 ∈ wsA := mT4 14 rfl rfl
theorem ks_X8_looked : Cond.selects mX8_looked.1.cls mX8_looked.1 mX8_looked.1 ∈ wsA := mT4 15 rfl rfl
theorem ky_X8_judge : kY mX8_judge 2 := ⟨mT4 20 rfl rfl, w_ini_LeavesRoom, ⟨nmh_RX8.1, nmh_RX8.2, by decide +kernel⟩, by decide⟩
theorem kt_X8_judge : Cond.instanceMethod mX8_judge.1 ∈ wsA := mT4 18 rfl rfl
theorem ks_X8_judge : Cond.selects mX8_judge.1.cls mX8_judge.1 mX8_judge.1 ∈ wsA := mT4 19 rfl rfl
theorem ky_X8_image : kY mX8_image 0 := ⟨mT4 31 rfl rfl, w_ini_LeavesRoom, ⟨nmh_RX8.1, nmh_RX8.2, by decide +kernel⟩, by decide⟩
theorem kt_X8_image : Cond.instanceMethod mX8_image.1 ∈ wsA := mT4 29 rfl rfl
theorem ks_X8_image : Cond.selects mX8_image.1.cls mX8_image.1 mX8_image.1 ∈ wsA := mT4 30 rfl rfl
theorem ky_X8_undo : kY mX8_undo 0 := ⟨mT4 45 rfl rfl, w_ini_LeavesRoom, ⟨nmh_RX8.1, nmh_RX8.2, by decide +kernel⟩, by decide⟩
theorem kt_X8_undo : Cond.instanceMethod mX8_undo.1 ∈ wsA := mT4 43 rfl rfl
theorem ks_X8_undo : Cond.selects mX8_undo.1.cls mX8_undo.1 mX8_undo.1 ∈ wsA := mT4 44 rfl rfl
theorem ky_X8_act : kY mX8_act 3 := ⟨mT4 49 rfl rfl, w_ini_LeavesRoom, ⟨nmh_RX8.1, nmh_RX8.2, by decide +kernel⟩, by decide⟩
theorem kt_X8_act : Cond.instanceMethod mX8_act.1 ∈ wsA := mT4 47 rfl rfl
theorem ks_X8_act : Cond.selects mX8_act.1.cls mX8_act.1 mX8_act.1 ∈ wsA := mT4 48 rfl rfl
theorem ky_X8_trace : kY mX8_trace 1 := ⟨mT4 78 rfl rfl, w_ini_LeavesRoom, ⟨nmh_RX8.1, nmh_RX8.2, by decide +kernel⟩, by decide⟩
theorem kt_X8_trace : Cond.instanceMethod mX8_trace.1 ∈ wsA := mT4 76 rfl rfl
theorem ks_X8_trace : Cond.selects mX8_trace.1.cls mX8_trace.1 mX8_trace.1 ∈ wsA := mT4 77 rfl rfl
theorem ky_X8_taken : kY mX8_taken 2 := ⟨mT4 87 rfl rfl, w_ini_LeavesRoom, ⟨nmh_RX8.1, nmh_RX8.2, by decide +kernel⟩, by decide⟩
theorem kt_X8_taken : Cond.instanceMethod mX8_taken.1 ∈ wsA := mT4 85 rfl rfl
theorem ks_X8_taken : Cond.selects mX8_taken.1.cls mX8_taken.1 mX8_taken.1 ∈ wsA := mT4 86 rfl rfl
theorem ky_X8_count : kY mX8_count 1 := ⟨mT4 92 rfl rfl, w_ini_LeavesRoom, ⟨nmh_RX8.1, nmh_RX8.2, by decide +kernel⟩, by decide⟩
theorem kt_X8_count : Cond.instanceMethod mX8_count.1 ∈ wsA := mT4 90 rfl rfl
theorem ks_X8_count : Cond.selects mX8_count.1.cls mX8_count.1 mX8_count.1 ∈ wsA := mT4 91 rfl rfl
theorem ky_X8_tape : kY mX8_tape 3 := ⟨mT4 96 rfl rfl, w_ini_LeavesRoom, ⟨nmh_RX8.1, nmh_RX8.2, by decide +kernel⟩, by decide⟩
theorem kt_X8_tape : Cond.instanceMethod mX8_tape.1 ∈ wsA := mT4 94 rfl rfl
theorem ks_X8_tape : Cond.selects mX8_tape.1.cls mX8_tape.1 mX8_tape.1 ∈ wsA := mT4 95 rfl rfl
theorem ky_X8_item : kY mX8_item 3 := ⟨mT4 104 rfl rfl, w_ini_LeavesRoom, ⟨nmh_RX8.1, nmh_RX8.2, by decide +kernel⟩, by decide⟩
theorem kt_X8_item : Cond.instanceMethod mX8_item.1 ∈ wsA := mT4 102 rfl rfl
theorem ks_X8_item : Cond.selects mX8_item.1.cls mX8_item.1 mX8_item.1 ∈ wsA := mT4 103 rfl rfl
theorem ky_X8_read : kY mX8_read 2 := ⟨mT4 113 rfl rfl, w_ini_LeavesRoom, ⟨nmh_RX8.1, nmh_RX8.2, by decide +kernel⟩, by decide⟩
theorem kt_X8_read : Cond.instanceMethod mX8_read.1 ∈ wsA := mT4 111 rfl rfl
theorem ks_X8_read : Cond.selects mX8_read.1.cls mX8_read.1 mX8_read.1 ∈ wsA := mT4 112 rfl rfl
theorem ky_X8_shift : kY mX8_shift 5 := ⟨mT4 117 rfl rfl, w_ini_LeavesRoom, ⟨nmh_RX8.1, nmh_RX8.2, by decide +kernel⟩, by decide⟩
theorem kt_X8_shift : Cond.instanceMethod mX8_shift.1 ∈ wsA := mT4 115 rfl rfl
theorem ks_X8_shift : Cond.selects mX8_shift.1.cls mX8_shift.1 mX8_shift.1 ∈ wsA := mT4 116 rfl rfl
theorem ky_X8_isGuest : kY mX8_isGuest 1 := ⟨mT2 118 rfl rfl, w_ini_LeavesRoom, ⟨nmh_RX8.1, nmh_RX8.2, by decide +kernel⟩, by decide⟩
theorem kt_X8_isGuest : Cond.instanceMethod mX8_isGuest.1 ∈ wsA := mT2 117 rfl rfl
theorem ks_X8_isGuest : Cond.selects mX8_isGuest.1.cls mX8_isGuest.1 mX8_isGuest.1 ∈ wsA := mem_P 3 rfl rfl
theorem ky_X8_isSeat : kY mX8_isSeat 1 := ⟨mT2 156 rfl rfl, w_ini_LeavesRoom, ⟨nmh_RX8.1, nmh_RX8.2, by decide +kernel⟩, by decide⟩
theorem kt_X8_isSeat : Cond.static mX8_isSeat.1 ∈ wsA := mT2 155 rfl rfl
theorem ky_X8_isTape : kY mX8_isTape 1 := ⟨mT4 23 rfl rfl, w_ini_LeavesRoom, ⟨nmh_RX8.1, nmh_RX8.2, by decide +kernel⟩, by decide⟩
theorem kt_X8_isTape : Cond.static mX8_isTape.1 ∈ wsA := mT4 22 rfl rfl
theorem ky_X8_isDigit : kY mX8_isDigit 1 := ⟨mT2 80 rfl rfl, w_ini_LeavesRoom, ⟨nmh_RX8.1, nmh_RX8.2, by decide +kernel⟩, by decide⟩
theorem kt_X8_isDigit : Cond.static mX8_isDigit.1 ∈ wsA := mT2 79 rfl rfl
theorem ky_X8_oneIf : kY mX8_oneIf 1 := ⟨mT2 110 rfl rfl, w_ini_LeavesRoom, ⟨nmh_RX8.1, nmh_RX8.2, by decide +kernel⟩, by decide⟩
theorem kt_X8_oneIf : Cond.static mX8_oneIf.1 ∈ wsA := mT2 109 rfl rfl
theorem ky_X9_init : kY mX9_init 0 := ⟨mT4 127 rfl rfl, w_ini_LeavesRoomModel, ⟨nmh_RX9.1, nmh_RX9.2, by decide +kernel⟩, by decide⟩
theorem kt_X9_init : Cond.instanceMethod mX9_init.1 ∈ wsA := mT4 126 rfl rfl
theorem ky_X9_in : kY mX9_in 3 := ⟨mT5 131 rfl rfl, w_ini_LeavesRoomModel, ⟨nmh_RX9.1, nmh_RX9.2, by decide +kernel⟩, by decide⟩
theorem kt_X9_in : Cond.instanceMethod mX9_in.1 ∈ wsA := mT5 130 rfl rfl
theorem ks_X9_in : Cond.selects mX9_in.1.cls mX9_in.1 mX9_in.1 ∈ wsA := mem_P 28 rfl rfl
theorem ky_X9_has : kY mX9_has 2 := ⟨mT5 147 rfl rfl, w_ini_LeavesRoomModel, ⟨nmh_RX9.1, nmh_RX9.2, by decide +kernel⟩, by decide⟩
theorem kt_X9_has : Cond.instanceMethod mX9_has.1 ∈ wsA := mT5 146 rfl rfl
theorem ks_X9_has : Cond.selects mX9_has.1.cls mX9_has.1 mX9_has.1 ∈ wsA := mem_P 31 rfl rfl
theorem ky_X9_least : kY mX9_least 2 := ⟨mT6 99 rfl rfl, w_ini_LeavesRoomModel, ⟨nmh_RX9.1, nmh_RX9.2, by decide +kernel⟩, by decide⟩
theorem kt_X9_least : Cond.instanceMethod mX9_least.1 ∈ wsA := mT6 98 rfl rfl
theorem ks_X9_least : Cond.selects mX9_least.1.cls mX9_least.1 mX9_least.1 ∈ wsA := mem_P 71 rfl rfl
theorem ky_X9_bits : kY mX9_bits 1 := ⟨mT5 223 rfl rfl, w_ini_LeavesRoomModel, ⟨nmh_RX9.1, nmh_RX9.2, by decide +kernel⟩, by decide⟩
theorem kt_X9_bits : Cond.instanceMethod mX9_bits.1 ∈ wsA := mT5 222 rfl rfl
theorem ks_X9_bits : Cond.selects mX9_bits.1.cls mX9_bits.1 mX9_bits.1 ∈ wsA := mem_P 48 rfl rfl
theorem ky_X9_isGuest : kY mX9_isGuest 1 := ⟨mT5 143 rfl rfl, w_ini_LeavesRoomModel, ⟨nmh_RX9.1, nmh_RX9.2, by decide +kernel⟩, by decide⟩
theorem kt_X9_isGuest : Cond.instanceMethod mX9_isGuest.1 ∈ wsA := mT5 142 rfl rfl
theorem ks_X9_isGuest : Cond.selects mX9_isGuest.1.cls mX9_isGuest.1 mX9_isGuest.1 ∈ wsA := mem_P 30 rfl rfl
theorem ky_X9_isSeat : kY mX9_isSeat 1 := ⟨mT5 159 rfl rfl, w_ini_LeavesRoomModel, ⟨nmh_RX9.1, nmh_RX9.2, by decide +kernel⟩, by decide⟩
theorem kt_X9_isSeat : Cond.instanceMethod mX9_isSeat.1 ∈ wsA := mT5 158 rfl rfl
theorem ks_X9_isSeat : Cond.selects mX9_isSeat.1.cls mX9_isSeat.1 mX9_isSeat.1 ∈ wsA := mem_P 33 rfl rfl
theorem ky_X9_isYears : kY mX9_isYears 1 := ⟨mT6 111 rfl rfl, w_ini_LeavesRoomModel, ⟨nmh_RX9.1, nmh_RX9.2, by decide +kernel⟩, by decide⟩
theorem kt_X9_isYears : Cond.instanceMethod mX9_isYears.1 ∈ wsA := mT6 110 rfl rfl
theorem ks_X9_isYears : Cond.selects mX9_isYears.1.cls mX9_isYears.1 mX9_isYears.1 ∈ wsA := mem_P 73 rfl rfl
theorem ky_X9_whoSits : kY mX9_whoSits 1 := ⟨mT5 135 rfl rfl, w_ini_LeavesRoomModel, ⟨nmh_RX9.1, nmh_RX9.2, by decide +kernel⟩, by decide⟩
theorem kt_X9_whoSits : Cond.instanceMethod mX9_whoSits.1 ∈ wsA := mT5 134 rfl rfl
theorem ks_X9_whoSits : Cond.selects mX9_whoSits.1.cls mX9_whoSits.1 mX9_whoSits.1 ∈ wsA := mem_P 29 rfl rfl
theorem ky_X9_guest : kY mX9_guest 2 := ⟨mT5 127 rfl rfl, w_ini_LeavesRoomModel, ⟨nmh_RX9.1, nmh_RX9.2, by decide +kernel⟩, by decide⟩
theorem kt_X9_guest : Cond.instanceMethod mX9_guest.1 ∈ wsA := mT5 125 rfl rfl
theorem ks_X9_guest : Cond.selects mX9_guest.1.cls mX9_guest.1 mX9_guest.1 ∈ wsA := mT5 126 rfl rfl
theorem ky_X9_goes : kY mX9_goes 2 := ⟨mT5 151 rfl rfl, w_ini_LeavesRoomModel, ⟨nmh_RX9.1, nmh_RX9.2, by decide +kernel⟩, by decide⟩
theorem kt_X9_goes : Cond.instanceMethod mX9_goes.1 ∈ wsA := mT5 150 rfl rfl
theorem ks_X9_goes : Cond.selects mX9_goes.1.cls mX9_goes.1 mX9_goes.1 ∈ wsA := mem_P 32 rfl rfl
theorem ky_X9_leave : kY mX9_leave 2 := ⟨mT5 139 rfl rfl, w_ini_LeavesRoomModel, ⟨nmh_RX9.1, nmh_RX9.2, by decide +kernel⟩, by decide⟩
theorem kt_X9_leave : Cond.instanceMethod mX9_leave.1 ∈ wsA := mT5 137 rfl rfl
theorem ks_X9_leave : Cond.selects mX9_leave.1.cls mX9_leave.1 mX9_leave.1 ∈ wsA := mT5 138 rfl rfl
theorem ky_X9_takesSeat : kY mX9_takesSeat 2 := ⟨mT5 163 rfl rfl, w_ini_LeavesRoomModel, ⟨nmh_RX9.1, nmh_RX9.2, by decide +kernel⟩, by decide⟩
theorem kt_X9_takesSeat : Cond.instanceMethod mX9_takesSeat.1 ∈ wsA := mT5 162 rfl rfl
theorem ks_X9_takesSeat : Cond.selects mX9_takesSeat.1.cls mX9_takesSeat.1 mX9_takesSeat.1 ∈ wsA := mem_P 34 rfl rfl
theorem ky_X9_sit : kY mX9_sit 2 := ⟨mT5 155 rfl rfl, w_ini_LeavesRoomModel, ⟨nmh_RX9.1, nmh_RX9.2, by decide +kernel⟩, by decide⟩
theorem kt_X9_sit : Cond.instanceMethod mX9_sit.1 ∈ wsA := mT5 153 rfl rfl
theorem ks_X9_sit : Cond.selects mX9_sit.1.cls mX9_sit.1 mX9_sit.1 ∈ wsA := mT5 154 rfl rfl
theorem ky_X9_pours : kY mX9_pours 1 := ⟨mT5 219 rfl rfl, w_ini_LeavesRoomModel, ⟨nmh_RX9.1, nmh_RX9.2, by decide +kernel⟩, by decide⟩
theorem kt_X9_pours : Cond.instanceMethod mX9_pours.1 ∈ wsA := mT5 218 rfl rfl
theorem ks_X9_pours : Cond.selects mX9_pours.1.cls mX9_pours.1 mX9_pours.1 ∈ wsA := mem_P 47 rfl rfl
theorem ky_X9_pour : kY mX9_pour 1 := ⟨mT5 215 rfl rfl, w_ini_LeavesRoomModel, ⟨nmh_RX9.1, nmh_RX9.2, by decide +kernel⟩, by decide⟩
theorem kt_X9_pour : Cond.instanceMethod mX9_pour.1 ∈ wsA := mT5 213 rfl rfl
theorem ks_X9_pour : Cond.selects mX9_pour.1.cls mX9_pour.1 mX9_pour.1 ∈ wsA := mT5 214 rfl rfl
theorem ky_X9_row : kY mX9_row 3 := ⟨mT5 227 rfl rfl, w_ini_LeavesRoomModel, ⟨nmh_RX9.1, nmh_RX9.2, by decide +kernel⟩, by decide⟩
theorem kt_X9_row : Cond.instanceMethod mX9_row.1 ∈ wsA := mT5 225 rfl rfl
theorem ks_X9_row : Cond.selects mX9_row.1.cls mX9_row.1 mX9_row.1 ∈ wsA := mT5 226 rfl rfl
theorem ky_X9_feed : kY mX9_feed 1 := ⟨mT5 231 rfl rfl, w_ini_LeavesRoomModel, ⟨nmh_RX9.1, nmh_RX9.2, by decide +kernel⟩, by decide⟩
theorem kt_X9_feed : Cond.instanceMethod mX9_feed.1 ∈ wsA := mT5 229 rfl rfl
theorem ks_X9_feed : Cond.selects mX9_feed.1.cls mX9_feed.1 mX9_feed.1 ∈ wsA := mT5 230 rfl rfl
theorem ky_X9_next : kY mX9_next 0 := ⟨mT6 11 rfl rfl, w_ini_LeavesRoomModel, ⟨nmh_RX9.1, nmh_RX9.2, by decide +kernel⟩, by decide⟩
theorem kt_X9_next : Cond.instanceMethod mX9_next.1 ∈ wsA := mT6 10 rfl rfl
theorem ks_X9_next : Cond.selects mX9_next.1.cls mX9_next.1 mX9_next.1 ∈ wsA := mem_P 52 rfl rfl
theorem ky_X9_takes : kY mX9_takes 1 := ⟨mT6 19 rfl rfl, w_ini_LeavesRoomModel, ⟨nmh_RX9.1, nmh_RX9.2, by decide +kernel⟩, by decide⟩
theorem kt_X9_takes : Cond.instanceMethod mX9_takes.1 ∈ wsA := mT6 18 rfl rfl
theorem ks_X9_takes : Cond.selects mX9_takes.1.cls mX9_takes.1 mX9_takes.1 ∈ wsA := mem_P 54 rfl rfl
theorem ky_X9_takesWord : kY mX9_takesWord 2 := ⟨mT6 15 rfl rfl, w_ini_LeavesRoomModel, ⟨nmh_RX9.1, nmh_RX9.2, by decide +kernel⟩, by decide⟩
theorem kt_X9_takesWord : Cond.instanceMethod mX9_takesWord.1 ∈ wsA := mT6 14 rfl rfl
theorem ks_X9_takesWord : Cond.selects mX9_takesWord.1.cls mX9_takesWord.1 mX9_takesWord.1 ∈ wsA := mem_P 53 rfl rfl
theorem ky_X9_isDigit : kY mX9_isDigit 0 := ⟨mT6 27 rfl rfl, w_ini_LeavesRoomModel, ⟨nmh_RX9.1, nmh_RX9.2, by decide +kernel⟩, by decide⟩
theorem kt_X9_isDigit : Cond.instanceMethod mX9_isDigit.1 ∈ wsA := mT6 26 rfl rfl
theorem ks_X9_isDigit : Cond.selects mX9_isDigit.1.cls mX9_isDigit.1 mX9_isDigit.1 ∈ wsA := mem_P 56 rfl rfl
theorem ky_X9_takesNumber : kY mX9_takesNumber 0 := ⟨mT6 23 rfl rfl, w_ini_LeavesRoomModel, ⟨nmh_RX9.1, nmh_RX9.2, by decide +kernel⟩, by decide⟩
theorem kt_X9_takesNumber : Cond.instanceMethod mX9_takesNumber.1 ∈ wsA := mT6 22 rfl rfl
theorem ks_X9_takesNumber : Cond.selects mX9_takesNumber.1.cls mX9_takesNumber.1 mX9_takesNumber.1 ∈ wsA := mem_P 55 rfl rfl
theorem ky_X9_emits : kY mX9_emits 1 := ⟨mT6 43 rfl rfl, w_ini_LeavesRoomModel, ⟨nmh_RX9.1, nmh_RX9.2, by decide +kernel⟩, by decide⟩
theorem kt_X9_emits : Cond.instanceMethod mX9_emits.1 ∈ wsA := mT6 42 rfl rfl
theorem ks_X9_emits : Cond.selects mX9_emits.1.cls mX9_emits.1 mX9_emits.1 ∈ wsA := mem_P 60 rfl rfl
theorem ky_X9_whole : kY mX9_whole 0 := ⟨mT6 47 rfl rfl, w_ini_LeavesRoomModel, ⟨nmh_RX9.1, nmh_RX9.2, by decide +kernel⟩, by decide⟩
theorem kt_X9_whole : Cond.instanceMethod mX9_whole.1 ∈ wsA := mT6 46 rfl rfl
theorem ks_X9_whole : Cond.selects mX9_whole.1.cls mX9_whole.1 mX9_whole.1 ∈ wsA := mem_P 61 rfl rfl
theorem ky_X9_settle : kY mX9_settle 1 := ⟨mT6 51 rfl rfl, w_ini_LeavesRoomModel, ⟨nmh_RX9.1, nmh_RX9.2, by decide +kernel⟩, by decide⟩
theorem kt_X9_settle : Cond.instanceMethod mX9_settle.1 ∈ wsA := mT6 50 rfl rfl
theorem ks_X9_settle : Cond.selects mX9_settle.1.cls mX9_settle.1 mX9_settle.1 ∈ wsA := mem_P 62 rfl rfl
theorem ky_X9_place : kY mX9_place 1 := ⟨mT6 39 rfl rfl, w_ini_LeavesRoomModel, ⟨nmh_RX9.1, nmh_RX9.2, by decide +kernel⟩, by decide⟩
theorem kt_X9_place : Cond.instanceMethod mX9_place.1 ∈ wsA := mT6 38 rfl rfl
theorem ks_X9_place : Cond.selects mX9_place.1.cls mX9_place.1 mX9_place.1 ∈ wsA := mem_P 59 rfl rfl
theorem ky_X9_takesTest : kY mX9_takesTest 0 := ⟨mT6 35 rfl rfl, w_ini_LeavesRoomModel, ⟨nmh_RX9.1, nmh_RX9.2, by decide +kernel⟩, by decide⟩
theorem kt_X9_takesTest : Cond.instanceMethod mX9_takesTest.1 ∈ wsA := mT6 34 rfl rfl
theorem ks_X9_takesTest : Cond.selects mX9_takesTest.1.cls mX9_takesTest.1 mX9_takesTest.1 ∈ wsA := mem_P 58 rfl rfl
theorem ky_X9_takesE : kY mX9_takesE 1 := ⟨mT6 31 rfl rfl, w_ini_LeavesRoomModel, ⟨nmh_RX9.1, nmh_RX9.2, by decide +kernel⟩, by decide⟩
theorem kt_X9_takesE : Cond.instanceMethod mX9_takesE.1 ∈ wsA := mT6 30 rfl rfl
theorem ks_X9_takesE : Cond.selects mX9_takesE.1.cls mX9_takesE.1 mX9_takesE.1 ∈ wsA := mem_P 57 rfl rfl
theorem ky_X9_takesHead : kY mX9_takesHead 1 := ⟨mT6 7 rfl rfl, w_ini_LeavesRoomModel, ⟨nmh_RX9.1, nmh_RX9.2, by decide +kernel⟩, by decide⟩
theorem kt_X9_takesHead : Cond.instanceMethod mX9_takesHead.1 ∈ wsA := mT6 6 rfl rfl
theorem ks_X9_takesHead : Cond.selects mX9_takesHead.1.cls mX9_takesHead.1 mX9_takesHead.1 ∈ wsA := mem_P 51 rfl rfl
theorem ky_X9_takesClause : kY mX9_takesClause 1 := ⟨mT6 3 rfl rfl, w_ini_LeavesRoomModel, ⟨nmh_RX9.1, nmh_RX9.2, by decide +kernel⟩, by decide⟩
theorem kt_X9_takesClause : Cond.instanceMethod mX9_takesClause.1 ∈ wsA := mT6 2 rfl rfl
theorem ks_X9_takesClause : Cond.selects mX9_takesClause.1.cls mX9_takesClause.1 mX9_takesClause.1 ∈ wsA := mem_P 50 rfl rfl
theorem ky_X9_goesText : kY mX9_goesText 1 := ⟨mT5 239 rfl rfl, w_ini_LeavesRoomModel, ⟨nmh_RX9.1, nmh_RX9.2, by decide +kernel⟩, by decide⟩
theorem kt_X9_goesText : Cond.instanceMethod mX9_goesText.1 ∈ wsA := mT5 238 rfl rfl
theorem ks_X9_goesText : Cond.selects mX9_goesText.1.cls mX9_goesText.1 mX9_goesText.1 ∈ wsA := mem_P 49 rfl rfl
theorem ky_X9_house : kY mX9_house 0 := ⟨mT5 235 rfl rfl, w_ini_LeavesRoomModel, ⟨nmh_RX9.1, nmh_RX9.2, by decide +kernel⟩, by decide⟩
theorem kt_X9_house : Cond.instanceMethod mX9_house.1 ∈ wsA := mT5 233 rfl rfl
theorem ks_X9_house : Cond.selects mX9_house.1.cls mX9_house.1 mX9_house.1 ∈ wsA := mT5 234 rfl rfl
theorem ky_X9_begin : kY mX9_begin 0 := ⟨mT5 179 rfl rfl, w_ini_LeavesRoomModel, ⟨nmh_RX9.1, nmh_RX9.2, by decide +kernel⟩, by decide⟩
theorem kt_X9_begin : Cond.instanceMethod mX9_begin.1 ∈ wsA := mT5 178 rfl rfl
theorem ks_X9_begin : Cond.selects mX9_begin.1.cls mX9_begin.1 mX9_begin.1 ∈ wsA := mem_P 38 rfl rfl
theorem ky_X9_behind : kY mX9_behind 0 := ⟨mT5 183 rfl rfl, w_ini_LeavesRoomModel, ⟨nmh_RX9.1, nmh_RX9.2, by decide +kernel⟩, by decide⟩
theorem kt_X9_behind : Cond.instanceMethod mX9_behind.1 ∈ wsA := mT5 182 rfl rfl
theorem ks_X9_behind : Cond.selects mX9_behind.1.cls mX9_behind.1 mX9_behind.1 ∈ wsA := mem_P 39 rfl rfl
theorem ky_X9_lastOf : kY mX9_lastOf 2 := ⟨mT5 211 rfl rfl, w_ini_LeavesRoomModel, ⟨nmh_RX9.1, nmh_RX9.2, by decide +kernel⟩, by decide⟩
theorem kt_X9_lastOf : Cond.instanceMethod mX9_lastOf.1 ∈ wsA := mT5 210 rfl rfl
theorem ks_X9_lastOf : Cond.selects mX9_lastOf.1.cls mX9_lastOf.1 mX9_lastOf.1 ∈ wsA := mem_P 46 rfl rfl
theorem ky_X9_factOf : kY mX9_factOf 3 := ⟨mT5 191 rfl rfl, w_ini_LeavesRoomModel, ⟨nmh_RX9.1, nmh_RX9.2, by decide +kernel⟩, by decide⟩
theorem kt_X9_factOf : Cond.instanceMethod mX9_factOf.1 ∈ wsA := mT5 190 rfl rfl
theorem ks_X9_factOf : Cond.selects mX9_factOf.1.cls mX9_factOf.1 mX9_factOf.1 ∈ wsA := mem_P 41 rfl rfl
theorem ky_X9_holds : kY mX9_holds 3 := ⟨mT5 187 rfl rfl, w_ini_LeavesRoomModel, ⟨nmh_RX9.1, nmh_RX9.2, by decide +kernel⟩, by decide⟩
theorem kt_X9_holds : Cond.instanceMethod mX9_holds.1 ∈ wsA := mT5 186 rfl rfl
theorem ks_X9_holds : Cond.selects mX9_holds.1.cls mX9_holds.1 mX9_holds.1 ∈ wsA := mem_P 40 rfl rfl
theorem ky_X9_likesOf : kY mX9_likesOf 2 := ⟨mT5 175 rfl rfl, w_ini_LeavesRoomModel, ⟨nmh_RX9.1, nmh_RX9.2, by decide +kernel⟩, by decide⟩
theorem kt_X9_likesOf : Cond.instanceMethod mX9_likesOf.1 ∈ wsA := mT5 174 rfl rfl
theorem ks_X9_likesOf : Cond.selects mX9_likesOf.1.cls mX9_likesOf.1 mX9_likesOf.1 ∈ wsA := mem_P 37 rfl rfl
theorem ky_X9_likes : kY mX9_likes 2 := ⟨mT6 55 rfl rfl, w_ini_LeavesRoomModel, ⟨nmh_RX9.1, nmh_RX9.2, by decide +kernel⟩, by decide⟩
theorem kt_X9_likes : Cond.instanceMethod mX9_likes.1 ∈ wsA := mT6 53 rfl rfl
theorem ks_X9_likes : Cond.selects mX9_likes.1.cls mX9_likes.1 mX9_likes.1 ∈ wsA := mT6 54 rfl rfl
theorem ky_X9_layLikes : kY mX9_layLikes 0 := ⟨mT5 171 rfl rfl, w_ini_LeavesRoomModel, ⟨nmh_RX9.1, nmh_RX9.2, by decide +kernel⟩, by decide⟩
theorem kt_X9_layLikes : Cond.instanceMethod mX9_layLikes.1 ∈ wsA := mT5 170 rfl rfl
theorem ks_X9_layLikes : Cond.selects mX9_layLikes.1.cls mX9_layLikes.1 mX9_layLikes.1 ∈ wsA := mem_P 36 rfl rfl
theorem ky_X9_isBeside : kY mX9_isBeside 2 := ⟨mT5 207 rfl rfl, w_ini_LeavesRoomModel, ⟨nmh_RX9.1, nmh_RX9.2, by decide +kernel⟩, by decide⟩
theorem kt_X9_isBeside : Cond.instanceMethod mX9_isBeside.1 ∈ wsA := mT5 206 rfl rfl
theorem ks_X9_isBeside : Cond.selects mX9_isBeside.1.cls mX9_isBeside.1 mX9_isBeside.1 ∈ wsA := mem_P 45 rfl rfl
theorem ky_X9_isCompany : kY mX9_isCompany 1 := ⟨mT5 203 rfl rfl, w_ini_LeavesRoomModel, ⟨nmh_RX9.1, nmh_RX9.2, by decide +kernel⟩, by decide⟩
theorem kt_X9_isCompany : Cond.instanceMethod mX9_isCompany.1 ∈ wsA := mT5 202 rfl rfl
theorem ks_X9_isCompany : Cond.selects mX9_isCompany.1.cls mX9_isCompany.1 mX9_isCompany.1 ∈ wsA := mem_P 44 rfl rfl
theorem ky_X9_beside : kY mX9_beside 1 := ⟨mT5 199 rfl rfl, w_ini_LeavesRoomModel, ⟨nmh_RX9.1, nmh_RX9.2, by decide +kernel⟩, by decide⟩
theorem kt_X9_beside : Cond.instanceMethod mX9_beside.1 ∈ wsA := mT5 198 rfl rfl
theorem ks_X9_beside : Cond.selects mX9_beside.1.cls mX9_beside.1 mX9_beside.1 ∈ wsA := mem_P 43 rfl rfl
theorem ky_X9_fondBy : kY mX9_fondBy 1 := ⟨mT5 195 rfl rfl, w_ini_LeavesRoomModel, ⟨nmh_RX9.1, nmh_RX9.2, by decide +kernel⟩, by decide⟩
theorem kt_X9_fondBy : Cond.instanceMethod mX9_fondBy.1 ∈ wsA := mT5 194 rfl rfl
theorem ks_X9_fondBy : Cond.selects mX9_fondBy.1.cls mX9_fondBy.1 mX9_fondBy.1 ∈ wsA := mem_P 42 rfl rfl
theorem ky_X9_fond : kY mX9_fond 1 := ⟨mT5 167 rfl rfl, w_ini_LeavesRoomModel, ⟨nmh_RX9.1, nmh_RX9.2, by decide +kernel⟩, by decide⟩
theorem kt_X9_fond : Cond.instanceMethod mX9_fond.1 ∈ wsA := mT5 166 rfl rfl
theorem ks_X9_fond : Cond.selects mX9_fond.1.cls mX9_fond.1 mX9_fond.1 ∈ wsA := mem_P 35 rfl rfl
theorem ky_X9_allFondBy : kY mX9_allFondBy 0 := ⟨mT6 71 rfl rfl, w_ini_LeavesRoomModel, ⟨nmh_RX9.1, nmh_RX9.2, by decide +kernel⟩, by decide⟩
theorem kt_X9_allFondBy : Cond.instanceMethod mX9_allFondBy.1 ∈ wsA := mT6 70 rfl rfl
theorem ks_X9_allFondBy : Cond.selects mX9_allFondBy.1.cls mX9_allFondBy.1 mX9_allFondBy.1 ∈ wsA := mem_P 64 rfl rfl
theorem ky_X9_allFond : kY mX9_allFond 0 := ⟨mT6 67 rfl rfl, w_ini_LeavesRoomModel, ⟨nmh_RX9.1, nmh_RX9.2, by decide +kernel⟩, by decide⟩
theorem kt_X9_allFond : Cond.instanceMethod mX9_allFond.1 ∈ wsA := mT6 66 rfl rfl
theorem ks_X9_allFond : Cond.selects mX9_allFond.1.cls mX9_allFond.1 mX9_allFond.1 ∈ wsA := mem_P 63 rfl rfl
theorem ky_X9_clashesBy : kY mX9_clashesBy 0 := ⟨mT6 79 rfl rfl, w_ini_LeavesRoomModel, ⟨nmh_RX9.1, nmh_RX9.2, by decide +kernel⟩, by decide⟩
theorem kt_X9_clashesBy : Cond.instanceMethod mX9_clashesBy.1 ∈ wsA := mT6 78 rfl rfl
theorem ks_X9_clashesBy : Cond.selects mX9_clashesBy.1.cls mX9_clashesBy.1 mX9_clashesBy.1 ∈ wsA := mem_P 66 rfl rfl
theorem ky_X9_clashes : kY mX9_clashes 0 := ⟨mT6 75 rfl rfl, w_ini_LeavesRoomModel, ⟨nmh_RX9.1, nmh_RX9.2, by decide +kernel⟩, by decide⟩
theorem kt_X9_clashes : Cond.instanceMethod mX9_clashes.1 ∈ wsA := mT6 74 rfl rfl
theorem ks_X9_clashes : Cond.selects mX9_clashes.1.cls mX9_clashes.1 mX9_clashes.1 ∈ wsA := mem_P 65 rfl rfl
theorem ky_X9_of : kY mX9_of 2 := ⟨mT6 59 rfl rfl, w_ini_LeavesRoomModel, ⟨nmh_RX9.1, nmh_RX9.2, by decide +kernel⟩, by decide⟩
theorem kt_X9_of : Cond.instanceMethod mX9_of.1 ∈ wsA := mT6 57 rfl rfl
theorem ks_X9_of : Cond.selects mX9_of.1.cls mX9_of.1 mX9_of.1 ∈ wsA := mT6 58 rfl rfl
theorem ky_X9_isDue : kY mX9_isDue 1 := ⟨mT6 91 rfl rfl, w_ini_LeavesRoomModel, ⟨nmh_RX9.1, nmh_RX9.2, by decide +kernel⟩, by decide⟩
theorem kt_X9_isDue : Cond.instanceMethod mX9_isDue.1 ∈ wsA := mT6 90 rfl rfl
theorem ks_X9_isDue : Cond.selects mX9_isDue.1.cls mX9_isDue.1 mX9_isDue.1 ∈ wsA := mem_P 69 rfl rfl
theorem ky_X9_isCovered : kY mX9_isCovered 2 := ⟨mT6 87 rfl rfl, w_ini_LeavesRoomModel, ⟨nmh_RX9.1, nmh_RX9.2, by decide +kernel⟩, by decide⟩
theorem kt_X9_isCovered : Cond.instanceMethod mX9_isCovered.1 ∈ wsA := mT6 86 rfl rfl
theorem ks_X9_isCovered : Cond.selects mX9_isCovered.1.cls mX9_isCovered.1 mX9_isCovered.1 ∈ wsA := mem_P 68 rfl rfl
theorem ky_X9_steps : kY mX9_steps 1 := ⟨mT6 95 rfl rfl, w_ini_LeavesRoomModel, ⟨nmh_RX9.1, nmh_RX9.2, by decide +kernel⟩, by decide⟩
theorem kt_X9_steps : Cond.instanceMethod mX9_steps.1 ∈ wsA := mT6 94 rfl rfl
theorem ks_X9_steps : Cond.selects mX9_steps.1.cls mX9_steps.1 mX9_steps.1 ∈ wsA := mem_P 70 rfl rfl
theorem ky_X9_round : kY mX9_round 0 := ⟨mT6 83 rfl rfl, w_ini_LeavesRoomModel, ⟨nmh_RX9.1, nmh_RX9.2, by decide +kernel⟩, by decide⟩
theorem kt_X9_round : Cond.instanceMethod mX9_round.1 ∈ wsA := mT6 82 rfl rfl
theorem ks_X9_round : Cond.selects mX9_round.1.cls mX9_round.1 mX9_round.1 ∈ wsA := mem_P 67 rfl rfl
theorem ky_X9_toward : kY mX9_toward 0 := ⟨mT6 103 rfl rfl, w_ini_LeavesRoomModel, ⟨nmh_RX9.1, nmh_RX9.2, by decide +kernel⟩, by decide⟩
theorem kt_X9_toward : Cond.instanceMethod mX9_toward.1 ∈ wsA := mT6 102 rfl rfl
theorem ks_X9_toward : Cond.selects mX9_toward.1.cls mX9_toward.1 mX9_toward.1 ∈ wsA := mem_P 72 rfl rfl
theorem ky_X9_told : kY mX9_told 1 := ⟨mT6 63 rfl rfl, w_ini_LeavesRoomModel, ⟨nmh_RX9.1, nmh_RX9.2, by decide +kernel⟩, by decide⟩
theorem kt_X9_told : Cond.instanceMethod mX9_told.1 ∈ wsA := mT6 61 rfl rfl
theorem ks_X9_told : Cond.selects mX9_told.1.cls mX9_told.1 mX9_told.1 ∈ wsA := mT6 62 rfl rfl
theorem ky_X9_goYear : kY mX9_goYear 0 := ⟨mT6 119 rfl rfl, w_ini_LeavesRoomModel, ⟨nmh_RX9.1, nmh_RX9.2, by decide +kernel⟩, by decide⟩
theorem kt_X9_goYear : Cond.instanceMethod mX9_goYear.1 ∈ wsA := mT6 118 rfl rfl
theorem ks_X9_goYear : Cond.selects mX9_goYear.1.cls mX9_goYear.1 mX9_goYear.1 ∈ wsA := mem_P 75 rfl rfl
theorem ky_X9_goYears : kY mX9_goYears 1 := ⟨mT6 115 rfl rfl, w_ini_LeavesRoomModel, ⟨nmh_RX9.1, nmh_RX9.2, by decide +kernel⟩, by decide⟩
theorem kt_X9_goYears : Cond.instanceMethod mX9_goYears.1 ∈ wsA := mT6 114 rfl rfl
theorem ks_X9_goYears : Cond.selects mX9_goYears.1.cls mX9_goYears.1 mX9_goYears.1 ∈ wsA := mem_P 74 rfl rfl
theorem ky_X9_pass : kY mX9_pass 1 := ⟨mT6 107 rfl rfl, w_ini_LeavesRoomModel, ⟨nmh_RX9.1, nmh_RX9.2, by decide +kernel⟩, by decide⟩
theorem kt_X9_pass : Cond.instanceMethod mX9_pass.1 ∈ wsA := mT6 105 rfl rfl
theorem ks_X9_pass : Cond.selects mX9_pass.1.cls mX9_pass.1 mX9_pass.1 ∈ wsA := mT6 106 rfl rfl
theorem ky_X9_save : kY mX9_save 0 := ⟨mT6 127 rfl rfl, w_ini_LeavesRoomModel, ⟨nmh_RX9.1, nmh_RX9.2, by decide +kernel⟩, by decide⟩
theorem kt_X9_save : Cond.instanceMethod mX9_save.1 ∈ wsA := mT6 126 rfl rfl
theorem ks_X9_save : Cond.selects mX9_save.1.cls mX9_save.1 mX9_save.1 ∈ wsA := mem_P 76 rfl rfl
theorem ky_X9_putBack : kY mX9_putBack 0 := ⟨mT6 136 rfl rfl, w_ini_LeavesRoomModel, ⟨nmh_RX9.1, nmh_RX9.2, by decide +kernel⟩, by decide⟩
theorem kt_X9_putBack : Cond.instanceMethod mX9_putBack.1 ∈ wsA := mT6 135 rfl rfl
theorem ks_X9_putBack : Cond.selects mX9_putBack.1.cls mX9_putBack.1 mX9_putBack.1 ∈ wsA := mem_P 78 rfl rfl
theorem ky_X9_usesMore : kY mX9_usesMore 0 := ⟨mT6 132 rfl rfl, w_ini_LeavesRoomModel, ⟨nmh_RX9.1, nmh_RX9.2, by decide +kernel⟩, by decide⟩
theorem kt_X9_usesMore : Cond.instanceMethod mX9_usesMore.1 ∈ wsA := mT6 131 rfl rfl
theorem ks_X9_usesMore : Cond.selects mX9_usesMore.1.cls mX9_usesMore.1 mX9_usesMore.1 ∈ wsA := mem_P 77 rfl rfl
theorem ky_X9_on : kY mX9_on 2 := ⟨mT6 123 rfl rfl, w_ini_LeavesRoomModel, ⟨nmh_RX9.1, nmh_RX9.2, by decide +kernel⟩, by decide⟩
theorem kt_X9_on : Cond.instanceMethod mX9_on.1 ∈ wsA := mT6 121 rfl rfl
theorem ks_X9_on : Cond.selects mX9_on.1.cls mX9_on.1 mX9_on.1 ∈ wsA := mT6 122 rfl rfl
theorem ky_X9_soon : kY mX9_soon 1 := ⟨mT6 140 rfl rfl, w_ini_LeavesRoomModel, ⟨nmh_RX9.1, nmh_RX9.2, by decide +kernel⟩, by decide⟩
theorem kt_X9_soon : Cond.instanceMethod mX9_soon.1 ∈ wsA := mT6 138 rfl rfl
theorem ks_X9_soon : Cond.selects mX9_soon.1.cls mX9_soon.1 mX9_soon.1 ∈ wsA := mT6 139 rfl rfl
theorem ky_X9_layPlacing : kY mX9_layPlacing 1 := ⟨mT6 152 rfl rfl, w_ini_LeavesRoomModel, ⟨nmh_RX9.1, nmh_RX9.2, by decide +kernel⟩, by decide⟩
theorem kt_X9_layPlacing : Cond.instanceMethod mX9_layPlacing.1 ∈ wsA := mT6 151 rfl rfl
theorem ks_X9_layPlacing : Cond.selects mX9_layPlacing.1.cls mX9_layPlacing.1 mX9_layPlacing.1 ∈ wsA := mem_P 80 rfl rfl
theorem ky_X9_layBest : kY mX9_layBest 1 := ⟨mT6 148 rfl rfl, w_ini_LeavesRoomModel, ⟨nmh_RX9.1, nmh_RX9.2, by decide +kernel⟩, by decide⟩
theorem kt_X9_layBest : Cond.instanceMethod mX9_layBest.1 ∈ wsA := mT6 147 rfl rfl
theorem ks_X9_layBest : Cond.selects mX9_layBest.1.cls mX9_layBest.1 mX9_layBest.1 ∈ wsA := mem_P 79 rfl rfl
theorem ky_X9_best : kY mX9_best 1 := ⟨mT6 144 rfl rfl, w_ini_LeavesRoomModel, ⟨nmh_RX9.1, nmh_RX9.2, by decide +kernel⟩, by decide⟩
theorem kt_X9_best : Cond.instanceMethod mX9_best.1 ∈ wsA := mT6 142 rfl rfl
theorem ks_X9_best : Cond.selects mX9_best.1.cls mX9_best.1 mX9_best.1 ∈ wsA := mT6 143 rfl rfl
theorem ky_X9_peace : kY mX9_peace 1 := ⟨mT6 156 rfl rfl, w_ini_LeavesRoomModel, ⟨nmh_RX9.1, nmh_RX9.2, by decide +kernel⟩, by decide⟩
theorem kt_X9_peace : Cond.instanceMethod mX9_peace.1 ∈ wsA := mT6 154 rfl rfl
theorem ks_X9_peace : Cond.selects mX9_peace.1.cls mX9_peace.1 mX9_peace.1 ∈ wsA := mT6 155 rfl rfl
theorem ky_X9_change : kY mX9_change 0 := ⟨mT6 160 rfl rfl, w_ini_LeavesRoomModel, ⟨nmh_RX9.1, nmh_RX9.2, by decide +kernel⟩, by decide⟩
theorem kt_X9_change : Cond.instanceMethod mX9_change.1 ∈ wsA := mT6 158 rfl rfl
theorem ks_X9_change : Cond.selects mX9_change.1.cls mX9_change.1 mX9_change.1 ∈ wsA := mT6 159 rfl rfl
theorem ky_X9_seat : kY mX9_seat 1 := ⟨mT6 164 rfl rfl, w_ini_LeavesRoomModel, ⟨nmh_RX9.1, nmh_RX9.2, by decide +kernel⟩, by decide⟩
theorem kt_X9_seat : Cond.instanceMethod mX9_seat.1 ∈ wsA := mT6 162 rfl rfl
theorem ks_X9_seat : Cond.selects mX9_seat.1.cls mX9_seat.1 mX9_seat.1 ∈ wsA := mT6 163 rfl rfl
theorem ky_X9_see : kY mX9_see 3 := ⟨mT6 168 rfl rfl, w_ini_LeavesRoomModel, ⟨nmh_RX9.1, nmh_RX9.2, by decide +kernel⟩, by decide⟩
theorem kt_X9_see : Cond.instanceMethod mX9_see.1 ∈ wsA := mT6 166 rfl rfl
theorem ks_X9_see : Cond.selects mX9_see.1.cls mX9_see.1 mX9_see.1 ∈ wsA := mT6 167 rfl rfl
theorem ky_X9_isSeen : kY mX9_isSeen 0 := ⟨mT6 176 rfl rfl, w_ini_LeavesRoomModel, ⟨nmh_RX9.1, nmh_RX9.2, by decide +kernel⟩, by decide⟩
theorem kt_X9_isSeen : Cond.instanceMethod mX9_isSeen.1 ∈ wsA := mT6 175 rfl rfl
theorem ks_X9_isSeen : Cond.selects mX9_isSeen.1.cls mX9_isSeen.1 mX9_isSeen.1 ∈ wsA := mem_P 81 rfl rfl
theorem ky_X9_where : kY mX9_where 1 := ⟨mT6 172 rfl rfl, w_ini_LeavesRoomModel, ⟨nmh_RX9.1, nmh_RX9.2, by decide +kernel⟩, by decide⟩
theorem kt_X9_where : Cond.instanceMethod mX9_where.1 ∈ wsA := mT6 170 rfl rfl
theorem ks_X9_where : Cond.selects mX9_where.1.cls mX9_where.1 mX9_where.1 ∈ wsA := mT6 171 rfl rfl
theorem ky_X9_can : kY mX9_can 2 := ⟨mT6 180 rfl rfl, w_ini_LeavesRoomModel, ⟨nmh_RX9.1, nmh_RX9.2, by decide +kernel⟩, by decide⟩
theorem kt_X9_can : Cond.instanceMethod mX9_can.1 ∈ wsA := mT6 178 rfl rfl
theorem ks_X9_can : Cond.selects mX9_can.1.cls mX9_can.1 mX9_can.1 ∈ wsA := mT6 179 rfl rfl
theorem ky_X9_divisor : kY mX9_divisor 2 := ⟨mT6 193 rfl rfl, w_ini_LeavesRoomModel, ⟨nmh_RX9.1, nmh_RX9.2, by decide +kernel⟩, by decide⟩
theorem kt_X9_divisor : Cond.instanceMethod mX9_divisor.1 ∈ wsA := mT6 192 rfl rfl
theorem ks_X9_divisor : Cond.selects mX9_divisor.1.cls mX9_divisor.1 mX9_divisor.1 ∈ wsA := mem_P 83 rfl rfl
theorem ky_X9_lowest : kY mX9_lowest 3 := ⟨mT6 189 rfl rfl, w_ini_LeavesRoomModel, ⟨nmh_RX9.1, nmh_RX9.2, by decide +kernel⟩, by decide⟩
theorem kt_X9_lowest : Cond.instanceMethod mX9_lowest.1 ∈ wsA := mT6 188 rfl rfl
theorem ks_X9_lowest : Cond.selects mX9_lowest.1.cls mX9_lowest.1 mX9_lowest.1 ∈ wsA := mem_P 82 rfl rfl
theorem ky_X9_odds : kY mX9_odds 2 := ⟨mT6 184 rfl rfl, w_ini_LeavesRoomModel, ⟨nmh_RX9.1, nmh_RX9.2, by decide +kernel⟩, by decide⟩
theorem kt_X9_odds : Cond.instanceMethod mX9_odds.1 ∈ wsA := mT6 182 rfl rfl
theorem ks_X9_odds : Cond.selects mX9_odds.1.cls mX9_odds.1 mX9_odds.1 ∈ wsA := mT6 183 rfl rfl
theorem ky_X9_mean : kY mX9_mean 1 := ⟨mT6 197 rfl rfl, w_ini_LeavesRoomModel, ⟨nmh_RX9.1, nmh_RX9.2, by decide +kernel⟩, by decide⟩
theorem kt_X9_mean : Cond.instanceMethod mX9_mean.1 ∈ wsA := mT6 195 rfl rfl
theorem ks_X9_mean : Cond.selects mX9_mean.1.cls mX9_mean.1 mX9_mean.1 ∈ wsA := mT6 196 rfl rfl
theorem ky_X9_plan : kY mX9_plan 2 := ⟨mT6 201 rfl rfl, w_ini_LeavesRoomModel, ⟨nmh_RX9.1, nmh_RX9.2, by decide +kernel⟩, by decide⟩
theorem kt_X9_plan : Cond.instanceMethod mX9_plan.1 ∈ wsA := mT6 199 rfl rfl
theorem ks_X9_plan : Cond.selects mX9_plan.1.cls mX9_plan.1 mX9_plan.1 ∈ wsA := mT6 200 rfl rfl
theorem ky_X9_ends : kY mX9_ends 1 := ⟨mT6 205 rfl rfl, w_ini_LeavesRoomModel, ⟨nmh_RX9.1, nmh_RX9.2, by decide +kernel⟩, by decide⟩
theorem kt_X9_ends : Cond.instanceMethod mX9_ends.1 ∈ wsA := mT6 203 rfl rfl
theorem ks_X9_ends : Cond.selects mX9_ends.1.cls mX9_ends.1 mX9_ends.1 ∈ wsA := mT6 204 rfl rfl
theorem ky_X9_book : kY mX9_book 2 := ⟨mT6 209 rfl rfl, w_ini_LeavesRoomModel, ⟨nmh_RX9.1, nmh_RX9.2, by decide +kernel⟩, by decide⟩
theorem kt_X9_book : Cond.instanceMethod mX9_book.1 ∈ wsA := mT6 207 rfl rfl
theorem ks_X9_book : Cond.selects mX9_book.1.cls mX9_book.1 mX9_book.1 ∈ wsA := mT6 208 rfl rfl
theorem ky_X9_looked : kY mX9_looked 0 := ⟨mT6 213 rfl rfl, w_ini_LeavesRoomModel, ⟨nmh_RX9.1, nmh_RX9.2, by decide +kernel⟩, by decide⟩
theorem kt_X9_looked : Cond.instanceMethod mX9_looked.1 ∈ wsA := mT6 211 rfl rfl
theorem ks_X9_looked : Cond.selects mX9_looked.1.cls mX9_looked.1 mX9_looked.1 ∈ wsA := mT6 212 rfl rfl
theorem ky_X9_judge : kY mX9_judge 2 := ⟨mT6 217 rfl rfl, w_ini_LeavesRoomModel, ⟨nmh_RX9.1, nmh_RX9.2, by decide +kernel⟩, by decide⟩
theorem kt_X9_judge : Cond.instanceMethod mX9_judge.1 ∈ wsA := mT6 215 rfl rfl
theorem ks_X9_judge : Cond.selects mX9_judge.1.cls mX9_judge.1 mX9_judge.1 ∈ wsA := mT6 216 rfl rfl
theorem ky_X9_image : kY mX9_image 0 := ⟨mT6 225 rfl rfl, w_ini_LeavesRoomModel, ⟨nmh_RX9.1, nmh_RX9.2, by decide +kernel⟩, by decide⟩
theorem kt_X9_image : Cond.instanceMethod mX9_image.1 ∈ wsA := mT6 223 rfl rfl
theorem ks_X9_image : Cond.selects mX9_image.1.cls mX9_image.1 mX9_image.1 ∈ wsA := mT6 224 rfl rfl
theorem ky_X9_undo : kY mX9_undo 0 := ⟨mT6 229 rfl rfl, w_ini_LeavesRoomModel, ⟨nmh_RX9.1, nmh_RX9.2, by decide +kernel⟩, by decide⟩
theorem kt_X9_undo : Cond.instanceMethod mX9_undo.1 ∈ wsA := mT6 227 rfl rfl
theorem ks_X9_undo : Cond.selects mX9_undo.1.cls mX9_undo.1 mX9_undo.1 ∈ wsA := mT6 228 rfl rfl
theorem ky_X9_body : kY mX9_body 1 := ⟨mT7 1 rfl rfl, w_ini_LeavesRoomModel, ⟨nmh_RX9.1, nmh_RX9.2, by decide +kernel⟩, by decide⟩
theorem kt_X9_body : Cond.instanceMethod mX9_body.1 ∈ wsA := mT7 0 rfl rfl
theorem ks_X9_body : Cond.selects mX9_body.1.cls mX9_body.1 mX9_body.1 ∈ wsA := mem_P 86 rfl rfl
theorem ky_X9_guestSips : kY mX9_guestSips 2 := ⟨mT7 5 rfl rfl, w_ini_LeavesRoomModel, ⟨nmh_RX9.1, nmh_RX9.2, by decide +kernel⟩, by decide⟩
theorem kt_X9_guestSips : Cond.instanceMethod mX9_guestSips.1 ∈ wsA := mT7 4 rfl rfl
theorem ks_X9_guestSips : Cond.selects mX9_guestSips.1.cls mX9_guestSips.1 mX9_guestSips.1 ∈ wsA := mem_P 87 rfl rfl
theorem ky_X9_sipsAct : kY mX9_sipsAct 2 := ⟨mT6 237 rfl rfl, w_ini_LeavesRoomModel, ⟨nmh_RX9.1, nmh_RX9.2, by decide +kernel⟩, by decide⟩
theorem kt_X9_sipsAct : Cond.instanceMethod mX9_sipsAct.1 ∈ wsA := mT6 236 rfl rfl
theorem ks_X9_sipsAct : Cond.selects mX9_sipsAct.1.cls mX9_sipsAct.1 mX9_sipsAct.1 ∈ wsA := mem_P 85 rfl rfl
theorem ky_X9_guestChats : kY mX9_guestChats 2 := ⟨mT7 17 rfl rfl, w_ini_LeavesRoomModel, ⟨nmh_RX9.1, nmh_RX9.2, by decide +kernel⟩, by decide⟩
theorem kt_X9_guestChats : Cond.instanceMethod mX9_guestChats.1 ∈ wsA := mT7 16 rfl rfl
theorem ks_X9_guestChats : Cond.selects mX9_guestChats.1.cls mX9_guestChats.1 mX9_guestChats.1 ∈ wsA := mem_P 90 rfl rfl
theorem ky_X9_wouldChats : kY mX9_wouldChats 2 := ⟨mT7 13 rfl rfl, w_ini_LeavesRoomModel, ⟨nmh_RX9.1, nmh_RX9.2, by decide +kernel⟩, by decide⟩
theorem kt_X9_wouldChats : Cond.instanceMethod mX9_wouldChats.1 ∈ wsA := mT7 12 rfl rfl
theorem ks_X9_wouldChats : Cond.selects mX9_wouldChats.1.cls mX9_wouldChats.1 mX9_wouldChats.1 ∈ wsA := mem_P 89 rfl rfl
theorem ky_X9_chatsAct : kY mX9_chatsAct 2 := ⟨mT7 9 rfl rfl, w_ini_LeavesRoomModel, ⟨nmh_RX9.1, nmh_RX9.2, by decide +kernel⟩, by decide⟩
theorem kt_X9_chatsAct : Cond.instanceMethod mX9_chatsAct.1 ∈ wsA := mT7 8 rfl rfl
theorem ks_X9_chatsAct : Cond.selects mX9_chatsAct.1.cls mX9_chatsAct.1 mX9_chatsAct.1 ∈ wsA := mem_P 88 rfl rfl
theorem ky_X9_guestTells : kY mX9_guestTells 2 := ⟨mT7 25 rfl rfl, w_ini_LeavesRoomModel, ⟨nmh_RX9.1, nmh_RX9.2, by decide +kernel⟩, by decide⟩
theorem kt_X9_guestTells : Cond.instanceMethod mX9_guestTells.1 ∈ wsA := mT7 24 rfl rfl
theorem ks_X9_guestTells : Cond.selects mX9_guestTells.1.cls mX9_guestTells.1 mX9_guestTells.1 ∈ wsA := mem_P 92 rfl rfl
theorem ky_X9_tellsAct : kY mX9_tellsAct 2 := ⟨mT7 21 rfl rfl, w_ini_LeavesRoomModel, ⟨nmh_RX9.1, nmh_RX9.2, by decide +kernel⟩, by decide⟩
theorem kt_X9_tellsAct : Cond.instanceMethod mX9_tellsAct.1 ∈ wsA := mT7 20 rfl rfl
theorem ks_X9_tellsAct : Cond.selects mX9_tellsAct.1.cls mX9_tellsAct.1 mX9_tellsAct.1 ∈ wsA := mem_P 91 rfl rfl
theorem ky_X9_act : kY mX9_act 3 := ⟨mT6 233 rfl rfl, w_ini_LeavesRoomModel, ⟨nmh_RX9.1, nmh_RX9.2, by decide +kernel⟩, by decide⟩
theorem kt_X9_act : Cond.instanceMethod mX9_act.1 ∈ wsA := mT6 231 rfl rfl
theorem ks_X9_act : Cond.selects mX9_act.1.cls mX9_act.1 mX9_act.1 ∈ wsA := mT6 232 rfl rfl
theorem ky_X9_trace : kY mX9_trace 1 := ⟨mT7 29 rfl rfl, w_ini_LeavesRoomModel, ⟨nmh_RX9.1, nmh_RX9.2, by decide +kernel⟩, by decide⟩
theorem kt_X9_trace : Cond.instanceMethod mX9_trace.1 ∈ wsA := mT7 27 rfl rfl
theorem ks_X9_trace : Cond.selects mX9_trace.1.cls mX9_trace.1 mX9_trace.1 ∈ wsA := mT7 28 rfl rfl
theorem ky_X9_taken : kY mX9_taken 2 := ⟨mT7 33 rfl rfl, w_ini_LeavesRoomModel, ⟨nmh_RX9.1, nmh_RX9.2, by decide +kernel⟩, by decide⟩
theorem kt_X9_taken : Cond.instanceMethod mX9_taken.1 ∈ wsA := mT7 31 rfl rfl
theorem ks_X9_taken : Cond.selects mX9_taken.1.cls mX9_taken.1 mX9_taken.1 ∈ wsA := mT7 32 rfl rfl
theorem ky_X9_count : kY mX9_count 1 := ⟨mT7 37 rfl rfl, w_ini_LeavesRoomModel, ⟨nmh_RX9.1, nmh_RX9.2, by decide +kernel⟩, by decide⟩
theorem kt_X9_count : Cond.instanceMethod mX9_count.1 ∈ wsA := mT7 35 rfl rfl
theorem ks_X9_count : Cond.selects mX9_count.1.cls mX9_count.1 mX9_count.1 ∈ wsA := mT7 36 rfl rfl
theorem ky_X9_isTape : kY mX9_isTape 1 := ⟨mT6 221 rfl rfl, w_ini_LeavesRoomModel, ⟨nmh_RX9.1, nmh_RX9.2, by decide +kernel⟩, by decide⟩
theorem kt_X9_isTape : Cond.instanceMethod mX9_isTape.1 ∈ wsA := mT6 220 rfl rfl
theorem ks_X9_isTape : Cond.selects mX9_isTape.1.cls mX9_isTape.1 mX9_isTape.1 ∈ wsA := mem_P 84 rfl rfl
theorem ky_X9_tape : kY mX9_tape 3 := ⟨mT7 41 rfl rfl, w_ini_LeavesRoomModel, ⟨nmh_RX9.1, nmh_RX9.2, by decide +kernel⟩, by decide⟩
theorem kt_X9_tape : Cond.instanceMethod mX9_tape.1 ∈ wsA := mT7 39 rfl rfl
theorem ks_X9_tape : Cond.selects mX9_tape.1.cls mX9_tape.1 mX9_tape.1 ∈ wsA := mT7 40 rfl rfl
theorem ky_X9_narrow : kY mX9_narrow 2 := ⟨mT7 49 rfl rfl, w_ini_LeavesRoomModel, ⟨nmh_RX9.1, nmh_RX9.2, by decide +kernel⟩, by decide⟩
theorem kt_X9_narrow : Cond.instanceMethod mX9_narrow.1 ∈ wsA := mT7 48 rfl rfl
theorem ks_X9_narrow : Cond.selects mX9_narrow.1.cls mX9_narrow.1 mX9_narrow.1 ∈ wsA := mem_P 93 rfl rfl
theorem ky_X9_item : kY mX9_item 3 := ⟨mT7 45 rfl rfl, w_ini_LeavesRoomModel, ⟨nmh_RX9.1, nmh_RX9.2, by decide +kernel⟩, by decide⟩
theorem kt_X9_item : Cond.instanceMethod mX9_item.1 ∈ wsA := mT7 43 rfl rfl
theorem ks_X9_item : Cond.selects mX9_item.1.cls mX9_item.1 mX9_item.1 ∈ wsA := mT7 44 rfl rfl
theorem ky_X9_read : kY mX9_read 2 := ⟨mT7 53 rfl rfl, w_ini_LeavesRoomModel, ⟨nmh_RX9.1, nmh_RX9.2, by decide +kernel⟩, by decide⟩
theorem kt_X9_read : Cond.instanceMethod mX9_read.1 ∈ wsA := mT7 51 rfl rfl
theorem ks_X9_read : Cond.selects mX9_read.1.cls mX9_read.1 mX9_read.1 ∈ wsA := mT7 52 rfl rfl
theorem ky_X9_shift : kY mX9_shift 5 := ⟨mT7 57 rfl rfl, w_ini_LeavesRoomModel, ⟨nmh_RX9.1, nmh_RX9.2, by decide +kernel⟩, by decide⟩
theorem kt_X9_shift : Cond.instanceMethod mX9_shift.1 ∈ wsA := mT7 55 rfl rfl
theorem ks_X9_shift : Cond.selects mX9_shift.1.cls mX9_shift.1 mX9_shift.1 ∈ wsA := mT7 56 rfl rfl
theorem ky_J6_bitCount_0f7a4 : kY mJ6_bitCount_0f7a4 1 := ⟨mT2 180 rfl rfl, w_ini_java_lang_Integer, ⟨nmh_RJ6.1, nmh_RJ6.2, by decide +kernel⟩, by decide⟩
theorem kt_J6_bitCount_0f7a4 : Cond.static mJ6_bitCount_0f7a4.1 ∈ wsA := mT2 179 rfl rfl
theorem ky_J9_max_7cf53 : kY mJ9_max_7cf53 2 := ⟨mT3 212 rfl rfl, w_ini_java_lang_Math, ⟨nmh_RJ9.1, nmh_RJ9.2, by decide +kernel⟩, by decide⟩
theorem kt_J9_max_7cf53 : Cond.static mJ9_max_7cf53.1 ∈ wsA := mT3 211 rfl rfl
theorem ky_J9_min_7cf53 : kY mJ9_min_7cf53 2 := ⟨mT2 202 rfl rfl, w_ini_java_lang_Math, ⟨nmh_RJ9.1, nmh_RJ9.2, by decide +kernel⟩, by decide⟩
theorem kt_J9_min_7cf53 : Cond.static mJ9_min_7cf53.1 ∈ wsA := mT2 201 rfl rfl
theorem ky_J0_length_8abf5 : kY mJ0_length_8abf5 0 := ⟨mT2 229 rfl rfl, w_ini_java_lang_String, ⟨nmh_RJ0.1, nmh_RJ0.2, by decide +kernel⟩, by decide⟩
theorem kt_J0_length_8abf5 : Cond.instanceMethod mJ0_length_8abf5.1 ∈ wsA := mT2 227 rfl rfl
theorem ks_J0_length_8abf5 : Cond.selects mJ0_length_8abf5.1.cls mJ0_length_8abf5.1 mJ0_length_8abf5.1 ∈ wsA := mT2 228 rfl rfl
theorem ky_J0_charAt_5068e : kY mJ0_charAt_5068e 1 := ⟨mT2 239 rfl rfl, w_ini_java_lang_String, ⟨nmh_RJ0.1, nmh_RJ0.2, by decide +kernel⟩, by decide⟩
theorem kt_J0_charAt_5068e : Cond.instanceMethod mJ0_charAt_5068e.1 ∈ wsA := mT2 237 rfl rfl
theorem ks_J0_charAt_5068e : Cond.selects mJ0_charAt_5068e.1.cls mJ0_charAt_5068e.1 mJ0_charAt_5068e.1 ∈ wsA := mT2 238 rfl rfl
theorem ky_J0_coder_7d493 : kY mJ0_coder_7d493 0 := ⟨mT2 233 rfl rfl, w_ini_java_lang_String, ⟨nmh_RJ0.1, nmh_RJ0.2, by decide +kernel⟩, by decide⟩
theorem kt_J0_coder_7d493 : Cond.instanceMethod mJ0_coder_7d493.1 ∈ wsA := mT2 231 rfl rfl
theorem ks_J0_coder_7d493 : Cond.selects mJ0_coder_7d493.1.cls mJ0_coder_7d493.1 mJ0_coder_7d493.1 ∈ wsA := mT2 232 rfl rfl
theorem ky_J0_isLatin1_aae02 : kY mJ0_isLatin1_aae02 0 := ⟨mT3 3 rfl rfl, w_ini_java_lang_String, ⟨nmh_RJ0.1, nmh_RJ0.2, by decide +kernel⟩, by decide⟩
theorem kt_J0_isLatin1_aae02 : Cond.instanceMethod mJ0_isLatin1_aae02.1 ∈ wsA := mT3 1 rfl rfl
theorem ks_J0_isLatin1_aae02 : Cond.selects mJ0_isLatin1_aae02.1.cls mJ0_isLatin1_aae02.1 mJ0_isLatin1_aae02.1 ∈ wsA := mT3 2 rfl rfl
theorem ky_J0_checkIndex_df160 : kY mJ0_checkIndex_df160 2 := ⟨mT3 9 rfl rfl, w_ini_java_lang_String, ⟨nmh_RJ0.1, nmh_RJ0.2, by decide +kernel⟩, by decide⟩
theorem kt_J0_checkIndex_df160 : Cond.static mJ0_checkIndex_df160.1 ∈ wsA := mT3 8 rfl rfl
theorem ky_J1_charAt_3b067 : kY mJ1_charAt_3b067 2 := ⟨mT3 6 rfl rfl, w_ini_java_lang_StringLatin1, ⟨nmh_RJ1.1, nmh_RJ1.2, by decide +kernel⟩, by decide⟩
theorem kt_J1_charAt_3b067 : Cond.static mJ1_charAt_3b067.1 ∈ wsA := mT3 5 rfl rfl
theorem ky_J2_getChar_3b067 : kY mJ2_getChar_3b067 2 := ⟨mT3 27 rfl rfl, w_ini_java_lang_StringUTF16, ⟨nmh_RJ2.1, nmh_RJ2.2, by decide +kernel⟩, by decide⟩
theorem kt_J2_getChar_3b067 : Cond.static mJ2_getChar_3b067.1 ∈ wsA := mT3 26 rfl rfl
theorem ky_J2_length_9d52b : kY mJ2_length_9d52b 1 := ⟨mT3 23 rfl rfl, w_ini_java_lang_StringUTF16, ⟨nmh_RJ2.1, nmh_RJ2.2, by decide +kernel⟩, by decide⟩
theorem kt_J2_length_9d52b : Cond.static mJ2_length_9d52b.1 ∈ wsA := mT3 22 rfl rfl
theorem ky_J2_charAt_3b067 : kY mJ2_charAt_3b067 2 := ⟨mT3 17 rfl rfl, w_ini_java_lang_StringUTF16, ⟨nmh_RJ2.1, nmh_RJ2.2, by decide +kernel⟩, by decide⟩
theorem kt_J2_charAt_3b067 : Cond.static mJ2_charAt_3b067.1 ∈ wsA := mT3 16 rfl rfl
theorem ky_J2_checkIndex_2214a : kY mJ2_checkIndex_2214a 2 := ⟨mT3 20 rfl rfl, w_ini_java_lang_StringUTF16, ⟨nmh_RJ2.1, nmh_RJ2.2, by decide +kernel⟩, by decide⟩
theorem kt_J2_checkIndex_2214a : Cond.static mJ2_checkIndex_2214a.1 ∈ wsA := mT3 19 rfl rfl
theorem ky_J3_checkIndex_8e157 : kY mJ3_checkIndex_8e157 3 := ⟨mT3 14 rfl rfl, w_ini_jdk_internal_util_Preconditions, ⟨nmh_RJ3.1, nmh_RJ3.2, by decide +kernel⟩, by decide⟩
theorem kt_J3_checkIndex_8e157 : Cond.static mJ3_checkIndex_8e157.1 ∈ wsA := mT3 13 rfl rfl
end
section
theorem l_RL_7 : Cond.classLink RL 7 (clsN 8) ∈ wsA := mT1 18 rfl rfl
theorem l_RL_9 : kI RL 9 mX8_init 0 := ⟨ky_X8_init, mT1 20 rfl rfl, rfl, kt_X8_init, rfl⟩
theorem l_RX8_3 : Cond.methodLink RX8 3 Lib.objectInit ∈ wsA := mT1 23 rfl rfl
theorem l_RX8_15 : Cond.classLink RX8 15 (clsN 2) ∈ wsA := mT1 26 rfl rfl
theorem l_RX8_21 : Cond.classLink RX8 21 (clsN 4) ∈ wsA := mT1 28 rfl rfl
theorem l_RX8_23 : kIN RX8 23 mX4_init 0 := ⟨ky_X4_init, ⟨"LeavesRoom", nT1 30 rfl rfl⟩, rfl, kt_X4_init, rfl⟩
theorem l_RX4_3 : Cond.methodLink RX4 3 Lib.objectInit ∈ wsA := mT1 33 rfl rfl
theorem l_RX4_9 : kF RX4 9 4 0 := mT1 34 rfl rfl
theorem l_RX4_15 : kF RX4 15 4 1 := mT1 35 rfl rfl
theorem l_RX4_25 : kF RX4 25 4 2 := mT1 36 rfl rfl
theorem l_RX4_29 : kF RX4 29 4 3 := mT1 37 rfl rfl
theorem l_RX4_60 : kF RX4 60 4 4 := mT1 38 rfl rfl
theorem l_RX8_28 : Cond.classLink RX8 28 (clsN 0) ∈ wsA := mT1 51 rfl rfl
theorem l_RX8_30 : kIN RX8 30 mX0_init 0 := ⟨ky_X0_init, ⟨"LeavesRoom", nT1 53 rfl rfl⟩, rfl, kt_X0_init, rfl⟩
theorem l_RX0_3 : Cond.methodLink RX0 3 Lib.objectInit ∈ wsA := mT1 56 rfl rfl
theorem l_RX0_11 : kF RX0 11 0 0 := mT1 57 rfl rfl
theorem l_RX8_295 : kFN RX8 295 0 0 := ⟨"LeavesRoom", nT1 58 rfl rfl⟩
theorem l_RX0_15 : kF RX0 15 0 1 := mT1 59 rfl rfl
theorem l_RX8_301 : kFN RX8 301 0 1 := ⟨"LeavesRoom", nT1 60 rfl rfl⟩
theorem l_RX0_28 : kF RX0 28 0 2 := mT1 61 rfl rfl
theorem l_RX0_31 : kF RX0 31 0 3 := mT1 62 rfl rfl
theorem l_RX0_34 : kF RX0 34 0 4 := mT1 63 rfl rfl
theorem l_RX8_35 : Cond.classLink RX8 35 (clsN 7) ∈ wsA := mT1 76 rfl rfl
theorem l_RX8_41 : kIN RX8 41 mX2_init 0 := ⟨ky_X2_init, ⟨"LeavesRoom", nT1 79 rfl rfl⟩, rfl, kt_X2_init, rfl⟩
theorem l_RX2_3 : Cond.methodLink RX2 3 Lib.objectInit ∈ wsA := mT1 82 rfl rfl
theorem l_RX2_9 : kF RX2 9 2 0 := mT1 83 rfl rfl
theorem l_RX2_28 : kF RX2 28 2 1 := mT1 84 rfl rfl
theorem l_RX2_15 : kF RX2 15 2 2 := mT1 85 rfl rfl
theorem l_RX2_18 : kF RX2 18 2 3 := mT1 86 rfl rfl
theorem l_RX2_31 : kF RX2 31 2 4 := mT1 87 rfl rfl
theorem l_RX2_21 : kF RX2 21 2 5 := mT1 88 rfl rfl
theorem l_RX4_63 : kFN RX4 63 2 5 := ⟨"LeavesRoom", nT1 89 rfl rfl⟩
theorem l_RX8_166 : kFN RX8 166 2 5 := ⟨"LeavesRoom", nT1 90 rfl rfl⟩
theorem l_RX6_105 : kFN RX6 105 2 5 := ⟨"LeavesRoom", nT1 91 rfl rfl⟩
theorem l_RX2_25 : kF RX2 25 2 6 := mT1 92 rfl rfl
theorem l_RX4_66 : kFN RX4 66 2 6 := ⟨"LeavesRoom", nT1 93 rfl rfl⟩
theorem l_RX8_169 : kFN RX8 169 2 6 := ⟨"LeavesRoom", nT1 94 rfl rfl⟩
theorem l_RX6_94 : kFN RX6 94 2 6 := ⟨"LeavesRoom", nT1 95 rfl rfl⟩
theorem l_RX2_34 : kF RX2 34 2 7 := mT1 96 rfl rfl
theorem l_RX6_108 : kFN RX6 108 2 7 := ⟨"LeavesRoom", nT1 97 rfl rfl⟩
theorem l_RX8_42 : Cond.classLink RX8 42 (clsN 1) ∈ wsA := mT1 115 rfl rfl
theorem l_RX8_44 : kI RX8 44 mX1_init 1 := ⟨ky_X1_init, mT1 117 rfl rfl, rfl, kt_X1_init, rfl⟩
theorem l_RX1_3 : Cond.methodLink RX1 3 Lib.objectInit ∈ wsA := mT1 120 rfl rfl
theorem l_RX1_9 : Cond.classLink RX1 9 (clsN 5) ∈ wsA := mT1 121 rfl rfl
theorem l_RX1_11 : kI RX1 11 mX5_init 1 := ⟨ky_X5_init, mT1 123 rfl rfl, rfl, kt_X5_init, rfl⟩
theorem l_RX5_3 : Cond.methodLink RX5 3 Lib.objectInit ∈ wsA := mT1 126 rfl rfl
theorem l_RX5_15 : kF RX5 15 5 0 := mT1 127 rfl rfl
theorem l_RX8_241 : kFN RX8 241 5 0 := ⟨"LeavesRoom", nT1 128 rfl rfl⟩
theorem l_RX5_19 : kF RX5 19 5 1 := mT1 129 rfl rfl
theorem l_RX8_247 : kFN RX8 247 5 1 := ⟨"LeavesRoom", nT1 130 rfl rfl⟩
theorem l_RX5_22 : kF RX5 22 5 2 := mT1 131 rfl rfl
theorem l_RX8_244 : kFN RX8 244 5 2 := ⟨"LeavesRoom", nT1 132 rfl rfl⟩
theorem l_RX5_9 : kF RX5 9 5 3 := mT1 133 rfl rfl
theorem l_RX5_25 : kF RX5 25 5 4 := mT1 134 rfl rfl
theorem l_RX8_240 : kFN RX8 240 5 4 := ⟨"LeavesRoom", nT1 135 rfl rfl⟩
theorem l_RX1_26 : Cond.classLink RX1 26 (clsN 6) ∈ wsA := mT1 147 rfl rfl
theorem l_RX1_28 : kI RX1 28 mX6_init 1 := ⟨ky_X6_init, mT1 149 rfl rfl, rfl, kt_X6_init, rfl⟩
theorem l_RX6_3 : Cond.methodLink RX6 3 Lib.objectInit ∈ wsA := mT1 152 rfl rfl
theorem l_RX6_9 : kF RX6 9 6 0 := mT1 153 rfl rfl
theorem l_RX8_89 : kFN RX8 89 6 0 := ⟨"LeavesRoom", nT1 154 rfl rfl⟩
theorem l_RX6_15 : kF RX6 15 6 1 := mT1 155 rfl rfl
theorem l_RX8_93 : kFN RX8 93 6 1 := ⟨"LeavesRoom", nT1 156 rfl rfl⟩
theorem l_RX6_18 : kF RX6 18 6 2 := mT1 157 rfl rfl
theorem l_RX8_96 : kFN RX8 96 6 2 := ⟨"LeavesRoom", nT1 158 rfl rfl⟩
theorem l_RX3_65 : kFN RX3 65 6 2 := ⟨"LeavesRoom", nT1 159 rfl rfl⟩
theorem l_RX6_21 : kF RX6 21 6 3 := mT1 160 rfl rfl
theorem l_RX8_107 : kFN RX8 107 6 3 := ⟨"LeavesRoom", nT1 161 rfl rfl⟩
theorem l_RX6_24 : kF RX6 24 6 4 := mT1 162 rfl rfl
theorem l_RX8_99 : kFN RX8 99 6 4 := ⟨"LeavesRoom", nT1 163 rfl rfl⟩
theorem l_RX6_28 : kF RX6 28 6 5 := mT1 164 rfl rfl
theorem l_RX8_110 : kFN RX8 110 6 5 := ⟨"LeavesRoom", nT1 165 rfl rfl⟩
theorem l_RX6_31 : kF RX6 31 6 6 := mT1 166 rfl rfl
theorem l_RX8_143 : kFN RX8 143 6 6 := ⟨"LeavesRoom", nT1 167 rfl rfl⟩
theorem l_RX6_34 : kF RX6 34 6 7 := mT1 168 rfl rfl
theorem l_RX3_25 : kFN RX3 25 6 7 := ⟨"LeavesRoom", nT1 169 rfl rfl⟩
theorem l_RX8_190 : kFN RX8 190 6 7 := ⟨"LeavesRoom", nT1 170 rfl rfl⟩
theorem l_RX6_37 : kF RX6 37 6 8 := mT1 171 rfl rfl
theorem l_RX6_42 : kF RX6 42 6 9 := mT1 172 rfl rfl
theorem l_RX8_78 : kFN RX8 78 6 10 := ⟨"LeavesRoom", nT1 173 rfl rfl⟩
theorem l_RX6_55 : kF RX6 55 6 10 := mT1 174 rfl rfl
theorem l_RX3_39 : kFN RX3 39 6 10 := ⟨"LeavesRoom", nT1 175 rfl rfl⟩
theorem l_RX6_59 : kF RX6 59 6 11 := mT1 176 rfl rfl
theorem l_RX8_172 : kFN RX8 172 6 11 := ⟨"LeavesRoom", nT1 177 rfl rfl⟩
theorem l_RX6_62 : kF RX6 62 6 12 := mT1 178 rfl rfl
theorem l_RX8_159 : kFN RX8 159 6 12 := ⟨"LeavesRoom", nT1 179 rfl rfl⟩
theorem l_RX6_45 : kF RX6 45 6 13 := mT1 180 rfl rfl
theorem l_RX8_162 : kFN RX8 162 6 13 := ⟨"LeavesRoom", nT1 181 rfl rfl⟩
theorem l_RX1_31 : kF RX1 31 1 0 := mT1 212 rfl rfl
theorem l_RX8_75 : kFN RX8 75 1 0 := ⟨"LeavesRoom", nT1 213 rfl rfl⟩
theorem l_RX1_14 : kF RX1 14 1 1 := mT1 214 rfl rfl
theorem l_RX8_215 : kFN RX8 215 1 1 := ⟨"LeavesRoom", nT1 215 rfl rfl⟩
theorem l_RX1_20 : kF RX1 20 1 2 := mT1 216 rfl rfl
theorem l_RX8_256 : kFN RX8 256 1 2 := ⟨"LeavesRoom", nT1 217 rfl rfl⟩
theorem l_RX1_23 : kF RX1 23 1 3 := mT1 218 rfl rfl
theorem l_RX8_262 : kFN RX8 262 1 3 := ⟨"LeavesRoom", nT1 219 rfl rfl⟩
theorem l_RX8_54 : Cond.classLink RX8 54 (clsN 6) ∈ wsA := mT1 229 rfl rfl
theorem l_RX8_56 : kI RX8 56 mX6_init 1 := ⟨ky_X6_init, mT1 230 rfl rfl, rfl, kt_X6_init, rfl⟩
theorem l_RX8_61 : Cond.classLink RX8 61 (clsN 3) ∈ wsA := mT1 231 rfl rfl
theorem l_RX8_63 : kI RX8 63 mX3_init 1 := ⟨ky_X3_init, mT1 233 rfl rfl, rfl, kt_X3_init, rfl⟩
theorem l_RX3_3 : Cond.methodLink RX3 3 Lib.objectInit ∈ wsA := mT1 236 rfl rfl
theorem l_RX3_15 : kF RX3 15 3 0 := mT1 237 rfl rfl
theorem l_RX3_9 : kF RX3 9 3 1 := mT1 238 rfl rfl
theorem l_RX8_212 : kFN RX8 212 3 1 := ⟨"LeavesRoom", nT1 239 rfl rfl⟩
theorem l_RX3_62 : kF RX3 62 3 2 := mT2 0 rfl rfl
theorem l_RX8_209 : kFN RX8 209 3 2 := ⟨"LeavesRoom", nT2 1 rfl rfl⟩
theorem l_RX3_60 : kF RX3 60 3 3 := mT2 2 rfl rfl
theorem l_RX8_213 : kFN RX8 213 3 3 := ⟨"LeavesRoom", nT2 3 rfl rfl⟩
theorem l_RX3_28 : kF RX3 28 3 4 := mT2 4 rfl rfl
theorem l_RX3_32 : kF RX3 32 3 5 := mT2 5 rfl rfl
theorem l_RX8_70 : kIN RX8 70 mX7_init 0 := ⟨ky_X7_init, ⟨"LeavesRoom", nT2 20 rfl rfl⟩, rfl, kt_X7_init, rfl⟩
theorem l_RX7_3 : Cond.methodLink RX7 3 Lib.objectInit ∈ wsA := mT2 23 rfl rfl
theorem l_RX7_9 : kF RX7 9 7 0 := mT2 24 rfl rfl
theorem l_RX8_274 : kFN RX8 274 7 0 := ⟨"LeavesRoom", nT2 25 rfl rfl⟩
theorem l_RX7_15 : kF RX7 15 7 1 := mT2 26 rfl rfl
theorem l_RX8_268 : kFN RX8 268 7 1 := ⟨"LeavesRoom", nT2 27 rfl rfl⟩
theorem l_RX7_19 : kF RX7 19 7 2 := mT2 28 rfl rfl
theorem l_RX8_47 : kF RX8 47 8 0 := mT2 37 rfl rfl
theorem l_RX8_51 : kF RX8 51 8 1 := mT2 38 rfl rfl
theorem l_RX8_281 : kF RX8 281 8 2 := mT2 39 rfl rfl
theorem l_RX8_57 : kF RX8 57 8 3 := mT2 40 rfl rfl
theorem l_RX8_11 : kF RX8 11 8 4 := mT2 41 rfl rfl
theorem l_RX8_146 : kF RX8 146 8 5 := mT2 42 rfl rfl
theorem l_RX8_17 : kF RX8 17 8 6 := mT2 43 rfl rfl
theorem l_RX8_149 : kF RX8 149 8 7 := mT2 44 rfl rfl
theorem l_RX8_24 : kF RX8 24 8 8 := mT2 45 rfl rfl
theorem l_RX8_66 : kF RX8 66 8 9 := mT2 46 rfl rfl
theorem l_RX8_31 : kF RX8 31 8 10 := mT2 47 rfl rfl
theorem l_RX8_37 : kF RX8 37 8 11 := mT2 48 rfl rfl
theorem l_RL_13 : kV RL 13 mX8_guest 2 := ⟨ky_X8_guest, mT2 74 rfl rfl, kt_X8_guest, ks_X8_guest⟩
theorem l_RX8_71 : kS RX8 71 mX8_isDigit 1 := ⟨ky_X8_isDigit, mT2 78 rfl rfl, kt_X8_isDigit⟩
theorem l_RX8_82 : kV RX8 82 mX6_takeIn 2 := ⟨ky_X6_takeIn, mT2 81 rfl rfl, kt_X6_takeIn, ks_X6_takeIn⟩
theorem l_RX6_65 : kV RX6 65 mX6_freeSeat 0 := ⟨ky_X6_freeSeat, mT2 85 rfl rfl, kt_X6_freeSeat, ks_X6_freeSeat⟩
theorem l_RX6_69 : kV RX6 69 mX6_place 2 := ⟨ky_X6_place, mT2 89 rfl rfl, kt_X6_place, ks_X6_place⟩
theorem l_RX6_73 : kV RX6 73 mX6_reckon 0 := ⟨ky_X6_reckon, mT2 93 rfl rfl, kt_X6_reckon, ks_X6_reckon⟩
theorem l_RX6_76 : kV RX6 76 mX2_liking 1 := ⟨ky_X2_liking, mT2 97 rfl rfl, kt_X2_liking, ks_X2_liking⟩
theorem l_RX2_42 : kV RX2 42 mX2_holds 3 := ⟨ky_X2_holds, mT2 101 rfl rfl, kt_X2_holds, ks_X2_holds⟩
theorem l_RX2_46 : kS RX2 46 mX2_isSo 2 := ⟨ky_X2_isSo, mT2 105 rfl rfl, kt_X2_isSo⟩
theorem l_RX2_50 : kSN RX2 50 mX8_oneIf 1 := ⟨ky_X8_oneIf, ⟨"LeavesRoom", nT2 108 rfl rfl⟩, kt_X8_oneIf⟩
theorem l_RL_18 : kV RL 18 mX8_of 2 := ⟨ky_X8_of, mT2 111 rfl rfl, kt_X8_of, ks_X8_of⟩
theorem l_RX8_86 : kV RX8 86 mX8_isGuest 1 := ⟨ky_X8_isGuest, mT2 115 rfl rfl, kt_X8_isGuest, ks_X8_isGuest⟩
theorem l_RX8_103 : kS RX8 103 mX8_oneIf 1 := ⟨ky_X8_oneIf, mT2 119 rfl rfl, kt_X8_oneIf⟩
theorem l_RX8_113 : kV RX8 113 mX6_neighbours 1 := ⟨ky_X6_neighbours, mT2 120 rfl rfl, kt_X6_neighbours, ks_X6_neighbours⟩
theorem l_RX6_80 : kSt RX6 80 1 := mT2 124 rfl rfl
theorem l_RX6_83 : kV RX6 83 mX6_neighbourAt 1 := ⟨ky_X6_neighbourAt, mT2 126 rfl rfl, kt_X6_neighbourAt, ks_X6_neighbourAt⟩
theorem l_RX6_87 : kSt RX6 87 2 := mT2 130 rfl rfl
theorem l_RX8_117 : kV RX8 117 mX6_fondOf 1 := ⟨ky_X6_fondOf, mT2 132 rfl rfl, kt_X6_fondOf, ks_X6_fondOf⟩
theorem l_RX6_90 : kV RX6 90 mX6_warmth 2 := ⟨ky_X6_warmth, mT2 136 rfl rfl, kt_X6_warmth, ks_X6_warmth⟩
theorem l_RX6_97 : kSt RX6 97 3 := mT2 140 rfl rfl
theorem l_RL_22 : kV RL 22 mX8_likes 2 := ⟨ky_X8_likes, mT2 142 rfl rfl, kt_X8_likes, ks_X8_likes⟩
theorem l_RX8_120 : kV RX8 120 mX6_liking 2 := ⟨ky_X6_liking, mT2 146 rfl rfl, kt_X6_liking, ks_X6_liking⟩
theorem l_RL_26 : kV RL 26 mX8_sit 2 := ⟨ky_X8_sit, mT2 150 rfl rfl, kt_X8_sit, ks_X8_sit⟩
theorem l_RX8_123 : kS RX8 123 mX8_isSeat 1 := ⟨ky_X8_isSeat, mT2 154 rfl rfl, kt_X8_isSeat⟩
theorem l_RX8_126 : kV RX8 126 mX6_moveTo 2 := ⟨ky_X6_moveTo, mT2 157 rfl rfl, kt_X6_moveTo, ks_X6_moveTo⟩
theorem l_RL_30 : kV RL 30 mX8_leave 2 := ⟨ky_X8_leave, mT2 161 rfl rfl, kt_X8_leave, ks_X8_leave⟩
theorem l_RL_35 : kV RL 35 mX8_pour 1 := ⟨ky_X8_pour, mT2 165 rfl rfl, kt_X8_pour, ks_X8_pour⟩
theorem l_RX8_130 : kV RX8 130 mX6_pourAt 1 := ⟨ky_X6_pourAt, mT2 169 rfl rfl, kt_X6_pourAt, ks_X6_pourAt⟩
theorem l_RX8_134 : kV RX8 134 mX6_emptyCups 0 := ⟨ky_X6_emptyCups, mT2 173 rfl rfl, kt_X6_emptyCups, ks_X6_emptyCups⟩
theorem l_RX6_112 : kSN RX6 112 mX8_oneIf 1 := ⟨ky_X8_oneIf, ⟨"LeavesRoom", nT2 177 rfl rfl⟩, kt_X8_oneIf⟩
theorem l_RX8_138 : kS RX8 138 mJ6_bitCount_0f7a4 1 := ⟨ky_J6_bitCount_0f7a4, mT2 178 rfl rfl, kt_J6_bitCount_0f7a4⟩
theorem l_RJ6_265 : Cond.constant RJ6 265 (1431655765) ∈ wsA := mT2 181 rfl rfl
theorem l_RJ6_266 : Cond.constant RJ6 266 (858993459) ∈ wsA := mT2 182 rfl rfl
theorem l_RJ6_267 : Cond.constant RJ6 267 (252645135) ∈ wsA := mT2 183 rfl rfl
theorem l_RL_40 : kV RL 40 mX8_row 3 := ⟨ky_X8_row, mT2 184 rfl rfl, kt_X8_row, ks_X8_row⟩
theorem l_RL_45 : kV RL 45 mX8_feed 1 := ⟨ky_X8_feed, mT2 188 rfl rfl, kt_X8_feed, ks_X8_feed⟩
theorem l_RL_49 : kV RL 49 mX8_house 0 := ⟨ky_X8_house, mT2 192 rfl rfl, kt_X8_house, ks_X8_house⟩
theorem l_RX8_152 : kV RX8 152 mX4_readInto 3 := ⟨ky_X4_readInto, mT2 196 rfl rfl, kt_X4_readInto, ks_X4_readInto⟩
theorem l_RX4_19 : Cond.methodLink RX4 19 Lib.Math.min.name ∈ wsA := mT2 200 rfl rfl
theorem l_RX4_32 : kV RX4 32 mX2_clear 0 := ⟨ky_X2_clear, mT2 203 rfl rfl, kt_X2_clear, ks_X2_clear⟩
theorem l_RX4_37 : kV RX4 37 mX4_isClause 0 := ⟨ky_X4_isClause, mT2 207 rfl rfl, kt_X4_isClause, ks_X4_isClause⟩
theorem l_RX4_45 : kV RX4 45 mX4_next 0 := ⟨ky_X4_next, mT2 211 rfl rfl, kt_X4_next, ks_X4_next⟩
theorem l_RX4_49 : kS RX4 49 mX4_wordFrom 1 := ⟨ky_X4_wordFrom, mT2 215 rfl rfl, kt_X4_wordFrom⟩
theorem l_RX4_53 : kV RX4 53 mX4_isWord 1 := ⟨ky_X4_isWord, mT2 222 rfl rfl, kt_X4_isWord, ks_X4_isWord⟩
theorem l_RX4_108 : kV RX4 108 mJ0_length_8abf5 0 := ⟨ky_J0_length_8abf5, mT2 226 rfl rfl, kt_J0_length_8abf5, ks_J0_length_8abf5⟩
theorem l_RJ0_335 : kV RJ0 335 mJ0_coder_7d493 0 := ⟨ky_J0_coder_7d493, mT2 230 rfl rfl, kt_J0_coder_7d493, ks_J0_coder_7d493⟩
theorem l_RJ0_38 : Cond.fieldLink RJ0 38 "java/lang/String" "COMPACT_STRINGS" "Z" ∈ wsA := mT2 234 rfl rfl
theorem l_RX4_112 : kV RX4 112 mJ0_charAt_5068e 1 := ⟨ky_J0_charAt_5068e, mT2 236 rfl rfl, kt_J0_charAt_5068e, ks_J0_charAt_5068e⟩
theorem l_RJ0_492 : kV RJ0 492 mJ0_isLatin1_aae02 0 := ⟨ky_J0_isLatin1_aae02, mT3 0 rfl rfl, kt_J0_isLatin1_aae02, ks_J0_isLatin1_aae02⟩
theorem l_RJ0_495 : kS RJ0 495 mJ1_charAt_3b067 2 := ⟨ky_J1_charAt_3b067, mT3 4 rfl rfl, kt_J1_charAt_3b067⟩
theorem l_RJ1_9 : kS RJ1 9 mJ0_checkIndex_df160 2 := ⟨ky_J0_checkIndex_df160, mT3 7 rfl rfl, kt_J0_checkIndex_df160⟩
theorem l_RJ0_1053 : Cond.fieldLink RJ0 1053 "jdk/internal/util/Preconditions" "SIOOBE_FORMATTER" "Ljava/util/function/BiFunction;" ∈ wsA := mT3 10 rfl rfl
theorem l_RJ0_1059 : kS RJ0 1059 mJ3_checkIndex_8e157 3 := ⟨ky_J3_checkIndex_8e157, mT3 12 rfl rfl, kt_J3_checkIndex_8e157⟩
theorem l_RJ0_498 : kS RJ0 498 mJ2_charAt_3b067 2 := ⟨ky_J2_charAt_3b067, mT3 15 rfl rfl, kt_J2_charAt_3b067⟩
theorem l_RJ2_67 : kS RJ2 67 mJ2_checkIndex_2214a 2 := ⟨ky_J2_checkIndex_2214a, mT3 18 rfl rfl, kt_J2_checkIndex_2214a⟩
theorem l_RJ2_48 : kS RJ2 48 mJ2_length_9d52b 1 := ⟨ky_J2_length_9d52b, mT3 21 rfl rfl, kt_J2_length_9d52b⟩
theorem l_RJ2_414 : kS RJ2 414 mJ0_checkIndex_df160 2 := ⟨ky_J0_checkIndex_df160, mT3 24 rfl rfl, kt_J0_checkIndex_df160⟩
theorem l_RJ2_71 : kS RJ2 71 mJ2_getChar_3b067 2 := ⟨ky_J2_getChar_3b067, mT3 25 rfl rfl, kt_J2_getChar_3b067⟩
theorem l_RJ2_44 : Cond.fieldLink RJ2 44 "java/lang/StringUTF16" "$assertionsDisabled" "Z" ∈ wsA := mT3 28 rfl rfl
theorem l_RJ2_59 : Cond.fieldLink RJ2 59 "java/lang/StringUTF16" "HI_BYTE_SHIFT" "I" ∈ wsA := mT3 30 rfl rfl
theorem l_RJ2_63 : Cond.fieldLink RJ2 63 "java/lang/StringUTF16" "LO_BYTE_SHIFT" "I" ∈ wsA := mT3 32 rfl rfl
theorem l_RX4_41 : kV RX4 41 mX4_isSign 1 := ⟨ky_X4_isSign, mT3 34 rfl rfl, kt_X4_isSign, ks_X4_isSign⟩
theorem l_RX4_57 : kV RX4 57 mX4_isNumber 0 := ⟨ky_X4_isNumber, mT3 38 rfl rfl, kt_X4_isNumber, ks_X4_isNumber⟩
theorem l_RX4_105 : kSN RX4 105 mX8_isDigit 1 := ⟨ky_X8_isDigit, ⟨"LeavesRoom", nT3 42 rfl rfl⟩, kt_X8_isDigit⟩
theorem l_RX4_69 : kV RX4 69 mX4_isEither 1 := ⟨ky_X4_isEither, mT3 43 rfl rfl, kt_X4_isEither, ks_X4_isEither⟩
theorem l_RX4_84 : kV RX4 84 mX4_isFactor 1 := ⟨ky_X4_isFactor, mT3 47 rfl rfl, kt_X4_isFactor, ks_X4_isFactor⟩
theorem l_RX4_90 : kV RX4 90 mX4_isNest 2 := ⟨ky_X4_isNest, mT3 51 rfl rfl, kt_X4_isNest, ks_X4_isNest⟩
theorem l_RX4_87 : kV RX4 87 mX2_addStep 1 := ⟨ky_X2_addStep, mT3 55 rfl rfl, kt_X2_addStep, ks_X2_addStep⟩
theorem l_RX4_94 : kS RX4 94 mX4_factOf 1 := ⟨ky_X4_factOf, mT3 59 rfl rfl, kt_X4_factOf⟩
theorem l_RX4_98 : kS RX4 98 mX4_compareOf 1 := ⟨ky_X4_compareOf, mT3 62 rfl rfl, kt_X4_compareOf⟩
theorem l_RX4_101 : kV RX4 101 mX2_addTest 3 := ⟨ky_X2_addTest, mT3 65 rfl rfl, kt_X2_addTest, ks_X2_addTest⟩
theorem l_RX2_38 : kV RX2 38 mX2_addStep 1 := ⟨ky_X2_addStep, mT3 69 rfl rfl, kt_X2_addStep, ks_X2_addStep⟩
theorem l_RX4_72 : kV RX4 72 mX2_addWeight 1 := ⟨ky_X2_addWeight, mT3 70 rfl rfl, kt_X2_addWeight, ks_X2_addWeight⟩
theorem l_RX8_156 : kV RX8 156 mX6_hold 1 := ⟨ky_X6_hold, mT3 74 rfl rfl, kt_X6_hold, ks_X6_hold⟩
theorem l_RL_54 : kV RL 54 mX8_told 1 := ⟨ky_X8_told, mT3 78 rfl rfl, kt_X8_told, ks_X8_told⟩
theorem l_RX8_175 : kV RX8 175 mX6_fondOfAll 0 := ⟨ky_X6_fondOfAll, mT3 82 rfl rfl, kt_X6_fondOfAll, ks_X6_fondOfAll⟩
theorem l_RX6_100 : kV RX6 100 mX6_fondOf 1 := ⟨ky_X6_fondOf, mT3 86 rfl rfl, kt_X6_fondOf, ks_X6_fondOf⟩
theorem l_RX8_178 : kV RX8 178 mX6_clashes 0 := ⟨ky_X6_clashes, mT3 87 rfl rfl, kt_X6_clashes, ks_X6_clashes⟩
theorem l_RX6_103 : kV RX6 103 mX6_liking 2 := ⟨ky_X6_liking, mT3 91 rfl rfl, kt_X6_liking, ks_X6_liking⟩
theorem l_RX8_181 : kV RX8 181 mX6_round 0 := ⟨ky_X6_round, mT3 92 rfl rfl, kt_X6_round, ks_X6_round⟩
theorem l_RX6_116 : kV RX6 116 mX6_stepsOn 0 := ⟨ky_X6_stepsOn, mT3 96 rfl rfl, kt_X6_stepsOn, ks_X6_stepsOn⟩
theorem l_RX6_130 : kV RX6 130 mX6_farthestBack 1 := ⟨ky_X6_farthestBack, mT3 100 rfl rfl, kt_X6_farthestBack, ks_X6_farthestBack⟩
theorem l_RX6_122 : Cond.methodLink RX6 122 Lib.Math.min.name ∈ wsA := mT3 104 rfl rfl
theorem l_RX6_119 : kV RX6 119 mX6_stepsBack 0 := ⟨ky_X6_stepsBack, mT3 105 rfl rfl, kt_X6_stepsBack, ks_X6_stepsBack⟩
theorem l_RX8_184 : kV RX8 184 mX6_toward 0 := ⟨ky_X6_toward, mT3 109 rfl rfl, kt_X6_toward, ks_X6_toward⟩
theorem l_RX6_127 : kV RX6 127 mX6_round 0 := ⟨ky_X6_round, mT3 113 rfl rfl, kt_X6_round, ks_X6_round⟩
theorem l_RX8_187 : kV RX8 187 mX8_sitterOr 1 := ⟨ky_X8_sitterOr, mT3 114 rfl rfl, kt_X8_sitterOr, ks_X8_sitterOr⟩
theorem l_RL_58 : kV RL 58 mX8_pass 1 := ⟨ky_X8_pass, mT3 118 rfl rfl, kt_X8_pass, ks_X8_pass⟩
theorem l_RX8_193 : kV RX8 193 mX6_yearsGo 1 := ⟨ky_X6_yearsGo, mT3 122 rfl rfl, kt_X6_yearsGo, ks_X6_yearsGo⟩
theorem l_RL_62 : kV RL 62 mX8_on 2 := ⟨ky_X8_on, mT3 126 rfl rfl, kt_X8_on, ks_X8_on⟩
theorem l_RX8_196 : kV RX8 196 mX6_copyFrom 1 := ⟨ky_X6_copyFrom, mT3 130 rfl rfl, kt_X6_copyFrom, ks_X6_copyFrom⟩
theorem l_RX6_49 : kCp RX6 49 := ⟨mT3 134 rfl rfl, w_acn, w_acs, w_ini_java_lang_System⟩
theorem l_RX8_199 : kV RX8 199 mX8_usedMore 0 := ⟨ky_X8_usedMore, mT3 137 rfl rfl, kt_X8_usedMore, ks_X8_usedMore⟩
theorem l_RX8_202 : kV RX8 202 mX6_usedOfAll 0 := ⟨ky_X6_usedOfAll, mT3 141 rfl rfl, kt_X6_usedOfAll, ks_X6_usedOfAll⟩
theorem l_RL_66 : kV RL 66 mX8_soon 1 := ⟨ky_X8_soon, mT3 145 rfl rfl, kt_X8_soon, ks_X8_soon⟩
theorem l_RL_70 : kV RL 70 mX8_best 1 := ⟨ky_X8_best, mT3 149 rfl rfl, kt_X8_best, ks_X8_best⟩
theorem l_RX8_205 : kV RX8 205 mX3_find 2 := ⟨ky_X3_find, mT3 153 rfl rfl, kt_X3_find, ks_X3_find⟩
theorem l_RX3_19 : kV RX3 19 mX6_copyFrom 1 := ⟨ky_X6_copyFrom, mT3 157 rfl rfl, kt_X6_copyFrom, ks_X6_copyFrom⟩
theorem l_RX3_35 : kV RX3 35 mX3_placeFrom 1 := ⟨ky_X3_placeFrom, mT3 158 rfl rfl, kt_X3_placeFrom, ks_X3_placeFrom⟩
theorem l_RX3_43 : kV RX3 43 mX6_fondOfAll 0 := ⟨ky_X6_fondOfAll, mT3 162 rfl rfl, kt_X6_fondOfAll, ks_X6_fondOfAll⟩
theorem l_RX3_47 : kV RX3 47 mX6_clashes 0 := ⟨ky_X6_clashes, mT3 163 rfl rfl, kt_X6_clashes, ks_X6_clashes⟩
theorem l_RX3_50 : kV RX3 50 mX3_weigh 2 := ⟨ky_X3_weigh, mT3 164 rfl rfl, kt_X3_weigh, ks_X3_weigh⟩
theorem l_RX3_66 : kCp RX3 66 := ⟨mT3 168 rfl rfl, w_acn, w_acs, w_ini_java_lang_System⟩
theorem l_RX3_54 : kV RX3 54 mX3_placeOn 2 := ⟨ky_X3_placeOn, mT3 169 rfl rfl, kt_X3_placeOn, ks_X3_placeOn⟩
theorem l_RX3_57 : kV RX3 57 mX6_place 2 := ⟨ky_X6_place, mT3 173 rfl rfl, kt_X6_place, ks_X6_place⟩
theorem l_RL_74 : kV RL 74 mX8_peace 1 := ⟨ky_X8_peace, mT3 174 rfl rfl, kt_X8_peace, ks_X8_peace⟩
theorem l_RL_78 : kV RL 78 mX8_change 0 := ⟨ky_X8_change, mT3 178 rfl rfl, kt_X8_change, ks_X8_change⟩
theorem l_RL_82 : kV RL 82 mX8_seat 1 := ⟨ky_X8_seat, mT3 182 rfl rfl, kt_X8_seat, ks_X8_seat⟩
theorem l_RL_86 : kV RL 86 mX8_see 3 := ⟨ky_X8_see, mT3 186 rfl rfl, kt_X8_see, ks_X8_see⟩
theorem l_RX8_219 : kV RX8 219 mX5_empty 0 := ⟨ky_X5_empty, mT3 190 rfl rfl, kt_X5_empty, ks_X5_empty⟩
theorem l_RX8_223 : kV RX8 223 mX5_add 3 := ⟨ky_X5_add, mT3 194 rfl rfl, kt_X5_add, ks_X5_add⟩
theorem l_RL_91 : kV RL 91 mX8_where 1 := ⟨ky_X8_where, mT3 198 rfl rfl, kt_X8_where, ks_X8_where⟩
theorem l_RX8_227 : kV RX8 227 mX8_isAllSeenSo 0 := ⟨ky_X8_isAllSeenSo, mT3 202 rfl rfl, kt_X8_isAllSeenSo, ks_X8_isAllSeenSo⟩
theorem l_RX8_234 : kV RX8 234 mX5_greatestThird 0 := ⟨ky_X5_greatestThird, mT3 206 rfl rfl, kt_X5_greatestThird, ks_X5_greatestThird⟩
theorem l_RX5_28 : Cond.methodLink RX5 28 Lib.Math.max.name ∈ wsA := mT3 210 rfl rfl
theorem l_RX8_237 : kV RX8 237 mX8_isOneSeenOtherwise 1 := ⟨ky_X8_isOneSeenOtherwise, mT3 213 rfl rfl, kt_X8_isOneSeenOtherwise, ks_X8_isOneSeenOtherwise⟩
theorem l_RL_95 : kV RL 95 mX8_can 2 := ⟨ky_X8_can, mT3 217 rfl rfl, kt_X8_can, ks_X8_can⟩
theorem l_RX8_231 : kV RX8 231 mX6_becomeV 2 := ⟨ky_X6_becomeV, mT3 221 rfl rfl, kt_X6_becomeV, ks_X6_becomeV⟩
theorem l_RL_99 : kV RL 99 mX8_odds 2 := ⟨ky_X8_odds, mT3 225 rfl rfl, kt_X8_odds, ks_X8_odds⟩
theorem l_RX8_250 : Cond.constantLong RX8 250 (-9223372036854775808) ∈ wsA := mT3 229 rfl rfl
theorem l_RX8_252 : kS RX8 252 mX8_lowest 3 := ⟨ky_X8_lowest, mT3 230 rfl rfl, kt_X8_lowest⟩
theorem l_RL_104 : kV RL 104 mX8_mean 1 := ⟨ky_X8_mean, mT3 233 rfl rfl, kt_X8_mean, ks_X8_mean⟩
theorem l_RL_109 : kV RL 109 mX8_plan 2 := ⟨ky_X8_plan, mT3 237 rfl rfl, kt_X8_plan, ks_X8_plan⟩
theorem l_RL_113 : kV RL 113 mX8_ends 1 := ⟨ky_X8_ends, mT4 1 rfl rfl, kt_X8_ends, ks_X8_ends⟩
theorem l_RX8_259 : kV RX8 259 mX8_tryPlanned 2 := ⟨ky_X8_tryPlanned, mT4 5 rfl rfl, kt_X8_tryPlanned, ks_X8_tryPlanned⟩
theorem l_RL_117 : kV RL 117 mX8_book 2 := ⟨ky_X8_book, mT4 9 rfl rfl, kt_X8_book, ks_X8_book⟩
theorem l_RL_121 : kV RL 121 mX8_looked 0 := ⟨ky_X8_looked, mT4 13 rfl rfl, kt_X8_looked, ks_X8_looked⟩
theorem l_RL_125 : kV RL 125 mX8_judge 2 := ⟨ky_X8_judge, mT4 17 rfl rfl, kt_X8_judge, ks_X8_judge⟩
theorem l_RX8_265 : kS RX8 265 mX8_isTape 1 := ⟨ky_X8_isTape, mT4 21 rfl rfl, kt_X8_isTape⟩
theorem l_RX8_271 : kV RX8 271 mX7_hasPlace 1 := ⟨ky_X7_hasPlace, mT4 24 rfl rfl, kt_X7_hasPlace, ks_X7_hasPlace⟩
theorem l_RL_129 : kV RL 129 mX8_image 0 := ⟨ky_X8_image, mT4 28 rfl rfl, kt_X8_image, ks_X8_image⟩
theorem l_RX8_278 : kV RX8 278 mX1_copyFrom 1 := ⟨ky_X1_copyFrom, mT4 32 rfl rfl, kt_X1_copyFrom, ks_X1_copyFrom⟩
theorem l_RX1_35 : kV RX1 35 mX6_copyFrom 1 := ⟨ky_X6_copyFrom, mT4 36 rfl rfl, kt_X6_copyFrom, ks_X6_copyFrom⟩
theorem l_RX1_39 : kV RX1 39 mX5_copyFrom 1 := ⟨ky_X5_copyFrom, mT4 37 rfl rfl, kt_X5_copyFrom, ks_X5_copyFrom⟩
theorem l_RX5_34 : kCp RX5 34 := ⟨mT4 41 rfl rfl, w_acn, w_acs, w_ini_java_lang_System⟩
theorem l_RL_133 : kV RL 133 mX8_undo 0 := ⟨ky_X8_undo, mT4 42 rfl rfl, kt_X8_undo, ks_X8_undo⟩
theorem l_RL_137 : kV RL 137 mX8_act 3 := ⟨ky_X8_act, mT4 46 rfl rfl, kt_X8_act, ks_X8_act⟩
theorem l_RX8_285 : kV RX8 285 mX0_forget 0 := ⟨ky_X0_forget, mT4 50 rfl rfl, kt_X0_forget, ks_X0_forget⟩
theorem l_RX8_288 : kV RX8 288 mX0_begin 5 := ⟨ky_X0_begin, mT4 54 rfl rfl, kt_X0_begin, ks_X0_begin⟩
theorem l_RX0_25 : kV RX0 25 mX0_forget 0 := ⟨ky_X0_forget, mT4 58 rfl rfl, kt_X0_forget, ks_X0_forget⟩
theorem l_RX0_37 : kV RX0 37 mX0_own 3 := ⟨ky_X0_own, mT4 59 rfl rfl, kt_X0_own, ks_X0_own⟩
theorem l_RX0_41 : kV RX0 41 mX0_from 4 := ⟨ky_X0_from, mT4 63 rfl rfl, kt_X0_from, ks_X0_from⟩
theorem l_RX0_45 : kSt RX0 45 4 := mT4 67 rfl rfl
theorem l_RX0_48 : kStN RX0 48 5 := ⟨"LeavesRoom", nT4 69 rfl rfl⟩
theorem l_RX0_51 : kV RX0 51 mX0_runBody 3 := ⟨ky_X0_runBody, mT4 71 rfl rfl, kt_X0_runBody, ks_X0_runBody⟩
theorem l_RL_141 : kV RL 141 mX8_trace 1 := ⟨ky_X8_trace, mT4 75 rfl rfl, kt_X8_trace, ks_X8_trace⟩
theorem l_RX8_292 : kV RX8 292 mX0_kept 0 := ⟨ky_X0_kept, mT4 79 rfl rfl, kt_X0_kept, ks_X0_kept⟩
theorem l_RX0_19 : Cond.methodLink RX0 19 Lib.Math.min.name ∈ wsA := mT4 83 rfl rfl
theorem l_RL_145 : kV RL 145 mX8_taken 2 := ⟨ky_X8_taken, mT4 84 rfl rfl, kt_X8_taken, ks_X8_taken⟩
theorem l_RX8_298 : kSt RX8 298 5 := mT4 88 rfl rfl
theorem l_RL_149 : kV RL 149 mX8_count 1 := ⟨ky_X8_count, mT4 89 rfl rfl, kt_X8_count, ks_X8_count⟩
theorem l_RL_153 : kV RL 153 mX8_tape 3 := ⟨ky_X8_tape, mT4 93 rfl rfl, kt_X8_tape, ks_X8_tape⟩
theorem l_RX8_304 : kV RX8 304 mX7_become 2 := ⟨ky_X7_become, mT4 97 rfl rfl, kt_X7_become, ks_X7_become⟩
theorem l_RL_159 : kV RL 159 mX8_item 3 := ⟨ky_X8_item, mT4 101 rfl rfl, kt_X8_item, ks_X8_item⟩
theorem l_RX8_307 : kV RX8 307 mX7_put 2 := ⟨ky_X7_put, mT4 105 rfl rfl, kt_X7_put, ks_X7_put⟩
theorem l_RX7_22 : kSN RX7 22 mX8_oneIf 1 := ⟨ky_X8_oneIf, ⟨"LeavesRoom", nT4 109 rfl rfl⟩, kt_X8_oneIf⟩
theorem l_RL_164 : kV RL 164 mX8_read 2 := ⟨ky_X8_read, mT4 110 rfl rfl, kt_X8_read, ks_X8_read⟩
theorem l_RL_168 : kV RL 168 mX8_shift 5 := ⟨ky_X8_shift, mT4 114 rfl rfl, kt_X8_shift, ks_X8_shift⟩
theorem l_RX8_311 : kV RX8 311 mX7_hasPlaces 2 := ⟨ky_X7_hasPlaces, mT4 118 rfl rfl, kt_X7_hasPlaces, ks_X7_hasPlaces⟩
theorem l_RX8_315 : kCp RX8 315 := ⟨mT4 122 rfl rfl, w_acn, w_acs, w_ini_java_lang_System⟩
theorem l_RL_10 : Cond.classLink RL 10 (clsN 9) ∈ wsA := mT4 123 rfl rfl
theorem l_RL_12 : kI RL 12 mX9_init 0 := ⟨ky_X9_init, mT4 125 rfl rfl, rfl, kt_X9_init, rfl⟩
theorem l_RX9_1 : Cond.methodLink RX9 1 Lib.objectInit ∈ wsA := mT4 128 rfl rfl
theorem l_RX9_7 : kF RX9 7 9 0 := mT4 129 rfl rfl
theorem l_RX9_13 : kF RX9 13 9 1 := mT4 130 rfl rfl
theorem l_RX9_16 : kF RX9 16 9 2 := mT4 131 rfl rfl
theorem l_RX9_19 : kF RX9 19 9 3 := mT4 132 rfl rfl
theorem l_RX9_22 : kF RX9 22 9 4 := mT4 133 rfl rfl
theorem l_RX9_25 : kF RX9 25 9 5 := mT4 134 rfl rfl
theorem l_RX9_29 : kF RX9 29 9 6 := mT4 135 rfl rfl
theorem l_RX9_32 : kF RX9 32 9 7 := mT4 136 rfl rfl
theorem l_RX9_35 : kF RX9 35 9 8 := mT4 137 rfl rfl
theorem l_RX9_38 : kF RX9 38 9 9 := mT4 138 rfl rfl
theorem l_RX9_41 : kF RX9 41 9 10 := mT4 139 rfl rfl
theorem l_RX9_44 : kF RX9 44 9 11 := mT4 140 rfl rfl
theorem l_RX9_47 : kF RX9 47 9 12 := mT4 141 rfl rfl
theorem l_RX9_50 : kF RX9 50 9 13 := mT4 142 rfl rfl
theorem l_RX9_53 : kF RX9 53 9 14 := mT4 143 rfl rfl
theorem l_RX9_56 : kF RX9 56 9 15 := mT4 144 rfl rfl
theorem l_RX9_59 : kF RX9 59 9 16 := mT4 145 rfl rfl
theorem l_RX9_62 : kF RX9 62 9 17 := mT4 146 rfl rfl
theorem l_RX9_65 : kF RX9 65 9 18 := mT4 147 rfl rfl
theorem l_RX9_68 : kF RX9 68 9 19 := mT4 148 rfl rfl
theorem l_RX9_71 : kF RX9 71 9 20 := mT4 149 rfl rfl
theorem l_RX9_74 : kF RX9 74 9 21 := mT4 150 rfl rfl
theorem l_RX9_77 : kF RX9 77 9 22 := mT4 151 rfl rfl
theorem l_RX9_80 : kF RX9 80 9 23 := mT4 152 rfl rfl
theorem l_RX9_83 : kF RX9 83 9 24 := mT4 153 rfl rfl
theorem l_RX9_86 : kF RX9 86 9 25 := mT4 154 rfl rfl
theorem l_RX9_89 : kF RX9 89 9 26 := mT4 155 rfl rfl
theorem l_RX9_92 : kF RX9 92 9 27 := mT4 156 rfl rfl
theorem l_RX9_96 : kF RX9 96 9 28 := mT4 157 rfl rfl
theorem l_RX9_99 : kF RX9 99 9 29 := mT4 158 rfl rfl
theorem l_RX9_102 : kF RX9 102 9 30 := mT4 159 rfl rfl
theorem l_RX9_105 : kF RX9 105 9 31 := mT4 160 rfl rfl
theorem l_RX9_108 : kF RX9 108 9 32 := mT4 161 rfl rfl
theorem l_RX9_111 : kF RX9 111 9 33 := mT4 162 rfl rfl
theorem l_RX9_114 : kF RX9 114 9 34 := mT4 163 rfl rfl
theorem l_RX9_117 : kF RX9 117 9 35 := mT4 164 rfl rfl
theorem l_RX9_120 : kF RX9 120 9 36 := mT4 165 rfl rfl
theorem l_RX9_123 : kF RX9 123 9 37 := mT4 166 rfl rfl
theorem l_RX9_126 : kF RX9 126 9 38 := mT4 167 rfl rfl
theorem l_RX9_129 : kF RX9 129 9 39 := mT4 168 rfl rfl
theorem l_RX9_132 : kF RX9 132 9 40 := mT4 169 rfl rfl
theorem l_RX9_135 : kF RX9 135 9 41 := mT4 170 rfl rfl
theorem l_RX9_138 : kF RX9 138 9 42 := mT4 171 rfl rfl
theorem l_RX9_141 : kF RX9 141 9 43 := mT4 172 rfl rfl
theorem l_RX9_144 : kF RX9 144 9 44 := mT4 173 rfl rfl
theorem l_RX9_147 : kF RX9 147 9 45 := mT4 174 rfl rfl
theorem l_RX9_150 : kF RX9 150 9 46 := mT4 175 rfl rfl
theorem l_RX9_153 : kF RX9 153 9 47 := mT4 176 rfl rfl
theorem l_RX9_156 : kF RX9 156 9 48 := mT4 177 rfl rfl
theorem l_RX9_159 : kF RX9 159 9 49 := mT4 178 rfl rfl
theorem l_RX9_162 : kF RX9 162 9 50 := mT4 179 rfl rfl
theorem l_RX9_166 : kF RX9 166 9 51 := mT4 180 rfl rfl
theorem l_RX9_169 : kF RX9 169 9 52 := mT4 181 rfl rfl
theorem l_RX9_172 : kF RX9 172 9 53 := mT4 182 rfl rfl
theorem l_RX9_175 : kF RX9 175 9 54 := mT4 183 rfl rfl
theorem l_RX9_178 : kF RX9 178 9 55 := mT4 184 rfl rfl
theorem l_RX9_181 : kF RX9 181 9 56 := mT4 185 rfl rfl
theorem l_RX9_184 : kF RX9 184 9 57 := mT4 186 rfl rfl
theorem l_RX9_187 : kF RX9 187 9 58 := mT4 187 rfl rfl
theorem l_RX9_190 : kF RX9 190 9 59 := mT4 188 rfl rfl
theorem l_RX9_193 : kF RX9 193 9 60 := mT4 189 rfl rfl
theorem l_RX9_196 : kF RX9 196 9 61 := mT4 190 rfl rfl
theorem l_RX9_199 : kF RX9 199 9 62 := mT4 191 rfl rfl
theorem l_RX9_202 : kF RX9 202 9 63 := mT4 192 rfl rfl
theorem l_RX9_205 : kF RX9 205 9 64 := mT4 193 rfl rfl
theorem l_RX9_208 : kF RX9 208 9 65 := mT4 194 rfl rfl
theorem l_RX9_211 : kF RX9 211 9 66 := mT4 195 rfl rfl
theorem l_RX9_214 : kF RX9 214 9 67 := mT4 196 rfl rfl
theorem l_RX9_217 : kF RX9 217 9 68 := mT4 197 rfl rfl
theorem l_RX9_220 : kF RX9 220 9 69 := mT4 198 rfl rfl
theorem l_RX9_223 : kF RX9 223 9 70 := mT4 199 rfl rfl
theorem l_RX9_226 : kF RX9 226 9 71 := mT4 200 rfl rfl
theorem l_RX9_229 : kF RX9 229 9 72 := mT4 201 rfl rfl
theorem l_RX9_232 : kF RX9 232 9 73 := mT4 202 rfl rfl
theorem l_RX9_235 : kF RX9 235 9 74 := mT4 203 rfl rfl
theorem l_RX9_238 : kF RX9 238 9 75 := mT4 204 rfl rfl
theorem l_RX9_241 : kF RX9 241 9 76 := mT4 205 rfl rfl
theorem l_RX9_245 : kF RX9 245 9 77 := mT4 206 rfl rfl
theorem l_RL_17 : kV RL 17 mX9_guest 2 := ⟨ky_X9_guest, mT5 124 rfl rfl, kt_X9_guest, ks_X9_guest⟩
theorem l_RX9_252 : kV RX9 252 mX9_in 3 := ⟨ky_X9_in, mT5 128 rfl rfl, kt_X9_in, ks_X9_in⟩
theorem l_RX9_256 : kV RX9 256 mX9_whoSits 1 := ⟨ky_X9_whoSits, mT5 132 rfl rfl, kt_X9_whoSits, ks_X9_whoSits⟩
theorem l_RL_34 : kV RL 34 mX9_leave 2 := ⟨ky_X9_leave, mT5 136 rfl rfl, kt_X9_leave, ks_X9_leave⟩
theorem l_RX9_260 : kV RX9 260 mX9_isGuest 1 := ⟨ky_X9_isGuest, mT5 140 rfl rfl, kt_X9_isGuest, ks_X9_isGuest⟩
theorem l_RX9_248 : kV RX9 248 mX9_has 2 := ⟨ky_X9_has, mT5 144 rfl rfl, kt_X9_has, ks_X9_has⟩
theorem l_RX9_264 : kV RX9 264 mX9_goes 2 := ⟨ky_X9_goes, mT5 148 rfl rfl, kt_X9_goes, ks_X9_goes⟩
theorem l_RL_29 : kV RL 29 mX9_sit 2 := ⟨ky_X9_sit, mT5 152 rfl rfl, kt_X9_sit, ks_X9_sit⟩
theorem l_RX9_268 : kV RX9 268 mX9_isSeat 1 := ⟨ky_X9_isSeat, mT5 156 rfl rfl, kt_X9_isSeat, ks_X9_isSeat⟩
theorem l_RX9_271 : kV RX9 271 mX9_takesSeat 2 := ⟨ky_X9_takesSeat, mT5 160 rfl rfl, kt_X9_takesSeat, ks_X9_takesSeat⟩
theorem l_RX9_275 : kV RX9 275 mX9_fond 1 := ⟨ky_X9_fond, mT5 164 rfl rfl, kt_X9_fond, ks_X9_fond⟩
theorem l_RX9_358 : kV RX9 358 mX9_layLikes 0 := ⟨ky_X9_layLikes, mT5 168 rfl rfl, kt_X9_layLikes, ks_X9_layLikes⟩
theorem l_RX9_342 : kV RX9 342 mX9_likesOf 2 := ⟨ky_X9_likesOf, mT5 172 rfl rfl, kt_X9_likesOf, ks_X9_likesOf⟩
theorem l_RX9_329 : kV RX9 329 mX9_begin 0 := ⟨ky_X9_begin, mT5 176 rfl rfl, kt_X9_begin, ks_X9_begin⟩
theorem l_RX9_332 : kV RX9 332 mX9_behind 0 := ⟨ky_X9_behind, mT5 180 rfl rfl, kt_X9_behind, ks_X9_behind⟩
theorem l_RX9_339 : kV RX9 339 mX9_holds 3 := ⟨ky_X9_holds, mT5 184 rfl rfl, kt_X9_holds, ks_X9_holds⟩
theorem l_RX9_335 : kV RX9 335 mX9_factOf 3 := ⟨ky_X9_factOf, mT5 188 rfl rfl, kt_X9_factOf, ks_X9_factOf⟩
theorem l_RX9_361 : kV RX9 361 mX9_fondBy 1 := ⟨ky_X9_fondBy, mT5 192 rfl rfl, kt_X9_fondBy, ks_X9_fondBy⟩
theorem l_RX9_352 : kV RX9 352 mX9_beside 1 := ⟨ky_X9_beside, mT5 196 rfl rfl, kt_X9_beside, ks_X9_beside⟩
theorem l_RX9_346 : kV RX9 346 mX9_isCompany 1 := ⟨ky_X9_isCompany, mT5 200 rfl rfl, kt_X9_isCompany, ks_X9_isCompany⟩
theorem l_RX9_349 : kV RX9 349 mX9_isBeside 2 := ⟨ky_X9_isBeside, mT5 204 rfl rfl, kt_X9_isBeside, ks_X9_isBeside⟩
theorem l_RX9_355 : kV RX9 355 mX9_lastOf 2 := ⟨ky_X9_lastOf, mT5 208 rfl rfl, kt_X9_lastOf, ks_X9_lastOf⟩
theorem l_RL_39 : kV RL 39 mX9_pour 1 := ⟨ky_X9_pour, mT5 212 rfl rfl, kt_X9_pour, ks_X9_pour⟩
theorem l_RX9_278 : kV RX9 278 mX9_pours 1 := ⟨ky_X9_pours, mT5 216 rfl rfl, kt_X9_pours, ks_X9_pours⟩
theorem l_RX9_282 : kV RX9 282 mX9_bits 1 := ⟨ky_X9_bits, mT5 220 rfl rfl, kt_X9_bits, ks_X9_bits⟩
theorem l_RL_44 : kV RL 44 mX9_row 3 := ⟨ky_X9_row, mT5 224 rfl rfl, kt_X9_row, ks_X9_row⟩
theorem l_RL_48 : kV RL 48 mX9_feed 1 := ⟨ky_X9_feed, mT5 228 rfl rfl, kt_X9_feed, ks_X9_feed⟩
theorem l_RL_53 : kV RL 53 mX9_house 0 := ⟨ky_X9_house, mT5 232 rfl rfl, kt_X9_house, ks_X9_house⟩
theorem l_RX9_326 : kV RX9 326 mX9_goesText 1 := ⟨ky_X9_goesText, mT5 236 rfl rfl, kt_X9_goesText, ks_X9_goesText⟩
theorem l_RX9_323 : kV RX9 323 mX9_takesClause 1 := ⟨ky_X9_takesClause, mT6 0 rfl rfl, kt_X9_takesClause, ks_X9_takesClause⟩
theorem l_RX9_317 : kV RX9 317 mX9_takesHead 1 := ⟨ky_X9_takesHead, mT6 4 rfl rfl, kt_X9_takesHead, ks_X9_takesHead⟩
theorem l_RX9_285 : kV RX9 285 mX9_next 0 := ⟨ky_X9_next, mT6 8 rfl rfl, kt_X9_next, ks_X9_next⟩
theorem l_RX9_314 : kV RX9 314 mX9_takesWord 2 := ⟨ky_X9_takesWord, mT6 12 rfl rfl, kt_X9_takesWord, ks_X9_takesWord⟩
theorem l_RX9_289 : kV RX9 289 mX9_takes 1 := ⟨ky_X9_takes, mT6 16 rfl rfl, kt_X9_takes, ks_X9_takes⟩
theorem l_RX9_302 : kV RX9 302 mX9_takesNumber 0 := ⟨ky_X9_takesNumber, mT6 20 rfl rfl, kt_X9_takesNumber, ks_X9_takesNumber⟩
theorem l_RX9_292 : kV RX9 292 mX9_isDigit 0 := ⟨ky_X9_isDigit, mT6 24 rfl rfl, kt_X9_isDigit, ks_X9_isDigit⟩
theorem l_RX9_320 : kV RX9 320 mX9_takesE 1 := ⟨ky_X9_takesE, mT6 28 rfl rfl, kt_X9_takesE, ks_X9_takesE⟩
theorem l_RX9_308 : kV RX9 308 mX9_takesTest 0 := ⟨ky_X9_takesTest, mT6 32 rfl rfl, kt_X9_takesTest, ks_X9_takesTest⟩
theorem l_RX9_299 : kV RX9 299 mX9_place 1 := ⟨ky_X9_place, mT6 36 rfl rfl, kt_X9_place, ks_X9_place⟩
theorem l_RX9_296 : kV RX9 296 mX9_emits 1 := ⟨ky_X9_emits, mT6 40 rfl rfl, kt_X9_emits, ks_X9_emits⟩
theorem l_RX9_305 : kV RX9 305 mX9_whole 0 := ⟨ky_X9_whole, mT6 44 rfl rfl, kt_X9_whole, ks_X9_whole⟩
theorem l_RX9_311 : kV RX9 311 mX9_settle 1 := ⟨ky_X9_settle, mT6 48 rfl rfl, kt_X9_settle, ks_X9_settle⟩
theorem l_RL_25 : kV RL 25 mX9_likes 2 := ⟨ky_X9_likes, mT6 52 rfl rfl, kt_X9_likes, ks_X9_likes⟩
theorem l_RL_21 : kV RL 21 mX9_of 2 := ⟨ky_X9_of, mT6 56 rfl rfl, kt_X9_of, ks_X9_of⟩
theorem l_RL_57 : kV RL 57 mX9_told 1 := ⟨ky_X9_told, mT6 60 rfl rfl, kt_X9_told, ks_X9_told⟩
theorem l_RX9_383 : kV RX9 383 mX9_allFond 0 := ⟨ky_X9_allFond, mT6 64 rfl rfl, kt_X9_allFond, ks_X9_allFond⟩
theorem l_RX9_364 : kV RX9 364 mX9_allFondBy 0 := ⟨ky_X9_allFondBy, mT6 68 rfl rfl, kt_X9_allFondBy, ks_X9_allFondBy⟩
theorem l_RX9_386 : kV RX9 386 mX9_clashes 0 := ⟨ky_X9_clashes, mT6 72 rfl rfl, kt_X9_clashes, ks_X9_clashes⟩
theorem l_RX9_367 : kV RX9 367 mX9_clashesBy 0 := ⟨ky_X9_clashesBy, mT6 76 rfl rfl, kt_X9_clashesBy, ks_X9_clashesBy⟩
theorem l_RX9_389 : kV RX9 389 mX9_round 0 := ⟨ky_X9_round, mT6 80 rfl rfl, kt_X9_round, ks_X9_round⟩
theorem l_RX9_373 : kV RX9 373 mX9_isCovered 2 := ⟨ky_X9_isCovered, mT6 84 rfl rfl, kt_X9_isCovered, ks_X9_isCovered⟩
theorem l_RX9_370 : kV RX9 370 mX9_isDue 1 := ⟨ky_X9_isDue, mT6 88 rfl rfl, kt_X9_isDue, ks_X9_isDue⟩
theorem l_RX9_376 : kV RX9 376 mX9_steps 1 := ⟨ky_X9_steps, mT6 92 rfl rfl, kt_X9_steps, ks_X9_steps⟩
theorem l_RX9_380 : kV RX9 380 mX9_least 2 := ⟨ky_X9_least, mT6 96 rfl rfl, kt_X9_least, ks_X9_least⟩
theorem l_RX9_392 : kV RX9 392 mX9_toward 0 := ⟨ky_X9_toward, mT6 100 rfl rfl, kt_X9_toward, ks_X9_toward⟩
theorem l_RL_61 : kV RL 61 mX9_pass 1 := ⟨ky_X9_pass, mT6 104 rfl rfl, kt_X9_pass, ks_X9_pass⟩
theorem l_RX9_398 : kV RX9 398 mX9_isYears 1 := ⟨ky_X9_isYears, mT6 108 rfl rfl, kt_X9_isYears, ks_X9_isYears⟩
theorem l_RX9_401 : kV RX9 401 mX9_goYears 1 := ⟨ky_X9_goYears, mT6 112 rfl rfl, kt_X9_goYears, ks_X9_goYears⟩
theorem l_RX9_395 : kV RX9 395 mX9_goYear 0 := ⟨ky_X9_goYear, mT6 116 rfl rfl, kt_X9_goYear, ks_X9_goYear⟩
theorem l_RL_65 : kV RL 65 mX9_on 2 := ⟨ky_X9_on, mT6 120 rfl rfl, kt_X9_on, ks_X9_on⟩
theorem l_RX9_405 : kV RX9 405 mX9_save 0 := ⟨ky_X9_save, mT6 124 rfl rfl, kt_X9_save, ks_X9_save⟩
theorem l_RX9_404 : Cond.constant RX9 404 (2000000000) ∈ wsA := mT6 128 rfl rfl
theorem l_RX9_408 : kV RX9 408 mX9_usesMore 0 := ⟨ky_X9_usesMore, mT6 129 rfl rfl, kt_X9_usesMore, ks_X9_usesMore⟩
theorem l_RX9_411 : kV RX9 411 mX9_putBack 0 := ⟨ky_X9_putBack, mT6 133 rfl rfl, kt_X9_putBack, ks_X9_putBack⟩
theorem l_RL_69 : kV RL 69 mX9_soon 1 := ⟨ky_X9_soon, mT6 137 rfl rfl, kt_X9_soon, ks_X9_soon⟩
theorem l_RL_73 : kV RL 73 mX9_best 1 := ⟨ky_X9_best, mT6 141 rfl rfl, kt_X9_best, ks_X9_best⟩
theorem l_RX9_417 : kV RX9 417 mX9_layBest 1 := ⟨ky_X9_layBest, mT6 145 rfl rfl, kt_X9_layBest, ks_X9_layBest⟩
theorem l_RX9_414 : kV RX9 414 mX9_layPlacing 1 := ⟨ky_X9_layPlacing, mT6 149 rfl rfl, kt_X9_layPlacing, ks_X9_layPlacing⟩
theorem l_RL_77 : kV RL 77 mX9_peace 1 := ⟨ky_X9_peace, mT6 153 rfl rfl, kt_X9_peace, ks_X9_peace⟩
theorem l_RL_81 : kV RL 81 mX9_change 0 := ⟨ky_X9_change, mT6 157 rfl rfl, kt_X9_change, ks_X9_change⟩
theorem l_RL_85 : kV RL 85 mX9_seat 1 := ⟨ky_X9_seat, mT6 161 rfl rfl, kt_X9_seat, ks_X9_seat⟩
theorem l_RL_90 : kV RL 90 mX9_see 3 := ⟨ky_X9_see, mT6 165 rfl rfl, kt_X9_see, ks_X9_see⟩
theorem l_RL_94 : kV RL 94 mX9_where 1 := ⟨ky_X9_where, mT6 169 rfl rfl, kt_X9_where, ks_X9_where⟩
theorem l_RX9_421 : kV RX9 421 mX9_isSeen 0 := ⟨ky_X9_isSeen, mT6 173 rfl rfl, kt_X9_isSeen, ks_X9_isSeen⟩
theorem l_RL_98 : kV RL 98 mX9_can 2 := ⟨ky_X9_can, mT6 177 rfl rfl, kt_X9_can, ks_X9_can⟩
theorem l_RL_103 : kV RL 103 mX9_odds 2 := ⟨ky_X9_odds, mT6 181 rfl rfl, kt_X9_odds, ks_X9_odds⟩
theorem l_RX9_427 : Cond.constantLong RX9 427 (-9223372036854775808) ∈ wsA := mT6 185 rfl rfl
theorem l_RX9_429 : kV RX9 429 mX9_lowest 3 := ⟨ky_X9_lowest, mT6 186 rfl rfl, kt_X9_lowest, ks_X9_lowest⟩
theorem l_RX9_424 : kV RX9 424 mX9_divisor 2 := ⟨ky_X9_divisor, mT6 190 rfl rfl, kt_X9_divisor, ks_X9_divisor⟩
theorem l_RL_108 : kV RL 108 mX9_mean 1 := ⟨ky_X9_mean, mT6 194 rfl rfl, kt_X9_mean, ks_X9_mean⟩
theorem l_RL_112 : kV RL 112 mX9_plan 2 := ⟨ky_X9_plan, mT6 198 rfl rfl, kt_X9_plan, ks_X9_plan⟩
theorem l_RL_116 : kV RL 116 mX9_ends 1 := ⟨ky_X9_ends, mT6 202 rfl rfl, kt_X9_ends, ks_X9_ends⟩
theorem l_RL_120 : kV RL 120 mX9_book 2 := ⟨ky_X9_book, mT6 206 rfl rfl, kt_X9_book, ks_X9_book⟩
theorem l_RL_124 : kV RL 124 mX9_looked 0 := ⟨ky_X9_looked, mT6 210 rfl rfl, kt_X9_looked, ks_X9_looked⟩
theorem l_RL_128 : kV RL 128 mX9_judge 2 := ⟨ky_X9_judge, mT6 214 rfl rfl, kt_X9_judge, ks_X9_judge⟩
theorem l_RX9_433 : kV RX9 433 mX9_isTape 1 := ⟨ky_X9_isTape, mT6 218 rfl rfl, kt_X9_isTape, ks_X9_isTape⟩
theorem l_RL_132 : kV RL 132 mX9_image 0 := ⟨ky_X9_image, mT6 222 rfl rfl, kt_X9_image, ks_X9_image⟩
theorem l_RL_136 : kV RL 136 mX9_undo 0 := ⟨ky_X9_undo, mT6 226 rfl rfl, kt_X9_undo, ks_X9_undo⟩
theorem l_RL_140 : kV RL 140 mX9_act 3 := ⟨ky_X9_act, mT6 230 rfl rfl, kt_X9_act, ks_X9_act⟩
theorem l_RX9_442 : kV RX9 442 mX9_sipsAct 2 := ⟨ky_X9_sipsAct, mT6 234 rfl rfl, kt_X9_sipsAct, ks_X9_sipsAct⟩
theorem l_RX9_436 : kV RX9 436 mX9_body 1 := ⟨ky_X9_body, mT6 238 rfl rfl, kt_X9_body, ks_X9_body⟩
theorem l_RX9_439 : kV RX9 439 mX9_guestSips 2 := ⟨ky_X9_guestSips, mT7 2 rfl rfl, kt_X9_guestSips, ks_X9_guestSips⟩
theorem l_RX9_451 : kV RX9 451 mX9_chatsAct 2 := ⟨ky_X9_chatsAct, mT7 6 rfl rfl, kt_X9_chatsAct, ks_X9_chatsAct⟩
theorem l_RX9_448 : kV RX9 448 mX9_wouldChats 2 := ⟨ky_X9_wouldChats, mT7 10 rfl rfl, kt_X9_wouldChats, ks_X9_wouldChats⟩
theorem l_RX9_445 : kV RX9 445 mX9_guestChats 2 := ⟨ky_X9_guestChats, mT7 14 rfl rfl, kt_X9_guestChats, ks_X9_guestChats⟩
theorem l_RX9_457 : kV RX9 457 mX9_tellsAct 2 := ⟨ky_X9_tellsAct, mT7 18 rfl rfl, kt_X9_tellsAct, ks_X9_tellsAct⟩
theorem l_RX9_454 : kV RX9 454 mX9_guestTells 2 := ⟨ky_X9_guestTells, mT7 22 rfl rfl, kt_X9_guestTells, ks_X9_guestTells⟩
theorem l_RL_144 : kV RL 144 mX9_trace 1 := ⟨ky_X9_trace, mT7 26 rfl rfl, kt_X9_trace, ks_X9_trace⟩
theorem l_RL_148 : kV RL 148 mX9_taken 2 := ⟨ky_X9_taken, mT7 30 rfl rfl, kt_X9_taken, ks_X9_taken⟩
theorem l_RL_152 : kV RL 152 mX9_count 1 := ⟨ky_X9_count, mT7 34 rfl rfl, kt_X9_count, ks_X9_count⟩
theorem l_RL_156 : kV RL 156 mX9_tape 3 := ⟨ky_X9_tape, mT7 38 rfl rfl, kt_X9_tape, ks_X9_tape⟩
theorem l_RL_163 : kV RL 163 mX9_item 3 := ⟨ky_X9_item, mT7 42 rfl rfl, kt_X9_item, ks_X9_item⟩
theorem l_RX9_460 : kV RX9 460 mX9_narrow 2 := ⟨ky_X9_narrow, mT7 46 rfl rfl, kt_X9_narrow, ks_X9_narrow⟩
theorem l_RL_167 : kV RL 167 mX9_read 2 := ⟨ky_X9_read, mT7 50 rfl rfl, kt_X9_read, ks_X9_read⟩
theorem l_RL_172 : kV RL 172 mX9_shift 5 := ⟨ky_X9_shift, mT7 54 rfl rfl, kt_X9_shift, ks_X9_shift⟩
theorem l_RL_157 : Cond.constantLong RL 157 (4294967295) ∈ wsA := mT7 58 rfl rfl
theorem l_RJ0_9 : Cond.fieldLink RJ0 9 "java/lang/String" "value" "[B" ∈ wsA := mT7 59 rfl rfl
theorem l_RJ0_15 : Cond.fieldLink RJ0 15 "java/lang/String" "coder" "B" ∈ wsA := mT7 60 rfl rfl
end
