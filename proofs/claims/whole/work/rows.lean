section
-- ===== PART A: goes FIRST, ahead of the names: the tables' words, and 'selects' of the private methods out of them =====
/-- a private method of a class that the tables say can be made, by its rows of tables_1 -/
def lw_okq (q : MethodName × Nat) : Prop := (q.1.cls ≠ "java/lang/invoke/MethodHandle" ∧ q.1.cls ≠ "java/lang/invoke/VarHandle") ∧ Cond.instantiable q.1.cls q.2 ∈ tables_1 ∧ Cond.privateMethod q.1 ∈ tables_1 ∧ Cond.instanceMethod q.1 ∈ tables_1
theorem lw_p0 : lw_okq (⟨"MatchCompile$Hand", "ask", "(I)V"⟩, 6) := ⟨⟨by decide +kernel, by decide +kernel⟩, List.mem_of_getElem? (i := 76) (by decide +kernel), List.mem_of_getElem? (i := 243) (by decide +kernel), List.mem_of_getElem? (i := 244) (by decide +kernel)⟩
theorem lw_p1 : lw_okq (⟨"java/lang/Throwable", "fillInStackTrace", "(I)Ljava/lang/Throwable;"⟩, 6) := ⟨⟨by decide +kernel, by decide +kernel⟩, List.mem_of_getElem? (i := 319) (by decide +kernel), List.mem_of_getElem? (i := 317) (by decide +kernel), List.mem_of_getElem? (i := 318) (by decide +kernel)⟩
theorem lw_p2 : lw_okq (⟨"MatchCompile", "countTypes", "(III)I"⟩, 10) := ⟨⟨by decide +kernel, by decide +kernel⟩, List.mem_of_getElem? (i := 22) (by decide +kernel), List.mem_of_getElem? (i := 361) (by decide +kernel), List.mem_of_getElem? (i := 362) (by decide +kernel)⟩
theorem lw_p3 : lw_okq (⟨"MatchCompile", "beginMatch", "(IIII)V"⟩, 10) := ⟨⟨by decide +kernel, by decide +kernel⟩, List.mem_of_getElem? (i := 22) (by decide +kernel), List.mem_of_getElem? (i := 391) (by decide +kernel), List.mem_of_getElem? (i := 392) (by decide +kernel)⟩
theorem lw_p4 : lw_okq (⟨"MatchCompile$Kinds", "findValued", "()V"⟩, 7) := ⟨⟨by decide +kernel, by decide +kernel⟩, List.mem_of_getElem? (i := 30) (by decide +kernel), List.mem_of_getElem? (i := 408) (by decide +kernel), List.mem_of_getElem? (i := 409) (by decide +kernel)⟩
theorem lw_p5 : lw_okq (⟨"MatchCompile", "refuseWithoutMatch", "()V"⟩, 10) := ⟨⟨by decide +kernel, by decide +kernel⟩, List.mem_of_getElem? (i := 22) (by decide +kernel), List.mem_of_getElem? (i := 460) (by decide +kernel), List.mem_of_getElem? (i := 461) (by decide +kernel)⟩
theorem lw_p6 : lw_okq (⟨"MatchCompile$Hand", "nextAsked", "()I"⟩, 6) := ⟨⟨by decide +kernel, by decide +kernel⟩, List.mem_of_getElem? (i := 76) (by decide +kernel), List.mem_of_getElem? (i := 480) (by decide +kernel), List.mem_of_getElem? (i := 481) (by decide +kernel)⟩
theorem lw_p7 : lw_okq (⟨"MatchCompile", "growTree", "()Z"⟩, 10) := ⟨⟨by decide +kernel, by decide +kernel⟩, List.mem_of_getElem? (i := 22) (by decide +kernel), List.mem_of_getElem? (i := 552) (by decide +kernel), List.mem_of_getElem? (i := 553) (by decide +kernel)⟩
theorem lw_p8 : lw_okq (⟨"MatchCompile$Tables", "pile", "(II)V"⟩, 6) := ⟨⟨by decide +kernel, by decide +kernel⟩, List.mem_of_getElem? (i := 123) (by decide +kernel), List.mem_of_getElem? (i := 561) (by decide +kernel), List.mem_of_getElem? (i := 562) (by decide +kernel)⟩
theorem lw_p9 : lw_okq (⟨"MatchCompile$Tables", "reserve", "(I)V"⟩, 6) := ⟨⟨by decide +kernel, by decide +kernel⟩, List.mem_of_getElem? (i := 123) (by decide +kernel), List.mem_of_getElem? (i := 565) (by decide +kernel), List.mem_of_getElem? (i := 566) (by decide +kernel)⟩
theorem lw_p10 : lw_okq (⟨"MatchCompile$Tables", "set", "(II)V"⟩, 6) := ⟨⟨by decide +kernel, by decide +kernel⟩, List.mem_of_getElem? (i := 123) (by decide +kernel), List.mem_of_getElem? (i := 584) (by decide +kernel), List.mem_of_getElem? (i := 585) (by decide +kernel)⟩
theorem lw_p11 : lw_okq (⟨"MatchCompile$Tables", "addLine", "(I)I"⟩, 6) := ⟨⟨by decide +kernel, by decide +kernel⟩, List.mem_of_getElem? (i := 123) (by decide +kernel), List.mem_of_getElem? (i := 589) (by decide +kernel), List.mem_of_getElem? (i := 590) (by decide +kernel)⟩
theorem lw_p12 : lw_okq (⟨"MatchCompile$Tables", "lineAt", "(I)I"⟩, 6) := ⟨⟨by decide +kernel, by decide +kernel⟩, List.mem_of_getElem? (i := 123) (by decide +kernel), List.mem_of_getElem? (i := 593) (by decide +kernel), List.mem_of_getElem? (i := 594) (by decide +kernel)⟩
theorem lw_p13 : lw_okq (⟨"MatchCompile$Tables", "cellOf", "(I)I"⟩, 6) := ⟨⟨by decide +kernel, by decide +kernel⟩, List.mem_of_getElem? (i := 123) (by decide +kernel), List.mem_of_getElem? (i := 598) (by decide +kernel), List.mem_of_getElem? (i := 599) (by decide +kernel)⟩
theorem lw_p14 : lw_okq (⟨"MatchCompile", "addNode", "(II)Z"⟩, 10) := ⟨⟨by decide +kernel, by decide +kernel⟩, List.mem_of_getElem? (i := 22) (by decide +kernel), List.mem_of_getElem? (i := 610) (by decide +kernel), List.mem_of_getElem? (i := 611) (by decide +kernel)⟩
theorem lw_p15 : lw_okq (⟨"MatchCompile$Tables", "splitAt", "(II)Z"⟩, 6) := ⟨⟨by decide +kernel, by decide +kernel⟩, List.mem_of_getElem? (i := 123) (by decide +kernel), List.mem_of_getElem? (i := 618) (by decide +kernel), List.mem_of_getElem? (i := 619) (by decide +kernel)⟩
def lw_privs_1 : List (MethodName × Nat) := [(⟨"MatchCompile$Hand", "ask", "(I)V"⟩, 6), (⟨"java/lang/Throwable", "fillInStackTrace", "(I)Ljava/lang/Throwable;"⟩, 6), (⟨"MatchCompile", "countTypes", "(III)I"⟩, 10), (⟨"MatchCompile", "beginMatch", "(IIII)V"⟩, 10), (⟨"MatchCompile$Kinds", "findValued", "()V"⟩, 7), (⟨"MatchCompile", "refuseWithoutMatch", "()V"⟩, 10), (⟨"MatchCompile$Hand", "nextAsked", "()I"⟩, 6), (⟨"MatchCompile", "growTree", "()Z"⟩, 10), (⟨"MatchCompile$Tables", "pile", "(II)V"⟩, 6), (⟨"MatchCompile$Tables", "reserve", "(I)V"⟩, 6), (⟨"MatchCompile$Tables", "set", "(II)V"⟩, 6), (⟨"MatchCompile$Tables", "addLine", "(I)I"⟩, 6), (⟨"MatchCompile$Tables", "lineAt", "(I)I"⟩, 6), (⟨"MatchCompile$Tables", "cellOf", "(I)I"⟩, 6), (⟨"MatchCompile", "addNode", "(II)Z"⟩, 10), (⟨"MatchCompile$Tables", "splitAt", "(II)Z"⟩, 6)]
theorem lw_r1 : ∀ q ∈ lw_privs_1, lw_okq q := List.forall_mem_cons.mpr ⟨lw_p0, List.forall_mem_cons.mpr ⟨lw_p1, List.forall_mem_cons.mpr ⟨lw_p2, List.forall_mem_cons.mpr ⟨lw_p3, List.forall_mem_cons.mpr ⟨lw_p4, List.forall_mem_cons.mpr ⟨lw_p5, List.forall_mem_cons.mpr ⟨lw_p6, List.forall_mem_cons.mpr ⟨lw_p7, List.forall_mem_cons.mpr ⟨lw_p8, List.forall_mem_cons.mpr ⟨lw_p9, List.forall_mem_cons.mpr ⟨lw_p10, List.forall_mem_cons.mpr ⟨lw_p11, List.forall_mem_cons.mpr ⟨lw_p12, List.forall_mem_cons.mpr ⟨lw_p13, List.forall_mem_cons.mpr ⟨lw_p14, List.forall_mem_cons.mpr ⟨lw_p15, fun _ h => absurd h List.not_mem_nil⟩⟩⟩⟩⟩⟩⟩⟩⟩⟩⟩⟩⟩⟩⟩⟩
theorem lw_p16 : lw_okq (⟨"MatchCompile$Tables", "get", "(I)I"⟩, 6) := ⟨⟨by decide +kernel, by decide +kernel⟩, List.mem_of_getElem? (i := 123) (by decide +kernel), List.mem_of_getElem? (i := 622) (by decide +kernel), List.mem_of_getElem? (i := 623) (by decide +kernel)⟩
theorem lw_p17 : lw_okq (⟨"MatchCompile$Tables", "isEither", "(I)Z"⟩, 6) := ⟨⟨by decide +kernel, by decide +kernel⟩, List.mem_of_getElem? (i := 123) (by decide +kernel), List.mem_of_getElem? (i := 626) (by decide +kernel), List.mem_of_getElem? (i := 627) (by decide +kernel)⟩
theorem lw_p18 : lw_okq (⟨"MatchCompile$Tables", "doubleLine", "(I)V"⟩, 6) := ⟨⟨by decide +kernel, by decide +kernel⟩, List.mem_of_getElem? (i := 123) (by decide +kernel), List.mem_of_getElem? (i := 630) (by decide +kernel), List.mem_of_getElem? (i := 631) (by decide +kernel)⟩
theorem lw_p19 : lw_okq (⟨"MatchCompile$Tables", "copy", "(III)V"⟩, 6) := ⟨⟨by decide +kernel, by decide +kernel⟩, List.mem_of_getElem? (i := 123) (by decide +kernel), List.mem_of_getElem? (i := 634) (by decide +kernel), List.mem_of_getElem? (i := 635) (by decide +kernel)⟩
theorem lw_p20 : lw_okq (⟨"MatchCompile$Tree", "set", "(III)V"⟩, 4) := ⟨⟨by decide +kernel, by decide +kernel⟩, List.mem_of_getElem? (i := 104) (by decide +kernel), List.mem_of_getElem? (i := 643) (by decide +kernel), List.mem_of_getElem? (i := 644) (by decide +kernel)⟩
theorem lw_p21 : lw_okq (⟨"MatchCompile$Tree", "hang", "(II)V"⟩, 4) := ⟨⟨by decide +kernel, by decide +kernel⟩, List.mem_of_getElem? (i := 104) (by decide +kernel), List.mem_of_getElem? (i := 647) (by decide +kernel), List.mem_of_getElem? (i := 648) (by decide +kernel)⟩
theorem lw_p22 : lw_okq (⟨"MatchCompile$Tree", "get", "(II)I"⟩, 4) := ⟨⟨by decide +kernel, by decide +kernel⟩, List.mem_of_getElem? (i := 104) (by decide +kernel), List.mem_of_getElem? (i := 651) (by decide +kernel), List.mem_of_getElem? (i := 652) (by decide +kernel)⟩
theorem lw_p23 : lw_okq (⟨"MatchCompile$Tree", "branchAt", "(II)I"⟩, 4) := ⟨⟨by decide +kernel, by decide +kernel⟩, List.mem_of_getElem? (i := 104) (by decide +kernel), List.mem_of_getElem? (i := 655) (by decide +kernel), List.mem_of_getElem? (i := 656) (by decide +kernel)⟩
theorem lw_p24 : lw_okq (⟨"MatchCompile$Tables", "head", "(I)I"⟩, 6) := ⟨⟨by decide +kernel, by decide +kernel⟩, List.mem_of_getElem? (i := 123) (by decide +kernel), List.mem_of_getElem? (i := 671) (by decide +kernel), List.mem_of_getElem? (i := 672) (by decide +kernel)⟩
theorem lw_p25 : lw_okq (⟨"MatchCompile$Tables", "copyAround", "(IIIII)V"⟩, 6) := ⟨⟨by decide +kernel, by decide +kernel⟩, List.mem_of_getElem? (i := 123) (by decide +kernel), List.mem_of_getElem? (i := 727) (by decide +kernel), List.mem_of_getElem? (i := 728) (by decide +kernel)⟩
theorem lw_p26 : lw_okq (⟨"MatchCompile$Tables", "putFields", "(III)V"⟩, 6) := ⟨⟨by decide +kernel, by decide +kernel⟩, List.mem_of_getElem? (i := 123) (by decide +kernel), List.mem_of_getElem? (i := 732) (by decide +kernel), List.mem_of_getElem? (i := 733) (by decide +kernel)⟩
theorem lw_p27 : lw_okq (⟨"MatchCompile$Cases", "putFound", "(II)V"⟩, 5) := ⟨⟨by decide +kernel, by decide +kernel⟩, List.mem_of_getElem? (i := 148) (by decide +kernel), List.mem_of_getElem? (i := 818) (by decide +kernel), List.mem_of_getElem? (i := 819) (by decide +kernel)⟩
theorem lw_p28 : lw_okq (⟨"MatchCompile$Cases", "anyOf", "(I)I"⟩, 5) := ⟨⟨by decide +kernel, by decide +kernel⟩, List.mem_of_getElem? (i := 148) (by decide +kernel), List.mem_of_getElem? (i := 822) (by decide +kernel), List.mem_of_getElem? (i := 823) (by decide +kernel)⟩
theorem lw_p29 : lw_okq (⟨"MatchCompile", "refuseWithoutWholeValues", "()V"⟩, 10) := ⟨⟨by decide +kernel, by decide +kernel⟩, List.mem_of_getElem? (i := 22) (by decide +kernel), List.mem_of_getElem? (i := 859) (by decide +kernel), List.mem_of_getElem? (i := 860) (by decide +kernel)⟩
theorem lw_p30 : lw_okq (⟨"MatchCompile", "rowTakesValues", "(I)Z"⟩, 10) := ⟨⟨by decide +kernel, by decide +kernel⟩, List.mem_of_getElem? (i := 22) (by decide +kernel), List.mem_of_getElem? (i := 865) (by decide +kernel), List.mem_of_getElem? (i := 866) (by decide +kernel)⟩
theorem lw_p31 : lw_okq (⟨"MatchCompile", "takes", "(III)Z"⟩, 10) := ⟨⟨by decide +kernel, by decide +kernel⟩, List.mem_of_getElem? (i := 22) (by decide +kernel), List.mem_of_getElem? (i := 870) (by decide +kernel), List.mem_of_getElem? (i := 871) (by decide +kernel)⟩
def lw_privs_2 : List (MethodName × Nat) := [(⟨"MatchCompile$Tables", "get", "(I)I"⟩, 6), (⟨"MatchCompile$Tables", "isEither", "(I)Z"⟩, 6), (⟨"MatchCompile$Tables", "doubleLine", "(I)V"⟩, 6), (⟨"MatchCompile$Tables", "copy", "(III)V"⟩, 6), (⟨"MatchCompile$Tree", "set", "(III)V"⟩, 4), (⟨"MatchCompile$Tree", "hang", "(II)V"⟩, 4), (⟨"MatchCompile$Tree", "get", "(II)I"⟩, 4), (⟨"MatchCompile$Tree", "branchAt", "(II)I"⟩, 4), (⟨"MatchCompile$Tables", "head", "(I)I"⟩, 6), (⟨"MatchCompile$Tables", "copyAround", "(IIIII)V"⟩, 6), (⟨"MatchCompile$Tables", "putFields", "(III)V"⟩, 6), (⟨"MatchCompile$Cases", "putFound", "(II)V"⟩, 5), (⟨"MatchCompile$Cases", "anyOf", "(I)I"⟩, 5), (⟨"MatchCompile", "refuseWithoutWholeValues", "()V"⟩, 10), (⟨"MatchCompile", "rowTakesValues", "(I)Z"⟩, 10), (⟨"MatchCompile", "takes", "(III)Z"⟩, 10)]
theorem lw_r2 : ∀ q ∈ lw_privs_2, lw_okq q := List.forall_mem_cons.mpr ⟨lw_p16, List.forall_mem_cons.mpr ⟨lw_p17, List.forall_mem_cons.mpr ⟨lw_p18, List.forall_mem_cons.mpr ⟨lw_p19, List.forall_mem_cons.mpr ⟨lw_p20, List.forall_mem_cons.mpr ⟨lw_p21, List.forall_mem_cons.mpr ⟨lw_p22, List.forall_mem_cons.mpr ⟨lw_p23, List.forall_mem_cons.mpr ⟨lw_p24, List.forall_mem_cons.mpr ⟨lw_p25, List.forall_mem_cons.mpr ⟨lw_p26, List.forall_mem_cons.mpr ⟨lw_p27, List.forall_mem_cons.mpr ⟨lw_p28, List.forall_mem_cons.mpr ⟨lw_p29, List.forall_mem_cons.mpr ⟨lw_p30, List.forall_mem_cons.mpr ⟨lw_p31, fun _ h => absurd h List.not_mem_nil⟩⟩⟩⟩⟩⟩⟩⟩⟩⟩⟩⟩⟩⟩⟩⟩
theorem lw_p32 : lw_okq (⟨"MatchCompile", "countTests", "()I"⟩, 10) := ⟨⟨by decide +kernel, by decide +kernel⟩, List.mem_of_getElem? (i := 22) (by decide +kernel), List.mem_of_getElem? (i := 887) (by decide +kernel), List.mem_of_getElem? (i := 888) (by decide +kernel)⟩
theorem lw_p33 : lw_okq (⟨"MatchCompile$Seats", "isSeat", "(I)Z"⟩, 4) := ⟨⟨by decide +kernel, by decide +kernel⟩, List.mem_of_getElem? (i := 170) (by decide +kernel), List.mem_of_getElem? (i := 902) (by decide +kernel), List.mem_of_getElem? (i := 903) (by decide +kernel)⟩
theorem lw_p34 : lw_okq (⟨"MatchCompile$Seats", "makeGap", "(II)V"⟩, 4) := ⟨⟨by decide +kernel, by decide +kernel⟩, List.mem_of_getElem? (i := 170) (by decide +kernel), List.mem_of_getElem? (i := 916) (by decide +kernel), List.mem_of_getElem? (i := 917) (by decide +kernel)⟩
theorem lw_p35 : lw_okq (⟨"MatchCompileModel", "isType", "(I)Z"⟩, 38) := ⟨⟨by decide +kernel, by decide +kernel⟩, List.mem_of_getElem? (i := 920) (by decide +kernel), List.mem_of_getElem? (i := 1053) (by decide +kernel), List.mem_of_getElem? (i := 1054) (by decide +kernel)⟩
theorem lw_p36 : lw_okq (⟨"MatchCompileModel", "areTypes", "(III)Z"⟩, 38) := ⟨⟨by decide +kernel, by decide +kernel⟩, List.mem_of_getElem? (i := 920) (by decide +kernel), List.mem_of_getElem? (i := 1057) (by decide +kernel), List.mem_of_getElem? (i := 1058) (by decide +kernel)⟩
theorem lw_p37 : lw_okq (⟨"MatchCompileModel", "makersOf", "(I)I"⟩, 38) := ⟨⟨by decide +kernel, by decide +kernel⟩, List.mem_of_getElem? (i := 920) (by decide +kernel), List.mem_of_getElem? (i := 1061) (by decide +kernel), List.mem_of_getElem? (i := 1062) (by decide +kernel)⟩
theorem lw_p38 : lw_okq (⟨"MatchCompileModel", "forget", "()V"⟩, 38) := ⟨⟨by decide +kernel, by decide +kernel⟩, List.mem_of_getElem? (i := 920) (by decide +kernel), List.mem_of_getElem? (i := 1065) (by decide +kernel), List.mem_of_getElem? (i := 1066) (by decide +kernel)⟩
theorem lw_p39 : lw_okq (⟨"MatchCompileModel", "find", "()V"⟩, 38) := ⟨⟨by decide +kernel, by decide +kernel⟩, List.mem_of_getElem? (i := 920) (by decide +kernel), List.mem_of_getElem? (i := 1073) (by decide +kernel), List.mem_of_getElem? (i := 1074) (by decide +kernel)⟩
theorem lw_p40 : lw_okq (⟨"MatchCompileModel", "isDead", "(I)Z"⟩, 38) := ⟨⟨by decide +kernel, by decide +kernel⟩, List.mem_of_getElem? (i := 920) (by decide +kernel), List.mem_of_getElem? (i := 1077) (by decide +kernel), List.mem_of_getElem? (i := 1078) (by decide +kernel)⟩
theorem lw_p41 : lw_okq (⟨"MatchCompileModel", "fields", "(I)I"⟩, 38) := ⟨⟨by decide +kernel, by decide +kernel⟩, List.mem_of_getElem? (i := 920) (by decide +kernel), List.mem_of_getElem? (i := 1081) (by decide +kernel), List.mem_of_getElem? (i := 1082) (by decide +kernel)⟩
theorem lw_p42 : lw_okq (⟨"MatchCompileModel", "next", "([II)I"⟩, 38) := ⟨⟨by decide +kernel, by decide +kernel⟩, List.mem_of_getElem? (i := 920) (by decide +kernel), List.mem_of_getElem? (i := 1093) (by decide +kernel), List.mem_of_getElem? (i := 1094) (by decide +kernel)⟩
theorem lw_p43 : lw_okq (⟨"MatchCompileModel", "isMakerOf", "(II)Z"⟩, 38) := ⟨⟨by decide +kernel, by decide +kernel⟩, List.mem_of_getElem? (i := 920) (by decide +kernel), List.mem_of_getElem? (i := 1097) (by decide +kernel), List.mem_of_getElem? (i := 1098) (by decide +kernel)⟩
theorem lw_p44 : lw_okq (⟨"MatchCompileModel", "canAnswer", "()Z"⟩, 38) := ⟨⟨by decide +kernel, by decide +kernel⟩, List.mem_of_getElem? (i := 920) (by decide +kernel), List.mem_of_getElem? (i := 1117) (by decide +kernel), List.mem_of_getElem? (i := 1118) (by decide +kernel)⟩
theorem lw_p45 : lw_okq (⟨"MatchCompileModel", "rowTakes", "(I)Z"⟩, 38) := ⟨⟨by decide +kernel, by decide +kernel⟩, List.mem_of_getElem? (i := 920) (by decide +kernel), List.mem_of_getElem? (i := 1121) (by decide +kernel), List.mem_of_getElem? (i := 1122) (by decide +kernel)⟩
theorem lw_p46 : lw_okq (⟨"MatchCompileModel", "behind", "([II)I"⟩, 38) := ⟨⟨by decide +kernel, by decide +kernel⟩, List.mem_of_getElem? (i := 920) (by decide +kernel), List.mem_of_getElem? (i := 1125) (by decide +kernel), List.mem_of_getElem? (i := 1126) (by decide +kernel)⟩
theorem lw_p47 : lw_okq (⟨"MatchCompileModel", "fieldsTake", "(II)Z"⟩, 38) := ⟨⟨by decide +kernel, by decide +kernel⟩, List.mem_of_getElem? (i := 920) (by decide +kernel), List.mem_of_getElem? (i := 1129) (by decide +kernel), List.mem_of_getElem? (i := 1130) (by decide +kernel)⟩
def lw_privs_3 : List (MethodName × Nat) := [(⟨"MatchCompile", "countTests", "()I"⟩, 10), (⟨"MatchCompile$Seats", "isSeat", "(I)Z"⟩, 4), (⟨"MatchCompile$Seats", "makeGap", "(II)V"⟩, 4), (⟨"MatchCompileModel", "isType", "(I)Z"⟩, 38), (⟨"MatchCompileModel", "areTypes", "(III)Z"⟩, 38), (⟨"MatchCompileModel", "makersOf", "(I)I"⟩, 38), (⟨"MatchCompileModel", "forget", "()V"⟩, 38), (⟨"MatchCompileModel", "find", "()V"⟩, 38), (⟨"MatchCompileModel", "isDead", "(I)Z"⟩, 38), (⟨"MatchCompileModel", "fields", "(I)I"⟩, 38), (⟨"MatchCompileModel", "next", "([II)I"⟩, 38), (⟨"MatchCompileModel", "isMakerOf", "(II)Z"⟩, 38), (⟨"MatchCompileModel", "canAnswer", "()Z"⟩, 38), (⟨"MatchCompileModel", "rowTakes", "(I)Z"⟩, 38), (⟨"MatchCompileModel", "behind", "([II)I"⟩, 38), (⟨"MatchCompileModel", "fieldsTake", "(II)Z"⟩, 38)]
theorem lw_r3 : ∀ q ∈ lw_privs_3, lw_okq q := List.forall_mem_cons.mpr ⟨lw_p32, List.forall_mem_cons.mpr ⟨lw_p33, List.forall_mem_cons.mpr ⟨lw_p34, List.forall_mem_cons.mpr ⟨lw_p35, List.forall_mem_cons.mpr ⟨lw_p36, List.forall_mem_cons.mpr ⟨lw_p37, List.forall_mem_cons.mpr ⟨lw_p38, List.forall_mem_cons.mpr ⟨lw_p39, List.forall_mem_cons.mpr ⟨lw_p40, List.forall_mem_cons.mpr ⟨lw_p41, List.forall_mem_cons.mpr ⟨lw_p42, List.forall_mem_cons.mpr ⟨lw_p43, List.forall_mem_cons.mpr ⟨lw_p44, List.forall_mem_cons.mpr ⟨lw_p45, List.forall_mem_cons.mpr ⟨lw_p46, List.forall_mem_cons.mpr ⟨lw_p47, fun _ h => absurd h List.not_mem_nil⟩⟩⟩⟩⟩⟩⟩⟩⟩⟩⟩⟩⟩⟩⟩⟩
theorem lw_p48 : lw_okq (⟨"MatchCompileModel", "begin", "(II)V"⟩, 38) := ⟨⟨by decide +kernel, by decide +kernel⟩, List.mem_of_getElem? (i := 920) (by decide +kernel), List.mem_of_getElem? (i := 1137) (by decide +kernel), List.mem_of_getElem? (i := 1138) (by decide +kernel)⟩
theorem lw_p49 : lw_okq (⟨"MatchCompileModel", "tableOf", "(II)V"⟩, 38) := ⟨⟨by decide +kernel, by decide +kernel⟩, List.mem_of_getElem? (i := 920) (by decide +kernel), List.mem_of_getElem? (i := 1141) (by decide +kernel), List.mem_of_getElem? (i := 1142) (by decide +kernel)⟩
theorem lw_p50 : lw_okq (⟨"MatchCompileModel", "firstTable", "()V"⟩, 38) := ⟨⟨by decide +kernel, by decide +kernel⟩, List.mem_of_getElem? (i := 920) (by decide +kernel), List.mem_of_getElem? (i := 1145) (by decide +kernel), List.mem_of_getElem? (i := 1146) (by decide +kernel)⟩
theorem lw_p51 : lw_okq (⟨"MatchCompileModel", "part", "()V"⟩, 38) := ⟨⟨by decide +kernel, by decide +kernel⟩, List.mem_of_getElem? (i := 920) (by decide +kernel), List.mem_of_getElem? (i := 1149) (by decide +kernel), List.mem_of_getElem? (i := 1150) (by decide +kernel)⟩
theorem lw_p52 : lw_okq (⟨"MatchCompileModel", "signOf", "(I)I"⟩, 38) := ⟨⟨by decide +kernel, by decide +kernel⟩, List.mem_of_getElem? (i := 920) (by decide +kernel), List.mem_of_getElem? (i := 1153) (by decide +kernel), List.mem_of_getElem? (i := 1154) (by decide +kernel)⟩
theorem lw_p53 : lw_okq (⟨"MatchCompileModel", "doubled", "(III)V"⟩, 38) := ⟨⟨by decide +kernel, by decide +kernel⟩, List.mem_of_getElem? (i := 920) (by decide +kernel), List.mem_of_getElem? (i := 1157) (by decide +kernel), List.mem_of_getElem? (i := 1158) (by decide +kernel)⟩
theorem lw_p54 : lw_okq (⟨"MatchCompileModel", "branch", "(II)V"⟩, 38) := ⟨⟨by decide +kernel, by decide +kernel⟩, List.mem_of_getElem? (i := 920) (by decide +kernel), List.mem_of_getElem? (i := 1161) (by decide +kernel), List.mem_of_getElem? (i := 1162) (by decide +kernel)⟩
theorem lw_p55 : lw_okq (⟨"MatchCompileModel", "widen", "(IIIII)V"⟩, 38) := ⟨⟨by decide +kernel, by decide +kernel⟩, List.mem_of_getElem? (i := 920) (by decide +kernel), List.mem_of_getElem? (i := 1165) (by decide +kernel), List.mem_of_getElem? (i := 1166) (by decide +kernel)⟩
theorem lw_p56 : lw_okq (⟨"MatchCompileModel", "isNode", "(I)Z"⟩, 38) := ⟨⟨by decide +kernel, by decide +kernel⟩, List.mem_of_getElem? (i := 920) (by decide +kernel), List.mem_of_getElem? (i := 1173) (by decide +kernel), List.mem_of_getElem? (i := 1174) (by decide +kernel)⟩
theorem lw_p57 : lw_okq (⟨"MatchCompileModel", "branchOf", "(II)I"⟩, 38) := ⟨⟨by decide +kernel, by decide +kernel⟩, List.mem_of_getElem? (i := 920) (by decide +kernel), List.mem_of_getElem? (i := 1177) (by decide +kernel), List.mem_of_getElem? (i := 1178) (by decide +kernel)⟩
theorem lw_p58 : lw_okq (⟨"MatchCompileModel", "tell", "(I)I"⟩, 38) := ⟨⟨by decide +kernel, by decide +kernel⟩, List.mem_of_getElem? (i := 920) (by decide +kernel), List.mem_of_getElem? (i := 1190) (by decide +kernel), List.mem_of_getElem? (i := 1191) (by decide +kernel)⟩
def lw_privs_4 : List (MethodName × Nat) := [(⟨"MatchCompileModel", "begin", "(II)V"⟩, 38), (⟨"MatchCompileModel", "tableOf", "(II)V"⟩, 38), (⟨"MatchCompileModel", "firstTable", "()V"⟩, 38), (⟨"MatchCompileModel", "part", "()V"⟩, 38), (⟨"MatchCompileModel", "signOf", "(I)I"⟩, 38), (⟨"MatchCompileModel", "doubled", "(III)V"⟩, 38), (⟨"MatchCompileModel", "branch", "(II)V"⟩, 38), (⟨"MatchCompileModel", "widen", "(IIIII)V"⟩, 38), (⟨"MatchCompileModel", "isNode", "(I)Z"⟩, 38), (⟨"MatchCompileModel", "branchOf", "(II)I"⟩, 38), (⟨"MatchCompileModel", "tell", "(I)I"⟩, 38)]
theorem lw_r4 : ∀ q ∈ lw_privs_4, lw_okq q := List.forall_mem_cons.mpr ⟨lw_p48, List.forall_mem_cons.mpr ⟨lw_p49, List.forall_mem_cons.mpr ⟨lw_p50, List.forall_mem_cons.mpr ⟨lw_p51, List.forall_mem_cons.mpr ⟨lw_p52, List.forall_mem_cons.mpr ⟨lw_p53, List.forall_mem_cons.mpr ⟨lw_p54, List.forall_mem_cons.mpr ⟨lw_p55, List.forall_mem_cons.mpr ⟨lw_p56, List.forall_mem_cons.mpr ⟨lw_p57, List.forall_mem_cons.mpr ⟨lw_p58, fun _ h => absurd h List.not_mem_nil⟩⟩⟩⟩⟩⟩⟩⟩⟩⟩⟩
def lw_privs : List (MethodName × Nat) := lw_privs_1 ++ (lw_privs_2 ++ (lw_privs_3 ++ (lw_privs_4)))
def lw_tbl : List Cond := k2_sels lw_privs ++ tables_1
theorem lw_privs_ok : ∀ q ∈ lw_privs, lw_okq q := by
  show ∀ q ∈ lw_privs_1 ++ (lw_privs_2 ++ (lw_privs_3 ++ (lw_privs_4))), lw_okq q
  exact List.forall_mem_append.mpr ⟨lw_r1, List.forall_mem_append.mpr ⟨lw_r2, List.forall_mem_append.mpr ⟨lw_r3, lw_r4⟩⟩⟩
-- the law base, then the laws on exceptions that stand ahead of the names
/-! ===== BEGIN words of one list among another's, by their places ===== -/
theorem goodIn_r {big : List Cond} (ws : List Cond) (ps : List Nat) (hp : ws = ps.filterMap (fun i => big[i]?)) (h : ws.all goodWord = true) : GoodIn big ws := by
  intro w hw
  have h1 := List.all_eq_true.mp h w hw
  rw [hp] at hw
  obtain ⟨i, -, hi⟩ := List.mem_filterMap.mp hw
  have hm : w ∈ big := by first | exact List.mem_of_getElem? hi | exact List.getElem?_mem hi
  exact ⟨hm, good_of_word h1⟩
theorem goodIn_app {big a b : List Cond} (ha : GoodIn big a) (hb : GoodIn big b) : GoodIn big (a ++ b) := fun w h => (List.mem_append.mp h).elim (ha w) (hb w)
theorem goodIn_ca {big a b : List Cond} {c : Cond} (ha : GoodIn big (c :: a)) (hb : GoodIn big b) : GoodIn big (c :: (a ++ b)) := fun w h => (List.mem_cons.mp h).elim (fun e => ha w (List.mem_cons.mpr (Or.inl e))) (fun h => (List.mem_append.mp h).elim (fun h => ha w (List.mem_cons.mpr (Or.inr h))) (hb w))
theorem goodIn_sub {big ws : List Cond} (hm : ∀ w ∈ ws, w ∈ big) (h : ws.all goodWord = true) : GoodIn big ws := fun w hw => ⟨hm w hw, good_of_word (List.all_eq_true.mp h w hw)⟩
/-! ===== END ===== -/

/-! ===== BEGIN exceptions that leave a method, and their catching by the caller (launches without stack traces) ===== -/
section VXA
/-! The laws vx_back, vx_callV, vx_callS, vx_callSW, vx_throw0, vx_throwS follow proofs of the library, with one case more: JvmDerived/Free/Laws.lean (Back.of_free), Shelf42/LK1.lean (callV, callS), Shelf/KitTraced.lean (throwNew0V, throwNewS). -/
-- (open Bundle: the round refuses the word; its names are written out below)
/-- where a method has thrown q: the class by its name, the cell, what was written, the world -/
def vx_T (XC : String → State → State → Prop) (st : State) (q : Addr) (t : State) (mc ms : Nat) (free : Addr → Prop) : Prop :=
  ∃ (E : String) (ce : Cell) (L : List Loc), XC E st t ∧ t.heap[q]? = some ce ∧ ce.vm = .none ∧ st.vm.findClass E = some ce.cls ∧ st.WarmedH t.vm ∧ st.sameButNew ({ t with vm := st.vm } : State) L mc ms ∧ ∀ z ∈ L, free z.base
def vx_Q (Qc : Array Value → State → Outcome → State → Prop) (XC : String → State → State → Prop) (mc ms : Nat) (free : Addr → Prop) : Array Value → State → Outcome → State → Prop := fun a st o t =>
  (Qc a st o t ∧ ∃ L, FrameEnd st o t L mc ms ∧ ∀ q ∈ L, free q.base) ∨ ∃ q, o = .threw q ∧ vx_T XC st q t mc ms free
/-- a callee that returns or throws -/
def vx_Met (l : Launch) (y : MethodName) (ws : List Cond) (rm : Room) (Pc : Array Value → State → Prop) (Qc : Array Value → State → Outcome → State → Prop) (XC : String → State → State → Prop) (mc ms : Nat) (free : Addr → Prop) : Prop :=
  MetFree l y (headSpec ws rm) Pc (fun _ _ _ _ _ => True) (vx_Q Qc XC mc ms free)
def vx_Post (XC : String → State → State → Prop) (mc ms : Nat) (free : Addr → Prop) : Pt → Array Value → Addr → Pt → Prop := fun A a q B =>
  ∃ (g : JFrame) (mk : MethodId) (t : State) (L : List Loc) (E : String) (ce : Cell), B.U.heap = t.heap ∧ B.U.vm = t.vm ∧ XC E (A.U.calling g mk a) t ∧ t.heap[q]? = some ce ∧ ce.vm = .none ∧ A.U.vm.findClass E = some ce.cls ∧ B.locs = A.locs ++ L ∧ (∀ z ∈ L, free z.base) ∧ B.cells = A.cells + mc ∧ B.slots = A.slots + ms
def vx_Back (l : Launch) (R : Room) (p : Program) (e : Env) (below : List Frame) (s : State) (sargs : Array Value) (y : MethodName) (len W9 : Nat)
    (Pre : Pt → Array Value → Prop) (Post : Pt → Array Value → Option Value → Pt → Prop) (PostX : Pt → Array Value → Addr → Pt → Prop) : Prop :=
  ∀ (m : MethodId) (meth : Method) (c : Code) (A : Pt) (g : JFrame) (ig : Instr) (mk : MethodId) (a : Array Value),
    Stand p l e R s m sargs below meth c A.U A.locs A.cells A.slots → g.method = m → g.locals.size = c.maxLocals → decode c.code g.pc = .ok (ig, len) →
    2 * g.monitorRoom + (g.stack.map fun v => v.category).sum ≤ W9 → A.U.methodNamed? y = some mk → Pre A a →
    (∃ (v : Option Value) (B : Pt), Stand p l e R s m sargs below meth c B.U B.locs B.cells B.slots ∧ Post A a v B ∧
      Steps p.tables e below (doInvoke e (A.U.setTop g) [] mk a).1 (B.U.setTop { g with pc := g.pc + len, stack := v.toList ++ g.stack })) ∨
    (∃ (q : Addr) (B : Pt), Stand p l e R s m sargs below meth c B.U B.locs B.cells B.slots ∧ PostX A a q B ∧
      Steps p.tables e below (doInvoke e (A.U.setTop g) [] mk a).1 ((B.U.setTop g).pushFrame (.throwing q)))
section Payer
variable {l : Launch} {R : Room} {p : Program} {e : Env} {below : List Frame} {s : State} {sargs : Array Value} {y : MethodName} {len W9 : Nat}
theorem vx_back {ws : List Cond} {rm : Room} {Pc : Array Value → State → Prop} {Qc : Array Value → State → Outcome → State → Prop} {XC : String → State → State → Prop} {mc ms : Nat} {free : Addr → Prop} {bytes : ByteArray} {maxL : Nat} {ret : Option FieldType}
    (hM : vx_Met l y ws rm Pc Qc XC mc ms free) (hblind : FrameBlind Pc) (hrc : rm.cells = mc) (hrs : rm.slots = ms)
    (hframes : rm.frames + 1 ≤ R.frames) (hlocals : W9 + (maxL + 11) + rm.locals ≤ R.locals)
    (hws : ∀ w ∈ ws, ∀ a' U, s.WarmedH U.vm → w.before a' U = true) (hcode : Cond.code y bytes maxL ret ∈ ws) (hinit : ∀ a' U, s.WarmedH U.vm → (Cond.initialized y.cls).before a' U = true) :
    vx_Back l R p e below s sargs y len W9 (PreOf R mc ms Pc) (PostOf Qc mc ms free) (vx_Post XC mc ms free) := by
  intro m meth c A g ig mk a X hg hsize hdg hW hn hp
  have h1 : (headSpec ws rm).pre.before a A.U = true := atoms_intro fun w hw => hws w hw _ _ X.warmed
  have h2 : (Cond.code y bytes maxL ret).before a A.U = true := hws _ hcode _ _ X.warmed
  have h3 : (Cond.initialized y.cls).before a A.U = true := hinit _ _ X.warmed
  have h4 : A.cells + (headSpec ws rm).room.cells ≤ R.cells := by rw [show (headSpec ws rm).room.cells = mc from hrc]; exact hp.1
  have h5 : A.slots + (headSpec ws rm).room.slots ≤ R.slots := by rw [show (headSpec ws rm).room.slots = ms from hrs]; exact hp.2.1
  have hPc : Pc a (A.U.calling g mk a) := hblind _ _ _ _ hp.2.2
  obtain ⟨U, Ls, c0, s0⟩ := A
  dsimp only [Pt.U, Pt.locs, Pt.cells, Pt.slots] at h1 h2 h3 h4 h5 X hn hPc ⊢
  obtain ⟨methY, cY, hmY, hcY, -, hlY, -, -, -, -⟩ := Cond.code_spec hn h2
  obtain ⟨kY, hkY, -⟩ := className_of_methodNamed hn
  have hinitY : kY.init = .initialized := Cond.initialized_spec (findClass_of_methodNamed hn) hkY h3
  have h : At U g.method c below := by rw [hg]; exact X.here
  have hlocals9 : W9 + (maxL + 11) + (headSpec ws rm).room.locals ≤ R.locals := hlocals
  have happ : (headSpec ws rm).appliesLoose y e.platform (U.calling g mk a) = true :=
    Spec.appliesLoose_calling (g := g) h hdg hn hkY hinitY
      (X.room_calling (g := g) (R' := (headSpec ws rm).room) hsize hmY hcY hframes (by rw [hlY]; omega) h4 h5) h1
  obtain ⟨mid, hmid⟩ := h.above
  have hfr : (U.setTop g).frames = (.java g :: mid) ++ below := by rw [State.frames_setTop' g h.top, hmid]; rfl
  obtain ⟨o, s₂, hsteps, -, hend, hq⟩ := Steps.callFree hM p X.admits X.cas X.clock (acts := []) hfr happ hPc trivial
  have hq' : vx_Q Qc XC mc ms free a (U.calling g mk a) o s₂ := hq
  rw [State.frames_setTop' g h.top] at hend
  obtain ⟨g₀, hg0⟩ := Option.isSome_iff_exists.mp h.top
  obtain ⟨r, hr⟩ := State.topJava?_eq_some.mp hg0
  have hr' : (({ U with heap := s₂.heap, slotsUsed := s₂.slotsUsed } : State).setVm s₂.vm).frames = .java g₀ :: r := hr
  rcases hq' with ⟨hqc, L, hfe, hL⟩ | ⟨q, rfl, E, ce, L, hx, hce, hcv, hcl, hW₂, hsm, hL⟩
  · obtain ⟨⟨v, rfl⟩, hW₂, e2, q2, q3, q4, q5, q6⟩ := id hfe
    have e3 : s₂ = ({ (U.calling g mk a).setFrames s₂.frames with heap := s₂.heap, slotsUsed := s₂.slotsUsed } : State).setVm s₂.vm := by
      have : s₂ = ({ s₂ with vm := (U.calling g mk a).vm } : State).setVm s₂.vm := rfl
      rw [e2] at this
      exact this
    obtain ⟨c₂, i₂, len₂, hc₂, hd₂, hf₂⟩ := hend
    have hW' : U.WarmedH s₂.vm := hW₂
    have hcc : c₂ = c := by
      have h1 : s₂.code? g.method = U.code? g.method := by
        rw [State.code?_eq, State.code?_eq, hW'.alike.method?]
      exact Option.some.inj (hc₂.symm.trans (h1.trans h.code))
    subst hcc
    have hlen : len₂ = len := by rw [hdg] at hd₂; cases hd₂; rfl
    subst hlen
    have hs₂ : s₂ = (({ U with heap := s₂.heap, slotsUsed := s₂.slotsUsed } : State).setVm s₂.vm).setTop { g with pc := g.pc + len₂, stack := v.toList ++ g.stack } := by
      refine e3.trans ?_
      rw [hf₂, State.calling_eq h.top, State.setFrames_setFrames, State.setTop_of_frames _ hr', hr]
      rfl
    have hsame : U.sameButNew ({ U with heap := s₂.heap, slotsUsed := s₂.slotsUsed } : State) L mc ms := by
      refine ⟨?_, q2, q3, q4, q5, q6⟩
      obtain ⟨t, ht, -⟩ := State.frames_cons hr
      show ({ U with heap := s₂.heap, slotsUsed := s₂.slotsUsed } : State) = { U.setFrames U.frames with heap := s₂.heap, slotsUsed := s₂.slotsUsed }
      rw [State.setFrames_self ht]
    subst hg
    refine Or.inl ⟨v, ⟨(({ U with heap := s₂.heap, slotsUsed := s₂.slotsUsed } : State).setVm s₂.vm), Ls ++ L, c0 + mc, s0 + ms⟩,
      ⟨X.admits, X.cas, X.clock, X.frames, X.room, X.hears, X.method, X.code, (X.here.setHeapUsed s₂.heap s₂.slotsUsed).setVm hW'.alike, X.tail, State.WarmedH.trans X.warmed hW', X.limits, X.bytes, X.same.trans (hsame.setVm s.vm)⟩,
      ⟨g, mk, s₂, L, rfl, rfl, hqc, rfl, hL, rfl, rfl⟩, ?_⟩
    show Steps p.tables e below _ ((({ U with heap := s₂.heap, slotsUsed := s₂.slotsUsed } : State).setVm s₂.vm).setTop { g with pc := g.pc + len₂, stack := v.toList ++ g.stack })
    rw [← hs₂]
    exact hsteps
  · obtain ⟨e2, q2, q3, q4, q5, q6⟩ := id hsm
    have e3 : s₂ = ({ (U.calling g mk a).setFrames s₂.frames with heap := s₂.heap, slotsUsed := s₂.slotsUsed } : State).setVm s₂.vm := by
      have : s₂ = ({ s₂ with vm := (U.calling g mk a).vm } : State).setVm s₂.vm := rfl
      rw [e2] at this
      exact this
    have hf₂ : s₂.frames = .throwing q :: .java g :: U.frames.tail := hend
    have hW' : U.WarmedH s₂.vm := hW₂
    have hs₂ : s₂ = ((({ U with heap := s₂.heap, slotsUsed := s₂.slotsUsed } : State).setVm s₂.vm).setTop g).pushFrame (.throwing q) := by
      refine e3.trans ?_
      rw [hf₂, State.calling_eq h.top, State.setFrames_setFrames, State.pushFrame, State.frames_setTop _ hr', State.setTop_of_frames _ hr', State.setFrames_setFrames, hr]
      rfl
    have hsame : U.sameButNew ({ U with heap := s₂.heap, slotsUsed := s₂.slotsUsed } : State) L mc ms := by
      refine ⟨?_, q2, q3, q4, q5, q6⟩
      obtain ⟨t, ht, -⟩ := State.frames_cons hr
      show ({ U with heap := s₂.heap, slotsUsed := s₂.slotsUsed } : State) = { U.setFrames U.frames with heap := s₂.heap, slotsUsed := s₂.slotsUsed }
      rw [State.setFrames_self ht]
    subst hg
    refine Or.inr ⟨q, ⟨(({ U with heap := s₂.heap, slotsUsed := s₂.slotsUsed } : State).setVm s₂.vm), Ls ++ L, c0 + mc, s0 + ms⟩,
      ⟨X.admits, X.cas, X.clock, X.frames, X.room, X.hears, X.method, X.code, (X.here.setHeapUsed s₂.heap s₂.slotsUsed).setVm hW'.alike, X.tail, State.WarmedH.trans X.warmed hW', X.limits, X.bytes, X.same.trans (hsame.setVm s.vm)⟩,
      ⟨g, mk, s₂, L, E, ce, rfl, rfl, hx, hce, hcv, hcl, rfl, hL, rfl, rfl⟩, ?_⟩
    show Steps p.tables e below _ (((({ U with heap := s₂.heap, slotsUsed := s₂.slotsUsed } : State).setVm s₂.vm).setTop g).pushFrame (.throwing q))
    rw [← hs₂]
    exact hsteps
end Payer
section Calls
variable {p : Program} {l : Launch} {e : Env} {R : Room} {s : State} {m : MethodId} {args : Array Value} {below : List Frame} {meth : Method} {c : Code} {T : State} {locs : List Loc} {cells slots : Nat}
theorem vx_callV (X : Stand p l e R s m args below meth c T locs cells slots) (hexec : p.tables.exec = Jvm.exec) {own C : String} {index : Nat} {y : MethodName} {bytes : ByteArray} {maxL : Nat} {ret : Option FieldType}
    (hown : s.vm.findClass own = some m.cls) (hlink : (Cond.methodLink own index y).before args s = true) (hinst : (Cond.instanceMethod y).before args s = true) (hsel : (Cond.selects C y y).before args s = true)
    (hcode : (Cond.code y bytes maxL ret).before args s = true) (hy : y.cls ≠ "java/lang/invoke/MethodHandle" ∧ y.cls ≠ "java/lang/invoke/VarHandle")
    {W9 : Nat} {Pre : Pt → Array Value → Prop} {Post : Pt → Array Value → Option Value → Pt → Prop} {PostX : Pt → Array Value → Addr → Pt → Prop} (hK : vx_Back l R p e below s args y 3 W9 Pre Post PostX)
    {b : Addr} {cellB : Cell} (hcell : T.heap[b]? = some cellB) (hobj : cellB.vm.isStatics = false) (hcls : s.vm.findClass C = some cellB.cls)
    {g : JFrame} (hg : g.method = m) (hsize : g.locals.size = c.maxLocals) {argsL rest : List Value} (hlen : ∀ sig, parseMethodDescriptor y.desc = some sig → argsL.length = sig.parameters.length)
    (hstack : g.stack = argsL.reverse ++ .ref b :: rest) (hW : 2 * g.monitorRoom + (rest.map fun v => v.category).sum ≤ W9) (hdg : decode c.code g.pc = .ok (.invokevirtual index, 3))
    (hpre : ∀ vm₁, s.WarmedH vm₁ → Pre ⟨T.setVm vm₁, locs, cells, slots⟩ (Value.ref b :: argsL).toArray) :
    (∃ (v : Option Value) (vm₁ : Vm) (B : Pt), s.WarmedH vm₁ ∧ Stand p l e R s m args below meth c B.U B.locs B.cells B.slots ∧ Post ⟨T.setVm vm₁, locs, cells, slots⟩ (Value.ref b :: argsL).toArray v B ∧
      ∀ target, Steps p.tables e below (B.U.setTop { g with pc := g.pc + 3, stack := v.toList ++ rest }) target → Steps p.tables e below (T.setTop g) target) ∨
    (∃ (q : Addr) (vm₁ : Vm) (B : Pt), s.WarmedH vm₁ ∧ Stand p l e R s m args below meth c B.U B.locs B.cells B.slots ∧ PostX ⟨T.setVm vm₁, locs, cells, slots⟩ (Value.ref b :: argsL).toArray q B ∧
      Steps p.tables e below (T.setTop g) ((B.U.setTop { g with stack := rest }).pushFrame (.throwing q))) := by
  obtain ⟨mk, methM, hnamed, hmethM, hstM, habM⟩ := Cond.instanceMethod_spec hinst
  obtain ⟨methM', cM, hmethM', -, -, -, -, -, -, hsigM⟩ := Cond.code_spec hnamed hcode
  cases hmethM.symm.trans hmethM'
  obtain ⟨c2, r2, m2, q1, q2, q3, q4, kP, hkP, hkPi⟩ := Cond.selects_spec hsel
  cases hcls.symm.trans q1
  cases (State.methodFound?_of_named hnamed hy).symm.trans q2
  cases hnamed.symm.trans q3
  have hselP : selectMethod e.platform s.vm cellB.cls mk = .method mk := by rw [Launch.admits_selectMethod X.admits]; exact q4
  obtain ⟨vm₁, X₁, hstep₁⟩ := X.invokevirtual hexec hown hlink hnamed hmethM hstM hkP hkPi hy (a := b) (cell := cellB) hcell
    (fun z h => by rw [h] at hobj; cases hobj) hselP hmethM habM hkP hkPi (g := g) hg (argsL := argsL) (rest := rest) (hlen _ hsigM) hstack hdg
  rcases hK m meth c ⟨T.setVm vm₁, locs, cells, slots⟩ { g with stack := rest } (.invokevirtual index) mk (Value.ref b :: argsL).toArray X₁ hg hsize hdg hW (X₁.named hnamed) (hpre vm₁ X₁.warmed) with ⟨v, B, X', hpost, hsteps⟩ | ⟨q, B, X', hpost, hsteps⟩
  · exact Or.inl ⟨v, vm₁, B, X₁.warmed, X', hpost, fun target h => hstep₁ _ fun acts => by rw [doInvoke_state]; exact hsteps.trans h⟩
  · exact Or.inr ⟨q, vm₁, B, X₁.warmed, X', hpost, hstep₁ _ fun acts => by rw [doInvoke_state]; exact hsteps⟩
theorem vx_callS (X : Stand p l e R s m args below meth c T locs cells slots) (hexec : p.tables.exec = Jvm.exec) {own : String} {index : Nat} {y : MethodName} {bytes : ByteArray} {maxL : Nat} {ret : Option FieldType}
    (hown : s.vm.findClass own = some m.cls) (hlink : (Cond.methodLink own index y).before args s = true) (hstat : (Cond.static y).before args s = true) (hinit : (Cond.initialized y.cls).before args s = true)
    (hcode : (Cond.code y bytes maxL ret).before args s = true) (hy : y.cls ≠ "java/lang/invoke/MethodHandle" ∧ y.cls ≠ "java/lang/invoke/VarHandle")
    {W9 : Nat} {Pre : Pt → Array Value → Prop} {Post : Pt → Array Value → Option Value → Pt → Prop} {PostX : Pt → Array Value → Addr → Pt → Prop} (hK : vx_Back l R p e below s args y 3 W9 Pre Post PostX)
    {g : JFrame} (hg : g.method = m) (hsize : g.locals.size = c.maxLocals) {argsL rest : List Value} (hlen : ∀ sig, parseMethodDescriptor y.desc = some sig → argsL.length = sig.parameters.length)
    (hstack : g.stack = argsL.reverse ++ rest) (hW : 2 * g.monitorRoom + (rest.map fun v => v.category).sum ≤ W9) (hdg : decode c.code g.pc = .ok (.invokestatic index, 3))
    (hpre : ∀ vm₁, s.WarmedH vm₁ → Pre ⟨T.setVm vm₁, locs, cells, slots⟩ argsL.toArray) :
    (∃ (v : Option Value) (vm₁ : Vm) (B : Pt), s.WarmedH vm₁ ∧ Stand p l e R s m args below meth c B.U B.locs B.cells B.slots ∧ Post ⟨T.setVm vm₁, locs, cells, slots⟩ argsL.toArray v B ∧
      ∀ target, Steps p.tables e below (B.U.setTop { g with pc := g.pc + 3, stack := v.toList ++ rest }) target → Steps p.tables e below (T.setTop g) target) ∨
    (∃ (q : Addr) (vm₁ : Vm) (B : Pt), s.WarmedH vm₁ ∧ Stand p l e R s m args below meth c B.U B.locs B.cells B.slots ∧ PostX ⟨T.setVm vm₁, locs, cells, slots⟩ argsL.toArray q B ∧
      Steps p.tables e below (T.setTop g) ((B.U.setTop { g with stack := rest }).pushFrame (.throwing q))) := by
  obtain ⟨mk, hnamed⟩ := Cond.code_named hcode
  obtain ⟨methM, cM, hmethM, -, -, -, -, -, -, hsigM⟩ := Cond.code_spec hnamed hcode
  have hstatic : methM.isStatic = true := Cond.static_spec hnamed hmethM hstat
  obtain ⟨kP, hkP, -⟩ := className_of_methodNamed hnamed
  have hinitP : kP.init = .initialized := Cond.initialized_spec (findClass_of_methodNamed hnamed) hkP hinit
  obtain ⟨vm₁, X₁, hstep₁⟩ := X.invokestatic hexec hown hlink hnamed hmethM hstatic hkP hinitP hy (g := g) hg (argsL := argsL) (rest := rest) (hlen _ hsigM) hstack hdg
  rcases hK m meth c ⟨T.setVm vm₁, locs, cells, slots⟩ { g with stack := rest } (.invokestatic index) mk argsL.toArray X₁ hg hsize hdg hW (X₁.named hnamed) (hpre vm₁ X₁.warmed) with ⟨v, B, X', hpost, hsteps⟩ | ⟨q, B, X', hpost, hsteps⟩
  · exact Or.inl ⟨v, vm₁, B, X₁.warmed, X', hpost, fun target h => hstep₁ _ fun acts => by rw [doInvoke_state]; exact hsteps.trans h⟩
  · exact Or.inr ⟨q, vm₁, B, X₁.warmed, X', hpost, hstep₁ _ fun acts => by rw [doInvoke_state]; exact hsteps⟩
end Calls
theorem vx_cls {s : State} {T : State} {vm₁ : Vm} {E : String} {k : ClassId} (hW : s.WarmedH vm₁) (h : (T.setVm vm₁).vm.findClass E = some k) : s.vm.findClass E = some k := by
  have h1 : vm₁.findClass E = some k := h
  rw [hW.alike.findClass] at h1
  exact h1
/-- the method's frame g, with q thrown over it -/
def vx_W (p : Program) (l : Launch) (e : Env) (R : Room) (s : State) (m : MethodId) (args : Array Value) (below : List Frame) (meth : Method) (c : Code) (H : Heap) (locs : List Loc) (cells slots : Nat) (Q : State → Prop) (g : JFrame) (q : Addr) : Prop :=
  ∀ T : State, T.heap = H → Stand p l e R s m args below meth c T locs cells slots → ∃ t, Steps p.tables e below ((T.setTop g).pushFrame (.throwing q)) t ∧ Q t
def vx_Run (p : Program) (l : Launch) (e : Env) (R : Room) (s : State) (m : MethodId) (args : Array Value) (below : List Frame) (meth : Method) (c : Code) (H : Heap) (locs : List Loc) (cells slots mc ms : Nat) (g : JFrame) (rest : List Value) (Qa : State → Outcome → State → Prop) (XC : String → State → State → Prop) (free : Addr → Prop) : Prop :=
  ∀ T : State, T.heap = H → Stand p l e R s m args below meth c T locs cells slots →
    (∃ (v : Option Value) (st₀ t T' : State) (L : List Loc), st₀.heap = H ∧ Stand p l e R s m args below meth c T' (locs ++ L) (cells + mc) (slots + ms) ∧ (∀ q ∈ L, free q.base) ∧ T'.heap = t.heap ∧ T'.vm = t.vm ∧ Qa st₀ (.returned v) t ∧
      Goes p e below T g T' { g with pc := g.pc + 3, stack := v.toList ++ rest }) ∨
    (∃ (q : Addr) (st₀ t T' : State) (L : List Loc) (E : String) (ce : Cell), st₀.heap = H ∧ Stand p l e R s m args below meth c T' (locs ++ L) (cells + mc) (slots + ms) ∧ (∀ z ∈ L, free z.base) ∧ T'.heap = t.heap ∧ T'.vm = t.vm ∧ XC E st₀ t ∧ t.heap[q]? = some ce ∧ ce.vm = .none ∧ s.vm.findClass E = some ce.cls ∧
      Steps p.tables e below (T.setTop g) ((T'.setTop { g with stack := rest }).pushFrame (.throwing q)))
def vx_X {S : Type} (px : S → Prop) (B : String → S → State → Prop) (A : Nat → Prop) : String → State → State → Prop := fun E st t => ∃ u : S, px u ∧ B E u t ∧ va_F A st t
section Runs
variable {p : Program} {l : Launch} {e : Env} {R : Room} {s : State} {m : MethodId} {args : Array Value} {below : List Frame} {meth : Method} {c : Code} {H : Heap} {locs : List Loc} {cells slots : Nat}
variable {y : MethodName} {bytes cc : ByteArray} {maxL nL mc ms n index : Nat} {ret : Option FieldType} {ws : List Cond} {rm : Room} {Pc : Array Value → State → Prop} {Qc : Array Value → State → Outcome → State → Prop} {XC : String → State → State → Prop} {free : Addr → Prop} {Ts : List Cond} {own C : String} {b : Addr} {As rest : List Value} {g : JFrame}
theorem vx_callBack (cb : CallB R s args own index y bytes maxL ret ws rm mc ms n) (hM : vx_Met l y ws rm Pc Qc XC mc ms free) (hbl : FrameBlind Pc) : vx_Back l R p e below s args y 3 8 (PreOf R mc ms Pc) (PostOf Qc mc ms free) (vx_Post XC mc ms free) := by
  obtain ⟨hrc, hrs, hfr, hlo, hws, hcw, -, hini, -⟩ := cb
  exact vx_back (bytes := bytes) (maxL := maxL) (ret := ret) hM hbl hrc hrs hfr hlo hws hcw (fun a' U hW => word_at hW (Or.inl (by first | rfl | simp [Cond.onTables, Cond.keeps, Cond.steady])) hini)
theorem vx_runV (S : CallFix p m c cc nL s args Ts own) (hM : vx_Met l y ws rm Pc Qc XC mc ms free) (cw : CallW R s args own C index y bytes maxL ret ws rm mc ms n) (hp : PreV s H C b Pc As)
    (hg : g.method = m) (hn : As.length = n) (hsize : g.locals.size = nL) (hstack : g.stack = As.reverse ++ .ref b :: rest) (hW : 2 * g.monitorRoom + (rest.map fun v => v.category).sum ≤ 8) (hdg : decode cc g.pc = .ok (.invokevirtual index, 3)) (hf : cells + mc ≤ R.cells ∧ slots + ms ≤ R.slots) :
    vx_Run p l e R s m args below meth c H locs cells slots mc ms g rest (Qc (Value.ref b :: As).toArray) XC free := by
  have hK : vx_Back l R p e below s args y 3 8 (PreOf R mc ms Pc) (PostOf Qc mc ms free) (vx_Post XC mc ms free) := vx_callBack cw.1 hM hp.1
  obtain ⟨⟨-, -, -, -, -, -, hcode, -, hy, hlen, hl⟩, hin, hse⟩ := cw
  obtain ⟨hx, hb, hml, ho, -⟩ := S
  obtain ⟨-, ⟨cellB, hcB, hoB, hclB⟩, hPc⟩ := hp
  intro T hT X
  rcases vx_callV X hx (C := C) (bytes := bytes) (maxL := maxL) (ret := ret) ho hl hin hse hcode hy hK (by rw [hT]; exact hcB) hoB hclB hg (hsize.trans hml.symm) (argsL := As) (rest := rest) (fun sig h => hn.trans (hlen sig h)) hstack hW (by rw [hb]; exact hdg)
    (fun vm₁ hW₁ => ⟨hf.1, hf.2, hPc (T.setVm vm₁) hT hW₁⟩) with ⟨v, vm₁, ⟨U', l2, c2, s2⟩, hW₁, X', ⟨g', mk, t, L, e1, e2, hq, h1, hL, h2, h3⟩, st⟩ | ⟨q, vm₁, ⟨U', l2, c2, s2⟩, hW₁, X', ⟨g', mk, t, L, E, ce, e1, e2, hq, hce, hcv, hcl, h1, hL, h2, h3⟩, st⟩
  · dsimp only [Pt.U, Pt.locs, Pt.cells, Pt.slots] at X' e1 e2 h1 h2 h3 st
    subst h1; subst h2; subst h3
    exact Or.inl ⟨v, (T.setVm vm₁).calling g' mk (Value.ref b :: As).toArray, t, U', L, hT, X', hL, e1, e2, hq, st⟩
  · dsimp only [Pt.U, Pt.locs, Pt.cells, Pt.slots] at X' e1 e2 h1 h2 h3 st hcl
    subst h1; subst h2; subst h3
    exact Or.inr ⟨q, (T.setVm vm₁).calling g' mk (Value.ref b :: As).toArray, t, U', L, E, ce, hT, X', hL, e1, e2, hq, hce, hcv, vx_cls hW₁ hcl, st⟩
theorem vx_runS (S : CallFix p m c cc nL s args Ts own) (hM : vx_Met l y ws rm Pc Qc XC mc ms free) (cw : CallB R s args own index y bytes maxL ret ws rm mc ms n ∧ (Cond.static y).before args s = true) (hp : PreS s H Pc As)
    (hg : g.method = m) (hn : As.length = n) (hsize : g.locals.size = nL) (hstack : g.stack = As.reverse ++ rest) (hW : 2 * g.monitorRoom + (rest.map fun v => v.category).sum ≤ 8) (hdg : decode cc g.pc = .ok (.invokestatic index, 3)) (hf : cells + mc ≤ R.cells ∧ slots + ms ≤ R.slots) :
    vx_Run p l e R s m args below meth c H locs cells slots mc ms g rest (Qc As.toArray) XC free := by
  have hK : vx_Back l R p e below s args y 3 8 (PreOf R mc ms Pc) (PostOf Qc mc ms free) (vx_Post XC mc ms free) := vx_callBack cw.1 hM hp.1
  obtain ⟨⟨-, -, -, -, -, -, hcode, hini, hy, hlen, hl⟩, hstt⟩ := cw
  obtain ⟨hx, hb, hml, ho, -⟩ := S
  intro T hT X
  rcases vx_callS X hx (bytes := bytes) (maxL := maxL) (ret := ret) ho hl hstt hini hcode hy hK hg (hsize.trans hml.symm) (argsL := As) (rest := rest) (fun sig h => hn.trans (hlen sig h)) hstack hW (by rw [hb]; exact hdg)
    (fun vm₁ hW₁ => ⟨hf.1, hf.2, hp.2 (T.setVm vm₁) hT hW₁⟩) with ⟨v, vm₁, ⟨U', l2, c2, s2⟩, hW₁, X', ⟨g', mk, t, L, e1, e2, hq, h1, hL, h2, h3⟩, st⟩ | ⟨q, vm₁, ⟨U', l2, c2, s2⟩, hW₁, X', ⟨g', mk, t, L, E, ce, e1, e2, hq, hce, hcv, hcl, h1, hL, h2, h3⟩, st⟩
  · dsimp only [Pt.U, Pt.locs, Pt.cells, Pt.slots] at X' e1 e2 h1 h2 h3 st
    subst h1; subst h2; subst h3
    exact Or.inl ⟨v, (T.setVm vm₁).calling g' mk As.toArray, t, U', L, hT, X', hL, e1, e2, hq, st⟩
  · dsimp only [Pt.U, Pt.locs, Pt.cells, Pt.slots] at X' e1 e2 h1 h2 h3 st hcl
    subst h1; subst h2; subst h3
    exact Or.inr ⟨q, (T.setVm vm₁).calling g' mk As.toArray, t, U', L, E, ce, hT, X', hL, e1, e2, hq, hce, hcv, vx_cls hW₁ hcl, st⟩
end Runs
section Rows
variable {p : Program} {l : Launch} {e : Env} {R : Room} {s : State} {m : MethodId} {args : Array Value} {below : List Frame} {meth : Method} {c : Code} {H : Heap} {locs : List Loc} {cells slots : Nat} {Q : State → Prop}
variable {mc ms : Nat} {free : Addr → Prop} {A0 A1 : Nat → Prop} {H0 : Heap} {a : Array Value} {pc : Nat} {ls : Array Slot} {st0 rest : List Value}
theorem vx_keep {st₀ t T' : State} {L : List Loc} (h0 : st₀.heap = H) (e1 : T'.heap = t.heap) (hS : va_S A0 H0 H locs) (hA : ∀ q, q < H.size → A1 q → A0 q) (hf : ∀ q, free q → A0 q) (hL : ∀ q ∈ L, free q.base) (hF : va_F A1 st₀ t) :
    H.size ≤ T'.heap.size ∧ (∀ q : Nat, q < H.size → ¬ A1 q → T'.heap[q]? = H[q]?) ∧ va_S A0 H0 T'.heap (locs ++ L) := by
  obtain ⟨hz, hk⟩ := hF
  rw [h0] at hz hk
  exact ⟨by rw [e1]; exact hz, fun q h1 h2 => by rw [e1]; exact hk q h1 h2,
    ⟨Nat.le_trans hS.1 (by rw [e1]; exact hz), fun q h1 h2 => by rw [e1, hk q (Nat.lt_of_lt_of_le h1 hS.1) (fun z => h2 (hA q (Nat.lt_of_lt_of_le h1 hS.1) z))]; exact hS.2.1 q h1 h2, fun q hq => by
      rcases List.mem_append.mp hq with h | h
      · exact hS.2.2 q h
      · exact hf _ (hL q h)⟩⟩
theorem vx_calli {S SX : Type} {post : Int32 → S → Prop} {px : SX → Prop} {B : S → State → Prop} {BX : String → SX → State → Prop} {AX : Nat → Prop} (hr : vx_Run p l e R s m args below meth c H locs cells slots mc ms (F0 m pc ls st0) rest (va_Qi post B A1 a) (vx_X px BX AX) free) (hS : va_S A0 H0 H locs) (hA : ∀ q, q < H.size → A1 q → A0 q) (hf : ∀ q, free q → A0 q) (hAX : ∀ q, q < H.size → AX q → A0 q)
    (kx : ∀ (E : String) (ce : Cell) (q9 : Addr) (u : SX) (t : State) (H1 : Heap) (locs1 : List Loc), t.heap = H1 → s.vm.Alike t.vm → px u → BX E u t → H.size ≤ H1.size → (∀ q : Nat, q < H.size → ¬ AX q → H1[q]? = H[q]?) → va_S A0 H0 H1 locs1 → H1[q9]? = some ce → ce.vm = .none → s.vm.findClass E = some ce.cls → vx_W p l e R s m args below meth c H1 locs1 (cells + mc) (slots + ms) Q (F0 m pc ls rest) q9)
    (kk : ∀ (r : Int32) (u : S) (t : State) (H1 : Heap) (locs1 : List Loc), t.heap = H1 → s.vm.Alike t.vm → post r u → B u t → H.size ≤ H1.size → (∀ q : Nat, q < H.size → ¬ A1 q → H1[q]? = H[q]?) → va_S A0 H0 H1 locs1 → W p l e R s m args below meth c H1 locs1 (cells + mc) (slots + ms) Q (F0 m (pc + 3) ls (.int r :: rest))) : W p l e R s m args below meth c H locs cells slots Q (F0 m pc ls st0) := by
  intro T hT X
  rcases hr T hT X with ⟨v, st₀, t, T', L, h0, X', hL, e1, e2, ⟨⟨r, u, hv, hp, hb⟩, hF⟩, st⟩ | ⟨q, st₀, t, T', L, E, ce, h0, X', hL, e1, e2, ⟨u, hp, hb, hF⟩, hce, hcv, hcl, st⟩
  · cases hv
    obtain ⟨k1, k2, k3⟩ := vx_keep h0 e1 hS hA hf hL hF
    obtain ⟨t2, a1, b1⟩ := kk r u t T'.heap (locs ++ L) e1.symm (by rw [← e2]; exact X'.warmed.alike) hp hb k1 k2 k3 T' rfl X'
    exact ⟨t2, st t2 a1, b1⟩
  · obtain ⟨k1, k2, k3⟩ := vx_keep h0 e1 hS hAX hf hL hF
    obtain ⟨t2, a1, b1⟩ := kx E ce q u t T'.heap (locs ++ L) e1.symm (by rw [← e2]; exact X'.warmed.alike) hp hb k1 k2 k3 (by rw [e1]; exact hce) hcv hcl T' rfl X'
    exact ⟨t2, st.trans a1, b1⟩
theorem vx_calll {S SX : Type} {post : Int64 → S → Prop} {px : SX → Prop} {B : S → State → Prop} {BX : String → SX → State → Prop} {AX : Nat → Prop} (hr : vx_Run p l e R s m args below meth c H locs cells slots mc ms (F0 m pc ls st0) rest (va_Ql post B A1 a) (vx_X px BX AX) free) (hS : va_S A0 H0 H locs) (hA : ∀ q, q < H.size → A1 q → A0 q) (hf : ∀ q, free q → A0 q) (hAX : ∀ q, q < H.size → AX q → A0 q)
    (kx : ∀ (E : String) (ce : Cell) (q9 : Addr) (u : SX) (t : State) (H1 : Heap) (locs1 : List Loc), t.heap = H1 → s.vm.Alike t.vm → px u → BX E u t → H.size ≤ H1.size → (∀ q : Nat, q < H.size → ¬ AX q → H1[q]? = H[q]?) → va_S A0 H0 H1 locs1 → H1[q9]? = some ce → ce.vm = .none → s.vm.findClass E = some ce.cls → vx_W p l e R s m args below meth c H1 locs1 (cells + mc) (slots + ms) Q (F0 m pc ls rest) q9)
    (kk : ∀ (r : Int64) (u : S) (t : State) (H1 : Heap) (locs1 : List Loc), t.heap = H1 → s.vm.Alike t.vm → post r u → B u t → H.size ≤ H1.size → (∀ q : Nat, q < H.size → ¬ A1 q → H1[q]? = H[q]?) → va_S A0 H0 H1 locs1 → W p l e R s m args below meth c H1 locs1 (cells + mc) (slots + ms) Q (F0 m (pc + 3) ls (.long r :: rest))) : W p l e R s m args below meth c H locs cells slots Q (F0 m pc ls st0) := by
  intro T hT X
  rcases hr T hT X with ⟨v, st₀, t, T', L, h0, X', hL, e1, e2, ⟨⟨r, u, hv, hp, hb⟩, hF⟩, st⟩ | ⟨q, st₀, t, T', L, E, ce, h0, X', hL, e1, e2, ⟨u, hp, hb, hF⟩, hce, hcv, hcl, st⟩
  · cases hv
    obtain ⟨k1, k2, k3⟩ := vx_keep h0 e1 hS hA hf hL hF
    obtain ⟨t2, a1, b1⟩ := kk r u t T'.heap (locs ++ L) e1.symm (by rw [← e2]; exact X'.warmed.alike) hp hb k1 k2 k3 T' rfl X'
    exact ⟨t2, st t2 a1, b1⟩
  · obtain ⟨k1, k2, k3⟩ := vx_keep h0 e1 hS hAX hf hL hF
    obtain ⟨t2, a1, b1⟩ := kx E ce q u t T'.heap (locs ++ L) e1.symm (by rw [← e2]; exact X'.warmed.alike) hp hb k1 k2 k3 (by rw [e1]; exact hce) hcv hcl T' rfl X'
    exact ⟨t2, st.trans a1, b1⟩
theorem vx_callf {S SX : Type} {post : UInt32 → S → Prop} {px : SX → Prop} {B : S → State → Prop} {BX : String → SX → State → Prop} {AX : Nat → Prop} (hr : vx_Run p l e R s m args below meth c H locs cells slots mc ms (F0 m pc ls st0) rest (va_Qf post B A1 a) (vx_X px BX AX) free) (hS : va_S A0 H0 H locs) (hA : ∀ q, q < H.size → A1 q → A0 q) (hf : ∀ q, free q → A0 q) (hAX : ∀ q, q < H.size → AX q → A0 q)
    (kx : ∀ (E : String) (ce : Cell) (q9 : Addr) (u : SX) (t : State) (H1 : Heap) (locs1 : List Loc), t.heap = H1 → s.vm.Alike t.vm → px u → BX E u t → H.size ≤ H1.size → (∀ q : Nat, q < H.size → ¬ AX q → H1[q]? = H[q]?) → va_S A0 H0 H1 locs1 → H1[q9]? = some ce → ce.vm = .none → s.vm.findClass E = some ce.cls → vx_W p l e R s m args below meth c H1 locs1 (cells + mc) (slots + ms) Q (F0 m pc ls rest) q9)
    (kk : ∀ (r : UInt32) (u : S) (t : State) (H1 : Heap) (locs1 : List Loc), t.heap = H1 → s.vm.Alike t.vm → post r u → B u t → H.size ≤ H1.size → (∀ q : Nat, q < H.size → ¬ A1 q → H1[q]? = H[q]?) → va_S A0 H0 H1 locs1 → W p l e R s m args below meth c H1 locs1 (cells + mc) (slots + ms) Q (F0 m (pc + 3) ls (.float r :: rest))) : W p l e R s m args below meth c H locs cells slots Q (F0 m pc ls st0) := by
  intro T hT X
  rcases hr T hT X with ⟨v, st₀, t, T', L, h0, X', hL, e1, e2, ⟨⟨r, u, hv, hp, hb⟩, hF⟩, st⟩ | ⟨q, st₀, t, T', L, E, ce, h0, X', hL, e1, e2, ⟨u, hp, hb, hF⟩, hce, hcv, hcl, st⟩
  · cases hv
    obtain ⟨k1, k2, k3⟩ := vx_keep h0 e1 hS hA hf hL hF
    obtain ⟨t2, a1, b1⟩ := kk r u t T'.heap (locs ++ L) e1.symm (by rw [← e2]; exact X'.warmed.alike) hp hb k1 k2 k3 T' rfl X'
    exact ⟨t2, st t2 a1, b1⟩
  · obtain ⟨k1, k2, k3⟩ := vx_keep h0 e1 hS hAX hf hL hF
    obtain ⟨t2, a1, b1⟩ := kx E ce q u t T'.heap (locs ++ L) e1.symm (by rw [← e2]; exact X'.warmed.alike) hp hb k1 k2 k3 (by rw [e1]; exact hce) hcv hcl T' rfl X'
    exact ⟨t2, st.trans a1, b1⟩
theorem vx_calld {S SX : Type} {post : UInt64 → S → Prop} {px : SX → Prop} {B : S → State → Prop} {BX : String → SX → State → Prop} {AX : Nat → Prop} (hr : vx_Run p l e R s m args below meth c H locs cells slots mc ms (F0 m pc ls st0) rest (va_Qd post B A1 a) (vx_X px BX AX) free) (hS : va_S A0 H0 H locs) (hA : ∀ q, q < H.size → A1 q → A0 q) (hf : ∀ q, free q → A0 q) (hAX : ∀ q, q < H.size → AX q → A0 q)
    (kx : ∀ (E : String) (ce : Cell) (q9 : Addr) (u : SX) (t : State) (H1 : Heap) (locs1 : List Loc), t.heap = H1 → s.vm.Alike t.vm → px u → BX E u t → H.size ≤ H1.size → (∀ q : Nat, q < H.size → ¬ AX q → H1[q]? = H[q]?) → va_S A0 H0 H1 locs1 → H1[q9]? = some ce → ce.vm = .none → s.vm.findClass E = some ce.cls → vx_W p l e R s m args below meth c H1 locs1 (cells + mc) (slots + ms) Q (F0 m pc ls rest) q9)
    (kk : ∀ (r : UInt64) (u : S) (t : State) (H1 : Heap) (locs1 : List Loc), t.heap = H1 → s.vm.Alike t.vm → post r u → B u t → H.size ≤ H1.size → (∀ q : Nat, q < H.size → ¬ A1 q → H1[q]? = H[q]?) → va_S A0 H0 H1 locs1 → W p l e R s m args below meth c H1 locs1 (cells + mc) (slots + ms) Q (F0 m (pc + 3) ls (.double r :: rest))) : W p l e R s m args below meth c H locs cells slots Q (F0 m pc ls st0) := by
  intro T hT X
  rcases hr T hT X with ⟨v, st₀, t, T', L, h0, X', hL, e1, e2, ⟨⟨r, u, hv, hp, hb⟩, hF⟩, st⟩ | ⟨q, st₀, t, T', L, E, ce, h0, X', hL, e1, e2, ⟨u, hp, hb, hF⟩, hce, hcv, hcl, st⟩
  · cases hv
    obtain ⟨k1, k2, k3⟩ := vx_keep h0 e1 hS hA hf hL hF
    obtain ⟨t2, a1, b1⟩ := kk r u t T'.heap (locs ++ L) e1.symm (by rw [← e2]; exact X'.warmed.alike) hp hb k1 k2 k3 T' rfl X'
    exact ⟨t2, st t2 a1, b1⟩
  · obtain ⟨k1, k2, k3⟩ := vx_keep h0 e1 hS hAX hf hL hF
    obtain ⟨t2, a1, b1⟩ := kx E ce q u t T'.heap (locs ++ L) e1.symm (by rw [← e2]; exact X'.warmed.alike) hp hb k1 k2 k3 (by rw [e1]; exact hce) hcv hcl T' rfl X'
    exact ⟨t2, st.trans a1, b1⟩
theorem vx_callv {S SX : Type} {post : S → Prop} {px : SX → Prop} {B : S → State → Prop} {BX : String → SX → State → Prop} {AX : Nat → Prop} (hr : vx_Run p l e R s m args below meth c H locs cells slots mc ms (F0 m pc ls st0) rest (va_Qv post B A1 a) (vx_X px BX AX) free) (hS : va_S A0 H0 H locs) (hA : ∀ q, q < H.size → A1 q → A0 q) (hf : ∀ q, free q → A0 q) (hAX : ∀ q, q < H.size → AX q → A0 q)
    (kx : ∀ (E : String) (ce : Cell) (q9 : Addr) (u : SX) (t : State) (H1 : Heap) (locs1 : List Loc), t.heap = H1 → s.vm.Alike t.vm → px u → BX E u t → H.size ≤ H1.size → (∀ q : Nat, q < H.size → ¬ AX q → H1[q]? = H[q]?) → va_S A0 H0 H1 locs1 → H1[q9]? = some ce → ce.vm = .none → s.vm.findClass E = some ce.cls → vx_W p l e R s m args below meth c H1 locs1 (cells + mc) (slots + ms) Q (F0 m pc ls rest) q9)
    (kk : ∀ (u : S) (t : State) (H1 : Heap) (locs1 : List Loc), t.heap = H1 → s.vm.Alike t.vm → post u → B u t → H.size ≤ H1.size → (∀ q : Nat, q < H.size → ¬ A1 q → H1[q]? = H[q]?) → va_S A0 H0 H1 locs1 → W p l e R s m args below meth c H1 locs1 (cells + mc) (slots + ms) Q (F0 m (pc + 3) ls (rest))) : W p l e R s m args below meth c H locs cells slots Q (F0 m pc ls st0) := by
  intro T hT X
  rcases hr T hT X with ⟨v, st₀, t, T', L, h0, X', hL, e1, e2, ⟨⟨u, hv, hp, hb⟩, hF⟩, st⟩ | ⟨q, st₀, t, T', L, E, ce, h0, X', hL, e1, e2, ⟨u, hp, hb, hF⟩, hce, hcv, hcl, st⟩
  · cases hv
    obtain ⟨k1, k2, k3⟩ := vx_keep h0 e1 hS hA hf hL hF
    obtain ⟨t2, a1, b1⟩ := kk u t T'.heap (locs ++ L) e1.symm (by rw [← e2]; exact X'.warmed.alike) hp hb k1 k2 k3 T' rfl X'
    exact ⟨t2, st t2 a1, b1⟩
  · obtain ⟨k1, k2, k3⟩ := vx_keep h0 e1 hS hAX hf hL hF
    obtain ⟨t2, a1, b1⟩ := kx E ce q u t T'.heap (locs ++ L) e1.symm (by rw [← e2]; exact X'.warmed.alike) hp hb k1 k2 k3 (by rw [e1]; exact hce) hcv hcl T' rfl X'
    exact ⟨t2, st.trans a1, b1⟩
end Rows
section Ends
variable {p : Program} {l : Launch} {e : Env} {R : Room} {s : State} {m : MethodId} {args : Array Value} {below : List Frame} {meth : Method} {c : Code} {H : Heap} {locs : List Loc} {cells slots : Nat} {Q : State → Prop}
variable {mc ms : Nat} {free : Addr → Prop} {A0 A1 : Nat → Prop} {H0 : Heap} {a : Array Value} {ls : Array Slot} {st0 rest : List Value}
variable {Qc : Array Value → State → Outcome → State → Prop} {XC : String → State → State → Prop}
/-- what a body that may throw owes at its end -/
def vx_MQ (below : List Frame) (Qc : Array Value → State → Outcome → State → Prop) (XC : String → State → State → Prop) (a : Array Value) (s : State) (mc ms : Nat) (free : Addr → Prop) : State → Prop := fun t =>
  ∃ o, t.status = .running ∧ Ended t below o ∧ vx_Q Qc XC mc ms free a s o t
theorem vx_ret {g : JFrame} {mc ms : Nat} (k : W p l e R s m args below meth c H locs cells slots (MQ below Qc args s mc ms free) g) : W p l e R s m args below meth c H locs cells slots (vx_MQ below Qc XC args s mc ms free) g := by
  intro T hT X
  obtain ⟨t, a1, o, b1, b2, b3, b4⟩ := k T hT X
  exact ⟨t, a1, o, b1, b2, Or.inl ⟨b3, b4⟩⟩
/-- not caught here: it goes on to the caller -/
theorem vx_widen {g : JFrame} {q : Addr} {k n : Nat} (h1 : cells ≤ k) (h2 : slots ≤ n) (kk : vx_W p l e R s m args below meth c H locs k n Q g q) : vx_W p l e R s m args below meth c H locs cells slots Q g q := fun T hT X => kk T hT (stand_widen X h1 h2)
theorem vx_out {pc : Nat} {E : String} {ce : Cell} {q : Addr} {mc ms : Nat} (hout : ∀ x ∈ c.exceptionTable.toList, covers x pc = false) (hlocks : meth.locks = false) (hcell : H[q]? = some ce) (hv : ce.vm = .none) (hcl : s.vm.findClass E = some ce.cls)
    (hx : ∀ t : State, t.heap = H → s.vm.Alike t.vm → XC E s t) (hf : ∀ z ∈ locs, free z.base) (hc : cells ≤ mc) (hs : slots ≤ ms) :
    vx_W p l e R s m args below meth c H locs cells slots (vx_MQ below Qc XC args s mc ms free) (F0 m pc ls rest) q := by
  intro T hT X
  obtain ⟨st1, hrun, hend, hW, hsm⟩ := X.leaveThrown q (g := F0 m pc ls rest) rfl rfl rfl hout hlocks
  have hcell9 : (T.setFrames (.throwing q :: below)).heap[q]? = some ce := by
    show T.heap[q]? = some ce
    rw [hT]; exact hcell
  exact ⟨_, st1, .threw q, hrun, hend, Or.inr ⟨q, rfl, E, ce, locs, hx _ hT hW.alike, hcell9, hv, hcl, hW, hsm.mono hc hs, hf⟩⟩
theorem vx_frame {U : State} {k n : Nat} (h : s.sameButNew ({ U with vm := s.vm } : State) locs k n) : s.heap.size ≤ U.heap.size ∧ ∀ q : Nat, q < s.heap.size → (∀ z ∈ locs, z.base ≠ q) → U.heap[q]? = s.heap[q]? := by
  obtain ⟨-, h2, -, -, -, h6⟩ := h
  refine ⟨h2, fun q hq hz => ?_⟩
  obtain ⟨c9, e1, e2, e3, e4⟩ := h6 q _ (Array.getElem?_eq_getElem hq)
  have hs : c9.slots = (s.heap[q]).slots := Array.ext_getElem? fun i => e4 i fun hm => hz _ hm rfl
  have h9 : c9 = s.heap[q] := by
    rw [hs] at e2
    exact e2
  have e5 : U.heap[q]? = some c9 := e1
  rw [e5, h9, Array.getElem?_eq_getElem hq]
/-- the words of a throw but the four that speak of the heap -/
def vx_no (w : Cond) : Bool := decide (w ≠ .isRef (.static Bundle.tN "UNASSIGNED_STACK" Bundle.steD)) && decide (w ≠ .isRef (.static Bundle.tN "SUPPRESSED_SENTINEL" Bundle.listD)) && decide (w ≠ .laysStatic Bundle.tN "UNASSIGNED_STACK" Bundle.steD) && decide (w ≠ .laysStatic Bundle.tN "SUPPRESSED_SENTINEL" Bundle.listD)
def vx_at0 (own : String) (ic : Nat) (X : String) (names : List String) : List Cond := (Bundle.ownAtoms0 own ic X names).filter vx_no
def vx_atS (own : String) (ic : Nat) (X : String) (names : List String) : List Cond := (Bundle.ownAtoms own ic X names).filter vx_no
/-- a word that the tables alone decide, or a good one -/
def vx_ot (w : Cond) : Bool := w.onTables || goodWord w
theorem vx_ot_at {args a' : Array Value} {s U : State} {w : Cond} (hW : s.WarmedH U.vm) (hvm : s.vm = U.vm) (hg : vx_ot w = true) (h : w.before args s = true) : w.before a' U = true := by
  simp only [vx_ot, Bool.or_eq_true] at hg
  rcases hg with hg | hg
  · exact va_tabs hg hvm h
  · exact word_at hW (good_of_word hg) h
/-- a list's words: the good ones out of the method's own list, the others by premises of their own -/
theorem vx_hat {args : Array Value} {s : State} {L B : List Cond} (h1 : ∀ w ∈ L.filter goodWord, w.before args s = true) (h2 : ∀ w ∈ L.filter (fun w => !goodWord w), w ∈ B) (h3 : ∀ w ∈ B, w.before args s = true) : ∀ w ∈ L, w.before args s = true := by
  intro w hw
  by_cases g : goodWord w = true
  · exact h1 w (List.mem_filter.mpr ⟨hw, g⟩)
  · refine h3 w (h2 w (List.mem_filter.mpr ⟨hw, ?_⟩))
    show (!goodWord w) = true
    cases hgw : goodWord w
    · rfl
    · exact absurd hgw g
theorem vx_c {args : Array Value} {s : State} {w : Cond} {B : List Cond} (h : w.before args s = true) (t : ∀ w ∈ B, w.before args s = true) : ∀ w' ∈ w :: B, w'.before args s = true := fun w' h' => (List.mem_cons.mp h').elim (fun e => by rw [e]; exact h) (t w')
theorem vx_n {args : Array Value} {s : State} : ∀ w ∈ ([] : List Cond), w.before args s = true := fun _ h => nomatch h
theorem vx_own {args : Array Value} {s : State} {L : List Cond} (h1 : ∀ w ∈ L.filter vx_no, w.before args s = true)
    (hU : (Cond.isRef (.static Bundle.tN "UNASSIGNED_STACK" Bundle.steD)).before args s = true) (hN : (Cond.isRef (.static Bundle.tN "SUPPRESSED_SENTINEL" Bundle.listD)).before args s = true)
    (lU : (Cond.laysStatic Bundle.tN "UNASSIGNED_STACK" Bundle.steD).before args s = true) (lN : (Cond.laysStatic Bundle.tN "SUPPRESSED_SENTINEL" Bundle.listD).before args s = true) : ∀ w ∈ L, w.before args s = true := by
  intro w hw
  by_cases e1 : w = .isRef (.static Bundle.tN "UNASSIGNED_STACK" Bundle.steD)
  · rw [e1]; exact hU
  · by_cases e2 : w = .isRef (.static Bundle.tN "SUPPRESSED_SENTINEL" Bundle.listD)
    · rw [e2]; exact hN
    · by_cases e3 : w = .laysStatic Bundle.tN "UNASSIGNED_STACK" Bundle.steD
      · rw [e3]; exact lU
      · by_cases e4 : w = .laysStatic Bundle.tN "SUPPRESSED_SENTINEL" Bundle.listD
        · rw [e4]; exact lN
        · exact h1 w (List.mem_filter.mpr ⟨hw, by unfold vx_no; rw [decide_eq_true e1, decide_eq_true e2, decide_eq_true e3, decide_eq_true e4]; rfl⟩)
/-- where a static field lies, its class's statics cell in H -/
def vx_L (C n d : String) (A : Nat → Prop) (U : State) (H : Heap) : Prop := ∃ (c : ClassId) (k : Class) (i : Nat) (f : Field) (a : Nat) (cell : Cell), U.vm.findClass C = some c ∧ U.fieldFound? C n d = some (c, k, i, f) ∧ f.isStatic = true ∧ k.statics = some a ∧ H[a]? = some cell ∧ cell.vm.isStatics = true ∧ cell.cls = c ∧ f.slot < cell.slots.size ∧ k.staticTypes[f.slot]? = some f.type ∧ ¬ A a
theorem vx_L.moved {C n d : String} {A : Nat → Prop} {u U : State} {H : Heap} (hvm : u.vm.Alike U.vm) (h : vx_L C n d A u H) : vx_L C n d A U H := by
  obtain ⟨c, k, i, f, a, cell, h1, h2, h3, h4, h5, h6, h7, h8, h9, h10⟩ := h
  obtain ⟨k', hi', he⟩ := State.fieldFound?_setVm hvm h2
  exact ⟨c, k', i, f, a, cell, by rw [hvm.findClass]; exact h1, hi', h3, by rw [he]; exact h4, h5, h6, h7, h8, by rw [he]; exact h9, h10⟩
theorem vx_L.kept {C n d : String} {A : Nat → Prop} {U : State} {H H1 : Heap} (h : vx_L C n d A U H) (hq : ∀ a : Nat, a < H.size → ¬ A a → H1[a]? = H[a]?) : vx_L C n d A U H1 := by
  obtain ⟨c, k, i, f, a, cell, h1, h2, h3, h4, h5, h6, h7, h8, h9, h10⟩ := h
  exact ⟨c, k, i, f, a, cell, h1, h2, h3, h4, by rw [hq a (Array.getElem?_eq_some_iff.mp h5).1 h10]; exact h5, h6, h7, h8, h9, h10⟩
theorem vx_L.narrow {C n d : String} {A B : Nat → Prop} {U : State} {H : Heap} (h : vx_L C n d A U H) (hAB : ∀ q, B q → A q) : vx_L C n d B U H := by
  obtain ⟨c, k, i, f, a, cell, h1, h2, h3, h4, h5, h6, h7, h8, h9, h10⟩ := h
  exact ⟨c, k, i, f, a, cell, h1, h2, h3, h4, h5, h6, h7, h8, h9, fun z => h10 (hAB _ z)⟩
theorem vx_L.word {C n d : String} {A : Nat → Prop} {s : State} {args : Array Value} (h : vx_L C n d A s s.heap) : (Cond.laysStatic C n d).before args s = true := by
  obtain ⟨c, k, i, f, a, cell, h1, h2, h3, h4, h5, h6, h7, h8, h9, -⟩ := h
  show (Cond.laysStatic C n d).holds args s none s [] = true
  exact Cond.laysStatic_of h1 h2 h3 h4 h5 h6 h7 h8 h9
/-- .. and what it holds: null or some reference -/
def vx_Zq (C n d : String) (A : Nat → Prop) (U : State) (H : Heap) : Prop := va_Zq C n d A U H ∧ vx_L C n d A U H
theorem vx_Zq.moved {C n d : String} {A : Nat → Prop} {u U : State} {H : Heap} (hvm : u.vm.Alike U.vm) (h : vx_Zq C n d A u H) : vx_Zq C n d A U H := ⟨va_Zq.moved hvm h.1, vx_L.moved hvm h.2⟩
theorem vx_Zq.kept {C n d : String} {A : Nat → Prop} {U : State} {H H1 : Heap} (h : vx_Zq C n d A U H) (hq : ∀ a : Nat, a < H.size → ¬ A a → H1[a]? = H[a]?) : vx_Zq C n d A U H1 := ⟨va_Zq.kept h.1 hq, vx_L.kept h.2 hq⟩
theorem vx_Zq.narrow {C n d : String} {A B : Nat → Prop} {U : State} {H : Heap} (h : vx_Zq C n d A U H) (hAB : ∀ q, B q → A q) : vx_Zq C n d B U H := ⟨va_Zq.narrow h.1 hAB, vx_L.narrow h.2 hAB⟩
theorem vx_Zqof {args : Array Value} {s : State} {C n d : String} {A : Nat → Prop} (hl : (Cond.laysStatic C n d).before args s = true) (hini : (Cond.initialized C).before args s = true) (h : (Cond.isRef (.static C n d)).before args s = true) (hA : ∀ a : Nat, a < s.heap.size → ¬ A a) : vx_Zq C n d A s s.heap := by
  refine ⟨va_Zqof hl hini h hA, ?_⟩
  obtain ⟨c, k, i, f, a, cell, h1, h2, h3, h4, h5, h6, h7, h8, h9⟩ := Cond.laysStatic_spec hl
  exact ⟨c, k, i, f, a, cell, h1, h2, h3, h4, h5, h6, h7, h8, h9, hA a (Array.getElem?_eq_some_iff.mp h5).1⟩
theorem vx_isRef {C n d : String} {v : Value} {A : Nat → Prop} {s : State} {args : Array Value} (h : va_Z C n d v A s s.heap) (hv : v.isRef = true) : (Cond.isRef (.static C n d)).before args s = true := by
  obtain ⟨cf, kf, fi, f, a, cell, h1, h2, h3, h4, h5, h6, h7, -⟩ := h
  have he : (Term.static C n d).eval args s none [] s = some v := by
    simp [Term.eval, State.fieldNamed?, h1, h2, h4, h5, h6, h7]
  simp only [Cond.before, Cond.holds, Cond.value, he]
  cases v <;> simp_all [Value.isRef]
theorem vx_isRefq {C n d : String} {A : Nat → Prop} {s : State} {args : Array Value} (h : va_Zq C n d A s s.heap) : (Cond.isRef (.static C n d)).before args s = true := by
  rcases h with h | ⟨t, h⟩
  · exact vx_isRef h rfl
  · exact vx_isRef h rfl
/-- the same frame, seen from here: as if the method were called anew in this heap -/
theorem vx_rebase {T : State} (X : Stand p l e R s m args below meth c T locs cells slots) {R' : Room} (hf : R'.frames ≤ R.frames) (hl : R'.locals ≤ R.locals) (hc : cells + R'.cells ≤ R.cells) (hs : slots + R'.slots ≤ R.slots) :
    Stand p l e R' ((T.setVm s.vm).setFrames (.invoking m args :: below)) m args below meth c T [] 0 0 := by
  have htop : (T.setVm s.vm).topJava?.isSome := X.here.top
  have hF : ((T.setVm s.vm).setFrames (.invoking m args :: below)).frames = .invoking m args :: below := State.frames_setFrames _ (State.cur_lt_of_top htop)
  obtain ⟨g₀, hg0⟩ := Option.isSome_iff_exists.mp htop
  obtain ⟨r, hr⟩ := State.topJava?_eq_some.mp hg0
  have hl9 : e.platform.stackLimits (T.setVm s.vm).me = e.platform.stackLimits s.me := X.limits
  have hb9 : (T.setVm s.vm).me.stackBytes = s.me.stackBytes := X.bytes
  refine ⟨X.admits, X.cas, X.clock, hF, ?_, X.hears, X.method, X.code, X.here, X.tail, X.warmed, ?_, ?_, ?_⟩
  · have h := X.room
    have hU : ((T.setVm s.vm).setFrames (.invoking m args :: below)).localsInUse = s.localsInUse := by
      rw [State.localsInUse_invoking hF (meth := meth) (c := c) X.method X.code, State.localsInUse_invoking X.frames X.method X.code]
    simp only [State.hasRoom, Bool.and_eq_true, decide_eq_true_eq] at h ⊢
    obtain ⟨⟨⟨⟨h1, h2, h3, h4, h5, h6⟩, h7⟩, h8⟩, h9⟩ := h
    rw [X.frames, List.length_cons] at h2 h3
    have q1 := X.heapSize
    have q2 := X.used
    simp only [hF, hU, List.length_cons, State.stackLimits_setFrames, State.stackBytes_setFrames, hl9, hb9]
    refine ⟨⟨⟨⟨by omega, by omega, by omega, by omega, by omega, h6⟩, ?_⟩, ?_⟩, X.book⟩
    · show T.heap.size + R'.cells ≤ e.platform.maxCells
      omega
    · show T.slotsUsed + R'.slots ≤ e.platform.maxSlots
      omega
  · rw [State.stackLimits_setFrames]; rfl
  · rw [State.stackBytes_setFrames]; rfl
  · refine ⟨?_, Nat.le_refl _, Nat.le_refl _, ?_, ?_, fun a c9 h9 => ⟨c9, h9, rfl, rfl, fun _ _ => rfl⟩⟩
    · obtain ⟨t, ht, -⟩ := State.frames_cons hr
      show T.setVm s.vm = { ((T.setVm s.vm).setFrames (.invoking m args :: below)).setFrames (T.setVm s.vm).frames with heap := T.heap, slotsUsed := T.slotsUsed }
      rw [State.setFrames_setFrames, State.setFrames_self ht]
      rfl
    · show T.slotsUsed = T.slotsUsed + ((T.heap.toList.drop T.heap.size).map (·.slots.size)).sum
      rw [List.drop_eq_nil_of_le (Nat.le_of_eq Array.length_toList)]
      rfl
    · show ((T.heap.toList.drop T.heap.size).map (·.slots.size)).sum ≤ 0
      rw [List.drop_eq_nil_of_le (Nat.le_of_eq Array.length_toList)]
      exact Nat.le_refl _
/-- 'throw new E()': new; dup; invokespecial; athrow -/
theorem vx_throw0 {cc : ByteArray} {pc : Nat} (hexec : p.tables.exec = Jvm.exec) (hb : c.code = cc) (hl : l.stackTraces = false) {own cls : String} {names : List String} {ik ic mc ms : Nat} {A : Nat → Prop}
    (hown : s.vm.findClass own = some m.cls) (hcls : Bundle.fit cls = true) (hnames : ∀ n ∈ names, Bundle.fit n = true)
    (hk : (Cond.classLink own ik cls).before args s = true) (hini : (Cond.initialized cls).before args s = true) (hat : ∀ w ∈ vx_at0 own ic cls names, w.before args s = true)
    (hgood : ∀ w ∈ Cond.classLink own ik cls :: Cond.initialized cls :: vx_at0 own ic cls names, vx_ot w = true)
    (hU : vx_Zq Bundle.tN "UNASSIGNED_STACK" Bundle.steD A s s.heap) (hN : vx_Zq Bundle.tN "SUPPRESSED_SENTINEL" Bundle.listD A s s.heap) (hS : va_S A s.heap H locs) (hsize : ls.size = c.maxLocals)
    (d0 : decode cc pc = .ok (.new ik, 3)) (d3 : decode cc (pc + 3) = .ok (.dup, 1)) (d4 : decode cc (pc + 4) = .ok (.invokespecial ic, 3)) (d7 : decode cc (pc + 7) = .ok (.athrow, 1))
    (hout : ∀ x ∈ c.exceptionTable.toList, covers x (pc + 7) = false)
    (hRframes : names.length + 3 < R.frames) (hRlocals : (rest.map fun v => v.category).sum + (13 * (names.length + 1) + 42) ≤ R.locals) (hRcells : cells + 1 ≤ R.cells) (hRslots : slots + 6 ≤ R.slots) (hlocks : meth.locks = false)
    (hx : ∀ t : State, s.vm.Alike t.vm → H.size ≤ t.heap.size → (∀ q : Nat, q < H.size → t.heap[q]? = H[q]?) → XC cls s t)
    (hf : ∀ z ∈ locs, free z.base) (hc : cells + 1 ≤ mc) (hs : slots + 6 ≤ ms) :
    W p l e R s m args below meth c H locs cells slots (vx_MQ below Qc XC args s mc ms free) (F0 m pc ls rest) := by
  intro T hT X
  have htr : e.platform.stackTraces = false := (show e.platform.stackTraces = l.stackTraces by rw [X.admits.platform]).trans hl
  have Y := vx_rebase X (R' := { frames := R.frames, locals := R.locals, cells := 1, slots := 6 }) (Nat.le_refl _) (Nat.le_refl _) hRcells hRslots
  obtain ⟨s', hA⟩ : ∃ z, z = (T.setVm s.vm).setFrames (.invoking m args :: below) := ⟨_, rfl⟩
  rw [← hA] at Y
  have hvm : s'.vm = s.vm := by rw [hA]; rfl
  have hhp : s'.heap = H := by rw [hA]; exact hT
  have hW0 : s.WarmedH s'.vm := by rw [hvm]; exact State.WarmedH.refl s
  have hat' : ∀ w ∈ vx_at0 own ic cls names, w.before args s' = true := fun w hw => vx_ot_at hW0 hvm.symm (hgood w (List.mem_cons_of_mem _ (List.mem_cons_of_mem _ hw))) (hat w hw)
  have hk' : (Cond.classLink own ik cls).before args s' = true := vx_ot_at hW0 hvm.symm (hgood _ List.mem_cons_self) hk
  have hini' : (Cond.initialized cls).before args s' = true := vx_ot_at hW0 hvm.symm (hgood _ (List.mem_cons_of_mem _ List.mem_cons_self)) hini
  have hU' : vx_Zq Bundle.tN "UNASSIGNED_STACK" Bundle.steD A s' s'.heap := by rw [hhp]; exact vx_Zq.moved hW0.alike (hU.kept hS.2.1)
  have hN' : vx_Zq Bundle.tN "SUPPRESSED_SENTINEL" Bundle.listD A s' s'.heap := by rw [hhp]; exact vx_Zq.moved hW0.alike (hN.kept hS.2.1)
  have h : ∀ w ∈ Bundle.ownAtoms0 own ic cls names, w.before args s' = true := vx_own hat' (vx_isRefq hU'.1) (vx_isRefq hN'.1) hU'.2.word hN'.2.word
  have hown' : s'.vm.findClass own = some m.cls := by rw [hvm]; exact hown
  have hins : (Cond.instantiable cls 6).before args s' = true := h _ (by simp [Bundle.ownAtoms0])
  obtain ⟨vm₁, cX, kX, hfX, hkX, -, -, X₁, st1⟩ := Y.newCold hexec (own := own) (C := cls) (index := ik) (n := 6) hown' hk' hins hini'
    (g := F0 m pc ls rest) rfl (by rw [hb]; exact d0) (Nat.le_refl _) (Nat.le_refl _)
  generalize hT1 : (T.setVm vm₁).pushCell { cls := cX, slots := kX.instanceTypes.map defaultValue, vm := .none } = T1 at X₁ st1
  have hcat : (Value.ref T.heap.size).category = 1 := rfl
  have hcellA : T1.heap[T.heap.size]? = some (freshCell cX kX) := by rw [← hT1]; exact State.heap_pushCell_size _ _
  have d3' : decode c.code (pc + 3) = .ok (.dup, 1) := by rw [hb]; exact d3
  obtain ⟨U, hsteps, hrun, hend, hW, hsame, ce, hce, hO⟩ := X₁.ctorThrow0 hexec htr (own := own) (cls := cls) (names := names) (ic := ic) hown' hcls hnames h (fun x hx => nomatch hx) hfX hkX hcellA (by rw [hhp, hT]; exact Nat.le_refl _)
    (g := { method := m, pc := pc + 4, locals := ls, stack := .ref T.heap.size :: .ref T.heap.size :: rest, locked := none }) rfl hsize rfl rfl (rest := rest) rfl
    (by rw [hb]; exact d4) (by rw [hb]; exact d7) hout hRframes (by simp only [List.map_cons, List.sum_cons, hcat]; omega) hlocks
  obtain ⟨f1, f2⟩ := vx_frame hsame
  rw [hhp] at f1 f2
  have hWs : s.WarmedH U.vm := State.WarmedH.trans hW0 hW
  have hcl : s.vm.findClass cls = some ce.cls := by
    have h9 := hO.cls
    rw [hvm] at h9
    exact h9
  have hall : s.sameButNew ({ U with vm := s.vm } : State) locs mc ms := by
    subst hA
    obtain ⟨e1, e2⟩ := hsame
    rw [State.setFrames_setFrames] at e1
    have h2 : (T.setVm s.vm).sameButNew ({ U with vm := s.vm } : State) [] (0 + 1) (0 + 6) := ⟨e1, e2⟩
    have h3 := X.same.trans h2
    rw [List.append_nil] at h3
    exact h3.mono hc hs
  refine ⟨U, ?_, .threw T.heap.size, hrun, hend, Or.inr ⟨T.heap.size, rfl, cls, ce, locs, hx U hWs.alike f1 (fun q hq => f2 q hq (fun z hz => nomatch hz)), hce, hO.vm, hcl, hWs, hall, hf⟩⟩
  refine st1 _ ?_
  show Steps p.tables e below (T1.setTop { method := m, pc := pc + 3, locals := ls, stack := .ref T.heap.size :: rest, locked := none }) _
  jvm_step X₁.here [X₁.here.top, hexec, d3', Value.category]
  exact hsteps
/-- 'throw new E("text")': new; dup; ldc; invokespecial; athrow -/
theorem vx_throwS {cc : ByteArray} {pc : Nat} (hexec : p.tables.exec = Jvm.exec) (hb : c.code = cc) (hl : l.stackTraces = false) {own cls text : String} {names : List String} {ik is ic mc ms sa : Nat} {A : Nat → Prop}
    (hown : s.vm.findClass own = some m.cls) (hcls : Bundle.fit cls = true) (hnames : ∀ n ∈ names, Bundle.fit n = true)
    (hk : (Cond.classLink own ik cls).before args s = true) (hini : (Cond.initialized cls).before args s = true) (hstr : vk_R own is text sa s) (hat : ∀ w ∈ vx_atS own ic cls names, w.before args s = true)
    (hgood : ∀ w ∈ Cond.classLink own ik cls :: Cond.initialized cls :: vx_atS own ic cls names, vx_ot w = true)
    (hU : vx_Zq Bundle.tN "UNASSIGNED_STACK" Bundle.steD A s s.heap) (hN : vx_Zq Bundle.tN "SUPPRESSED_SENTINEL" Bundle.listD A s s.heap) (hS : va_S A s.heap H locs) (hsize : ls.size = c.maxLocals)
    (d0 : decode cc pc = .ok (.new ik, 3)) (d3 : decode cc (pc + 3) = .ok (.dup, 1)) (d4 : decode cc (pc + 4) = .ok (.ldc is, 2)) (d6 : decode cc (pc + 6) = .ok (.invokespecial ic, 3)) (d9 : decode cc (pc + 9) = .ok (.athrow, 1))
    (hout : ∀ x ∈ c.exceptionTable.toList, covers x (pc + 9) = false)
    (hRframes : names.length + 3 < R.frames) (hRlocals : (rest.map fun v => v.category).sum + (13 * (names.length + 1) + 43) ≤ R.locals) (hRcells : cells + 1 ≤ R.cells) (hRslots : slots + 6 ≤ R.slots) (hlocks : meth.locks = false)
    (hx : ∀ t : State, s.vm.Alike t.vm → H.size ≤ t.heap.size → (∀ q : Nat, q < H.size → t.heap[q]? = H[q]?) → XC cls s t)
    (hf : ∀ z ∈ locs, free z.base) (hc : cells + 1 ≤ mc) (hs : slots + 6 ≤ ms) :
    W p l e R s m args below meth c H locs cells slots (vx_MQ below Qc XC args s mc ms free) (F0 m pc ls rest) := by
  intro T hT X
  have htr : e.platform.stackTraces = false := (show e.platform.stackTraces = l.stackTraces by rw [X.admits.platform]).trans hl
  have Y := vx_rebase X (R' := { frames := R.frames, locals := R.locals, cells := 1, slots := 6 }) (Nat.le_refl _) (Nat.le_refl _) hRcells hRslots
  obtain ⟨s', hA⟩ : ∃ z, z = (T.setVm s.vm).setFrames (.invoking m args :: below) := ⟨_, rfl⟩
  rw [← hA] at Y
  have hvm : s'.vm = s.vm := by rw [hA]; rfl
  have hhp : s'.heap = H := by rw [hA]; exact hT
  have hW0 : s.WarmedH s'.vm := by rw [hvm]; exact State.WarmedH.refl s
  have hat' : ∀ w ∈ vx_atS own ic cls names, w.before args s' = true := fun w hw => vx_ot_at hW0 hvm.symm (hgood w (List.mem_cons_of_mem _ (List.mem_cons_of_mem _ hw))) (hat w hw)
  have hk' : (Cond.classLink own ik cls).before args s' = true := vx_ot_at hW0 hvm.symm (hgood _ List.mem_cons_self) hk
  have hini' : (Cond.initialized cls).before args s' = true := vx_ot_at hW0 hvm.symm (hgood _ (List.mem_cons_of_mem _ List.mem_cons_self)) hini
  have hU' : vx_Zq Bundle.tN "UNASSIGNED_STACK" Bundle.steD A s' s'.heap := by rw [hhp]; exact vx_Zq.moved hW0.alike (hU.kept hS.2.1)
  have hN' : vx_Zq Bundle.tN "SUPPRESSED_SENTINEL" Bundle.listD A s' s'.heap := by rw [hhp]; exact vx_Zq.moved hW0.alike (hN.kept hS.2.1)
  have h : ∀ w ∈ Bundle.ownAtoms own ic cls names, w.before args s' = true := vx_own hat' (vx_isRefq hU'.1) (vx_isRefq hN'.1) hU'.2.word hN'.2.word
  have hown' : s'.vm.findClass own = some m.cls := by rw [hvm]; exact hown
  have hins : (Cond.instantiable cls 6).before args s' = true := h _ (by simp [Bundle.ownAtoms])
  obtain ⟨vm₁, cX, kX, hfX, hkX, -, -, X₁, st1⟩ := Y.newCold hexec (own := own) (C := cls) (index := ik) (n := 6) hown' hk' hins hini'
    (g := F0 m pc ls rest) rfl (by rw [hb]; exact d0) (Nat.le_refl _) (Nat.le_refl _)
  generalize hT1 : (T.setVm vm₁).pushCell { cls := cX, slots := kX.instanceTypes.map defaultValue, vm := .none } = T1 at X₁ st1
  have hcat : (Value.ref T.heap.size).category = 1 := rfl
  have hcellA : T1.heap[T.heap.size]? = some (freshCell cX kX) := by rw [← hT1]; exact State.heap_pushCell_size _ _
  have d3' : decode c.code (pc + 3) = .ok (.dup, 1) := by rw [hb]; exact d3
  have d4' : decode c.code (pc + 4) = .ok (.ldc is, 2) := by rw [hb]; exact d4
  have hstr' : vk_R own is text sa s' := vk_R.warm hW0 hstr
  obtain ⟨U, hsteps, hrun, hend, hW, hsame, ce, hce, hO⟩ := X₁.ctorThrowS hexec htr (own := own) (cls := cls) (names := names) (ic := ic) hown' hcls hnames h (fun x hx => nomatch hx) hfX hkX hcellA (by rw [hhp, hT]; exact Nat.le_refl _) (msg := .ref sa) rfl
    (g := { method := m, pc := pc + 6, locals := ls, stack := .ref sa :: .ref T.heap.size :: .ref T.heap.size :: rest, locked := none }) rfl hsize rfl rfl (rest := rest) rfl
    (by rw [hb]; exact d6) (by rw [hb]; exact d9) hout hRframes (by simp only [List.map_cons, List.sum_cons, hcat]; omega) hlocks
  obtain ⟨f1, f2⟩ := vx_frame hsame
  rw [hhp] at f1 f2
  have hWs : s.WarmedH U.vm := State.WarmedH.trans hW0 hW
  have hcl : s.vm.findClass cls = some ce.cls := by
    have h9 := hO.cls
    rw [hvm] at h9
    exact h9
  have hall : s.sameButNew ({ U with vm := s.vm } : State) locs mc ms := by
    subst hA
    obtain ⟨e1, e2⟩ := hsame
    rw [State.setFrames_setFrames] at e1
    have h2 : (T.setVm s.vm).sameButNew ({ U with vm := s.vm } : State) [] (0 + 1) (0 + 6) := ⟨e1, e2⟩
    have h3 := X.same.trans h2
    rw [List.append_nil] at h3
    exact h3.mono hc hs
  refine ⟨U, ?_, .threw T.heap.size, hrun, hend, Or.inr ⟨T.heap.size, rfl, cls, ce, locs, hx U hWs.alike f1 (fun q hq => f2 q hq (fun z hz => nomatch hz)), hce, hO.vm, hcl, hWs, hall, hf⟩⟩
  refine st1 _ ?_
  show Steps p.tables e below (T1.setTop { method := m, pc := pc + 3, locals := ls, stack := .ref T.heap.size :: rest, locked := none }) _
  jvm_step X₁.here [X₁.here.top, hexec, d3', Value.category]
  exact X₁.ldcString hexec (own := own) (text := text) (index := is) (a := sa) hown' hstr'.1 hstr'.2
    (g := { method := m, pc := pc + 4, locals := ls, stack := .ref T.heap.size :: .ref T.heap.size :: rest, locked := none }) rfl d4' _ hsteps
/-- 'throw new E("text")', the text by a wide index -/
theorem vx_throwSW {cc : ByteArray} {pc : Nat} (hexec : p.tables.exec = Jvm.exec) (hb : c.code = cc) (hl : l.stackTraces = false) {own cls text : String} {names : List String} {ik is ic mc ms sa : Nat} {A : Nat → Prop}
    (hown : s.vm.findClass own = some m.cls) (hcls : Bundle.fit cls = true) (hnames : ∀ n ∈ names, Bundle.fit n = true)
    (hk : (Cond.classLink own ik cls).before args s = true) (hini : (Cond.initialized cls).before args s = true) (hstr : vk_R own is text sa s) (hat : ∀ w ∈ vx_atS own ic cls names, w.before args s = true)
    (hgood : ∀ w ∈ Cond.classLink own ik cls :: Cond.initialized cls :: vx_atS own ic cls names, vx_ot w = true)
    (hU : vx_Zq Bundle.tN "UNASSIGNED_STACK" Bundle.steD A s s.heap) (hN : vx_Zq Bundle.tN "SUPPRESSED_SENTINEL" Bundle.listD A s s.heap) (hS : va_S A s.heap H locs) (hsize : ls.size = c.maxLocals)
    (d0 : decode cc pc = .ok (.new ik, 3)) (d3 : decode cc (pc + 3) = .ok (.dup, 1)) (d4 : decode cc (pc + 4) = .ok (.ldc_w is, 3)) (d7 : decode cc (pc + 7) = .ok (.invokespecial ic, 3)) (d10 : decode cc (pc + 10) = .ok (.athrow, 1))
    (hout : ∀ x ∈ c.exceptionTable.toList, covers x (pc + 10) = false)
    (hRframes : names.length + 3 < R.frames) (hRlocals : (rest.map fun v => v.category).sum + (13 * (names.length + 1) + 43) ≤ R.locals) (hRcells : cells + 1 ≤ R.cells) (hRslots : slots + 6 ≤ R.slots) (hlocks : meth.locks = false)
    (hx : ∀ t : State, s.vm.Alike t.vm → H.size ≤ t.heap.size → (∀ q : Nat, q < H.size → t.heap[q]? = H[q]?) → XC cls s t)
    (hf : ∀ z ∈ locs, free z.base) (hc : cells + 1 ≤ mc) (hs : slots + 6 ≤ ms) :
    W p l e R s m args below meth c H locs cells slots (vx_MQ below Qc XC args s mc ms free) (F0 m pc ls rest) := by
  intro T hT X
  have htr : e.platform.stackTraces = false := (show e.platform.stackTraces = l.stackTraces by rw [X.admits.platform]).trans hl
  have Y := vx_rebase X (R' := { frames := R.frames, locals := R.locals, cells := 1, slots := 6 }) (Nat.le_refl _) (Nat.le_refl _) hRcells hRslots
  obtain ⟨s', hA⟩ : ∃ z, z = (T.setVm s.vm).setFrames (.invoking m args :: below) := ⟨_, rfl⟩
  rw [← hA] at Y
  have hvm : s'.vm = s.vm := by rw [hA]; rfl
  have hhp : s'.heap = H := by rw [hA]; exact hT
  have hW0 : s.WarmedH s'.vm := by rw [hvm]; exact State.WarmedH.refl s
  have hat' : ∀ w ∈ vx_atS own ic cls names, w.before args s' = true := fun w hw => vx_ot_at hW0 hvm.symm (hgood w (List.mem_cons_of_mem _ (List.mem_cons_of_mem _ hw))) (hat w hw)
  have hk' : (Cond.classLink own ik cls).before args s' = true := vx_ot_at hW0 hvm.symm (hgood _ List.mem_cons_self) hk
  have hini' : (Cond.initialized cls).before args s' = true := vx_ot_at hW0 hvm.symm (hgood _ (List.mem_cons_of_mem _ List.mem_cons_self)) hini
  have hU' : vx_Zq Bundle.tN "UNASSIGNED_STACK" Bundle.steD A s' s'.heap := by rw [hhp]; exact vx_Zq.moved hW0.alike (hU.kept hS.2.1)
  have hN' : vx_Zq Bundle.tN "SUPPRESSED_SENTINEL" Bundle.listD A s' s'.heap := by rw [hhp]; exact vx_Zq.moved hW0.alike (hN.kept hS.2.1)
  have h : ∀ w ∈ Bundle.ownAtoms own ic cls names, w.before args s' = true := vx_own hat' (vx_isRefq hU'.1) (vx_isRefq hN'.1) hU'.2.word hN'.2.word
  have hown' : s'.vm.findClass own = some m.cls := by rw [hvm]; exact hown
  have hins : (Cond.instantiable cls 6).before args s' = true := h _ (by simp [Bundle.ownAtoms])
  obtain ⟨vm₁, cX, kX, hfX, hkX, -, -, X₁, st1⟩ := Y.newCold hexec (own := own) (C := cls) (index := ik) (n := 6) hown' hk' hins hini'
    (g := F0 m pc ls rest) rfl (by rw [hb]; exact d0) (Nat.le_refl _) (Nat.le_refl _)
  generalize hT1 : (T.setVm vm₁).pushCell { cls := cX, slots := kX.instanceTypes.map defaultValue, vm := .none } = T1 at X₁ st1
  have hcat : (Value.ref T.heap.size).category = 1 := rfl
  have hcellA : T1.heap[T.heap.size]? = some (freshCell cX kX) := by rw [← hT1]; exact State.heap_pushCell_size _ _
  have d3' : decode c.code (pc + 3) = .ok (.dup, 1) := by rw [hb]; exact d3
  have d4' : decode c.code (pc + 4) = .ok (.ldc_w is, 3) := by rw [hb]; exact d4
  have hstr' : vk_R own is text sa s' := vk_R.warm hW0 hstr
  obtain ⟨U, hsteps, hrun, hend, hW, hsame, ce, hce, hO⟩ := X₁.ctorThrowS hexec htr (own := own) (cls := cls) (names := names) (ic := ic) hown' hcls hnames h (fun x hx => nomatch hx) hfX hkX hcellA (by rw [hhp, hT]; exact Nat.le_refl _) (msg := .ref sa) rfl
    (g := { method := m, pc := pc + 7, locals := ls, stack := .ref sa :: .ref T.heap.size :: .ref T.heap.size :: rest, locked := none }) rfl hsize rfl rfl (rest := rest) rfl
    (by rw [hb]; exact d7) (by rw [hb]; exact d10) hout hRframes (by simp only [List.map_cons, List.sum_cons, hcat]; omega) hlocks
  obtain ⟨f1, f2⟩ := vx_frame hsame
  rw [hhp] at f1 f2
  have hWs : s.WarmedH U.vm := State.WarmedH.trans hW0 hW
  have hcl : s.vm.findClass cls = some ce.cls := by
    have h9 := hO.cls
    rw [hvm] at h9
    exact h9
  have hall : s.sameButNew ({ U with vm := s.vm } : State) locs mc ms := by
    subst hA
    obtain ⟨e1, e2⟩ := hsame
    rw [State.setFrames_setFrames] at e1
    have h2 : (T.setVm s.vm).sameButNew ({ U with vm := s.vm } : State) [] (0 + 1) (0 + 6) := ⟨e1, e2⟩
    have h3 := X.same.trans h2
    rw [List.append_nil] at h3
    exact h3.mono hc hs
  refine ⟨U, ?_, .threw T.heap.size, hrun, hend, Or.inr ⟨T.heap.size, rfl, cls, ce, locs, hx U hWs.alike f1 (fun q hq => f2 q hq (fun z hz => nomatch hz)), hce, hO.vm, hcl, hWs, hall, hf⟩⟩
  refine st1 _ ?_
  show Steps p.tables e below (T1.setTop { method := m, pc := pc + 3, locals := ls, stack := .ref T.heap.size :: rest, locked := none }) _
  jvm_step X₁.here [X₁.here.top, hexec, d3', Value.category]
  exact X₁.ldcStringW hexec (own := own) (text := text) (index := is) (a := sa) hown' hstr'.1 hstr'.2
    (g := { method := m, pc := pc + 4, locals := ls, stack := .ref T.heap.size :: .ref T.heap.size :: rest, locked := none }) rfl d4' _ hsteps
end Ends
section Bodies
variable {l : Launch}
theorem vx_ofW {y : MethodName} {ws ws' : List Cond} {rm : Room} {Pc : Array Value → State → Prop} {Qc : Array Value → State → Outcome → State → Prop} {XC : String → State → State → Prop} {mc ms : Nat} {free : Addr → Prop} {cc : ByteArray} {maxL : Nat} {ret : Option FieldType}
    (hy : plainName y.cls = true) (hw : ws = Cond.code y cc maxL ret :: ws')
    (body : ∀ p e s m args below meth c s₁, BodyLoose p l y (headSpec ws rm) cc maxL ret e s m args below meth c s₁ → c.maxLocals = maxL → (∀ x ∈ c.exceptionTable.toList, False) → Pc args s →
      W p l e (headSpec ws rm).room s m args below meth c s.heap [] 0 0 (vx_MQ below Qc XC args s mc ms free) (entryFrame m args maxL)) : vx_Met l y ws rm Pc Qc XC mc ms free := by
  refine MetFree.of_bodyS (code := cc) (maxLocals := maxL) (ret := ret) hy ?_ ?_
  · intro args s m h hn
    obtain ⟨meth, c, h1, h2, h3, h4, h5, h6, -, -⟩ := Cond.code_spec hn (atoms_spec (ws := ws) h _ (by rw [hw]; exact List.mem_cons_self))
    exact ⟨meth, c, h1, h2, h3, h4, h5, h6⟩
  · intro p e s m args below meth c s₁ B hml hP _
    have hh0 : s₁.heap = s.heap := by rw [B.state]; rfl
    have ht : ∀ x ∈ c.exceptionTable.toList, False := by
      obtain ⟨meth9, c9, h1, h2, -, -, -, -, h7, -⟩ := Cond.code_spec B.named (atoms_spec (ws := ws) B.pre _ (by rw [hw]; exact List.mem_cons_self))
      cases Option.some.inj (h1.symm.trans B.method)
      cases Option.some.inj (h2.symm.trans (Stand.of_body B).code)
      intro x hx
      rw [Array.isEmpty_iff.mp h7] at hx
      cases hx
    obtain ⟨t, a1, o, b1, b2, b3⟩ := body p e s m args below meth c s₁ B hml ht hP s₁ hh0 (Stand.of_body B)
    exact ⟨t, o, a1, b1, b2, b3⟩
/-- the table of a body with handlers -/
theorem vx_table {p : Program} {x y : MethodName} {S : Spec} {cc bytes : ByteArray} {maxL maxL' : Nat} {ret ret' : Option FieldType} {e : Env} {s s₁ : State} {m : MethodId} {args : Array Value} {below : List Frame} {meth : Method} {c : Code} {hh : List (Nat × Nat × Nat × Nat)}
    (B : BodyLoose p l y S cc maxL ret e s m args below meth c s₁) (h : (Cond.codeWith y bytes maxL' ret' hh).before args s = true) : c.exceptionTable.toList = tableOf hh := by
  obtain ⟨m9, meth9, c9, hn9, h1, h2, -, -, h6, -⟩ := Cond.codeWith_spec h
  cases Option.some.inj (hn9.symm.trans B.named)
  cases Option.some.inj (h1.symm.trans B.method)
  cases Option.some.inj (h2.symm.trans (Stand.of_body B).code)
  rw [← h6, table_eq]
end Bodies
end VXA
/-! ===== END ===== -/
/-! ===== BEGIN a static call of a method with an exception table ===== -/
section VXS
variable {p : Program} {l : Launch} {e : Env} {R : Room} {s : State} {m : MethodId} {args : Array Value} {below : List Frame} {meth : Method} {c : Code} {T : State} {H : Heap} {locs : List Loc} {cells slots : Nat}
abbrev vx_CSW (R : Room) (s : State) (args : Array Value) (own : String) (index : Nat) (y : MethodName) (bytes : ByteArray) (maxL : Nat) (ret : Option FieldType) (hh : List (Nat × Nat × Nat × Nat)) (ws : List Cond) (rm : Room) (mc ms n : Nat) : Prop :=
  (rm.cells = mc ∧ rm.slots = ms ∧ rm.frames + 1 ≤ R.frames ∧ 8 + (maxL + 11) + rm.locals ≤ R.locals ∧ (∀ w ∈ ws, ∀ (a' : Array Value) (U : State), s.WarmedH U.vm → w.before a' U = true) ∧ Cond.codeWith y bytes maxL ret hh ∈ ws) ∧
  (Cond.codeWith y bytes maxL ret hh).before args s = true ∧ (Cond.initialized y.cls).before args s = true ∧ (y.cls ≠ "java/lang/invoke/MethodHandle" ∧ y.cls ≠ "java/lang/invoke/VarHandle") ∧
  (∀ sig, parseMethodDescriptor y.desc = some sig → n = sig.parameters.length) ∧ (Cond.methodLink own index y).before args s = true ∧ (Cond.static y).before args s = true
theorem vx_cwSW {own : String} {index maxL mc ms : Nat} {y : MethodName} {bytes : ByteArray} {ret : Option FieldType} {hh : List (Nat × Nat × Nat × Nat)} {Ts ws ws' : List Cond} {rm : Room} (n : Nat) (ht : ∀ w ∈ Ts, w.before args s = true) (hT : GoodIn Ts (va_wsS own index y ws)) (hw : ws = Cond.codeWith y bytes maxL ret hh :: ws') (hrc : rm.cells = mc) (hrs : rm.slots = ms)
    (hd : y.cls ≠ "java/lang/invoke/MethodHandle" ∧ y.cls ≠ "java/lang/invoke/VarHandle" ∧ (parseMethodDescriptor y.desc).map (fun d => d.parameters.length) = some n) (hR : rm.frames + 1 ≤ R.frames ∧ 8 + (maxL + 11) + rm.locals ≤ R.locals) :
    vx_CSW R s args own index y bytes maxL ret hh ws rm mc ms n := by
  have ok : ∀ w ∈ va_wsS own index y ws, w.before args s = true := fun w h => ht w (hT w h).1
  have hG : GoodIn Ts ws := fun w h => hT w (by unfold va_wsS; exact List.mem_append_right _ h)
  have hc : Cond.codeWith y bytes maxL ret hh ∈ ws := by rw [hw]; exact List.mem_cons_self
  refine ⟨⟨hrc, hrs, hR.1, hR.2, pay_in ht hG, hc⟩, ht _ (hG _ hc).1, ok _ (by simp [va_wsS]), ⟨hd.1, hd.2.1⟩, fun sig h => ?_, ok _ (by simp [va_wsS]), ok _ (by simp [va_wsS])⟩
  have h2 := hd.2.2
  rw [h] at h2
  exact (Option.some.inj h2).symm
theorem vx_callSW (X : Stand p l e R s m args below meth c T locs cells slots) (hexec : p.tables.exec = Jvm.exec) {own : String} {index : Nat} {y : MethodName} {bytes : ByteArray} {maxL : Nat} {ret : Option FieldType} {hh : List (Nat × Nat × Nat × Nat)}
    (hown : s.vm.findClass own = some m.cls) (hlink : (Cond.methodLink own index y).before args s = true) (hstat : (Cond.static y).before args s = true) (hinit : (Cond.initialized y.cls).before args s = true)
    (hcode : (Cond.codeWith y bytes maxL ret hh).before args s = true) (hy : y.cls ≠ "java/lang/invoke/MethodHandle" ∧ y.cls ≠ "java/lang/invoke/VarHandle")
    {W9 : Nat} {Pre : Pt → Array Value → Prop} {Post : Pt → Array Value → Option Value → Pt → Prop} (hK : Back l R p e below s args y 3 W9 Pre Post)
    {g : JFrame} (hg : g.method = m) (hsize : g.locals.size = c.maxLocals) {argsL rest : List Value} (hlen : ∀ sig, parseMethodDescriptor y.desc = some sig → argsL.length = sig.parameters.length)
    (hstack : g.stack = argsL.reverse ++ rest) (hW : 2 * g.monitorRoom + (rest.map fun v => v.category).sum ≤ W9) (hdg : decode c.code g.pc = .ok (.invokestatic index, 3))
    (hpre : ∀ vm₁, s.WarmedH vm₁ → Pre ⟨T.setVm vm₁, locs, cells, slots⟩ argsL.toArray) :
    ∃ (v : Option Value) (vm₁ : Vm) (B : Pt), s.WarmedH vm₁ ∧ Stand p l e R s m args below meth c B.U B.locs B.cells B.slots ∧ Post ⟨T.setVm vm₁, locs, cells, slots⟩ argsL.toArray v B ∧
      ∀ target, Steps p.tables e below (B.U.setTop { g with pc := g.pc + 3, stack := v.toList ++ rest }) target → Steps p.tables e below (T.setTop g) target := by
  obtain ⟨mk, methM, cM, hnamed, hmethM, -, -, -, -, -, -, hsigM⟩ := Cond.codeWith_spec hcode
  have hstatic : methM.isStatic = true := Cond.static_spec hnamed hmethM hstat
  obtain ⟨kP, hkP, -⟩ := className_of_methodNamed hnamed
  have hinitP : kP.init = .initialized := Cond.initialized_spec (findClass_of_methodNamed hnamed) hkP hinit
  obtain ⟨vm₁, X₁, hstep₁⟩ := X.invokestatic hexec hown hlink hnamed hmethM hstatic hkP hinitP hy (g := g) hg (argsL := argsL) (rest := rest) (hlen _ hsigM) hstack hdg
  obtain ⟨v, B, X', hpost, hsteps⟩ := hK m meth c ⟨T.setVm vm₁, locs, cells, slots⟩ { g with stack := rest } (.invokestatic index) mk argsL.toArray X₁ hg hsize hdg hW (X₁.named hnamed) (hpre vm₁ X₁.warmed)
  exact ⟨v, vm₁, B, X₁.warmed, X', hpost, fun target h => hstep₁ _ fun acts => by rw [doInvoke_state]; exact hsteps.trans h⟩
theorem vx_runSW {y : MethodName} {bytes cc : ByteArray} {maxL nL mc ms n index : Nat} {ret : Option FieldType} {hh : List (Nat × Nat × Nat × Nat)} {ws : List Cond} {rm : Room} {Pc : Array Value → State → Prop} {Qc : Array Value → State → Outcome → State → Prop} {free : Addr → Prop} {Ts : List Cond} {own : String} {As rest : List Value} {g : JFrame}
    (S : CallFix p m c cc nL s args Ts own) (hM : Met l y ws rm Pc Qc mc ms free) (cw : vx_CSW R s args own index y bytes maxL ret hh ws rm mc ms n) (hp : PreS s H Pc As)
    (hg : g.method = m) (hn : As.length = n) (hsize : g.locals.size = nL) (hstack : g.stack = As.reverse ++ rest) (hW : 2 * g.monitorRoom + (rest.map fun v => v.category).sum ≤ 8) (hdg : decode cc g.pc = .ok (.invokestatic index, 3)) (hf : cells + mc ≤ R.cells ∧ slots + ms ≤ R.slots) :
    va_Run p l e R s m args below meth c H locs cells slots mc ms g rest (Qc As.toArray) (free) := by
  obtain ⟨⟨hrc, hrs, hfr, hlo, hws, hcw⟩, hcode, hini, hy, hlen, hl, hstt⟩ := cw
  have hK : Back l R p e below s args y 3 8 (PreOf R mc ms Pc) (PostOf Qc mc ms free) := va_backW (hh := hh) (bytes := bytes) (maxL := maxL) (ret := ret) hM hp.1 hrc hrs hfr hlo hws hcw (fun a' U hW => word_at hW (Or.inl (by first | rfl | simp [Cond.onTables, Cond.keeps, Cond.steady])) hini)
  obtain ⟨hx, hb, hml, ho, -⟩ := S
  intro T hT X
  obtain ⟨v, vm₁, ⟨U', l2, c2, s2⟩, hW₁, X', ⟨g', mk, t, L, e1, e2, hq, h1, hL, h2, h3⟩, st⟩ := vx_callSW X hx (hh := hh) (bytes := bytes) (maxL := maxL) (ret := ret) ho hl hstt hini hcode hy hK hg (hsize.trans hml.symm) (argsL := As) (rest := rest) (fun sig h => hn.trans (hlen sig h)) hstack hW (by rw [hb]; exact hdg)
    (fun vm₁ hW₁ => ⟨hf.1, hf.2, hp.2 (T.setVm vm₁) hT hW₁⟩)
  dsimp only [Pt.U, Pt.locs, Pt.cells, Pt.slots] at X' e1 e2 h1 h2 h3 st
  subst h1; subst h2; subst h3
  exact ⟨v, (T.setVm vm₁).calling g' mk As.toArray, t, U', L, hT, X', hL, e1, e2, hq, st⟩
/-- a thing of a world lies in the heap -/
theorem vx_lt {D : va_G} {cl : List vw_C} {ws : va_W} {H1 : Heap} (h : va_P D cl ws H1) {k : Nat} {q : Nat × va_E} (hk : ws[k]? = some q) : q.1 < H1.size := (h k q hk).lt
end VXS
/-! ===== END ===== -/
/-! ===== BEGIN methods with a table of their own: called by a name, returning or throwing ===== -/
section VXH
/-! vx_backW, vx_callVX, vx_callSX, vx_callVW, vx_runVW, vx_runVX, vx_runSX, vx_ofWH follow the same proofs as their sisters above (Free/Laws.lean, Shelf42/LK1.lean); vx_outP calls Shelf42/NT130.lean (outThrough). -/
section
variable {l : Launch} {R : Room} {p : Program} {e : Env} {below : List Frame} {s : State} {sargs : Array Value} {y : MethodName} {len W9 : Nat}
theorem vx_backW {ws : List Cond} {rm : Room} {Pc : Array Value → State → Prop} {Qc : Array Value → State → Outcome → State → Prop} {XC : String → State → State → Prop} {mc ms : Nat} {free : Addr → Prop} {bytes : ByteArray} {maxL : Nat} {ret : Option FieldType} {hh : List (Nat × Nat × Nat × Nat)}
    (hM : vx_Met l y ws rm Pc Qc XC mc ms free) (hblind : FrameBlind Pc) (hrc : rm.cells = mc) (hrs : rm.slots = ms)
    (hframes : rm.frames + 1 ≤ R.frames) (hlocals : W9 + (maxL + 11) + rm.locals ≤ R.locals)
    (hws : ∀ w ∈ ws, ∀ a' U, s.WarmedH U.vm → w.before a' U = true) (hcode : Cond.codeWith y bytes maxL ret hh ∈ ws) (hinit : ∀ a' U, s.WarmedH U.vm → (Cond.initialized y.cls).before a' U = true) :
    vx_Back l R p e below s sargs y len W9 (PreOf R mc ms Pc) (PostOf Qc mc ms free) (vx_Post XC mc ms free) := by
  intro m meth c A g ig mk a X hg hsize hdg hW hn hp
  have h1 : (headSpec ws rm).pre.before a A.U = true := atoms_intro fun w hw => hws w hw _ _ X.warmed
  have h2 : (Cond.codeWith y bytes maxL ret hh).before a A.U = true := hws _ hcode _ _ X.warmed
  have h3 : (Cond.initialized y.cls).before a A.U = true := hinit _ _ X.warmed
  have h4 : A.cells + (headSpec ws rm).room.cells ≤ R.cells := by rw [show (headSpec ws rm).room.cells = mc from hrc]; exact hp.1
  have h5 : A.slots + (headSpec ws rm).room.slots ≤ R.slots := by rw [show (headSpec ws rm).room.slots = ms from hrs]; exact hp.2.1
  have hPc : Pc a (A.U.calling g mk a) := hblind _ _ _ _ hp.2.2
  obtain ⟨U, Ls, c0, s0⟩ := A
  dsimp only [Pt.U, Pt.locs, Pt.cells, Pt.slots] at h1 h2 h3 h4 h5 X hn hPc ⊢
  obtain ⟨m9, methY, cY, hn9, hmY, hcY, -, hlY, -⟩ := Cond.codeWith_spec h2
  cases Option.some.inj (hn9.symm.trans hn)
  obtain ⟨kY, hkY, -⟩ := className_of_methodNamed hn
  have hinitY : kY.init = .initialized := Cond.initialized_spec (findClass_of_methodNamed hn) hkY h3
  have h : At U g.method c below := by rw [hg]; exact X.here
  have hlocals9 : W9 + (maxL + 11) + (headSpec ws rm).room.locals ≤ R.locals := hlocals
  have happ : (headSpec ws rm).appliesLoose y e.platform (U.calling g mk a) = true :=
    Spec.appliesLoose_calling (g := g) h hdg hn hkY hinitY
      (X.room_calling (g := g) (R' := (headSpec ws rm).room) hsize hmY hcY hframes (by rw [hlY]; omega) h4 h5) h1
  obtain ⟨mid, hmid⟩ := h.above
  have hfr : (U.setTop g).frames = (.java g :: mid) ++ below := by rw [State.frames_setTop' g h.top, hmid]; rfl
  obtain ⟨o, s₂, hsteps, -, hend, hq⟩ := Steps.callFree hM p X.admits X.cas X.clock (acts := []) hfr happ hPc trivial
  have hq' : vx_Q Qc XC mc ms free a (U.calling g mk a) o s₂ := hq
  rw [State.frames_setTop' g h.top] at hend
  obtain ⟨g₀, hg0⟩ := Option.isSome_iff_exists.mp h.top
  obtain ⟨r, hr⟩ := State.topJava?_eq_some.mp hg0
  have hr' : (({ U with heap := s₂.heap, slotsUsed := s₂.slotsUsed } : State).setVm s₂.vm).frames = .java g₀ :: r := hr
  rcases hq' with ⟨hqc, L, hfe, hL⟩ | ⟨q, rfl, E, ce, L, hx, hce, hcv, hcl, hW₂, hsm, hL⟩
  · obtain ⟨⟨v, rfl⟩, hW₂, e2, q2, q3, q4, q5, q6⟩ := id hfe
    have e3 : s₂ = ({ (U.calling g mk a).setFrames s₂.frames with heap := s₂.heap, slotsUsed := s₂.slotsUsed } : State).setVm s₂.vm := by
      have : s₂ = ({ s₂ with vm := (U.calling g mk a).vm } : State).setVm s₂.vm := rfl
      rw [e2] at this
      exact this
    obtain ⟨c₂, i₂, len₂, hc₂, hd₂, hf₂⟩ := hend
    have hW' : U.WarmedH s₂.vm := hW₂
    have hcc : c₂ = c := by
      have h1 : s₂.code? g.method = U.code? g.method := by
        rw [State.code?_eq, State.code?_eq, hW'.alike.method?]
      exact Option.some.inj (hc₂.symm.trans (h1.trans h.code))
    subst hcc
    have hlen : len₂ = len := by rw [hdg] at hd₂; cases hd₂; rfl
    subst hlen
    have hs₂ : s₂ = (({ U with heap := s₂.heap, slotsUsed := s₂.slotsUsed } : State).setVm s₂.vm).setTop { g with pc := g.pc + len₂, stack := v.toList ++ g.stack } := by
      refine e3.trans ?_
      rw [hf₂, State.calling_eq h.top, State.setFrames_setFrames, State.setTop_of_frames _ hr', hr]
      rfl
    have hsame : U.sameButNew ({ U with heap := s₂.heap, slotsUsed := s₂.slotsUsed } : State) L mc ms := by
      refine ⟨?_, q2, q3, q4, q5, q6⟩
      obtain ⟨t, ht, -⟩ := State.frames_cons hr
      show ({ U with heap := s₂.heap, slotsUsed := s₂.slotsUsed } : State) = { U.setFrames U.frames with heap := s₂.heap, slotsUsed := s₂.slotsUsed }
      rw [State.setFrames_self ht]
    subst hg
    refine Or.inl ⟨v, ⟨(({ U with heap := s₂.heap, slotsUsed := s₂.slotsUsed } : State).setVm s₂.vm), Ls ++ L, c0 + mc, s0 + ms⟩,
      ⟨X.admits, X.cas, X.clock, X.frames, X.room, X.hears, X.method, X.code, (X.here.setHeapUsed s₂.heap s₂.slotsUsed).setVm hW'.alike, X.tail, State.WarmedH.trans X.warmed hW', X.limits, X.bytes, X.same.trans (hsame.setVm s.vm)⟩,
      ⟨g, mk, s₂, L, rfl, rfl, hqc, rfl, hL, rfl, rfl⟩, ?_⟩
    show Steps p.tables e below _ ((({ U with heap := s₂.heap, slotsUsed := s₂.slotsUsed } : State).setVm s₂.vm).setTop { g with pc := g.pc + len₂, stack := v.toList ++ g.stack })
    rw [← hs₂]
    exact hsteps
  · obtain ⟨e2, q2, q3, q4, q5, q6⟩ := id hsm
    have e3 : s₂ = ({ (U.calling g mk a).setFrames s₂.frames with heap := s₂.heap, slotsUsed := s₂.slotsUsed } : State).setVm s₂.vm := by
      have : s₂ = ({ s₂ with vm := (U.calling g mk a).vm } : State).setVm s₂.vm := rfl
      rw [e2] at this
      exact this
    have hf₂ : s₂.frames = .throwing q :: .java g :: U.frames.tail := hend
    have hW' : U.WarmedH s₂.vm := hW₂
    have hs₂ : s₂ = ((({ U with heap := s₂.heap, slotsUsed := s₂.slotsUsed } : State).setVm s₂.vm).setTop g).pushFrame (.throwing q) := by
      refine e3.trans ?_
      rw [hf₂, State.calling_eq h.top, State.setFrames_setFrames, State.pushFrame, State.frames_setTop _ hr', State.setTop_of_frames _ hr', State.setFrames_setFrames, hr]
      rfl
    have hsame : U.sameButNew ({ U with heap := s₂.heap, slotsUsed := s₂.slotsUsed } : State) L mc ms := by
      refine ⟨?_, q2, q3, q4, q5, q6⟩
      obtain ⟨t, ht, -⟩ := State.frames_cons hr
      show ({ U with heap := s₂.heap, slotsUsed := s₂.slotsUsed } : State) = { U.setFrames U.frames with heap := s₂.heap, slotsUsed := s₂.slotsUsed }
      rw [State.setFrames_self ht]
    subst hg
    refine Or.inr ⟨q, ⟨(({ U with heap := s₂.heap, slotsUsed := s₂.slotsUsed } : State).setVm s₂.vm), Ls ++ L, c0 + mc, s0 + ms⟩,
      ⟨X.admits, X.cas, X.clock, X.frames, X.room, X.hears, X.method, X.code, (X.here.setHeapUsed s₂.heap s₂.slotsUsed).setVm hW'.alike, X.tail, State.WarmedH.trans X.warmed hW', X.limits, X.bytes, X.same.trans (hsame.setVm s.vm)⟩,
      ⟨g, mk, s₂, L, E, ce, rfl, rfl, hx, hce, hcv, hcl, rfl, hL, rfl, rfl⟩, ?_⟩
    show Steps p.tables e below _ (((({ U with heap := s₂.heap, slotsUsed := s₂.slotsUsed } : State).setVm s₂.vm).setTop g).pushFrame (.throwing q))
    rw [← hs₂]
    exact hsteps
end
variable {p : Program} {l : Launch} {e : Env} {R : Room} {s : State} {m : MethodId} {args : Array Value} {below : List Frame} {meth : Method} {c : Code} {T : State} {H : Heap} {locs : List Loc} {cells slots : Nat}
theorem vx_callVX (X : Stand p l e R s m args below meth c T locs cells slots) (hexec : p.tables.exec = Jvm.exec) {own C : String} {index : Nat} {y : MethodName} {bytes : ByteArray} {maxL : Nat} {ret : Option FieldType} {hh : List (Nat × Nat × Nat × Nat)}
    (hown : s.vm.findClass own = some m.cls) (hlink : (Cond.methodLink own index y).before args s = true) (hinst : (Cond.instanceMethod y).before args s = true) (hsel : (Cond.selects C y y).before args s = true)
    (hcode : (Cond.codeWith y bytes maxL ret hh).before args s = true) (hy : y.cls ≠ "java/lang/invoke/MethodHandle" ∧ y.cls ≠ "java/lang/invoke/VarHandle")
    {W9 : Nat} {Pre : Pt → Array Value → Prop} {Post : Pt → Array Value → Option Value → Pt → Prop} {PostX : Pt → Array Value → Addr → Pt → Prop} (hK : vx_Back l R p e below s args y 3 W9 Pre Post PostX)
    {b : Addr} {cellB : Cell} (hcell : T.heap[b]? = some cellB) (hobj : cellB.vm.isStatics = false) (hcls : s.vm.findClass C = some cellB.cls)
    {g : JFrame} (hg : g.method = m) (hsize : g.locals.size = c.maxLocals) {argsL rest : List Value} (hlen : ∀ sig, parseMethodDescriptor y.desc = some sig → argsL.length = sig.parameters.length)
    (hstack : g.stack = argsL.reverse ++ .ref b :: rest) (hW : 2 * g.monitorRoom + (rest.map fun v => v.category).sum ≤ W9) (hdg : decode c.code g.pc = .ok (.invokevirtual index, 3))
    (hpre : ∀ vm₁, s.WarmedH vm₁ → Pre ⟨T.setVm vm₁, locs, cells, slots⟩ (Value.ref b :: argsL).toArray) :
    (∃ (v : Option Value) (vm₁ : Vm) (B : Pt), s.WarmedH vm₁ ∧ Stand p l e R s m args below meth c B.U B.locs B.cells B.slots ∧ Post ⟨T.setVm vm₁, locs, cells, slots⟩ (Value.ref b :: argsL).toArray v B ∧
      ∀ target, Steps p.tables e below (B.U.setTop { g with pc := g.pc + 3, stack := v.toList ++ rest }) target → Steps p.tables e below (T.setTop g) target) ∨
    (∃ (q : Addr) (vm₁ : Vm) (B : Pt), s.WarmedH vm₁ ∧ Stand p l e R s m args below meth c B.U B.locs B.cells B.slots ∧ PostX ⟨T.setVm vm₁, locs, cells, slots⟩ (Value.ref b :: argsL).toArray q B ∧
      Steps p.tables e below (T.setTop g) ((B.U.setTop { g with stack := rest }).pushFrame (.throwing q))) := by
  obtain ⟨mk, methM, hnamed, hmethM, hstM, habM⟩ := Cond.instanceMethod_spec hinst
  obtain ⟨m8, methM', cM, hn8, hmethM', -, -, -, -, -, -, hsigM⟩ := Cond.codeWith_spec hcode
  cases Option.some.inj (hn8.symm.trans hnamed)
  cases hmethM.symm.trans hmethM'
  obtain ⟨c2, r2, m2, q1, q2, q3, q4, kP, hkP, hkPi⟩ := Cond.selects_spec hsel
  cases hcls.symm.trans q1
  cases (State.methodFound?_of_named hnamed hy).symm.trans q2
  cases hnamed.symm.trans q3
  have hselP : selectMethod e.platform s.vm cellB.cls mk = .method mk := by rw [Launch.admits_selectMethod X.admits]; exact q4
  obtain ⟨vm₁, X₁, hstep₁⟩ := X.invokevirtual hexec hown hlink hnamed hmethM hstM hkP hkPi hy (a := b) (cell := cellB) hcell
    (fun z h => by rw [h] at hobj; cases hobj) hselP hmethM habM hkP hkPi (g := g) hg (argsL := argsL) (rest := rest) (hlen _ hsigM) hstack hdg
  rcases hK m meth c ⟨T.setVm vm₁, locs, cells, slots⟩ { g with stack := rest } (.invokevirtual index) mk (Value.ref b :: argsL).toArray X₁ hg hsize hdg hW (X₁.named hnamed) (hpre vm₁ X₁.warmed) with ⟨v, B, X', hpost, hsteps⟩ | ⟨q, B, X', hpost, hsteps⟩
  · exact Or.inl ⟨v, vm₁, B, X₁.warmed, X', hpost, fun target h => hstep₁ _ fun acts => by rw [doInvoke_state]; exact hsteps.trans h⟩
  · exact Or.inr ⟨q, vm₁, B, X₁.warmed, X', hpost, hstep₁ _ fun acts => by rw [doInvoke_state]; exact hsteps⟩
theorem vx_callSX (X : Stand p l e R s m args below meth c T locs cells slots) (hexec : p.tables.exec = Jvm.exec) {own : String} {index : Nat} {y : MethodName} {bytes : ByteArray} {maxL : Nat} {ret : Option FieldType} {hh : List (Nat × Nat × Nat × Nat)}
    (hown : s.vm.findClass own = some m.cls) (hlink : (Cond.methodLink own index y).before args s = true) (hstat : (Cond.static y).before args s = true) (hinit : (Cond.initialized y.cls).before args s = true)
    (hcode : (Cond.codeWith y bytes maxL ret hh).before args s = true) (hy : y.cls ≠ "java/lang/invoke/MethodHandle" ∧ y.cls ≠ "java/lang/invoke/VarHandle")
    {W9 : Nat} {Pre : Pt → Array Value → Prop} {Post : Pt → Array Value → Option Value → Pt → Prop} {PostX : Pt → Array Value → Addr → Pt → Prop} (hK : vx_Back l R p e below s args y 3 W9 Pre Post PostX)
    {g : JFrame} (hg : g.method = m) (hsize : g.locals.size = c.maxLocals) {argsL rest : List Value} (hlen : ∀ sig, parseMethodDescriptor y.desc = some sig → argsL.length = sig.parameters.length)
    (hstack : g.stack = argsL.reverse ++ rest) (hW : 2 * g.monitorRoom + (rest.map fun v => v.category).sum ≤ W9) (hdg : decode c.code g.pc = .ok (.invokestatic index, 3))
    (hpre : ∀ vm₁, s.WarmedH vm₁ → Pre ⟨T.setVm vm₁, locs, cells, slots⟩ argsL.toArray) :
    (∃ (v : Option Value) (vm₁ : Vm) (B : Pt), s.WarmedH vm₁ ∧ Stand p l e R s m args below meth c B.U B.locs B.cells B.slots ∧ Post ⟨T.setVm vm₁, locs, cells, slots⟩ argsL.toArray v B ∧
      ∀ target, Steps p.tables e below (B.U.setTop { g with pc := g.pc + 3, stack := v.toList ++ rest }) target → Steps p.tables e below (T.setTop g) target) ∨
    (∃ (q : Addr) (vm₁ : Vm) (B : Pt), s.WarmedH vm₁ ∧ Stand p l e R s m args below meth c B.U B.locs B.cells B.slots ∧ PostX ⟨T.setVm vm₁, locs, cells, slots⟩ argsL.toArray q B ∧
      Steps p.tables e below (T.setTop g) ((B.U.setTop { g with stack := rest }).pushFrame (.throwing q))) := by
  obtain ⟨mk, methM, cM, hnamed, hmethM, -, -, -, -, -, -, hsigM⟩ := Cond.codeWith_spec hcode
  have hstatic : methM.isStatic = true := Cond.static_spec hnamed hmethM hstat
  obtain ⟨kP, hkP, -⟩ := className_of_methodNamed hnamed
  have hinitP : kP.init = .initialized := Cond.initialized_spec (findClass_of_methodNamed hnamed) hkP hinit
  obtain ⟨vm₁, X₁, hstep₁⟩ := X.invokestatic hexec hown hlink hnamed hmethM hstatic hkP hinitP hy (g := g) hg (argsL := argsL) (rest := rest) (hlen _ hsigM) hstack hdg
  rcases hK m meth c ⟨T.setVm vm₁, locs, cells, slots⟩ { g with stack := rest } (.invokestatic index) mk argsL.toArray X₁ hg hsize hdg hW (X₁.named hnamed) (hpre vm₁ X₁.warmed) with ⟨v, B, X', hpost, hsteps⟩ | ⟨q, B, X', hpost, hsteps⟩
  · exact Or.inl ⟨v, vm₁, B, X₁.warmed, X', hpost, fun target h => hstep₁ _ fun acts => by rw [doInvoke_state]; exact hsteps.trans h⟩
  · exact Or.inr ⟨q, vm₁, B, X₁.warmed, X', hpost, hstep₁ _ fun acts => by rw [doInvoke_state]; exact hsteps⟩
theorem vx_callVW (X : Stand p l e R s m args below meth c T locs cells slots) (hexec : p.tables.exec = Jvm.exec) {own C : String} {index : Nat} {y : MethodName} {bytes : ByteArray} {maxL : Nat} {ret : Option FieldType} {hh : List (Nat × Nat × Nat × Nat)}
    (hown : s.vm.findClass own = some m.cls) (hlink : (Cond.methodLink own index y).before args s = true) (hinst : (Cond.instanceMethod y).before args s = true) (hsel : (Cond.selects C y y).before args s = true)
    (hcode : (Cond.codeWith y bytes maxL ret hh).before args s = true) (hy : y.cls ≠ "java/lang/invoke/MethodHandle" ∧ y.cls ≠ "java/lang/invoke/VarHandle")
    {W9 : Nat} {Pre : Pt → Array Value → Prop} {Post : Pt → Array Value → Option Value → Pt → Prop} (hK : Back l R p e below s args y 3 W9 Pre Post)
    {b : Addr} {cellB : Cell} (hcell : T.heap[b]? = some cellB) (hobj : cellB.vm.isStatics = false) (hcls : s.vm.findClass C = some cellB.cls)
    {g : JFrame} (hg : g.method = m) (hsize : g.locals.size = c.maxLocals) {argsL rest : List Value} (hlen : ∀ sig, parseMethodDescriptor y.desc = some sig → argsL.length = sig.parameters.length)
    (hstack : g.stack = argsL.reverse ++ .ref b :: rest) (hW : 2 * g.monitorRoom + (rest.map fun v => v.category).sum ≤ W9) (hdg : decode c.code g.pc = .ok (.invokevirtual index, 3))
    (hpre : ∀ vm₁, s.WarmedH vm₁ → Pre ⟨T.setVm vm₁, locs, cells, slots⟩ (Value.ref b :: argsL).toArray) :
    ∃ (v : Option Value) (vm₁ : Vm) (B : Pt), s.WarmedH vm₁ ∧ Stand p l e R s m args below meth c B.U B.locs B.cells B.slots ∧ Post ⟨T.setVm vm₁, locs, cells, slots⟩ (Value.ref b :: argsL).toArray v B ∧
      ∀ target, Steps p.tables e below (B.U.setTop { g with pc := g.pc + 3, stack := v.toList ++ rest }) target → Steps p.tables e below (T.setTop g) target := by
  obtain ⟨mk, methM, hnamed, hmethM, hstM, habM⟩ := Cond.instanceMethod_spec hinst
  obtain ⟨m8, methM', cM, hn8, hmethM', -, -, -, -, -, -, hsigM⟩ := Cond.codeWith_spec hcode
  cases Option.some.inj (hn8.symm.trans hnamed)
  cases hmethM.symm.trans hmethM'
  obtain ⟨c2, r2, m2, q1, q2, q3, q4, kP, hkP, hkPi⟩ := Cond.selects_spec hsel
  cases hcls.symm.trans q1
  cases (State.methodFound?_of_named hnamed hy).symm.trans q2
  cases hnamed.symm.trans q3
  have hselP : selectMethod e.platform s.vm cellB.cls mk = .method mk := by rw [Launch.admits_selectMethod X.admits]; exact q4
  obtain ⟨vm₁, X₁, hstep₁⟩ := X.invokevirtual hexec hown hlink hnamed hmethM hstM hkP hkPi hy (a := b) (cell := cellB) hcell
    (fun z h => by rw [h] at hobj; cases hobj) hselP hmethM habM hkP hkPi (g := g) hg (argsL := argsL) (rest := rest) (hlen _ hsigM) hstack hdg
  obtain ⟨v, B, X', hpost, hsteps⟩ := hK m meth c ⟨T.setVm vm₁, locs, cells, slots⟩ { g with stack := rest } (.invokevirtual index) mk (Value.ref b :: argsL).toArray X₁ hg hsize hdg hW (X₁.named hnamed) (hpre vm₁ X₁.warmed)
  exact ⟨v, vm₁, B, X₁.warmed, X', hpost, fun target h => hstep₁ _ fun acts => by rw [doInvoke_state]; exact hsteps.trans h⟩
abbrev vx_CVW (R : Room) (s : State) (args : Array Value) (own C : String) (index : Nat) (y : MethodName) (bytes : ByteArray) (maxL : Nat) (ret : Option FieldType) (hh : List (Nat × Nat × Nat × Nat)) (ws : List Cond) (rm : Room) (mc ms n : Nat) : Prop :=
  (rm.cells = mc ∧ rm.slots = ms ∧ rm.frames + 1 ≤ R.frames ∧ 8 + (maxL + 11) + rm.locals ≤ R.locals ∧ (∀ w ∈ ws, ∀ (a' : Array Value) (U : State), s.WarmedH U.vm → w.before a' U = true) ∧ Cond.codeWith y bytes maxL ret hh ∈ ws) ∧
  (Cond.codeWith y bytes maxL ret hh).before args s = true ∧ (Cond.initialized y.cls).before args s = true ∧ (y.cls ≠ "java/lang/invoke/MethodHandle" ∧ y.cls ≠ "java/lang/invoke/VarHandle") ∧
  (∀ sig, parseMethodDescriptor y.desc = some sig → n = sig.parameters.length) ∧ (Cond.methodLink own index y).before args s = true ∧ (Cond.instanceMethod y).before args s = true ∧ (Cond.selects C y y).before args s = true
theorem vx_cwVW {own C : String} {index maxL mc ms : Nat} {y : MethodName} {bytes : ByteArray} {ret : Option FieldType} {hh : List (Nat × Nat × Nat × Nat)} {Ts ws ws' : List Cond} {rm : Room} (n : Nat) (ht : ∀ w ∈ Ts, w.before args s = true) (hT : GoodIn Ts (wsV own index C y ws)) (hw : ws = Cond.codeWith y bytes maxL ret hh :: ws') (hrc : rm.cells = mc) (hrs : rm.slots = ms)
    (hd : y.cls = C ∧ y.cls ≠ "java/lang/invoke/MethodHandle" ∧ y.cls ≠ "java/lang/invoke/VarHandle" ∧ (parseMethodDescriptor y.desc).map (fun d => d.parameters.length) = some n) (hR : rm.frames + 1 ≤ R.frames ∧ 8 + (maxL + 11) + rm.locals ≤ R.locals) :
    vx_CVW R s args own C index y bytes maxL ret hh ws rm mc ms n := by
  obtain ⟨hC, hd⟩ := hd
  subst hC
  have ok : ∀ w ∈ wsV own index y.cls y ws, w.before args s = true := fun w h => ht w (hT w h).1
  have hG : GoodIn Ts ws := fun w h => hT w (by unfold wsV; exact List.mem_append_right _ h)
  have hc : Cond.codeWith y bytes maxL ret hh ∈ ws := by rw [hw]; exact List.mem_cons_self
  refine ⟨⟨hrc, hrs, hR.1, hR.2, pay_in ht hG, hc⟩, ht _ (hG _ hc).1, ok _ (by simp [wsV]), ⟨hd.1, hd.2.1⟩, fun sig h => ?_, ok _ (by simp [wsV]), ok _ (by simp [wsV]), ok _ (by simp [wsV])⟩
  have h2 := hd.2.2
  rw [h] at h2
  exact (Option.some.inj h2).symm
theorem vx_runVW {y : MethodName} {bytes cc : ByteArray} {maxL nL mc ms n index : Nat} {ret : Option FieldType} {hh : List (Nat × Nat × Nat × Nat)} {ws : List Cond} {rm : Room} {Pc : Array Value → State → Prop} {Qc : Array Value → State → Outcome → State → Prop} {free : Addr → Prop} {Ts : List Cond} {own C : String} {b : Addr} {As rest : List Value} {g : JFrame}
    (S : CallFix p m c cc nL s args Ts own) (hM : Met l y ws rm Pc Qc mc ms free) (cw : vx_CVW R s args own C index y bytes maxL ret hh ws rm mc ms n) (hp : PreV s H C b Pc As)
    (hg : g.method = m) (hn : As.length = n) (hsize : g.locals.size = nL) (hstack : g.stack = As.reverse ++ .ref b :: rest) (hW : 2 * g.monitorRoom + (rest.map fun v => v.category).sum ≤ 8) (hdg : decode cc g.pc = .ok (.invokevirtual index, 3)) (hf : cells + mc ≤ R.cells ∧ slots + ms ≤ R.slots) :
    va_Run p l e R s m args below meth c H locs cells slots mc ms g rest (Qc (Value.ref b :: As).toArray) free := by
  obtain ⟨⟨hrc, hrs, hfr, hlo, hws, hcw⟩, hcode, hini, hy, hlen, hl, hin, hse⟩ := cw
  have hK : Back l R p e below s args y 3 8 (PreOf R mc ms Pc) (PostOf Qc mc ms free) := va_backW (hh := hh) (bytes := bytes) (maxL := maxL) (ret := ret) hM hp.1 hrc hrs hfr hlo hws hcw (fun a' U hW => word_at hW (Or.inl (by first | rfl | simp [Cond.onTables, Cond.keeps, Cond.steady])) hini)
  obtain ⟨hx, hb, hml, ho, -⟩ := S
  obtain ⟨-, ⟨cellB, hcB, hoB, hclB⟩, hPc⟩ := hp
  intro T hT X
  obtain ⟨v, vm₁, ⟨U', l2, c2, s2⟩, hW₁, X', ⟨g', mk, t, L, e1, e2, hq, h1, hL, h2, h3⟩, st⟩ := vx_callVW X hx (C := C) (hh := hh) (bytes := bytes) (maxL := maxL) (ret := ret) ho hl hin hse hcode hy hK (by rw [hT]; exact hcB) hoB hclB hg (hsize.trans hml.symm) (argsL := As) (rest := rest) (fun sig h => hn.trans (hlen sig h)) hstack hW (by rw [hb]; exact hdg)
    (fun vm₁ hW₁ => ⟨hf.1, hf.2, hPc (T.setVm vm₁) hT hW₁⟩)
  dsimp only [Pt.U, Pt.locs, Pt.cells, Pt.slots] at X' e1 e2 h1 h2 h3 st
  subst h1; subst h2; subst h3
  exact ⟨v, (T.setVm vm₁).calling g' mk (Value.ref b :: As).toArray, t, U', L, hT, X', hL, e1, e2, hq, st⟩
section
variable {y : MethodName} {bytes cc : ByteArray} {maxL nL mc ms n index : Nat} {ret : Option FieldType} {ws : List Cond} {rm : Room} {Pc : Array Value → State → Prop} {Qc : Array Value → State → Outcome → State → Prop} {XC : String → State → State → Prop} {free : Addr → Prop} {Ts : List Cond} {own C : String} {b : Addr} {As rest : List Value} {g : JFrame}
theorem vx_runVX {hh : List (Nat × Nat × Nat × Nat)} (S : CallFix p m c cc nL s args Ts own) (hM : vx_Met l y ws rm Pc Qc XC mc ms free) (cw : vx_CVW R s args own C index y bytes maxL ret hh ws rm mc ms n) (hp : PreV s H C b Pc As)
    (hg : g.method = m) (hn : As.length = n) (hsize : g.locals.size = nL) (hstack : g.stack = As.reverse ++ .ref b :: rest) (hW : 2 * g.monitorRoom + (rest.map fun v => v.category).sum ≤ 8) (hdg : decode cc g.pc = .ok (.invokevirtual index, 3)) (hf : cells + mc ≤ R.cells ∧ slots + ms ≤ R.slots) :
    vx_Run p l e R s m args below meth c H locs cells slots mc ms g rest (Qc (Value.ref b :: As).toArray) XC free := by
  obtain ⟨⟨hrc, hrs, hfr, hlo, hws, hcw⟩, hcode, hini, hy, hlen, hl, hin, hse⟩ := cw
  have hK : vx_Back l R p e below s args y 3 8 (PreOf R mc ms Pc) (PostOf Qc mc ms free) (vx_Post XC mc ms free) := vx_backW (hh := hh) (bytes := bytes) (maxL := maxL) (ret := ret) hM hp.1 hrc hrs hfr hlo hws hcw (fun a' U hW => word_at hW (Or.inl (by first | rfl | simp [Cond.onTables, Cond.keeps, Cond.steady])) hini)
  obtain ⟨hx, hb, hml, ho, -⟩ := S
  obtain ⟨-, ⟨cellB, hcB, hoB, hclB⟩, hPc⟩ := hp
  intro T hT X
  rcases vx_callVX X hx (C := C) (hh := hh) (bytes := bytes) (maxL := maxL) (ret := ret) ho hl hin hse hcode hy hK (by rw [hT]; exact hcB) hoB hclB hg (hsize.trans hml.symm) (argsL := As) (rest := rest) (fun sig h => hn.trans (hlen sig h)) hstack hW (by rw [hb]; exact hdg)
    (fun vm₁ hW₁ => ⟨hf.1, hf.2, hPc (T.setVm vm₁) hT hW₁⟩) with ⟨v, vm₁, ⟨U', l2, c2, s2⟩, hW₁, X', ⟨g', mk, t, L, e1, e2, hq, h1, hL, h2, h3⟩, st⟩ | ⟨q, vm₁, ⟨U', l2, c2, s2⟩, hW₁, X', ⟨g', mk, t, L, E, ce, e1, e2, hq, hce, hcv, hcl, h1, hL, h2, h3⟩, st⟩
  · dsimp only [Pt.U, Pt.locs, Pt.cells, Pt.slots] at X' e1 e2 h1 h2 h3 st
    subst h1; subst h2; subst h3
    exact Or.inl ⟨v, (T.setVm vm₁).calling g' mk (Value.ref b :: As).toArray, t, U', L, hT, X', hL, e1, e2, hq, st⟩
  · dsimp only [Pt.U, Pt.locs, Pt.cells, Pt.slots] at X' e1 e2 h1 h2 h3 st hcl
    subst h1; subst h2; subst h3
    exact Or.inr ⟨q, (T.setVm vm₁).calling g' mk (Value.ref b :: As).toArray, t, U', L, E, ce, hT, X', hL, e1, e2, hq, hce, hcv, vx_cls hW₁ hcl, st⟩
theorem vx_runSX {hh : List (Nat × Nat × Nat × Nat)} (S : CallFix p m c cc nL s args Ts own) (hM : vx_Met l y ws rm Pc Qc XC mc ms free) (cw : vx_CSW R s args own index y bytes maxL ret hh ws rm mc ms n) (hp : PreS s H Pc As)
    (hg : g.method = m) (hn : As.length = n) (hsize : g.locals.size = nL) (hstack : g.stack = As.reverse ++ rest) (hW : 2 * g.monitorRoom + (rest.map fun v => v.category).sum ≤ 8) (hdg : decode cc g.pc = .ok (.invokestatic index, 3)) (hf : cells + mc ≤ R.cells ∧ slots + ms ≤ R.slots) :
    vx_Run p l e R s m args below meth c H locs cells slots mc ms g rest (Qc As.toArray) XC free := by
  obtain ⟨⟨hrc, hrs, hfr, hlo, hws, hcw⟩, hcode, hini, hy, hlen, hl, hstt⟩ := cw
  have hK : vx_Back l R p e below s args y 3 8 (PreOf R mc ms Pc) (PostOf Qc mc ms free) (vx_Post XC mc ms free) := vx_backW (hh := hh) (bytes := bytes) (maxL := maxL) (ret := ret) hM hp.1 hrc hrs hfr hlo hws hcw (fun a' U hW => word_at hW (Or.inl (by first | rfl | simp [Cond.onTables, Cond.keeps, Cond.steady])) hini)
  obtain ⟨hx, hb, hml, ho, -⟩ := S
  intro T hT X
  rcases vx_callSX X hx (hh := hh) (bytes := bytes) (maxL := maxL) (ret := ret) ho hl hstt hini hcode hy hK hg (hsize.trans hml.symm) (argsL := As) (rest := rest) (fun sig h => hn.trans (hlen sig h)) hstack hW (by rw [hb]; exact hdg)
    (fun vm₁ hW₁ => ⟨hf.1, hf.2, hp.2 (T.setVm vm₁) hT hW₁⟩) with ⟨v, vm₁, ⟨U', l2, c2, s2⟩, hW₁, X', ⟨g', mk, t, L, e1, e2, hq, h1, hL, h2, h3⟩, st⟩ | ⟨q, vm₁, ⟨U', l2, c2, s2⟩, hW₁, X', ⟨g', mk, t, L, E, ce, e1, e2, hq, hce, hcv, hcl, h1, hL, h2, h3⟩, st⟩
  · dsimp only [Pt.U, Pt.locs, Pt.cells, Pt.slots] at X' e1 e2 h1 h2 h3 st
    subst h1; subst h2; subst h3
    exact Or.inl ⟨v, (T.setVm vm₁).calling g' mk As.toArray, t, U', L, hT, X', hL, e1, e2, hq, st⟩
  · dsimp only [Pt.U, Pt.locs, Pt.cells, Pt.slots] at X' e1 e2 h1 h2 h3 st hcl
    subst h1; subst h2; subst h3
    exact Or.inr ⟨q, (T.setVm vm₁).calling g' mk As.toArray, t, U', L, E, ce, hT, X', hL, e1, e2, hq, hce, hcv, vx_cls hW₁ hcl, st⟩
end
end VXH
theorem vx_ofWH {l : Launch} {y : MethodName} {ws ws' : List Cond} {rm : Room} {Pc : Array Value → State → Prop} {Qc : Array Value → State → Outcome → State → Prop} {XC : String → State → State → Prop} {mc ms : Nat} {free : Addr → Prop} {cc : ByteArray} {maxL : Nat} {ret : Option FieldType} {hh : List (Nat × Nat × Nat × Nat)}
    (hy : plainName y.cls = true) (hw : ws = Cond.codeWith y cc maxL ret hh :: ws')
    (body : ∀ p e s m args below meth c s₁, BodyLoose p l y (headSpec ws rm) cc maxL ret e s m args below meth c s₁ → c.maxLocals = maxL → Pc args s →
      W p l e (headSpec ws rm).room s m args below meth c s.heap [] 0 0 (vx_MQ below Qc XC args s mc ms free) (entryFrame m args maxL)) : vx_Met l y ws rm Pc Qc XC mc ms free := by
  refine MetFree.of_bodyS (code := cc) (maxLocals := maxL) (ret := ret) hy ?_ ?_
  · intro args s m h hn
    obtain ⟨m9, meth, c, hn9, h1, h2, h3, h4, -, h5, h6, -⟩ := Cond.codeWith_spec (atoms_spec (ws := ws) h _ (by rw [hw]; exact List.mem_cons_self))
    cases hn.symm.trans hn9
    exact ⟨meth, c, h1, h2, h3, h4, h5, h6⟩
  · intro p e s m args below meth c s₁ B hml hP _
    have hh0 : s₁.heap = s.heap := by rw [B.state]; rfl
    obtain ⟨t, a1, o, b1, b2, b3⟩ := body p e s m args below meth c s₁ B hml hP s₁ hh0 (Stand.of_body B)
    exact ⟨t, o, a1, b1, b2, b3⟩
/-! ===== END ===== -/
end
section
/-! ===== BEGIN printed: names, fields, word lists, decode rows ===== -/
def RX0 : String := "MatchCompile$Cases"
def TX0 : u_T := fun k => match k with
  | 0 => ("MatchCompile$Cases", "kinds", "LMatchCompile$Kinds;", true)
  | 1 => ("MatchCompile$Cases", "tree", "LMatchCompile$Tree;", true)
  | 2 => ("MatchCompile$Cases", "signs", "[I", true)
  | 3 => ("MatchCompile$Cases", "count", "I", false)
  | _ => ("MatchCompile$Cases", "shown", "I", false)
def tyX0 : Nat → FieldType := fun k => match k with
  | 0 => .object "MatchCompile$Kinds"
  | 1 => .object "MatchCompile$Tree"
  | 2 => .array .int
  | 3 => .int
  | _ => .int
abbrev wsX00 : List Cond := u_ws RX0 TX0 5
theorem nmX0 : ∀ a, a < 5 → ∀ b, b < 5 → a ≠ b → (TX0 a).2.1 ≠ (TX0 b).2.1 := by decide +kernel
theorem tyX0_ok : ∀ k, k < 5 → parseFieldDescriptor (TX0 k).2.2.1 = some (tyX0 k) := by decide +kernel
abbrev cX0_init : ByteArray := prog_2_method_1_code
def yX0_init : MethodName := ⟨RX0, "<init>", "(LMatchCompile$Kinds;LMatchCompile$Tree;)V"⟩
abbrev cX0_forget : ByteArray := prog_2_method_2_code
def yX0_forget : MethodName := ⟨RX0, "forget", "()V"⟩
abbrev cX0_shown : ByteArray := prog_2_method_3_code
def yX0_shown : MethodName := ⟨RX0, "shown", "()I"⟩
abbrev cX0_show : ByteArray := prog_2_method_4_code
def yX0_show : MethodName := ⟨RX0, "show", "(II)V"⟩
abbrev cX0_signAt : ByteArray := prog_2_method_5_code
def yX0_signAt : MethodName := ⟨RX0, "signAt", "(I)I"⟩
abbrev cX0_putFound : ByteArray := prog_2_method_6_code
def yX0_putFound : MethodName := ⟨RX0, "putFound", "(II)V"⟩
abbrev cX0_anyOf : ByteArray := prog_2_method_7_code
def yX0_anyOf : MethodName := ⟨RX0, "anyOf", "(I)I"⟩
def RX1 : String := "MatchCompile$Hand"
def TX1 : u_T := fun k => match k with
  | 0 => ("MatchCompile$Hand", "kinds", "LMatchCompile$Kinds;", true)
  | 1 => ("MatchCompile$Hand", "signs", "[I", true)
  | 2 => ("MatchCompile$Hand", "ends", "[I", true)
  | 3 => ("MatchCompile$Hand", "asked", "[I", true)
  | 4 => ("MatchCompile$Hand", "count", "I", false)
  | _ => ("MatchCompile$Hand", "askedCount", "I", false)
def tyX1 : Nat → FieldType := fun k => match k with
  | 0 => .object "MatchCompile$Kinds"
  | 1 => .array .int
  | 2 => .array .int
  | 3 => .array .int
  | 4 => .int
  | _ => .int
abbrev wsX10 : List Cond := u_ws RX1 TX1 6
theorem nmX1 : ∀ a, a < 6 → ∀ b, b < 6 → a ≠ b → (TX1 a).2.1 ≠ (TX1 b).2.1 := by decide +kernel
theorem tyX1_ok : ∀ k, k < 6 → parseFieldDescriptor (TX1 k).2.2.1 = some (tyX1 k) := by decide +kernel
abbrev cX1_init : ByteArray := prog_3_method_1_code
def yX1_init : MethodName := ⟨RX1, "<init>", "(ILMatchCompile$Kinds;)V"⟩
abbrev cX1_begin : ByteArray := prog_3_method_2_code
def yX1_begin : MethodName := ⟨RX1, "begin", "([II)V"⟩
abbrev cX1_count : ByteArray := prog_3_method_3_code
def yX1_count : MethodName := ⟨RX1, "count", "()I"⟩
abbrev cX1_isFull : ByteArray := prog_3_method_4_code
def yX1_isFull : MethodName := ⟨RX1, "isFull", "()Z"⟩
abbrev cX1_asks : ByteArray := prog_3_method_5_code
def yX1_asks : MethodName := ⟨RX1, "asks", "()Z"⟩
abbrev cX1_takesMaker : ByteArray := prog_3_method_6_code
def yX1_takesMaker : MethodName := ⟨RX1, "takesMaker", "(I)Z"⟩
abbrev cX1_put : ByteArray := prog_3_method_7_code
def yX1_put : MethodName := ⟨RX1, "put", "(I)I"⟩
abbrev cX1_signAt : ByteArray := prog_3_method_8_code
def yX1_signAt : MethodName := ⟨RX1, "signAt", "(I)I"⟩
abbrev cX1_endAt : ByteArray := prog_3_method_9_code
def yX1_endAt : MethodName := ⟨RX1, "endAt", "(I)I"⟩
abbrev cX1_findEnds : ByteArray := prog_3_method_10_code
def yX1_findEnds : MethodName := ⟨RX1, "findEnds", "()V"⟩
abbrev cX1_nextAsked : ByteArray := prog_3_method_11_code
def yX1_nextAsked : MethodName := ⟨RX1, "nextAsked", "()I"⟩
abbrev cX1_ask : ByteArray := prog_3_method_12_code
def yX1_ask : MethodName := ⟨RX1, "ask", "(I)V"⟩
def RX2 : String := "MatchCompile$Kinds"
def TX2 : u_T := fun k => match k with
  | 0 => ("MatchCompile$Kinds", "typeCount", "I", false)
  | 1 => ("MatchCompile$Kinds", "makerCount", "I", false)
  | 2 => ("MatchCompile$Kinds", "makersOfType", "[I", true)
  | 3 => ("MatchCompile$Kinds", "valued", "[Z", true)
  | 4 => ("MatchCompile$Kinds", "typeOfMaker", "[I", true)
  | 5 => ("MatchCompile$Kinds", "fieldCounts", "[I", true)
  | _ => ("MatchCompile$Kinds", "fieldTypes", "[I", true)
def tyX2 : Nat → FieldType := fun k => match k with
  | 0 => .int
  | 1 => .int
  | 2 => .array .int
  | 3 => .array .boolean
  | 4 => .array .int
  | 5 => .array .int
  | _ => .array .int
abbrev wsX20 : List Cond := u_ws RX2 TX2 7
theorem nmX2 : ∀ a, a < 7 → ∀ b, b < 7 → a ≠ b → (TX2 a).2.1 ≠ (TX2 b).2.1 := by decide +kernel
theorem tyX2_ok : ∀ k, k < 7 → parseFieldDescriptor (TX2 k).2.2.1 = some (tyX2 k) := by decide +kernel
abbrev cX2_init : ByteArray := prog_4_method_1_code
def yX2_init : MethodName := ⟨RX2, "<init>", "()V"⟩
abbrev cX2_typeCount : ByteArray := prog_4_method_2_code
def yX2_typeCount : MethodName := ⟨RX2, "typeCount", "()I"⟩
abbrev cX2_makerCount : ByteArray := prog_4_method_3_code
def yX2_makerCount : MethodName := ⟨RX2, "makerCount", "()I"⟩
abbrev cX2_hasType : ByteArray := prog_4_method_4_code
def yX2_hasType : MethodName := ⟨RX2, "hasType", "(I)Z"⟩
abbrev cX2_hasMaker : ByteArray := prog_4_method_5_code
def yX2_hasMaker : MethodName := ⟨RX2, "hasMaker", "(I)Z"⟩
abbrev cX2_hasRoomForMaker : ByteArray := prog_4_method_6_code
def yX2_hasRoomForMaker : MethodName := ⟨RX2, "hasRoomForMaker", "(I)Z"⟩
abbrev cX2_hasValue : ByteArray := prog_4_method_7_code
def yX2_hasValue : MethodName := ⟨RX2, "hasValue", "(I)Z"⟩
abbrev cX2_typeOf : ByteArray := prog_4_method_8_code
def yX2_typeOf : MethodName := ⟨RX2, "typeOf", "(I)I"⟩
abbrev cX2_fieldCount : ByteArray := prog_4_method_9_code
def yX2_fieldCount : MethodName := ⟨RX2, "fieldCount", "(I)I"⟩
abbrev cX2_fieldType : ByteArray := prog_4_method_10_code
def yX2_fieldType : MethodName := ⟨RX2, "fieldType", "(II)I"⟩
abbrev cX2_isDead : ByteArray := prog_4_method_11_code
def yX2_isDead : MethodName := ⟨RX2, "isDead", "(I)Z"⟩
abbrev cX2_addType : ByteArray := prog_4_method_12_code
def yX2_addType : MethodName := ⟨RX2, "addType", "()I"⟩
abbrev cX2_addMaker : ByteArray := prog_4_method_13_code
def yX2_addMaker : MethodName := ⟨RX2, "addMaker", "(IIIII)I"⟩
abbrev cX2_findValued : ByteArray := prog_4_method_14_code
def yX2_findValued : MethodName := ⟨RX2, "findValued", "()V"⟩
def RX3 : String := "MatchCompile$Rows"
def TX3 : u_T := fun k => match k with
  | 0 => ("MatchCompile$Rows", "signs", "[I", true)
  | 1 => ("MatchCompile$Rows", "ends", "[I", true)
  | _ => ("MatchCompile$Rows", "count", "I", false)
def tyX3 : Nat → FieldType := fun k => match k with
  | 0 => .array .int
  | 1 => .array .int
  | _ => .int
abbrev wsX30 : List Cond := u_ws RX3 TX3 3
theorem nmX3 : ∀ a, a < 3 → ∀ b, b < 3 → a ≠ b → (TX3 a).2.1 ≠ (TX3 b).2.1 := by decide +kernel
theorem tyX3_ok : ∀ k, k < 3 → parseFieldDescriptor (TX3 k).2.2.1 = some (tyX3 k) := by decide +kernel
abbrev cX3_init : ByteArray := prog_5_method_1_code
def yX3_init : MethodName := ⟨RX3, "<init>", "()V"⟩
abbrev cX3_clear : ByteArray := prog_5_method_2_code
def yX3_clear : MethodName := ⟨RX3, "clear", "()V"⟩
abbrev cX3_count : ByteArray := prog_5_method_3_code
def yX3_count : MethodName := ⟨RX3, "count", "()I"⟩
abbrev cX3_add : ByteArray := prog_5_method_4_code
def yX3_add : MethodName := ⟨RX3, "add", "(LMatchCompile$Hand;)I"⟩
abbrev cX3_startOf : ByteArray := prog_5_method_5_code
def yX3_startOf : MethodName := ⟨RX3, "startOf", "(I)I"⟩
abbrev cX3_signAt : ByteArray := prog_5_method_6_code
def yX3_signAt : MethodName := ⟨RX3, "signAt", "(I)I"⟩
abbrev cX3_endAt : ByteArray := prog_5_method_7_code
def yX3_endAt : MethodName := ⟨RX3, "endAt", "(I)I"⟩
def RX4 : String := "MatchCompile$Seats"
def TX4 : u_T := fun k => match k with
  | 0 => ("MatchCompile$Seats", "kinds", "LMatchCompile$Kinds;", true)
  | 1 => ("MatchCompile$Seats", "values", "LMatchCompile$Hand;", true)
  | 2 => ("MatchCompile$Seats", "seats", "[I", true)
  | _ => ("MatchCompile$Seats", "count", "I", false)
def tyX4 : Nat → FieldType := fun k => match k with
  | 0 => .object "MatchCompile$Kinds"
  | 1 => .object "MatchCompile$Hand"
  | 2 => .array .int
  | _ => .int
abbrev wsX40 : List Cond := u_ws RX4 TX4 4
theorem nmX4 : ∀ a, a < 4 → ∀ b, b < 4 → a ≠ b → (TX4 a).2.1 ≠ (TX4 b).2.1 := by decide +kernel
theorem tyX4_ok : ∀ k, k < 4 → parseFieldDescriptor (TX4 k).2.2.1 = some (tyX4 k) := by decide +kernel
abbrev cX4_init : ByteArray := prog_6_method_1_code
def yX4_init : MethodName := ⟨RX4, "<init>", "(LMatchCompile$Kinds;LMatchCompile$Hand;)V"⟩
abbrev cX4_begin : ByteArray := prog_6_method_2_code
def yX4_begin : MethodName := ⟨RX4, "begin", "(I)V"⟩
abbrev cX4_makerAt : ByteArray := prog_6_method_3_code
def yX4_makerAt : MethodName := ⟨RX4, "makerAt", "(I)I"⟩
abbrev cX4_openUp : ByteArray := prog_6_method_4_code
def yX4_openUp : MethodName := ⟨RX4, "openUp", "(II)V"⟩
abbrev cX4_makeGap : ByteArray := prog_6_method_5_code
def yX4_makeGap : MethodName := ⟨RX4, "makeGap", "(II)V"⟩
abbrev cX4_isSeat : ByteArray := prog_6_method_6_code
def yX4_isSeat : MethodName := ⟨RX4, "isSeat", "(I)Z"⟩
def RX5 : String := "MatchCompile$Tables"
def TX5 : u_T := fun k => match k with
  | 0 => ("MatchCompile$Tables", "kinds", "LMatchCompile$Kinds;", true)
  | 1 => ("MatchCompile$Tables", "rows", "LMatchCompile$Rows;", true)
  | 2 => ("MatchCompile$Tables", "room", "[I", false)
  | 3 => ("MatchCompile$Tables", "top", "I", false)
  | 4 => ("MatchCompile$Tables", "places", "I", false)
  | _ => ("MatchCompile$Tables", "lines", "I", false)
def tyX5 : Nat → FieldType := fun k => match k with
  | 0 => .object "MatchCompile$Kinds"
  | 1 => .object "MatchCompile$Rows"
  | 2 => .array .int
  | 3 => .int
  | 4 => .int
  | _ => .int
abbrev wsX50 : List Cond := u_ws RX5 TX5 6
theorem nmX5 : ∀ a, a < 6 → ∀ b, b < 6 → a ≠ b → (TX5 a).2.1 ≠ (TX5 b).2.1 := by decide +kernel
theorem tyX5_ok : ∀ k, k < 6 → parseFieldDescriptor (TX5 k).2.2.1 = some (tyX5 k) := by decide +kernel
abbrev cX5_init : ByteArray := prog_7_method_1_code
def yX5_init : MethodName := ⟨RX5, "<init>", "(LMatchCompile$Kinds;LMatchCompile$Rows;)V"⟩
abbrev cX5_begin : ByteArray := prog_7_method_2_code
def yX5_begin : MethodName := ⟨RX5, "begin", "([II)V"⟩
abbrev cX5_hasOpen : ByteArray := prog_7_method_3_code
def yX5_hasOpen : MethodName := ⟨RX5, "hasOpen", "()Z"⟩
abbrev cX5_drop : ByteArray := prog_7_method_4_code
def yX5_drop : MethodName := ⟨RX5, "drop", "()V"⟩
abbrev cX5_placeCount : ByteArray := prog_7_method_5_code
def yX5_placeCount : MethodName := ⟨RX5, "placeCount", "()I"⟩
abbrev cX5_lineCount : ByteArray := prog_7_method_6_code
def yX5_lineCount : MethodName := ⟨RX5, "lineCount", "()I"⟩
abbrev cX5_openNode : ByteArray := prog_7_method_7_code
def yX5_openNode : MethodName := ⟨RX5, "openNode", "()I"⟩
abbrev cX5_typeAt : ByteArray := prog_7_method_8_code
def yX5_typeAt : MethodName := ⟨RX5, "typeAt", "(I)I"⟩
abbrev cX5_firstRow : ByteArray := prog_7_method_9_code
def yX5_firstRow : MethodName := ⟨RX5, "firstRow", "()I"⟩
abbrev cX5_splitEithers : ByteArray := prog_7_method_10_code
def yX5_splitEithers : MethodName := ⟨RX5, "splitEithers", "()Z"⟩
abbrev cX5_firstTested : ByteArray := prog_7_method_11_code
def yX5_firstTested : MethodName := ⟨RX5, "firstTested", "()I"⟩
abbrev cX5_keepFor : ByteArray := prog_7_method_12_code
def yX5_keepFor : MethodName := ⟨RX5, "keepFor", "(II)V"⟩
abbrev cX5_nextBranch : ByteArray := prog_7_method_13_code
def yX5_nextBranch : MethodName := ⟨RX5, "nextBranch", "()I"⟩
abbrev cX5_openBranch : ByteArray := prog_7_method_14_code
def yX5_openBranch : MethodName := ⟨RX5, "openBranch", "(II)Z"⟩
abbrev cX5_pile : ByteArray := prog_7_method_15_code
def yX5_pile : MethodName := ⟨RX5, "pile", "(II)V"⟩
abbrev cX5_addLine : ByteArray := prog_7_method_16_code
def yX5_addLine : MethodName := ⟨RX5, "addLine", "(I)I"⟩
abbrev cX5_splitAt : ByteArray := prog_7_method_17_code
def yX5_splitAt : MethodName := ⟨RX5, "splitAt", "(II)Z"⟩
abbrev cX5_isEither : ByteArray := prog_7_method_18_code
def yX5_isEither : MethodName := ⟨RX5, "isEither", "(I)Z"⟩
abbrev cX5_doubleLine : ByteArray := prog_7_method_19_code
def yX5_doubleLine : MethodName := ⟨RX5, "doubleLine", "(I)V"⟩
abbrev cX5_copyAround : ByteArray := prog_7_method_20_code
def yX5_copyAround : MethodName := ⟨RX5, "copyAround", "(IIIII)V"⟩
abbrev cX5_putFields : ByteArray := prog_7_method_21_code
def yX5_putFields : MethodName := ⟨RX5, "putFields", "(III)V"⟩
abbrev cX5_cellOf : ByteArray := prog_7_method_22_code
def yX5_cellOf : MethodName := ⟨RX5, "cellOf", "(I)I"⟩
abbrev cX5_lineAt : ByteArray := prog_7_method_23_code
def yX5_lineAt : MethodName := ⟨RX5, "lineAt", "(I)I"⟩
abbrev cX5_head : ByteArray := prog_7_method_24_code
def yX5_head : MethodName := ⟨RX5, "head", "(I)I"⟩
abbrev cX5_get : ByteArray := prog_7_method_25_code
def yX5_get : MethodName := ⟨RX5, "get", "(I)I"⟩
abbrev cX5_set : ByteArray := prog_7_method_26_code
def yX5_set : MethodName := ⟨RX5, "set", "(II)V"⟩
abbrev cX5_copy : ByteArray := prog_7_method_27_code
def yX5_copy : MethodName := ⟨RX5, "copy", "(III)V"⟩
abbrev cX5_reserve : ByteArray := prog_7_method_28_code
def yX5_reserve : MethodName := ⟨RX5, "reserve", "(I)V"⟩
def RX6 : String := "MatchCompile$Tree"
def TX6 : u_T := fun k => match k with
  | 0 => ("MatchCompile$Tree", "cells", "[I", true)
  | 1 => ("MatchCompile$Tree", "count", "I", false)
  | 2 => ("MatchCompile$Tree", "failCount", "I", false)
  | _ => ("MatchCompile$Tree", "standing", "Z", false)
def tyX6 : Nat → FieldType := fun k => match k with
  | 0 => .array .int
  | 1 => .int
  | 2 => .int
  | _ => .boolean
abbrev wsX60 : List Cond := u_ws RX6 TX6 4
theorem nmX6 : ∀ a, a < 4 → ∀ b, b < 4 → a ≠ b → (TX6 a).2.1 ≠ (TX6 b).2.1 := by decide +kernel
theorem tyX6_ok : ∀ k, k < 4 → parseFieldDescriptor (TX6 k).2.2.1 = some (tyX6 k) := by decide +kernel
abbrev cX6_init : ByteArray := prog_8_method_1_code
def yX6_init : MethodName := ⟨RX6, "<init>", "()V"⟩
abbrev cX6_fell : ByteArray := prog_8_method_2_code
def yX6_fell : MethodName := ⟨RX6, "fell", "()V"⟩
abbrev cX6_stand : ByteArray := prog_8_method_3_code
def yX6_stand : MethodName := ⟨RX6, "stand", "()V"⟩
abbrev cX6_stands : ByteArray := prog_8_method_4_code
def yX6_stands : MethodName := ⟨RX6, "stands", "()Z"⟩
abbrev cX6_count : ByteArray := prog_8_method_5_code
def yX6_count : MethodName := ⟨RX6, "count", "()I"⟩
abbrev cX6_failCount : ByteArray := prog_8_method_6_code
def yX6_failCount : MethodName := ⟨RX6, "failCount", "()I"⟩
abbrev cX6_add : ByteArray := prog_8_method_7_code
def yX6_add : MethodName := ⟨RX6, "add", "(II)I"⟩
abbrev cX6_makeFail : ByteArray := prog_8_method_8_code
def yX6_makeFail : MethodName := ⟨RX6, "makeFail", "(I)V"⟩
abbrev cX6_makeLeaf : ByteArray := prog_8_method_9_code
def yX6_makeLeaf : MethodName := ⟨RX6, "makeLeaf", "(II)V"⟩
abbrev cX6_makeTest : ByteArray := prog_8_method_10_code
def yX6_makeTest : MethodName := ⟨RX6, "makeTest", "(IIII)V"⟩
abbrev cX6_kindOf : ByteArray := prog_8_method_11_code
def yX6_kindOf : MethodName := ⟨RX6, "kindOf", "(I)I"⟩
abbrev cX6_testedPlace : ByteArray := prog_8_method_12_code
def yX6_testedPlace : MethodName := ⟨RX6, "testedPlace", "(I)I"⟩
abbrev cX6_makerOf : ByteArray := prog_8_method_13_code
def yX6_makerOf : MethodName := ⟨RX6, "makerOf", "(I)I"⟩
abbrev cX6_tell : ByteArray := prog_8_method_14_code
def yX6_tell : MethodName := ⟨RX6, "tell", "(II)I"⟩
abbrev cX6_branchOf : ByteArray := prog_8_method_15_code
def yX6_branchOf : MethodName := ⟨RX6, "branchOf", "(II)I"⟩
abbrev cX6_branchTowards : ByteArray := prog_8_method_16_code
def yX6_branchTowards : MethodName := ⟨RX6, "branchTowards", "(II)I"⟩
abbrev cX6_failNode : ByteArray := prog_8_method_17_code
def yX6_failNode : MethodName := ⟨RX6, "failNode", "(I)I"⟩
abbrev cX6_hasLeafOf : ByteArray := prog_8_method_18_code
def yX6_hasLeafOf : MethodName := ⟨RX6, "hasLeafOf", "(I)Z"⟩
abbrev cX6_branchAt : ByteArray := prog_8_method_19_code
def yX6_branchAt : MethodName := ⟨RX6, "branchAt", "(II)I"⟩
abbrev cX6_hang : ByteArray := prog_8_method_20_code
def yX6_hang : MethodName := ⟨RX6, "hang", "(II)V"⟩
abbrev cX6_get : ByteArray := prog_8_method_21_code
def yX6_get : MethodName := ⟨RX6, "get", "(II)I"⟩
abbrev cX6_set : ByteArray := prog_8_method_22_code
def yX6_set : MethodName := ⟨RX6, "set", "(III)V"⟩
def RX7 : String := "MatchCompile"
def TX7 : u_T := fun k => match k with
  | 0 => ("MatchCompile", "kinds", "LMatchCompile$Kinds;", true)
  | 1 => ("MatchCompile", "columns", "[I", true)
  | 2 => ("MatchCompile", "columnCount", "I", false)
  | 3 => ("MatchCompile", "rows", "LMatchCompile$Rows;", true)
  | 4 => ("MatchCompile", "rowInHand", "LMatchCompile$Hand;", true)
  | 5 => ("MatchCompile", "valuesInHand", "LMatchCompile$Hand;", true)
  | 6 => ("MatchCompile", "tree", "LMatchCompile$Tree;", true)
  | 7 => ("MatchCompile", "tables", "LMatchCompile$Tables;", true)
  | 8 => ("MatchCompile", "cases", "LMatchCompile$Cases;", true)
  | _ => ("MatchCompile", "seats", "LMatchCompile$Seats;", true)
def tyX7 : Nat → FieldType := fun k => match k with
  | 0 => .object "MatchCompile$Kinds"
  | 1 => .array .int
  | 2 => .int
  | 3 => .object "MatchCompile$Rows"
  | 4 => .object "MatchCompile$Hand"
  | 5 => .object "MatchCompile$Hand"
  | 6 => .object "MatchCompile$Tree"
  | 7 => .object "MatchCompile$Tables"
  | 8 => .object "MatchCompile$Cases"
  | _ => .object "MatchCompile$Seats"
abbrev wsX70 : List Cond := u_ws RX7 TX7 10
theorem nmX7 : ∀ a, a < 10 → ∀ b, b < 10 → a ≠ b → (TX7 a).2.1 ≠ (TX7 b).2.1 := by decide +kernel
theorem tyX7_ok : ∀ k, k < 10 → parseFieldDescriptor (TX7 k).2.2.1 = some (tyX7 k) := by decide +kernel
abbrev cX7_init : ByteArray := prog_1_method_1_code
def yX7_init : MethodName := ⟨RX7, "<init>", "()V"⟩
abbrev cX7_type : ByteArray := prog_1_method_2_code
def yX7_type : MethodName := ⟨RX7, "type", "()I"⟩
abbrev cX7_maker : ByteArray := prog_1_method_3_code
def yX7_maker : MethodName := ⟨RX7, "maker", "(IIII)I"⟩
abbrev cX7_isEmpty : ByteArray := prog_1_method_4_code
def yX7_isEmpty : MethodName := ⟨RX7, "isEmpty", "(I)Z"⟩
abbrev cX7_match : ByteArray := prog_1_method_5_code
def yX7_match : MethodName := ⟨RX7, "match", "(III)V"⟩
abbrev cX7_sign : ByteArray := prog_1_method_6_code
def yX7_sign : MethodName := ⟨RX7, "sign", "(I)I"⟩
abbrev cX7_row : ByteArray := prog_1_method_7_code
def yX7_row : MethodName := ⟨RX7, "row", "()I"⟩
abbrev cX7_compile : ByteArray := prog_1_method_8_code
def yX7_compile : MethodName := ⟨RX7, "compile", "()I"⟩
abbrev cX7_node : ByteArray := prog_1_method_9_code
def yX7_node : MethodName := ⟨RX7, "node", "(II)I"⟩
abbrev cX7_missing : ByteArray := prog_1_method_10_code
def yX7_missing : MethodName := ⟨RX7, "missing", "()I"⟩
abbrev cX7_missingSign : ByteArray := prog_1_method_11_code
def yX7_missingSign : MethodName := ⟨RX7, "missingSign", "(II)I"⟩
abbrev cX7_isIdle : ByteArray := prog_1_method_12_code
def yX7_isIdle : MethodName := ⟨RX7, "isIdle", "(I)Z"⟩
abbrev cX7_give : ByteArray := prog_1_method_13_code
def yX7_give : MethodName := ⟨RX7, "give", "(I)I"⟩
abbrev cX7_answer : ByteArray := prog_1_method_14_code
def yX7_answer : MethodName := ⟨RX7, "answer", "()I"⟩
abbrev cX7_tests : ByteArray := prog_1_method_15_code
def yX7_tests : MethodName := ⟨RX7, "tests", "()I"⟩
abbrev cX7_empty : ByteArray := prog_1_method_16_code
def yX7_empty : MethodName := ⟨RX7, "empty", "()V"⟩
abbrev cX7_about : ByteArray := prog_1_method_17_code
def yX7_about : MethodName := ⟨RX7, "about", "(I)I"⟩
abbrev cX7_countTypes : ByteArray := prog_1_method_18_code
def yX7_countTypes : MethodName := ⟨RX7, "countTypes", "(III)I"⟩
abbrev cX7_beginMatch : ByteArray := prog_1_method_19_code
def yX7_beginMatch : MethodName := ⟨RX7, "beginMatch", "(IIII)V"⟩
abbrev cX7_refuseWithoutMatch : ByteArray := prog_1_method_20_code
def yX7_refuseWithoutMatch : MethodName := ⟨RX7, "refuseWithoutMatch", "()V"⟩
abbrev cX7_refuseWithoutWholeValues : ByteArray := prog_1_method_21_code
def yX7_refuseWithoutWholeValues : MethodName := ⟨RX7, "refuseWithoutWholeValues", "()V"⟩
abbrev cX7_rowTakesValues : ByteArray := prog_1_method_22_code
def yX7_rowTakesValues : MethodName := ⟨RX7, "rowTakesValues", "(I)Z"⟩
abbrev cX7_takes : ByteArray := prog_1_method_23_code
def yX7_takes : MethodName := ⟨RX7, "takes", "(III)Z"⟩
abbrev cX7_countTests : ByteArray := prog_1_method_24_code
def yX7_countTests : MethodName := ⟨RX7, "countTests", "()I"⟩
abbrev cX7_growTree : ByteArray := prog_1_method_25_code
def yX7_growTree : MethodName := ⟨RX7, "growTree", "()Z"⟩
abbrev cX7_addNode : ByteArray := prog_1_method_26_code
def yX7_addNode : MethodName := ⟨RX7, "addNode", "(II)Z"⟩
def RX8 : String := "MatchCompileModel"
def TX8 : u_T := fun k => match k with
  | 0 => ("MatchCompileModel", "thrown", "I", false)
  | 1 => ("MatchCompileModel", "types", "I", false)
  | 2 => ("MatchCompileModel", "makers", "I", false)
  | 3 => ("MatchCompileModel", "typeOf", "[I", true)
  | 4 => ("MatchCompileModel", "field", "[I", true)
  | 5 => ("MatchCompileModel", "has", "[Z", true)
  | 6 => ("MatchCompileModel", "columns", "I", false)
  | 7 => ("MatchCompileModel", "rows", "I", false)
  | 8 => ("MatchCompileModel", "signs", "I", false)
  | 9 => ("MatchCompileModel", "values", "I", false)
  | 10 => ("MatchCompileModel", "column", "[I", true)
  | 11 => ("MatchCompileModel", "rowSign", "[I", true)
  | 12 => ("MatchCompileModel", "rowSize", "[I", true)
  | 13 => ("MatchCompileModel", "hand", "[I", true)
  | 14 => ("MatchCompileModel", "value", "[I", true)
  | 15 => ("MatchCompileModel", "asked", "[I", true)
  | 16 => ("MatchCompileModel", "takes", "[Z", true)
  | 17 => ("MatchCompileModel", "places", "I", false)
  | 18 => ("MatchCompileModel", "lines", "I", false)
  | 19 => ("MatchCompileModel", "placeType", "[I", true)
  | 20 => ("MatchCompileModel", "lineRow", "[I", true)
  | 21 => ("MatchCompileModel", "at", "[I", true)
  | 22 => ("MatchCompileModel", "great", "Z", false)
  | 23 => ("MatchCompileModel", "wide", "[I", true)
  | 24 => ("MatchCompileModel", "nodes", "I", false)
  | 25 => ("MatchCompileModel", "waiting", "I", false)
  | 26 => ("MatchCompileModel", "kind", "[I", true)
  | 27 => ("MatchCompileModel", "tested", "[I", true)
  | 28 => ("MatchCompileModel", "testType", "[I", true)
  | 29 => ("MatchCompileModel", "wideOf", "[I", true)
  | 30 => ("MatchCompileModel", "leafRow", "[I", true)
  | 31 => ("MatchCompileModel", "parent", "[I", true)
  | 32 => ("MatchCompileModel", "made", "[I", true)
  | 33 => ("MatchCompileModel", "branches", "[I", true)
  | 34 => ("MatchCompileModel", "waitParent", "[I", true)
  | 35 => ("MatchCompileModel", "waitMaker", "[I", true)
  | 36 => ("MatchCompileModel", "way", "[I", true)
  | _ => ("MatchCompileModel", "told", "[I", true)
def tyX8 : Nat → FieldType := fun k => match k with
  | 0 => .int
  | 1 => .int
  | 2 => .int
  | 3 => .array .int
  | 4 => .array .int
  | 5 => .array .boolean
  | 6 => .int
  | 7 => .int
  | 8 => .int
  | 9 => .int
  | 10 => .array .int
  | 11 => .array .int
  | 12 => .array .int
  | 13 => .array .int
  | 14 => .array .int
  | 15 => .array .int
  | 16 => .array .boolean
  | 17 => .int
  | 18 => .int
  | 19 => .array .int
  | 20 => .array .int
  | 21 => .array .int
  | 22 => .boolean
  | 23 => .array .int
  | 24 => .int
  | 25 => .int
  | 26 => .array .int
  | 27 => .array .int
  | 28 => .array .int
  | 29 => .array .int
  | 30 => .array .int
  | 31 => .array .int
  | 32 => .array .int
  | 33 => .array .int
  | 34 => .array .int
  | 35 => .array .int
  | 36 => .array .int
  | _ => .array .int
abbrev wsX80 : List Cond := u_ws RX8 TX8 38
theorem nmX8 : ∀ a, a < 38 → ∀ b, b < 38 → a ≠ b → (TX8 a).2.1 ≠ (TX8 b).2.1 := by decide +kernel
theorem tyX8_ok : ∀ k, k < 38 → parseFieldDescriptor (TX8 k).2.2.1 = some (tyX8 k) := by decide +kernel
abbrev cX8_init : ByteArray := prog_10_method_1_code
def yX8_init : MethodName := ⟨RX8, "<init>", "()V"⟩
abbrev cX8_thrown : ByteArray := prog_10_method_2_code
def yX8_thrown : MethodName := ⟨RX8, "thrown", "()I"⟩
abbrev cX8_isType : ByteArray := prog_10_method_3_code
def yX8_isType : MethodName := ⟨RX8, "isType", "(I)Z"⟩
abbrev cX8_makersOf : ByteArray := prog_10_method_4_code
def yX8_makersOf : MethodName := ⟨RX8, "makersOf", "(I)I"⟩
abbrev cX8_fields : ByteArray := prog_10_method_5_code
def yX8_fields : MethodName := ⟨RX8, "fields", "(I)I"⟩
abbrev cX8_type : ByteArray := prog_10_method_6_code
def yX8_type : MethodName := ⟨RX8, "type", "()I"⟩
abbrev cX8_areTypes : ByteArray := prog_10_method_7_code
def yX8_areTypes : MethodName := ⟨RX8, "areTypes", "(III)Z"⟩
abbrev cX8_maker : ByteArray := prog_10_method_8_code
def yX8_maker : MethodName := ⟨RX8, "maker", "(IIII)I"⟩
abbrev cX8_find : ByteArray := prog_10_method_9_code
def yX8_find : MethodName := ⟨RX8, "find", "()V"⟩
abbrev cX8_isDead : ByteArray := prog_10_method_10_code
def yX8_isDead : MethodName := ⟨RX8, "isDead", "(I)Z"⟩
abbrev cX8_isEmpty : ByteArray := prog_10_method_11_code
def yX8_isEmpty : MethodName := ⟨RX8, "isEmpty", "(I)Z"⟩
abbrev cX8_forget : ByteArray := prog_10_method_12_code
def yX8_forget : MethodName := ⟨RX8, "forget", "()V"⟩
abbrev cX8_match : ByteArray := prog_10_method_13_code
def yX8_match : MethodName := ⟨RX8, "match", "(III)V"⟩
abbrev cX8_next : ByteArray := prog_10_method_14_code
def yX8_next : MethodName := ⟨RX8, "next", "([II)I"⟩
abbrev cX8_isMakerOf : ByteArray := prog_10_method_15_code
def yX8_isMakerOf : MethodName := ⟨RX8, "isMakerOf", "(II)Z"⟩
abbrev cX8_sign : ByteArray := prog_10_method_16_code
def yX8_sign : MethodName := ⟨RX8, "sign", "(I)I"⟩
abbrev cX8_row : ByteArray := prog_10_method_17_code
def yX8_row : MethodName := ⟨RX8, "row", "()I"⟩
abbrev cX8_give : ByteArray := prog_10_method_18_code
def yX8_give : MethodName := ⟨RX8, "give", "(I)I"⟩
abbrev cX8_empty : ByteArray := prog_10_method_19_code
def yX8_empty : MethodName := ⟨RX8, "empty", "()V"⟩
abbrev cX8_behind : ByteArray := prog_10_method_20_code
def yX8_behind : MethodName := ⟨RX8, "behind", "([II)I"⟩
abbrev cX8_rowTakes : ByteArray := prog_10_method_21_code
def yX8_rowTakes : MethodName := ⟨RX8, "rowTakes", "(I)Z"⟩
abbrev cX8_fieldsTake : ByteArray := prog_10_method_22_code
def yX8_fieldsTake : MethodName := ⟨RX8, "fieldsTake", "(II)Z"⟩
abbrev cX8_canAnswer : ByteArray := prog_10_method_23_code
def yX8_canAnswer : MethodName := ⟨RX8, "canAnswer", "()Z"⟩
abbrev cX8_answer : ByteArray := prog_10_method_24_code
def yX8_answer : MethodName := ⟨RX8, "answer", "()I"⟩
abbrev cX8_signOf : ByteArray := prog_10_method_25_code
def yX8_signOf : MethodName := ⟨RX8, "signOf", "(I)I"⟩
abbrev cX8_firstTable : ByteArray := prog_10_method_26_code
def yX8_firstTable : MethodName := ⟨RX8, "firstTable", "()V"⟩
abbrev cX8_part : ByteArray := prog_10_method_27_code
def yX8_part : MethodName := ⟨RX8, "part", "()V"⟩
abbrev cX8_doubled : ByteArray := prog_10_method_28_code
def yX8_doubled : MethodName := ⟨RX8, "doubled", "(III)V"⟩
abbrev cX8_branch : ByteArray := prog_10_method_29_code
def yX8_branch : MethodName := ⟨RX8, "branch", "(II)V"⟩
abbrev cX8_widen : ByteArray := prog_10_method_30_code
def yX8_widen : MethodName := ⟨RX8, "widen", "(IIIII)V"⟩
abbrev cX8_tableOf : ByteArray := prog_10_method_31_code
def yX8_tableOf : MethodName := ⟨RX8, "tableOf", "(II)V"⟩
abbrev cX8_begin : ByteArray := prog_10_method_32_code
def yX8_begin : MethodName := ⟨RX8, "begin", "(II)V"⟩
abbrev cX8_compile : ByteArray := prog_10_method_33_code
def yX8_compile : MethodName := ⟨RX8, "compile", "()I"⟩
abbrev cX8_isNode : ByteArray := prog_10_method_34_code
def yX8_isNode : MethodName := ⟨RX8, "isNode", "(I)Z"⟩
abbrev cX8_branchOf : ByteArray := prog_10_method_35_code
def yX8_branchOf : MethodName := ⟨RX8, "branchOf", "(II)I"⟩
abbrev cX8_node : ByteArray := prog_10_method_36_code
def yX8_node : MethodName := ⟨RX8, "node", "(II)I"⟩
abbrev cX8_missing : ByteArray := prog_10_method_37_code
def yX8_missing : MethodName := ⟨RX8, "missing", "()I"⟩
abbrev cX8_missingSign : ByteArray := prog_10_method_38_code
def yX8_missingSign : MethodName := ⟨RX8, "missingSign", "(II)I"⟩
abbrev cX8_tell : ByteArray := prog_10_method_39_code
def yX8_tell : MethodName := ⟨RX8, "tell", "(I)I"⟩
abbrev cX8_isIdle : ByteArray := prog_10_method_40_code
def yX8_isIdle : MethodName := ⟨RX8, "isIdle", "(I)Z"⟩
abbrev cX8_tests : ByteArray := prog_10_method_41_code
def yX8_tests : MethodName := ⟨RX8, "tests", "()I"⟩
abbrev cX8_about : ByteArray := prog_10_method_42_code
def yX8_about : MethodName := ⟨RX8, "about", "(I)I"⟩
def RJx8e188 : String := "java/lang/Cloneable"
def TJx8e188 : u_T := fun k => match k with
  | _ => ("", "", "", false)
def tyJx8e188 : Nat → FieldType := fun k => match k with
  | _ => .int
abbrev wsJx8e1880 : List Cond := u_ws RJx8e188 TJx8e188 0
theorem nmJx8e188 : ∀ a, a < 0 → ∀ b, b < 0 → a ≠ b → (TJx8e188 a).2.1 ≠ (TJx8e188 b).2.1 := by decide +kernel
theorem tyJx8e188_ok : ∀ k, k < 0 → parseFieldDescriptor (TJx8e188 k).2.2.1 = some (tyJx8e188 k) := by decide +kernel
def RJ9 : String := "java/lang/Math"
def TJ9 : u_T := fun k => match k with
  | _ => ("", "", "", false)
def tyJ9 : Nat → FieldType := fun k => match k with
  | _ => .int
abbrev wsJ90 : List Cond := u_ws RJ9 TJ9 0
theorem nmJ9 : ∀ a, a < 0 → ∀ b, b < 0 → a ≠ b → (TJ9 a).2.1 ≠ (TJ9 b).2.1 := by decide +kernel
theorem tyJ9_ok : ∀ k, k < 0 → parseFieldDescriptor (TJ9 k).2.2.1 = some (tyJ9 k) := by decide +kernel
abbrev cJ9_max_7cf53 : ByteArray := prog_16_method_65_code
def yJ9_max_7cf53 : MethodName := ⟨RJ9, "max", "(II)I"⟩
abbrev cJ9_min_7cf53 : ByteArray := prog_16_method_69_code
def yJ9_min_7cf53 : MethodName := ⟨RJ9, "min", "(II)I"⟩
def RJ0 : String := "java/lang/String"
def TJ0 : u_T := fun k => match k with
  | _ => ("", "", "", false)
def tyJ0 : Nat → FieldType := fun k => match k with
  | _ => .int
abbrev wsJ00 : List Cond := u_ws RJ0 TJ0 0
theorem nmJ0 : ∀ a, a < 0 → ∀ b, b < 0 → a ≠ b → (TJ0 a).2.1 ≠ (TJ0 b).2.1 := by decide +kernel
theorem tyJ0_ok : ∀ k, k < 0 → parseFieldDescriptor (TJ0 k).2.2.1 = some (tyJ0 k) := by decide +kernel
def RJ10 : String := "java/lang/System"
def TJ10 : u_T := fun k => match k with
  | _ => ("", "", "", false)
def tyJ10 : Nat → FieldType := fun k => match k with
  | _ => .int
abbrev wsJ100 : List Cond := u_ws RJ10 TJ10 0
theorem nmJ10 : ∀ a, a < 0 → ∀ b, b < 0 → a ≠ b → (TJ10 a).2.1 ≠ (TJ10 b).2.1 := by decide +kernel
theorem tyJ10_ok : ∀ k, k < 0 → parseFieldDescriptor (TJ10 k).2.2.1 = some (tyJ10 k) := by decide +kernel
def RJ7 : String := "java/util/Arrays"
def TJ7 : u_T := fun k => match k with
  | _ => ("", "", "", false)
def tyJ7 : Nat → FieldType := fun k => match k with
  | _ => .int
abbrev wsJ70 : List Cond := u_ws RJ7 TJ7 0
theorem nmJ7 : ∀ a, a < 0 → ∀ b, b < 0 → a ≠ b → (TJ7 a).2.1 ≠ (TJ7 b).2.1 := by decide +kernel
theorem tyJ7_ok : ∀ k, k < 0 → parseFieldDescriptor (TJ7 k).2.2.1 = some (tyJ7 k) := by decide +kernel
abbrev cJ7_copyOf_59c91 : ByteArray := prog_22_method_123_code
def yJ7_copyOf_59c91 : MethodName := ⟨RJ7, "copyOf", "([II)[I"⟩
def RL : String := "MatchCompileLaw"
abbrev cL_type : ByteArray := method_3_code
def yL_type : MethodName := ⟨RL, "type", "(LMatchCompile;[J)I"⟩
abbrev cL_maker : ByteArray := method_4_code
def yL_maker : MethodName := ⟨RL, "maker", "(LMatchCompile;IIII[J)I"⟩
abbrev cL_isEmpty : ByteArray := method_5_code
def yL_isEmpty : MethodName := ⟨RL, "isEmpty", "(LMatchCompile;I[J)I"⟩
abbrev cL_match : ByteArray := method_6_code
def yL_match : MethodName := ⟨RL, "match", "(LMatchCompile;III)I"⟩
abbrev cL_sign : ByteArray := method_7_code
def yL_sign : MethodName := ⟨RL, "sign", "(LMatchCompile;I[J)I"⟩
abbrev cL_row : ByteArray := method_8_code
def yL_row : MethodName := ⟨RL, "row", "(LMatchCompile;[J)I"⟩
abbrev cL_compile : ByteArray := method_9_code
def yL_compile : MethodName := ⟨RL, "compile", "(LMatchCompile;[J)I"⟩
abbrev cL_node : ByteArray := method_10_code
def yL_node : MethodName := ⟨RL, "node", "(LMatchCompile;II[J)I"⟩
abbrev cL_missingSign : ByteArray := method_11_code
def yL_missingSign : MethodName := ⟨RL, "missingSign", "(LMatchCompile;II[J)I"⟩
abbrev cL_isIdle : ByteArray := method_12_code
def yL_isIdle : MethodName := ⟨RL, "isIdle", "(LMatchCompile;I[J)I"⟩
abbrev cL_give : ByteArray := method_13_code
def yL_give : MethodName := ⟨RL, "give", "(LMatchCompile;I[J)I"⟩
abbrev cL_answer : ByteArray := method_14_code
def yL_answer : MethodName := ⟨RL, "answer", "(LMatchCompile;[J)I"⟩
abbrev cL_tests : ByteArray := method_15_code
def yL_tests : MethodName := ⟨RL, "tests", "(LMatchCompile;[J)I"⟩
abbrev cL_law : ByteArray := code
def yL_law : MethodName := ⟨RL, "law", "([I)Z"⟩
abbrev vwCl : List vw_C := [(RX0, TX0, 5), (RX1, TX1, 6), (RX2, TX2, 7), (RX3, TX3, 3), (RX4, TX4, 4), (RX5, TX5, 6), (RX6, TX6, 4), (RX7, TX7, 10), (RX8, TX8, 38)]
/-! THE CLAIM OUT OF ONE WALK OF THE LAW'S BODY. Your part is whole_start (and what it stands on); all else here is the same for every law, but numbers. -/
def R_law : String := "MatchCompileLaw"
def lw_P (b : Addr) (xs : List Int32) (args : Array Value) (s : State) : Prop := args = #[.ref b] ∧ s.IntsAt b xs ∧ xs.length ≤ 2560 ∧ (Jvm.Cond.and given_1 narrow_1).before args s = true
def lw_Q (_ : Array Value) (s : State) (o : Outcome) (t : State) : Prop := o = .returned (some (.int 1)) ∧ Framed s o t [] 601024 7293034
def lw_Z (below : List Frame) (a : Array Value) (s : State) : State → Prop := fun t => ∃ o, t.status = .running ∧ Ended t below o ∧ lw_Q a s o t
/-- the law's own end, with 1 on the stack, nothing written that was there before, its room as the claim has it -/
theorem lw_ret {p : Program} {l : Launch} {e : Env} {s : State} {m : MethodId} {below : List Frame} {meth : Method} {c : Code} {b : Nat} (hx : p.tables.exec = Jvm.exec) (hb : c.code = code) (hr : meth.sig.returnType = ret) (hlocks : meth.locks = false) {pc : Nat} {H : Heap} {ls : Array Slot} (hdg : decode code pc = .ok (.ireturn, 1)) : W p l e room_1 s m #[Value.ref b] below meth c H [] 601024 7293034 (lw_Z below #[Value.ref b] s) (F0 m pc ls [.int 1]) := by
  intro T hT X
  obtain ⟨fs, hret, hrun, hended, hW, hframe⟩ := X.leave (v := some (.int 1)) (hlocks := hlocks) (fun h => by rw [hr] at h; cases h)
  have hmeth' : T.vm.method? m = some meth := X.method'
  refine ⟨T.setFrames fs, ?_, .returned (some (.int 1)), hrun, hended, rfl, ⟨_, rfl⟩, hW, hframe⟩
  jvm_step X.here [X.here.top, hx, hb, hdg, hmeth', hr, ret, narrow_b1]
  (try refine ⟨rfl, ?_⟩); (try refine ⟨rfl, ?_⟩)
  first | (intro acts; rw [hret _ acts rfl rfl rfl]) | rw [hret _ _ rfl rfl rfl]
  exact Steps.refl _
/-- what holds at the law's entry: the machine, the code, the tables' words (any of lw_tbl by 'hts w (by decide +kernel)'), the script of L ints xs at the cell b, what the Statement gives of the start (any of its parts by flat_of_before) -/
def lw_At (p : Program) (s : State) (m : MethodId) (meth : Method) (c : Code) (b L : Nat) (xs : Nat → Int32) : Prop :=
  p.tables.exec = Jvm.exec ∧ c.code = code ∧ meth.sig.returnType = ret ∧ c.maxLocals = 7 ∧ s.vm.findClass R_law = some m.cls ∧ (∀ w ∈ lw_tbl, w.before #[Value.ref b] s = true) ∧ va_X b L xs s s.heap ∧ b < s.heap.size ∧ meth.locks = false ∧ (Jvm.Cond.and given_1 narrow_1).before #[Value.ref b] s = true
end
section
/-! THE SMALL MACHINE: decoded rows of a method, run over a memory of numbered cells (a cell's slots are ints; references are cell numbers). -/
abbrev Mem : Type := Nat → Nat → Int32
abbrev MV : Type := Int32 ⊕ Nat
/-- memory, cells made, slots made, which exception (0: it returned), the answer -/
abbrev Res : Type := Mem × Nat × Nat × Nat × Int32
abbrev PI : Type := Instr × Nat × Int32 × List Nat
abbrev Kt : Type := Nat → List (Option MV) → List MV → Mem → Nat → Nat → Option Res
def mm_stc (S : Mem) (c : Nat) (f : Nat → Int32) : Mem := fun x => if x = c then f else S x
def mm_put (S : Mem) (c k : Nat) (v : Int32) : Mem := mm_stc S c (upd (S c) k v)
/-- the cell that grows, and where its length is noted -/
def mm_RM : Nat := 22
/-- kinds of cells: (0, class), (1, length) ints, (2, length) booleans, (3, length) longs -/
def mm_KD : List (Nat × Nat) := [(0, 7), (0, 2), (1, 8), (2, 8), (1, 40), (1, 40), (1, 120), (1, 3), (0, 3), (1, 480), (1, 480), (0, 1), (1, 40), (1, 40), (1, 83), (0, 1), (1, 60), (1, 60), (1, 123), (0, 6), (1, 2700), (0, 5), (1, 0), (0, 0), (1, 340), (0, 4), (1, 40),
  (0, 8), (1, 40), (1, 120), (2, 8), (1, 3), (1, 480), (1, 12), (1, 40), (1, 60), (1, 300), (2, 28800), (1, 44), (1, 62), (1, 2728), (1, 44), (1, 301), (1, 301), (1, 301), (1, 301), (1, 301), (1, 301), (1, 301), (1, 301), (1, 2500), (1, 2500), (1, 301), (1, 400), (3, 1)]
/-- how many fields a class has -/
def mm_NF : List Nat := [5, 6, 7, 3, 4, 6, 4, 10, 38]
/-- a cell's fields: the cell that a field holds, if it holds one -/
def mm_RT : List (List (Option Nat)) := [[some 1, some 7, none, some 8, some 11, some 15, some 19, some 21, some 23, some 25],
  [none, none, some 2, some 3, some 4, some 5, some 6], [], [], [], [], [], [], [some 9, some 10, none], [], [],
  [some 1, some 12, some 13, some 14, none, none], [], [], [], [some 1, some 16, some 17, some 18, none, none], [], [], [],
  [some 20, none, none, none], [], [some 1, some 8, some 22, none, none, none], [], [some 1, some 19, some 24, none, none], [], [some 1, some 15, some 26, none], [],
  [none, none, none, some 28, some 29, some 30, none, none, none, none, some 31, some 32, some 33, some 34, some 35, some 36, some 37, none, none, some 38, some 39, some 40, none, some 41, none, none, some 42, some 43, some 44, some 45, some 46, some 47, some 48, some 49, some 50, some 51, some 52, some 53]]
def mm_rf (c k : Nat) : Option Nat := ((mm_RT[c]?.getD [])[k]?).getD none
def mm_fv (S : Mem) (c k : Nat) : MV := match mm_rf c k with
  | some t => .inr t
  | none => .inl (S c k)
def mm_len (S : Mem) (c n : Nat) : Nat := match Nat.beq c mm_RM with
  | true => (S 55 0).toNatClampNeg
  | false => n
def mm_cls (c ci : Nat) : Bool := match mm_KD[c]? with
  | some (0, q) => Nat.beq q ci
  | _ => false
def mm_noRm (st : List MV) : Bool := st.all (fun v => match v with
  | .inr c => !(Nat.beq c mm_RM)
  | .inl _ => true)
def mm_noRmL (L : List (Option MV)) : Bool := L.all (fun v => match v with
  | some (.inr c) => !(Nat.beq c mm_RM)
  | _ => true)
/-- an int array's cell, an index within: its number -/
def mm_arr (S : Mem) (tag c : Nat) (i : Int32) (k : Nat → Option Res) : Option Res := match mm_KD[c]? with
  | some (t, n) => if t = tag then (if i < 0 ∨ mm_len S c n ≤ i.toNatClampNeg then none else k i.toNatClampNeg) else none
  | none => none
def mm_lk : List (Int × Int) → List Nat → Nat → Int → Nat
  | (a, _) :: ps, t :: ts, d, k => if a = k then t else mm_lk ps ts d k
  | _, _, d, _ => d
def mm_psh (rc : Nat) (a : Int32) (r : List MV) : List MV := match rc with
  | 0 => r
  | _ + 1 => .inl a :: r
/-- one row -/
def mm_step (call : Nat → List MV → Mem → Option Res) (rt : Nat) (k : Kt) (j : Nat) (L : List (Option MV)) (S : Mem) (kc ks : Nat) (i : Instr) (x : Nat) (v : Int32) (ts : List Nat) (st : List MV) : Option Res :=
  match i, st with
  | .iconst _, r => k (j + 1) L (.inl v :: r) S kc ks
  | .bipush _, r => k (j + 1) L (.inl v :: r) S kc ks
  | .sipush _, r => k (j + 1) L (.inl v :: r) S kc ks
  | .iload_n _, r => match L[x]? with
    | some (some (.inl y)) => k (j + 1) L (.inl y :: r) S kc ks
    | _ => none
  | .iload _, r => match L[x]? with
    | some (some (.inl y)) => k (j + 1) L (.inl y :: r) S kc ks
    | _ => none
  | .aload_n _, r => match L[x]? with
    | some (some (.inr y)) => k (j + 1) L (.inr y :: r) S kc ks
    | _ => none
  | .istore_n _, .inl y :: r => match Nat.blt x L.length with
    | true => k (j + 1) (L.set x (some (.inl y))) r S kc ks
    | false => none
  | .istore _, .inl y :: r => match Nat.blt x L.length with
    | true => k (j + 1) (L.set x (some (.inl y))) r S kc ks
    | false => none
  | .iinc _ _, r => match L[x]? with
    | some (some (.inl y)) => k (j + 1) (L.set x (some (.inl (y + v)))) r S kc ks
    | _ => none
  | .iadd, .inl b :: .inl a :: r => k (j + 1) L (.inl (a + b) :: r) S kc ks
  | .isub, .inl b :: .inl a :: r => k (j + 1) L (.inl (a - b) :: r) S kc ks
  | .imul, .inl b :: .inl a :: r => k (j + 1) L (.inl (a * b) :: r) S kc ks
  | .dup, a :: r => k (j + 1) L (a :: a :: r) S kc ks
  | .dup2, b :: a :: r => k (j + 1) L (b :: a :: b :: a :: r) S kc ks
  | .goto _, r => k x L r S kc ks
  | .ifCond .eq _, .inl a :: r => if a = 0 then k x L r S kc ks else k (j + 1) L r S kc ks
  | .ifCond .ne _, .inl a :: r => if a = 0 then k (j + 1) L r S kc ks else k x L r S kc ks
  | .ifCond .lt _, .inl a :: r => if a < 0 then k x L r S kc ks else k (j + 1) L r S kc ks
  | .ifCond .ge _, .inl a :: r => if 0 ≤ a then k x L r S kc ks else k (j + 1) L r S kc ks
  | .ifCond .gt _, .inl a :: r => if 0 < a then k x L r S kc ks else k (j + 1) L r S kc ks
  | .ifCond .le _, .inl a :: r => if a ≤ 0 then k x L r S kc ks else k (j + 1) L r S kc ks
  | .if_icmp .eq _, .inl b :: .inl a :: r => if a = b then k x L r S kc ks else k (j + 1) L r S kc ks
  | .if_icmp .ne _, .inl b :: .inl a :: r => if a = b then k (j + 1) L r S kc ks else k x L r S kc ks
  | .if_icmp .lt _, .inl b :: .inl a :: r => if a < b then k x L r S kc ks else k (j + 1) L r S kc ks
  | .if_icmp .ge _, .inl b :: .inl a :: r => if b ≤ a then k x L r S kc ks else k (j + 1) L r S kc ks
  | .if_icmp .gt _, .inl b :: .inl a :: r => if b < a then k x L r S kc ks else k (j + 1) L r S kc ks
  | .if_icmp .le _, .inl b :: .inl a :: r => if a ≤ b then k x L r S kc ks else k (j + 1) L r S kc ks
  | .getfield _, .inr c :: r => match mm_cls c (ts.headD 99) with
    | true => k (j + 1) L (mm_fv S c x :: r) S kc ks
    | false => none
  | .putfield _, .inl a :: .inr c :: r => match mm_cls c (ts.headD 99), mm_rf c x with
    | true, none => (match ts with
      | [_] => k (j + 1) L r (mm_put S c x a) kc ks
      | _ => if a = 0 ∨ a = 1 then k (j + 1) L r (mm_put S c x a) kc ks else none)
    | _, _ => none
  | .iaload, .inl i :: .inr c :: r => mm_arr S 1 c i (fun q => k (j + 1) L (.inl (S c q) :: r) S kc ks)
  | .baload, .inl i :: .inr c :: r => mm_arr S 2 c i (fun q => k (j + 1) L (.inl (S c q) :: r) S kc ks)
  | .iastore, .inl a :: .inl i :: .inr c :: r => mm_arr S 1 c i (fun q => k (j + 1) L r (mm_put S c q a) kc ks)
  | .bastore, .inl a :: .inl i :: .inr c :: r => mm_arr S 2 c i (fun q => k (j + 1) L r (mm_put S c q (vp_nar .boolean a)) kc ks)
  | .arraylength, .inr c :: r => match mm_KD[c]? with
    | some (1, n) => k (j + 1) L (.inl (Int32.ofNat (mm_len S c n)) :: r) S kc ks
    | _ => none
  | .ireturn, [.inl a] => match rt with
    | 1 => some (S, kc, ks, 0, a)
    | 2 => if a = 0 ∨ a = 1 then some (S, kc, ks, 0, a) else none
    | _ => none
  | .return_, [] => match rt with
    | 0 => some (S, kc, ks, 0, 0)
    | _ => none
  | .tableswitch _ lo hi _, .inl a :: r => if a.toInt < lo ∨ hi < a.toInt then k x L r S kc ks else match ts[(a.toInt - lo).toNat]? with
    | some t => k t L r S kc ks
    | none => none
  | .lookupswitch _ ps, .inl a :: r => k (mm_lk ps.toList ts x a.toInt) L r S kc ks
  | .invokevirtual _, st => match ts with
    | [na, rc, cb] => match st.drop na with
      | .inr b :: r => match mm_cls b cb && mm_noRm r && Nat.ble r.length 8 with
        | true => (match call x (.inr b :: (st.take na).reverse) S with
          | some (S', c', s', 0, a) => k (j + 1) L (mm_psh rc a r) S' (kc + c') (ks + s')
          | some (S', c', s', e + 1, _) => some (S', kc + c', ks + s', e + 1, 0)
          | none => none)
        | false => none
      | _ => none
    | _ => none
  | .invokestatic _, st => match x, st with
    | 0, .inl b :: .inl a :: r => match Nat.ble r.length 8 with
      | true => k (j + 1) L (.inl (if b < a then b else a) :: r) S kc ks
      | false => none
    | 1, .inl b :: .inl a :: r => match Nat.ble r.length 8 with
      | true => k (j + 1) L (.inl (if a < b then b else a) :: r) S kc ks
      | false => none
    | 2, .inl n :: .inl dp :: .inr c1 :: .inl sp :: .inr c0 :: r => match mm_KD[c0]?, mm_KD[c1]? with
      | some (1, n0), some (1, n1) => if r.length ≤ 8 ∧ (¬ sp < 0) ∧ (¬ dp < 0) ∧ (¬ n < 0) ∧ sp.toNatClampNeg + n.toNatClampNeg ≤ mm_len S c0 n0 ∧ dp.toNatClampNeg + n.toNatClampNeg ≤ mm_len S c1 n1 then
          k (j + 1) L r (mm_stc S c1 (va_cpy (S c0) (S c1) sp.toNatClampNeg dp.toNatClampNeg n.toNatClampNeg)) kc ks else none
      | _, _ => none
    | _, _ => none
  | .new _, r => match x, Nat.ble r.length 8 with
    | 0, _ => none
    | x + 1, true => some (S, kc + 1, ks + 6, x + 1, 0)
    | _, _ => none
  | _, _ => none
def mm_runN (call : Nat → List MV → Mem → Option Res) (P : List PI) (rt : Nat) : Nat → Kt
  | 0 => fun _ _ _ _ _ _ => none
  | n + 1 => fun j L st S kc ks => match P[j]? with
    | some (i, x, v, ts) => mm_step call rt (mm_runN call P rt n) j L S kc ks i x v ts st
    | none => none
/-- what a walk has made so far never shrinks -/
theorem mm_mono_step {call : Nat → List MV → Mem → Option Res} {rt : Nat} {k : Kt} {j : Nat} {L : List (Option MV)} {S : Mem} {kc ks : Nat} {i : Instr} {x : Nat} {v : Int32} {ts : List Nat} {st : List MV} {r : Res}
    (hk : ∀ j L st S kc ks, k j L st S kc ks = some r → kc ≤ r.2.1 ∧ ks ≤ r.2.2.1) (h : mm_step call rt k j L S kc ks i x v ts st = some r) : kc ≤ r.2.1 ∧ ks ≤ r.2.2.1 := by
  unfold mm_step at h
  split at h
  all_goals (try unfold mm_arr at h)
  all_goals (repeat' (first | (cases h; done) | split at h))
  all_goals first
    | exact hk _ _ _ _ _ _ h
    | (cases h; exact ⟨Nat.le_refl _, Nat.le_refl _⟩)
    | (cases h; exact ⟨Nat.le_add_right _ _, Nat.le_add_right _ _⟩)
    | (have h9 := hk _ _ _ _ _ _ h; exact ⟨Nat.le_trans (Nat.le_add_right _ _) h9.1, Nat.le_trans (Nat.le_add_right _ _) h9.2⟩)
theorem mm_mono {call : Nat → List MV → Mem → Option Res} {P : List PI} {rt : Nat} {r : Res} : ∀ (n j : Nat) (L : List (Option MV)) (st : List MV) (S : Mem) (kc ks : Nat), mm_runN call P rt n j L st S kc ks = some r → kc ≤ r.2.1 ∧ ks ≤ r.2.2.1 := by
  intro n
  induction n with
  | zero => intro j L st S kc ks h; cases h
  | succ n ih =>
    intro j L st S kc ks h
    unfold mm_runN at h
    split at h
    · exact mm_mono_step ih h
    · cases h
end
section
/-- more steps change nothing -/
theorem mm_more_step {call : Nat → List MV → Mem → Option Res} {rt : Nat} {k k' : Kt} {j : Nat} {L : List (Option MV)} {S : Mem} {kc ks : Nat} {i : Instr} {x : Nat} {v : Int32} {ts : List Nat} {st : List MV} {r : Res}
    (hk : ∀ j L st S kc ks, k j L st S kc ks = some r → k' j L st S kc ks = some r) (h : mm_step call rt k j L S kc ks i x v ts st = some r) : mm_step call rt k' j L S kc ks i x v ts st = some r := by
  unfold mm_step at h ⊢
  split at h
  all_goals (try unfold mm_arr at h ⊢)
  all_goals (repeat' (first | (cases h; done) | split at h))
  all_goals first
    | exact hk _ _ _ _ _ _ h
    | (simp_all; done)
    | (simp only [*, if_true, if_false, reduceIte]; exact hk _ _ _ _ _ _ h)
    | skip
  all_goals (repeat' split)
  all_goals first
    | exact hk _ _ _ _ _ _ h
    | contradiction
    | (exfalso; omega)
theorem mm_more {call : Nat → List MV → Mem → Option Res} {P : List PI} {rt : Nat} {r : Res} : ∀ (n m j : Nat) (L : List (Option MV)) (st : List MV) (S : Mem) (kc ks : Nat), n ≤ m → mm_runN call P rt n j L st S kc ks = some r → mm_runN call P rt m j L st S kc ks = some r := by
  intro n
  induction n with
  | zero => intro m j L st S kc ks _ h; cases h
  | succ n ih =>
    intro m j L st S kc ks hm h
    cases m with
    | zero => exact absurd hm (by omega)
    | succ m =>
      unfold mm_runN at h ⊢
      split at h
      · rename_i i x v ts hj
        exact mm_more_step (fun j L st S kc ks h => ih m j L st S kc ks (by omega) h) h
      · cases h
/-- the run from a row on ends so -/
def mm_T (call : Nat → List MV → Mem → Option Res) (P : List PI) (rt j : Nat) (L : List (Option MV)) (st : List MV) (S : Mem) (kc ks : Nat) (r : Res) : Prop := ∃ n, mm_runN call P rt n j L st S kc ks = some r
theorem mm_T_one {call : Nat → List MV → Mem → Option Res} {P : List PI} {rt j : Nat} {L : List (Option MV)} {st : List MV} {S : Mem} {kc ks : Nat} {r r' : Res} (h : mm_T call P rt j L st S kc ks r) (h' : mm_T call P rt j L st S kc ks r') : r = r' := by
  obtain ⟨n, h⟩ := h
  obtain ⟨n', h'⟩ := h'
  have h1 := mm_more n (n + n') j L st S kc ks (by omega) h
  have h2 := mm_more n' (n + n') j L st S kc ks (by omega) h'
  exact Option.some.inj (h1.symm.trans h2)
/-- some steps on -/
theorem mm_T.on {call : Nat → List MV → Mem → Option Res} {P : List PI} {rt j j' : Nat} {L L' : List (Option MV)} {st st' : List MV} {S S' : Mem} {kc ks kc' ks' : Nat} {r : Res} (K q : Nat) (he : ∀ n, mm_runN call P rt (n + K) j L st S kc ks = mm_runN call P rt (n + q) j' L' st' S' kc' ks') (h : mm_T call P rt j' L' st' S' kc' ks' r) : mm_T call P rt j L st S kc ks r := by
  obtain ⟨n, h⟩ := h
  exact ⟨n + K, by rw [he n]; exact mm_more n (n + q) _ _ _ _ _ _ (by omega) h⟩
theorem mm_T.now {call : Nat → List MV → Mem → Option Res} {P : List PI} {rt j : Nat} {L : List (Option MV)} {st : List MV} {S : Mem} {kc ks : Nat} {r : Res} (K : Nat) (he : mm_runN call P rt (0 + K) j L st S kc ks = some r) : mm_T call P rt j L st S kc ks r := ⟨_, he⟩
end
section
/-- a row uses what follows it once, if at all -/
theorem mm_use {call : Nat → List MV → Mem → Option Res} {rt : Nat} {k : Kt} {j : Nat} {L : List (Option MV)} {S : Mem} {kc ks : Nat} {i : Instr} {x : Nat} {v : Int32} {ts : List Nat} {st : List MV} {r : Res}
    (h : mm_step call rt k j L S kc ks i x v ts st = some r) : (∃ j' L' st' S' kc' ks', k j' L' st' S' kc' ks' = some r ∧ ∀ k' : Kt, k' j' L' st' S' kc' ks' = some r → mm_step call rt k' j L S kc ks i x v ts st = some r) ∨ ∀ k' : Kt, mm_step call rt k' j L S kc ks i x v ts st = some r := by
  by_cases hu : ∃ j' L' st' S' kc' ks', k j' L' st' S' kc' ks' = some r ∧ ∀ k' : Kt, k' j' L' st' S' kc' ks' = some r → mm_step call rt k' j L S kc ks i x v ts st = some r
  · exact Or.inl hu
  · refine Or.inr fun k' => ?_
    have hn : ∀ j' L' st' S' kc' ks', k j' L' st' S' kc' ks' = some r → (∀ k' : Kt, k' j' L' st' S' kc' ks' = some r → mm_step call rt k' j L S kc ks i x v ts st = some r) → False := fun j' L' st' S' kc' ks' h1 h2 => hu ⟨j', L', st', S', kc', ks', h1, h2⟩
    clear hu
    unfold mm_step at h hn ⊢
    split at h
    all_goals (try unfold mm_arr at h hn ⊢)
    all_goals (repeat' (first | (cases h; done) | split at h))
    all_goals first
      | (exfalso; have hn9 := hn _ _ _ _ _ _ h; clear hn; refine hn9 (fun k' hk' => ?_); clear hn9 h; first | exact hk' | (simp_all; done) | (dsimp only; (repeat' split) <;> first | exact hk' | contradiction | (simp_all; done)))
      | (simp_all; done)
      | exact h
      | skip
    · rename_i xa b9 r9 e1 xb e2 xc S9 c9 s9 a9 e3
      exfalso
      refine hn _ _ _ _ _ _ h (fun k' hk' => ?_)
      dsimp only
      rw [e1]
      dsimp only
      rw [e2]
      dsimp only
      rw [e3]
      exact hk'
    · rename_i b9 a9 r9 xz e1 h1
      exfalso
      refine hn _ _ _ _ _ _ h (fun k' hk' => ?_)
      show (match Nat.ble r9.length 8 with | true => k' (j + 1) L (.inl (if b9 < a9 then b9 else a9) :: r9) S kc ks | false => none) = some r
      rw [e1, if_pos h1]
      exact hk'
    · rename_i b9 a9 r9 xz e1 h1
      exfalso
      refine hn _ _ _ _ _ _ h (fun k' hk' => ?_)
      show (match Nat.ble r9.length 8 with | true => k' (j + 1) L (.inl (if b9 < a9 then b9 else a9) :: r9) S kc ks | false => none) = some r
      rw [e1, if_neg h1]
      exact hk'
    · rename_i b9 a9 r9 xz e1 h1
      exfalso
      refine hn _ _ _ _ _ _ h (fun k' hk' => ?_)
      show (match Nat.ble r9.length 8 with | true => k' (j + 1) L (.inl (if a9 < b9 then b9 else a9) :: r9) S kc ks | false => none) = some r
      rw [e1, if_pos h1]
      exact hk'
    · rename_i b9 a9 r9 xz e1 h1
      exfalso
      refine hn _ _ _ _ _ _ h (fun k' hk' => ?_)
      show (match Nat.ble r9.length 8 with | true => k' (j + 1) L (.inl (if a9 < b9 then b9 else a9) :: r9) S kc ks | false => none) = some r
      rw [e1, if_neg h1]
      exact hk'
/-- where the walk from a row on ends, if it does -/
noncomputable def mm_E (call : Nat → List MV → Mem → Option Res) (P : List PI) (rt : Nat) : Kt := fun j L st S kc ks =>
  @dite (Option Res) (∃ r, mm_T call P rt j L st S kc ks r) (Classical.propDecidable _) (fun h => some (Classical.choose h)) (fun _ => none)
theorem mm_E_of {call : Nat → List MV → Mem → Option Res} {P : List PI} {rt j : Nat} {L : List (Option MV)} {st : List MV} {S : Mem} {kc ks : Nat} {r : Res} (h : mm_T call P rt j L st S kc ks r) : mm_E call P rt j L st S kc ks = some r := by
  unfold mm_E
  rw [dif_pos ⟨r, h⟩]
  exact congrArg some (mm_T_one (Classical.choose_spec (⟨r, h⟩ : ∃ r, mm_T call P rt j L st S kc ks r)) h)
theorem mm_E_to {call : Nat → List MV → Mem → Option Res} {P : List PI} {rt j : Nat} {L : List (Option MV)} {st : List MV} {S : Mem} {kc ks : Nat} {r : Res} (h : mm_E call P rt j L st S kc ks = some r) : mm_T call P rt j L st S kc ks r := by
  unfold mm_E at h
  split at h
  · rename_i h1
    rw [← Option.some.inj h]
    exact Classical.choose_spec h1
  · cases h
theorem mm_E_step {call : Nat → List MV → Mem → Option Res} {P : List PI} {rt j : Nat} {L : List (Option MV)} {st : List MV} {S : Mem} {kc ks : Nat} {i : Instr} {x : Nat} {v : Int32} {ts : List Nat} (hj : P[j]? = some (i, x, v, ts)) : mm_E call P rt j L st S kc ks = mm_step call rt (mm_E call P rt) j L S kc ks i x v ts st := by
  apply Option.ext
  intro r
  constructor
  · intro h
    obtain ⟨n, h⟩ := mm_E_to h
    cases n with
    | zero => cases h
    | succ n =>
      unfold mm_runN at h
      rw [hj] at h
      exact mm_more_step (fun j L st S kc ks h => mm_E_of ⟨n, h⟩) h
  · intro h
    rcases mm_use h with ⟨j', L', st', S', kc', ks', h1, h2⟩ | h1
    · obtain ⟨n, h1⟩ := mm_E_to h1
      refine mm_E_of ⟨n + 1, ?_⟩
      unfold mm_runN
      rw [hj]
      exact h2 _ h1
    · refine mm_E_of ⟨1, ?_⟩
      unfold mm_runN
      rw [hj]
      exact h1 _
/-- a walk up to the next cut -/
def mm_runC (call : Nat → List MV → Mem → Option Res) (P : List PI) (rt : Nat) (cuts : List Nat) (k : Kt) : Nat → Bool → Kt
  | 0, _ => fun j L st S kc ks => k j L st S kc ks
  | m + 1, f => fun j L st S kc ks => match f && cuts.contains j with
    | true => k j L st S kc ks
    | false => match P[j]? with
      | some (i, x, v, ts) => mm_step call rt (mm_runC call P rt cuts k m true) j L S kc ks i x v ts st
      | none => none
theorem mm_E_C {call : Nat → List MV → Mem → Option Res} {P : List PI} {rt : Nat} (cuts : List Nat) : ∀ (m : Nat) (f : Bool), mm_runC call P rt cuts (mm_E call P rt) m f = mm_E call P rt := by
  intro m
  induction m with
  | zero => intro f; rfl
  | succ m ih =>
    intro f
    funext j L st S kc ks
    unfold mm_runC
    split
    · rfl
    · cases hj : P[j]? with
      | none =>
        have : ∀ r, mm_E call P rt j L st S kc ks ≠ some r := by
          intro r h
          obtain ⟨n, h⟩ := mm_E_to h
          cases n with
          | zero => cases h
          | succ n => unfold mm_runN at h; rw [hj] at h; cases h
        cases he : mm_E call P rt j L st S kc ks with
        | none => rfl
        | some r => exact absurd he (this r)
      | some q =>
        obtain ⟨i, x, v, ts⟩ := q
        rw [mm_E_step hj, ih true]
theorem mm_E_eq {call : Nat → List MV → Mem → Option Res} {P : List PI} {rt : Nat} (cuts : List Nat) (K : Nat) {j : Nat} {L : List (Option MV)} {st : List MV} {S : Mem} {kc ks : Nat} {X : Option Res} (h : mm_runC call P rt cuts (mm_E call P rt) K false j L st S kc ks = X) : mm_E call P rt j L st S kc ks = X := by
  rw [← h, mm_E_C]
end
section
def pX0_forget : List PI := [(.aload_n 0, 0, 0, []), (.iconst (-1), 0, (-1), []), (.putfield 23, 4, 0, [0]), (.return_, 0, 0, [])]
def qX0_forget : List Nat := [0, 1, 2, 5]
def pX0_shown : List PI := [(.aload_n 0, 0, 0, []), (.getfield 23, 4, 0, [0]), (.ireturn, 0, 0, [])]
def qX0_shown : List Nat := [0, 1, 4]
def pX0_show : List PI := [(.aload_n 0, 0, 0, []), (.iload_n 1, 1, 0, []), (.putfield 23, 4, 0, [0]), (.aload_n 0, 0, 0, []), (.iload_n 2, 2, 0, []), (.aload_n 0, 0, 0, []), (.getfield 19, 2, 0, [0]), (.arraylength, 0, 0, []), (.invokestatic 27, 0, 0, []), (.putfield 33, 3, 0, [0]), (.iconst 0, 0, 0, []), (.istore_n 3, 3, 0, []), (.iload_n 3, 3, 0, []), (.aload_n 0, 0, 0, []), (.getfield 33, 3, 0, [0]), (.if_icmp .ge 16, 23, 0, []), (.aload_n 0, 0, 0, []), (.getfield 19, 2, 0, [0]), (.iload_n 3, 3, 0, []), (.iconst (-1), 0, (-1), []), (.iastore, 0, 0, []), (.iinc 3 1, 3, 1, []), (.goto (-18), 12, 0, []), (.aload_n 0, 0, 0, []), (.getfield 15, 1, 0, [0]), (.iload_n 1, 1, 0, []), (.invokevirtual 36, 83, 0, [1, 1, 6]), (.istore_n 3, 3, 0, []), (.iconst 0, 0, 0, []), (.istore 4, 4, 0, []), (.iconst 0, 0, 0, []), (.istore 5, 5, 0, []), (.iload 5, 5, 0, []), (.sipush 300, 0, 300, []), (.if_icmp .ge 59, 61, 0, []), (.iload 4, 4, 0, []), (.iload_n 3, 3, 0, []), (.if_icmp .eq 53, 61, 0, []), (.iload 4, 4, 0, []), (.iconst (-1), 0, (-1), []), (.if_icmp .eq 47, 61, 0, []), (.aload_n 0, 0, 0, []), (.getfield 15, 1, 0, [0]), (.iload 4, 4, 0, []), (.iload_n 3, 3, 0, []), (.invokevirtual 42, 82, 0, [2, 1, 6]), (.istore 6, 6, 0, []), (.aload_n 0, 0, 0, []), (.aload_n 0, 0, 0, []), (.getfield 15, 1, 0, [0]), (.iload 4, 4, 0, []), (.invokevirtual 45, 78, 0, [1, 1, 6]), (.aload_n 0, 0, 0, []), (.getfield 15, 1, 0, [0]), (.iload 6, 6, 0, []), (.invokevirtual 48, 79, 0, [1, 1, 6]), (.invokevirtual 51, 4, 0, [2, 0, 0]), (.iload 6, 6, 0, []), (.istore 4, 4, 0, []), (.iinc 5 1, 5, 1, []), (.goto (-61), 32, 0, []), (.return_, 0, 0, [])]
def qX0_show : List Nat := [0, 1, 2, 5, 6, 7, 8, 11, 12, 15, 18, 19, 20, 21, 22, 25, 28, 29, 32, 33, 34, 35, 38, 41, 42, 45, 46, 49, 50, 51, 53, 54, 56, 58, 61, 64, 66, 67, 70, 72, 73, 76, 77, 80, 82, 83, 86, 88, 89, 90, 93, 95, 98, 99, 102, 104, 107, 110, 112, 114, 117, 120]
def pX0_signAt : List PI := [(.iload_n 1, 1, 0, []), (.ifCond .lt 29, 16, 0, []), (.iload_n 1, 1, 0, []), (.aload_n 0, 0, 0, []), (.getfield 33, 3, 0, [0]), (.if_icmp .ge 21, 16, 0, []), (.iload_n 1, 1, 0, []), (.aload_n 0, 0, 0, []), (.getfield 19, 2, 0, [0]), (.arraylength, 0, 0, []), (.if_icmp .ge 12, 16, 0, []), (.aload_n 0, 0, 0, []), (.getfield 19, 2, 0, [0]), (.iload_n 1, 1, 0, []), (.iaload, 0, 0, []), (.goto 5, 17, 0, []), (.bipush (-3), 0, (-3), []), (.ireturn, 0, 0, [])]
def qX0_signAt : List Nat := [0, 1, 4, 5, 6, 9, 12, 13, 14, 17, 18, 21, 22, 25, 26, 27, 30, 32]
def pX0_putFound : List PI := [(.aload_n 0, 0, 0, []), (.iload_n 1, 1, 0, []), (.invokevirtual 55, 5, 0, [1, 1, 0]), (.istore_n 3, 3, 0, []), (.aload_n 0, 0, 0, []), (.getfield 9, 0, 0, [0]), (.iload_n 2, 2, 0, []), (.invokevirtual 58, 24, 0, [1, 1, 2]), (.istore 4, 4, 0, []), (.iload_n 3, 3, 0, []), (.iconst (-1), 0, (-1), []), (.if_icmp .eq 18, 20, 0, []), (.aload_n 0, 0, 0, []), (.getfield 33, 3, 0, [0]), (.iload 4, 4, 0, []), (.iadd, 0, 0, []), (.aload_n 0, 0, 0, []), (.getfield 19, 2, 0, [0]), (.arraylength, 0, 0, []), (.if_icmp .le 4, 21, 0, []), (.return_, 0, 0, []), (.aload_n 0, 0, 0, []), (.getfield 33, 3, 0, [0]), (.iconst 1, 0, 1, []), (.isub, 0, 0, []), (.istore 5, 5, 0, []), (.iload 5, 5, 0, []), (.iload_n 3, 3, 0, []), (.if_icmp .le 26, 41, 0, []), (.aload_n 0, 0, 0, []), (.getfield 19, 2, 0, [0]), (.iload 5, 5, 0, []), (.iload 4, 4, 0, []), (.iadd, 0, 0, []), (.aload_n 0, 0, 0, []), (.getfield 19, 2, 0, [0]), (.iload 5, 5, 0, []), (.iaload, 0, 0, []), (.iastore, 0, 0, []), (.iinc 5 (-1), 5, (-1), []), (.goto (-26), 26, 0, []), (.aload_n 0, 0, 0, []), (.getfield 19, 2, 0, [0]), (.iload_n 3, 3, 0, []), (.iload_n 2, 2, 0, []), (.iastore, 0, 0, []), (.iconst 1, 0, 1, []), (.istore 5, 5, 0, []), (.iload 5, 5, 0, []), (.iload 4, 4, 0, []), (.if_icmp .gt 19, 60, 0, []), (.aload_n 0, 0, 0, []), (.getfield 19, 2, 0, [0]), (.iload_n 3, 3, 0, []), (.iload 5, 5, 0, []), (.iadd, 0, 0, []), (.iconst (-1), 0, (-1), []), (.iastore, 0, 0, []), (.iinc 5 1, 5, 1, []), (.goto (-20), 48, 0, []), (.aload_n 0, 0, 0, []), (.dup, 0, 0, []), (.getfield 33, 3, 0, [0]), (.iload 4, 4, 0, []), (.iadd, 0, 0, []), (.putfield 33, 3, 0, [0]), (.return_, 0, 0, [])]
def qX0_putFound : List Nat := [0, 1, 2, 5, 6, 7, 10, 11, 14, 16, 17, 18, 21, 22, 25, 27, 28, 29, 32, 33, 36, 37, 38, 41, 42, 43, 45, 47, 48, 51, 52, 55, 57, 59, 60, 61, 64, 66, 67, 68, 71, 74, 75, 78, 79, 80, 81, 82, 84, 86, 88, 91, 92, 95, 96, 98, 99, 100, 101, 104, 107, 108, 109, 112, 114, 115, 118]
def pX0_anyOf : List PI := [(.iload_n 1, 1, 0, []), (.istore_n 2, 2, 0, []), (.iconst 0, 0, 0, []), (.istore_n 3, 3, 0, []), (.iload_n 3, 3, 0, []), (.aload_n 0, 0, 0, []), (.getfield 33, 3, 0, [0]), (.if_icmp .ge 37, 26, 0, []), (.iload_n 3, 3, 0, []), (.aload_n 0, 0, 0, []), (.getfield 19, 2, 0, [0]), (.arraylength, 0, 0, []), (.if_icmp .ge 28, 26, 0, []), (.aload_n 0, 0, 0, []), (.getfield 19, 2, 0, [0]), (.iload_n 3, 3, 0, []), (.iaload, 0, 0, []), (.iconst (-1), 0, (-1), []), (.if_icmp .ne 12, 24, 0, []), (.iload_n 2, 2, 0, []), (.ifCond .ne 5, 23, 0, []), (.iload_n 3, 3, 0, []), (.ireturn, 0, 0, []), (.iinc 2 (-1), 2, (-1), []), (.iinc 3 1, 3, 1, []), (.goto (-39), 4, 0, []), (.iconst (-1), 0, (-1), []), (.ireturn, 0, 0, [])]
def qX0_anyOf : List Nat := [0, 1, 2, 3, 4, 5, 6, 9, 12, 13, 14, 17, 18, 21, 22, 25, 26, 27, 28, 31, 32, 35, 36, 37, 40, 43, 46, 47]
def pX1_begin : List PI := [(.aload_n 0, 0, 0, []), (.iconst 0, 0, 0, []), (.putfield 31, 4, 0, [1]), (.aload_n 0, 0, 0, []), (.iconst 0, 0, 0, []), (.putfield 35, 5, 0, [1]), (.iload_n 2, 2, 0, []), (.aload_n 1, 1, 0, []), (.arraylength, 0, 0, []), (.invokestatic 38, 0, 0, []), (.iconst 1, 0, 1, []), (.isub, 0, 0, []), (.istore_n 3, 3, 0, []), (.iload_n 3, 3, 0, []), (.ifCond .lt 16, 22, 0, []), (.aload_n 0, 0, 0, []), (.aload_n 1, 1, 0, []), (.iload_n 3, 3, 0, []), (.iaload, 0, 0, []), (.invokevirtual 41, 16, 0, [1, 0, 1]), (.iinc 3 (-1), 3, (-1), []), (.goto (-14), 13, 0, []), (.return_, 0, 0, [])]
def qX1_begin : List Nat := [0, 1, 2, 5, 6, 7, 10, 11, 12, 13, 16, 17, 18, 19, 20, 23, 24, 25, 26, 27, 30, 33, 36]
def pX1_count : List PI := [(.aload_n 0, 0, 0, []), (.getfield 31, 4, 0, [1]), (.ireturn, 0, 0, [])]
def qX1_count : List Nat := [0, 1, 4]
def pX1_isFull : List PI := [(.aload_n 0, 0, 0, []), (.getfield 31, 4, 0, [1]), (.aload_n 0, 0, 0, []), (.getfield 21, 1, 0, [1]), (.arraylength, 0, 0, []), (.if_icmp .lt 7, 8, 0, []), (.iconst 1, 0, 1, []), (.goto 4, 9, 0, []), (.iconst 0, 0, 0, []), (.ireturn, 0, 0, [])]
def qX1_isFull : List Nat := [0, 1, 4, 5, 8, 9, 12, 13, 16, 17]
def pX1_asks : List PI := [(.aload_n 0, 0, 0, []), (.getfield 35, 5, 0, [1]), (.ifCond .le 7, 5, 0, []), (.iconst 1, 0, 1, []), (.goto 4, 6, 0, []), (.iconst 0, 0, 0, []), (.ireturn, 0, 0, [])]
def qX1_asks : List Nat := [0, 1, 4, 7, 8, 11, 12]
def pX1_takesMaker : List PI := [(.aload_n 0, 0, 0, []), (.invokevirtual 45, 9, 0, [0, 2, 1]), (.ifCond .eq 33, 17, 0, []), (.aload_n 0, 0, 0, []), (.getfield 9, 0, 0, [1]), (.iload_n 1, 1, 0, []), (.invokevirtual 49, 20, 0, [1, 2, 2]), (.ifCond .eq 22, 17, 0, []), (.aload_n 0, 0, 0, []), (.getfield 9, 0, 0, [1]), (.iload_n 1, 1, 0, []), (.invokevirtual 55, 23, 0, [1, 1, 2]), (.aload_n 0, 0, 0, []), (.invokevirtual 59, 15, 0, [0, 1, 1]), (.if_icmp .ne 7, 17, 0, []), (.iconst 1, 0, 1, []), (.goto 4, 18, 0, []), (.iconst 0, 0, 0, []), (.ireturn, 0, 0, [])]
def qX1_takesMaker : List Nat := [0, 1, 4, 7, 8, 11, 12, 15, 18, 19, 22, 23, 26, 27, 30, 33, 34, 37, 38]
def pX1_put : List PI := [(.aload_n 0, 0, 0, []), (.invokevirtual 63, 8, 0, [0, 2, 1]), (.ifCond .ne 10, 6, 0, []), (.aload_n 0, 0, 0, []), (.invokevirtual 45, 9, 0, [0, 2, 1]), (.ifCond .ne 8, 9, 0, []), (.aload_n 0, 0, 0, []), (.getfield 31, 4, 0, [1]), (.ireturn, 0, 0, []), (.aload_n 0, 0, 0, []), (.invokevirtual 59, 15, 0, [0, 1, 1]), (.istore_n 2, 2, 0, []), (.aload_n 0, 0, 0, []), (.dup, 0, 0, []), (.getfield 35, 5, 0, [1]), (.iconst 1, 0, 1, []), (.isub, 0, 0, []), (.putfield 35, 5, 0, [1]), (.aload_n 0, 0, 0, []), (.getfield 21, 1, 0, [1]), (.aload_n 0, 0, 0, []), (.getfield 31, 4, 0, [1]), (.iload_n 1, 1, 0, []), (.iastore, 0, 0, []), (.aload_n 0, 0, 0, []), (.dup, 0, 0, []), (.getfield 31, 4, 0, [1]), (.iconst 1, 0, 1, []), (.iadd, 0, 0, []), (.putfield 31, 4, 0, [1]), (.iload_n 1, 1, 0, []), (.bipush (-2), 0, (-2), []), (.if_icmp .ne 13, 39, 0, []), (.aload_n 0, 0, 0, []), (.iload_n 2, 2, 0, []), (.invokevirtual 41, 16, 0, [1, 0, 1]), (.aload_n 0, 0, 0, []), (.iload_n 2, 2, 0, []), (.invokevirtual 41, 16, 0, [1, 0, 1]), (.aload_n 0, 0, 0, []), (.getfield 9, 0, 0, [1]), (.iload_n 1, 1, 0, []), (.invokevirtual 66, 24, 0, [1, 1, 2]), (.iconst 1, 0, 1, []), (.isub, 0, 0, []), (.istore_n 3, 3, 0, []), (.iload_n 3, 3, 0, []), (.ifCond .lt 22, 57, 0, []), (.aload_n 0, 0, 0, []), (.aload_n 0, 0, 0, []), (.getfield 9, 0, 0, [1]), (.iload_n 1, 1, 0, []), (.iload_n 3, 3, 0, []), (.invokevirtual 69, 25, 0, [2, 1, 2]), (.invokevirtual 41, 16, 0, [1, 0, 1]), (.iinc 3 (-1), 3, (-1), []), (.goto (-20), 46, 0, []), (.aload_n 0, 0, 0, []), (.getfield 31, 4, 0, [1]), (.ireturn, 0, 0, [])]
def qX1_put : List Nat := [0, 1, 4, 7, 8, 11, 14, 15, 18, 19, 20, 23, 24, 25, 26, 29, 30, 31, 34, 35, 38, 39, 42, 43, 44, 45, 46, 49, 50, 51, 54, 55, 57, 60, 61, 62, 65, 66, 67, 70, 71, 74, 75, 78, 79, 80, 81, 82, 85, 86, 87, 90, 91, 92, 95, 98, 101, 104, 105, 108]
def pX1_signAt : List PI := [(.iload_n 1, 1, 0, []), (.ifCond .lt 29, 16, 0, []), (.iload_n 1, 1, 0, []), (.aload_n 0, 0, 0, []), (.getfield 31, 4, 0, [1]), (.if_icmp .ge 21, 16, 0, []), (.iload_n 1, 1, 0, []), (.aload_n 0, 0, 0, []), (.getfield 21, 1, 0, [1]), (.arraylength, 0, 0, []), (.if_icmp .ge 12, 16, 0, []), (.aload_n 0, 0, 0, []), (.getfield 21, 1, 0, [1]), (.iload_n 1, 1, 0, []), (.iaload, 0, 0, []), (.goto 5, 17, 0, []), (.bipush (-3), 0, (-3), []), (.ireturn, 0, 0, [])]
def qX1_signAt : List Nat := [0, 1, 4, 5, 6, 9, 12, 13, 14, 17, 18, 21, 22, 25, 26, 27, 30, 32]
def pX1_endAt : List PI := [(.iload_n 1, 1, 0, []), (.ifCond .lt 29, 16, 0, []), (.iload_n 1, 1, 0, []), (.aload_n 0, 0, 0, []), (.getfield 31, 4, 0, [1]), (.if_icmp .ge 21, 16, 0, []), (.iload_n 1, 1, 0, []), (.aload_n 0, 0, 0, []), (.getfield 25, 2, 0, [1]), (.arraylength, 0, 0, []), (.if_icmp .ge 12, 16, 0, []), (.aload_n 0, 0, 0, []), (.getfield 25, 2, 0, [1]), (.iload_n 1, 1, 0, []), (.iaload, 0, 0, []), (.goto 7, 18, 0, []), (.aload_n 0, 0, 0, []), (.getfield 31, 4, 0, [1]), (.ireturn, 0, 0, [])]
def qX1_endAt : List Nat := [0, 1, 4, 5, 6, 9, 12, 13, 14, 17, 18, 21, 22, 25, 26, 27, 30, 31, 34]
def pX1_findEnds : List PI := [(.aload_n 0, 0, 0, []), (.getfield 31, 4, 0, [1]), (.aload_n 0, 0, 0, []), (.getfield 25, 2, 0, [1]), (.arraylength, 0, 0, []), (.invokestatic 38, 0, 0, []), (.iconst 1, 0, 1, []), (.isub, 0, 0, []), (.istore_n 1, 1, 0, []), (.iload_n 1, 1, 0, []), (.ifCond .lt 70, 47, 0, []), (.aload_n 0, 0, 0, []), (.iload_n 1, 1, 0, []), (.invokevirtual 72, 12, 0, [1, 1, 1]), (.istore_n 2, 2, 0, []), (.iload_n 2, 2, 0, []), (.bipush (-2), 0, (-2), []), (.if_icmp .ne 7, 20, 0, []), (.iconst 2, 0, 2, []), (.goto 11, 24, 0, []), (.aload_n 0, 0, 0, []), (.getfield 9, 0, 0, [1]), (.iload_n 2, 2, 0, []), (.invokevirtual 66, 24, 0, [1, 1, 2]), (.istore_n 3, 3, 0, []), (.iload_n 1, 1, 0, []), (.iconst 1, 0, 1, []), (.iadd, 0, 0, []), (.istore 4, 4, 0, []), (.iconst 0, 0, 0, []), (.istore 5, 5, 0, []), (.iload 5, 5, 0, []), (.iload_n 3, 3, 0, []), (.if_icmp .ge 17, 40, 0, []), (.aload_n 0, 0, 0, []), (.iload 4, 4, 0, []), (.invokevirtual 75, 13, 0, [1, 1, 1]), (.istore 4, 4, 0, []), (.iinc 5 1, 5, 1, []), (.goto (-17), 31, 0, []), (.aload_n 0, 0, 0, []), (.getfield 25, 2, 0, [1]), (.iload_n 1, 1, 0, []), (.iload 4, 4, 0, []), (.iastore, 0, 0, []), (.iinc 1 (-1), 1, (-1), []), (.goto (-68), 9, 0, []), (.return_, 0, 0, [])]
def qX1_findEnds : List Nat := [0, 1, 4, 5, 8, 9, 12, 13, 14, 15, 16, 19, 20, 21, 24, 25, 26, 28, 31, 32, 35, 36, 39, 40, 43, 44, 45, 46, 47, 49, 50, 52, 54, 55, 58, 59, 61, 64, 66, 69, 72, 73, 76, 77, 79, 80, 83, 86]
def pX1_nextAsked : List PI := [(.aload_n 0, 0, 0, []), (.getfield 35, 5, 0, [1]), (.ifCond .le 29, 17, 0, []), (.aload_n 0, 0, 0, []), (.getfield 35, 5, 0, [1]), (.aload_n 0, 0, 0, []), (.getfield 28, 3, 0, [1]), (.arraylength, 0, 0, []), (.if_icmp .gt 17, 17, 0, []), (.aload_n 0, 0, 0, []), (.getfield 28, 3, 0, [1]), (.aload_n 0, 0, 0, []), (.getfield 35, 5, 0, [1]), (.iconst 1, 0, 1, []), (.isub, 0, 0, []), (.iaload, 0, 0, []), (.goto 4, 18, 0, []), (.iconst (-1), 0, (-1), []), (.ireturn, 0, 0, [])]
def qX1_nextAsked : List Nat := [0, 1, 4, 7, 8, 11, 12, 15, 16, 19, 20, 23, 24, 27, 28, 29, 30, 33, 34]
def pX1_ask : List PI := [(.aload_n 0, 0, 0, []), (.getfield 35, 5, 0, [1]), (.ifCond .lt 35, 21, 0, []), (.aload_n 0, 0, 0, []), (.getfield 35, 5, 0, [1]), (.aload_n 0, 0, 0, []), (.getfield 28, 3, 0, [1]), (.arraylength, 0, 0, []), (.if_icmp .ge 23, 21, 0, []), (.aload_n 0, 0, 0, []), (.getfield 28, 3, 0, [1]), (.aload_n 0, 0, 0, []), (.getfield 35, 5, 0, [1]), (.iload_n 1, 1, 0, []), (.iastore, 0, 0, []), (.aload_n 0, 0, 0, []), (.dup, 0, 0, []), (.getfield 35, 5, 0, [1]), (.iconst 1, 0, 1, []), (.iadd, 0, 0, []), (.putfield 35, 5, 0, [1]), (.return_, 0, 0, [])]
def qX1_ask : List Nat := [0, 1, 4, 7, 8, 11, 12, 15, 16, 19, 20, 23, 24, 27, 28, 29, 30, 31, 34, 35, 36, 39]
def pX2_typeCount : List PI := [(.aload_n 0, 0, 0, []), (.getfield 28, 0, 0, [2]), (.ireturn, 0, 0, [])]
def qX2_typeCount : List Nat := [0, 1, 4]
def pX2_makerCount : List PI := [(.aload_n 0, 0, 0, []), (.getfield 32, 1, 0, [2]), (.ireturn, 0, 0, [])]
def qX2_makerCount : List Nat := [0, 1, 4]
def pX2_hasType : List PI := [(.iload_n 1, 1, 0, []), (.ifCond .lt 21, 11, 0, []), (.iload_n 1, 1, 0, []), (.aload_n 0, 0, 0, []), (.getfield 28, 0, 0, [2]), (.if_icmp .ge 13, 11, 0, []), (.iload_n 1, 1, 0, []), (.bipush 8, 0, 8, []), (.if_icmp .ge 7, 11, 0, []), (.iconst 1, 0, 1, []), (.goto 4, 12, 0, []), (.iconst 0, 0, 0, []), (.ireturn, 0, 0, [])]
def qX2_hasType : List Nat := [0, 1, 4, 5, 6, 9, 12, 13, 15, 18, 19, 22, 23]
def pX2_hasMaker : List PI := [(.iload_n 1, 1, 0, []), (.ifCond .lt 21, 11, 0, []), (.iload_n 1, 1, 0, []), (.aload_n 0, 0, 0, []), (.getfield 32, 1, 0, [2]), (.if_icmp .ge 13, 11, 0, []), (.iload_n 1, 1, 0, []), (.bipush 40, 0, 40, []), (.if_icmp .ge 7, 11, 0, []), (.iconst 1, 0, 1, []), (.goto 4, 12, 0, []), (.iconst 0, 0, 0, []), (.ireturn, 0, 0, [])]
def qX2_hasMaker : List Nat := [0, 1, 4, 5, 6, 9, 12, 13, 15, 18, 19, 22, 23]
def pX2_hasRoomForMaker : List PI := [(.aload_n 0, 0, 0, []), (.iload_n 1, 1, 0, []), (.invokevirtual 35, 19, 0, [1, 2, 2]), (.ifCond .eq 27, 16, 0, []), (.aload_n 0, 0, 0, []), (.getfield 9, 2, 0, [2]), (.iload_n 1, 1, 0, []), (.iaload, 0, 0, []), (.bipush 8, 0, 8, []), (.if_icmp .ge 16, 16, 0, []), (.aload_n 0, 0, 0, []), (.getfield 32, 1, 0, [2]), (.bipush 40, 0, 40, []), (.if_icmp .ge 7, 16, 0, []), (.iconst 1, 0, 1, []), (.goto 4, 17, 0, []), (.iconst 0, 0, 0, []), (.ireturn, 0, 0, [])]
def qX2_hasRoomForMaker : List Nat := [0, 1, 2, 5, 8, 9, 12, 13, 14, 16, 19, 20, 23, 25, 28, 29, 32, 33]
def pX2_hasValue : List PI := [(.aload_n 0, 0, 0, []), (.iload_n 1, 1, 0, []), (.invokevirtual 35, 19, 0, [1, 2, 2]), (.ifCond .eq 16, 11, 0, []), (.aload_n 0, 0, 0, []), (.getfield 15, 3, 0, [2]), (.iload_n 1, 1, 0, []), (.baload, 0, 0, []), (.ifCond .eq 7, 11, 0, []), (.iconst 1, 0, 1, []), (.goto 4, 12, 0, []), (.iconst 0, 0, 0, []), (.ireturn, 0, 0, [])]
def qX2_hasValue : List Nat := [0, 1, 2, 5, 8, 9, 12, 13, 14, 17, 18, 21, 22]
def pX2_typeOf : List PI := [(.aload_n 0, 0, 0, []), (.iload_n 1, 1, 0, []), (.invokevirtual 39, 20, 0, [1, 2, 2]), (.ifCond .eq 12, 9, 0, []), (.aload_n 0, 0, 0, []), (.getfield 19, 4, 0, [2]), (.iload_n 1, 1, 0, []), (.iaload, 0, 0, []), (.goto 4, 10, 0, []), (.iconst (-1), 0, (-1), []), (.ireturn, 0, 0, [])]
def qX2_typeOf : List Nat := [0, 1, 2, 5, 8, 9, 12, 13, 14, 17, 18]
def pX2_fieldCount : List PI := [(.aload_n 0, 0, 0, []), (.iload_n 1, 1, 0, []), (.invokevirtual 39, 20, 0, [1, 2, 2]), (.ifCond .eq 12, 9, 0, []), (.aload_n 0, 0, 0, []), (.getfield 22, 5, 0, [2]), (.iload_n 1, 1, 0, []), (.iaload, 0, 0, []), (.goto 4, 10, 0, []), (.iconst 0, 0, 0, []), (.ireturn, 0, 0, [])]
def qX2_fieldCount : List Nat := [0, 1, 2, 5, 8, 9, 12, 13, 14, 17, 18]
def pX2_fieldType : List PI := [(.iload_n 2, 2, 0, []), (.ifCond .lt 21, 12, 0, []), (.iload_n 2, 2, 0, []), (.iconst 3, 0, 3, []), (.if_icmp .ge 16, 12, 0, []), (.iload_n 2, 2, 0, []), (.aload_n 0, 0, 0, []), (.iload_n 1, 1, 0, []), (.invokevirtual 42, 24, 0, [1, 1, 2]), (.if_icmp .ge 7, 12, 0, []), (.iconst 1, 0, 1, []), (.goto 4, 13, 0, []), (.iconst 0, 0, 0, []), (.istore_n 3, 3, 0, []), (.iload_n 3, 3, 0, []), (.ifCond .eq 16, 25, 0, []), (.aload_n 0, 0, 0, []), (.getfield 25, 6, 0, [2]), (.iload_n 1, 1, 0, []), (.iconst 3, 0, 3, []), (.imul, 0, 0, []), (.iload_n 2, 2, 0, []), (.iadd, 0, 0, []), (.iaload, 0, 0, []), (.goto 4, 26, 0, []), (.iconst (-1), 0, (-1), []), (.ireturn, 0, 0, [])]
def qX2_fieldType : List Nat := [0, 1, 4, 5, 6, 9, 10, 11, 12, 15, 18, 19, 22, 23, 24, 25, 28, 29, 32, 33, 34, 35, 36, 37, 38, 41, 42]
def pX2_isDead : List PI := [(.iconst 0, 0, 0, []), (.istore_n 2, 2, 0, []), (.iload_n 2, 2, 0, []), (.aload_n 0, 0, 0, []), (.iload_n 1, 1, 0, []), (.invokevirtual 42, 24, 0, [1, 1, 2]), (.if_icmp .ge 24, 18, 0, []), (.aload_n 0, 0, 0, []), (.aload_n 0, 0, 0, []), (.iload_n 1, 1, 0, []), (.iload_n 2, 2, 0, []), (.invokevirtual 46, 25, 0, [2, 1, 2]), (.invokevirtual 50, 22, 0, [1, 2, 2]), (.ifCond .ne 5, 16, 0, []), (.iconst 1, 0, 1, []), (.ireturn, 0, 0, []), (.iinc 2 1, 2, 1, []), (.goto (-27), 2, 0, []), (.iconst 0, 0, 0, []), (.ireturn, 0, 0, [])]
def qX2_isDead : List Nat := [0, 1, 2, 3, 4, 5, 8, 11, 12, 13, 14, 15, 18, 21, 24, 25, 26, 29, 32, 33]
def pX2_addType : List PI := [(.aload_n 0, 0, 0, []), (.getfield 28, 0, 0, [2]), (.istore_n 1, 1, 0, []), (.iload_n 1, 1, 0, []), (.bipush 8, 0, 8, []), (.if_icmp .ge 13, 12, 0, []), (.aload_n 0, 0, 0, []), (.dup, 0, 0, []), (.getfield 28, 0, 0, [2]), (.iconst 1, 0, 1, []), (.iadd, 0, 0, []), (.putfield 28, 0, 0, [2]), (.iload_n 1, 1, 0, []), (.ireturn, 0, 0, [])]
def qX2_addType : List Nat := [0, 1, 4, 5, 6, 8, 11, 12, 13, 16, 17, 18, 21, 22]
def pX2_addMaker : List PI := [(.aload_n 0, 0, 0, []), (.getfield 32, 1, 0, [2]), (.istore 6, 6, 0, []), (.aload_n 0, 0, 0, []), (.iload_n 1, 1, 0, []), (.invokevirtual 53, 21, 0, [1, 2, 2]), (.ifCond .ne 5, 9, 0, []), (.iconst (-1), 0, (-1), []), (.ireturn, 0, 0, []), (.aload_n 0, 0, 0, []), (.dup, 0, 0, []), (.getfield 32, 1, 0, [2]), (.iconst 1, 0, 1, []), (.iadd, 0, 0, []), (.putfield 32, 1, 0, [2]), (.aload_n 0, 0, 0, []), (.getfield 9, 2, 0, [2]), (.iload_n 1, 1, 0, []), (.dup2, 0, 0, []), (.iaload, 0, 0, []), (.iconst 1, 0, 1, []), (.iadd, 0, 0, []), (.iastore, 0, 0, []), (.aload_n 0, 0, 0, []), (.getfield 19, 4, 0, [2]), (.iload 6, 6, 0, []), (.iload_n 1, 1, 0, []), (.iastore, 0, 0, []), (.aload_n 0, 0, 0, []), (.getfield 22, 5, 0, [2]), (.iload 6, 6, 0, []), (.iload_n 2, 2, 0, []), (.iastore, 0, 0, []), (.aload_n 0, 0, 0, []), (.getfield 25, 6, 0, [2]), (.iload 6, 6, 0, []), (.iconst 3, 0, 3, []), (.imul, 0, 0, []), (.iload_n 3, 3, 0, []), (.iastore, 0, 0, []), (.aload_n 0, 0, 0, []), (.getfield 25, 6, 0, [2]), (.iload 6, 6, 0, []), (.iconst 3, 0, 3, []), (.imul, 0, 0, []), (.iconst 1, 0, 1, []), (.iadd, 0, 0, []), (.iload 4, 4, 0, []), (.iastore, 0, 0, []), (.aload_n 0, 0, 0, []), (.getfield 25, 6, 0, [2]), (.iload 6, 6, 0, []), (.iconst 3, 0, 3, []), (.imul, 0, 0, []), (.iconst 2, 0, 2, []), (.iadd, 0, 0, []), (.iload 5, 5, 0, []), (.iastore, 0, 0, []), (.aload_n 0, 0, 0, []), (.invokevirtual 56, 29, 0, [0, 0, 2]), (.iload 6, 6, 0, []), (.ireturn, 0, 0, [])]
def qX2_addMaker : List Nat := [0, 1, 4, 6, 7, 8, 11, 14, 15, 16, 17, 18, 21, 22, 23, 26, 27, 30, 31, 32, 33, 34, 35, 36, 37, 40, 42, 43, 44, 45, 48, 50, 51, 52, 53, 56, 58, 59, 60, 61, 62, 63, 66, 68, 69, 70, 71, 72, 74, 75, 76, 79, 81, 82, 83, 84, 85, 87, 88, 89, 92, 94]
def pX2_findValued : List PI := [(.iconst 1, 0, 1, []), (.istore_n 1, 1, 0, []), (.iconst 0, 0, 0, []), (.istore_n 2, 2, 0, []), (.iload_n 2, 2, 0, []), (.bipush 8, 0, 8, []), (.if_icmp .gt 75, 45, 0, []), (.iload_n 1, 1, 0, []), (.ifCond .eq 71, 45, 0, []), (.iconst 0, 0, 0, []), (.istore_n 1, 1, 0, []), (.iconst 0, 0, 0, []), (.istore_n 3, 3, 0, []), (.iload_n 3, 3, 0, []), (.aload_n 0, 0, 0, []), (.getfield 32, 1, 0, [2]), (.if_icmp .ge 53, 43, 0, []), (.aload_n 0, 0, 0, []), (.iload_n 3, 3, 0, []), (.invokevirtual 59, 23, 0, [1, 1, 2]), (.istore 4, 4, 0, []), (.aload_n 0, 0, 0, []), (.iload 4, 4, 0, []), (.invokevirtual 35, 19, 0, [1, 2, 2]), (.ifCond .eq 31, 41, 0, []), (.aload_n 0, 0, 0, []), (.getfield 15, 3, 0, [2]), (.iload 4, 4, 0, []), (.baload, 0, 0, []), (.ifCond .ne 21, 41, 0, []), (.aload_n 0, 0, 0, []), (.iload_n 3, 3, 0, []), (.invokevirtual 62, 26, 0, [1, 2, 2]), (.ifCond .ne 13, 41, 0, []), (.aload_n 0, 0, 0, []), (.getfield 15, 3, 0, [2]), (.iload 4, 4, 0, []), (.iconst 1, 0, 1, []), (.bastore, 0, 0, []), (.iconst 1, 0, 1, []), (.istore_n 1, 1, 0, []), (.iinc 3 1, 3, 1, []), (.goto (-55), 13, 0, []), (.iinc 2 1, 2, 1, []), (.goto (-75), 4, 0, []), (.return_, 0, 0, [])]
def qX2_findValued : List Nat := [0, 1, 2, 3, 4, 5, 7, 10, 11, 14, 15, 16, 17, 18, 19, 20, 23, 26, 27, 28, 31, 33, 34, 36, 39, 42, 43, 46, 48, 49, 52, 53, 54, 57, 60, 61, 64, 66, 67, 68, 69, 70, 73, 76, 79, 82]
def pX3_clear : List PI := [(.aload_n 0, 0, 0, []), (.iconst 0, 0, 0, []), (.putfield 18, 2, 0, [3]), (.return_, 0, 0, [])]
def qX3_clear : List Nat := [0, 1, 2, 5]
def pX3_count : List PI := [(.aload_n 0, 0, 0, []), (.getfield 18, 2, 0, [3]), (.ireturn, 0, 0, [])]
def qX3_count : List Nat := [0, 1, 4]
def pX3_add : List PI := [(.aload_n 0, 0, 0, []), (.getfield 18, 2, 0, [3]), (.istore_n 2, 2, 0, []), (.iload_n 2, 2, 0, []), (.ifCond .lt 9, 8, 0, []), (.iload_n 2, 2, 0, []), (.bipush 12, 0, 12, []), (.if_icmp .lt 5, 10, 0, []), (.iconst (-1), 0, (-1), []), (.ireturn, 0, 0, []), (.aload_n 1, 1, 0, []), (.invokevirtual 22, 14, 0, [0, 0, 1]), (.aload_n 0, 0, 0, []), (.iload_n 2, 2, 0, []), (.invokevirtual 27, 33, 0, [1, 1, 3]), (.istore_n 3, 3, 0, []), (.iconst 0, 0, 0, []), (.istore 4, 4, 0, []), (.iload 4, 4, 0, []), (.aload_n 1, 1, 0, []), (.invokevirtual 31, 7, 0, [0, 1, 1]), (.if_icmp .ge 48, 47, 0, []), (.iload 4, 4, 0, []), (.bipush 40, 0, 40, []), (.if_icmp .ge 41, 47, 0, []), (.aload_n 0, 0, 0, []), (.getfield 9, 0, 0, [3]), (.iload_n 3, 3, 0, []), (.iload 4, 4, 0, []), (.iadd, 0, 0, []), (.aload_n 1, 1, 0, []), (.iload 4, 4, 0, []), (.invokevirtual 34, 12, 0, [1, 1, 1]), (.iastore, 0, 0, []), (.aload_n 0, 0, 0, []), (.getfield 15, 1, 0, [3]), (.iload_n 3, 3, 0, []), (.iload 4, 4, 0, []), (.iadd, 0, 0, []), (.iload_n 3, 3, 0, []), (.aload_n 1, 1, 0, []), (.iload 4, 4, 0, []), (.invokevirtual 37, 13, 0, [1, 1, 1]), (.iadd, 0, 0, []), (.iastore, 0, 0, []), (.iinc 4 1, 4, 1, []), (.goto (-51), 18, 0, []), (.aload_n 0, 0, 0, []), (.dup, 0, 0, []), (.getfield 18, 2, 0, [3]), (.iconst 1, 0, 1, []), (.iadd, 0, 0, []), (.putfield 18, 2, 0, [3]), (.iload_n 2, 2, 0, []), (.ireturn, 0, 0, [])]
def qX3_add : List Nat := [0, 1, 4, 5, 6, 9, 10, 12, 15, 16, 17, 18, 21, 22, 23, 26, 27, 28, 30, 32, 33, 36, 39, 41, 43, 46, 47, 50, 51, 53, 54, 55, 57, 60, 61, 62, 65, 66, 68, 69, 70, 71, 73, 76, 77, 78, 81, 84, 85, 86, 89, 90, 91, 94, 95]
def pX3_startOf : List PI := [(.iload_n 1, 1, 0, []), (.bipush 40, 0, 40, []), (.imul, 0, 0, []), (.ireturn, 0, 0, [])]
def qX3_startOf : List Nat := [0, 1, 3, 4]
def pX3_signAt : List PI := [(.iload_n 1, 1, 0, []), (.ifCond .lt 21, 12, 0, []), (.iload_n 1, 1, 0, []), (.aload_n 0, 0, 0, []), (.getfield 9, 0, 0, [3]), (.arraylength, 0, 0, []), (.if_icmp .ge 12, 12, 0, []), (.aload_n 0, 0, 0, []), (.getfield 9, 0, 0, [3]), (.iload_n 1, 1, 0, []), (.iaload, 0, 0, []), (.goto 4, 13, 0, []), (.iconst (-1), 0, (-1), []), (.ireturn, 0, 0, [])]
def qX3_signAt : List Nat := [0, 1, 4, 5, 6, 9, 10, 13, 14, 17, 18, 19, 22, 23]
def pX3_endAt : List PI := [(.iload_n 1, 1, 0, []), (.ifCond .lt 21, 12, 0, []), (.iload_n 1, 1, 0, []), (.aload_n 0, 0, 0, []), (.getfield 15, 1, 0, [3]), (.arraylength, 0, 0, []), (.if_icmp .ge 12, 12, 0, []), (.aload_n 0, 0, 0, []), (.getfield 15, 1, 0, [3]), (.iload_n 1, 1, 0, []), (.iaload, 0, 0, []), (.goto 4, 13, 0, []), (.iload_n 1, 1, 0, []), (.ireturn, 0, 0, [])]
def qX3_endAt : List Nat := [0, 1, 4, 5, 6, 9, 10, 13, 14, 17, 18, 19, 22, 23]
def pX4_begin : List PI := [(.iconst 0, 0, 0, []), (.istore_n 2, 2, 0, []), (.aload_n 0, 0, 0, []), (.iload_n 1, 1, 0, []), (.aload_n 0, 0, 0, []), (.getfield 19, 2, 0, [4]), (.arraylength, 0, 0, []), (.invokestatic 23, 0, 0, []), (.putfield 29, 3, 0, [4]), (.iconst 0, 0, 0, []), (.istore_n 3, 3, 0, []), (.iload_n 3, 3, 0, []), (.aload_n 0, 0, 0, []), (.getfield 29, 3, 0, [4]), (.if_icmp .ge 25, 27, 0, []), (.aload_n 0, 0, 0, []), (.getfield 19, 2, 0, [4]), (.iload_n 3, 3, 0, []), (.iload_n 2, 2, 0, []), (.iastore, 0, 0, []), (.aload_n 0, 0, 0, []), (.getfield 15, 1, 0, [4]), (.iload_n 2, 2, 0, []), (.invokevirtual 33, 13, 0, [1, 1, 1]), (.istore_n 2, 2, 0, []), (.iinc 3 1, 3, 1, []), (.goto (-27), 11, 0, []), (.return_, 0, 0, [])]
def qX4_begin : List Nat := [0, 1, 2, 3, 4, 5, 8, 9, 12, 15, 16, 17, 18, 19, 22, 25, 26, 29, 30, 31, 32, 33, 36, 37, 40, 41, 44, 47]
def pX4_makerAt : List PI := [(.aload_n 0, 0, 0, []), (.iload_n 1, 1, 0, []), (.invokevirtual 39, 40, 0, [1, 2, 4]), (.ifCond .eq 19, 12, 0, []), (.aload_n 0, 0, 0, []), (.getfield 15, 1, 0, [4]), (.aload_n 0, 0, 0, []), (.getfield 19, 2, 0, [4]), (.iload_n 1, 1, 0, []), (.iaload, 0, 0, []), (.invokevirtual 43, 12, 0, [1, 1, 1]), (.goto 4, 13, 0, []), (.iconst (-1), 0, (-1), []), (.ireturn, 0, 0, [])]
def qX4_makerAt : List Nat := [0, 1, 2, 5, 8, 9, 12, 13, 16, 17, 18, 21, 24, 25]
def pX4_openUp : List PI := [(.aload_n 0, 0, 0, []), (.getfield 9, 0, 0, [4]), (.iload_n 2, 2, 0, []), (.invokevirtual 46, 24, 0, [1, 1, 2]), (.istore_n 3, 3, 0, []), (.aload_n 0, 0, 0, []), (.iload_n 1, 1, 0, []), (.invokevirtual 39, 40, 0, [1, 2, 4]), (.ifCond .eq 19, 19, 0, []), (.aload_n 0, 0, 0, []), (.getfield 29, 3, 0, [4]), (.iconst 1, 0, 1, []), (.isub, 0, 0, []), (.iload_n 3, 3, 0, []), (.iadd, 0, 0, []), (.aload_n 0, 0, 0, []), (.getfield 19, 2, 0, [4]), (.arraylength, 0, 0, []), (.if_icmp .le 4, 20, 0, []), (.return_, 0, 0, []), (.aload_n 0, 0, 0, []), (.getfield 19, 2, 0, [4]), (.iload_n 1, 1, 0, []), (.iaload, 0, 0, []), (.iconst 1, 0, 1, []), (.iadd, 0, 0, []), (.istore 4, 4, 0, []), (.aload_n 0, 0, 0, []), (.iload_n 1, 1, 0, []), (.iload_n 3, 3, 0, []), (.invokevirtual 51, 39, 0, [2, 0, 4]), (.iload_n 1, 1, 0, []), (.istore 5, 5, 0, []), (.iload 5, 5, 0, []), (.iload_n 1, 1, 0, []), (.iload_n 3, 3, 0, []), (.iadd, 0, 0, []), (.if_icmp .ge 39, 55, 0, []), (.iload 5, 5, 0, []), (.aload_n 0, 0, 0, []), (.getfield 19, 2, 0, [4]), (.arraylength, 0, 0, []), (.if_icmp .ge 29, 55, 0, []), (.aload_n 0, 0, 0, []), (.getfield 19, 2, 0, [4]), (.iload 5, 5, 0, []), (.iload 4, 4, 0, []), (.iastore, 0, 0, []), (.aload_n 0, 0, 0, []), (.getfield 15, 1, 0, [4]), (.iload 4, 4, 0, []), (.invokevirtual 33, 13, 0, [1, 1, 1]), (.istore 4, 4, 0, []), (.iinc 5 1, 5, 1, []), (.goto (-41), 33, 0, []), (.return_, 0, 0, [])]
def qX4_openUp : List Nat := [0, 1, 4, 5, 8, 9, 10, 11, 14, 17, 18, 21, 22, 23, 24, 25, 26, 29, 30, 33, 34, 35, 38, 39, 40, 41, 42, 44, 45, 46, 47, 50, 51, 53, 55, 56, 57, 58, 61, 63, 64, 67, 68, 71, 72, 75, 77, 79, 80, 81, 84, 86, 89, 91, 94, 97]
def pX4_makeGap : List PI := [(.iload_n 2, 2, 0, []), (.iconst 1, 0, 1, []), (.isub, 0, 0, []), (.istore_n 3, 3, 0, []), (.iload_n 3, 3, 0, []), (.ifCond .ge 42, 27, 0, []), (.iload_n 1, 1, 0, []), (.iconst 1, 0, 1, []), (.iadd, 0, 0, []), (.istore 4, 4, 0, []), (.iload 4, 4, 0, []), (.aload_n 0, 0, 0, []), (.getfield 29, 3, 0, [4]), (.if_icmp .ge 25, 26, 0, []), (.aload_n 0, 0, 0, []), (.getfield 19, 2, 0, [4]), (.iload 4, 4, 0, []), (.iconst 1, 0, 1, []), (.isub, 0, 0, []), (.aload_n 0, 0, 0, []), (.getfield 19, 2, 0, [4]), (.iload 4, 4, 0, []), (.iaload, 0, 0, []), (.iastore, 0, 0, []), (.iinc 4 1, 4, 1, []), (.goto (-28), 10, 0, []), (.goto 39, 47, 0, []), (.aload_n 0, 0, 0, []), (.getfield 29, 3, 0, [4]), (.iconst 1, 0, 1, []), (.isub, 0, 0, []), (.istore 4, 4, 0, []), (.iload 4, 4, 0, []), (.iload_n 1, 1, 0, []), (.if_icmp .le 25, 47, 0, []), (.aload_n 0, 0, 0, []), (.getfield 19, 2, 0, [4]), (.iload 4, 4, 0, []), (.iload_n 3, 3, 0, []), (.iadd, 0, 0, []), (.aload_n 0, 0, 0, []), (.getfield 19, 2, 0, [4]), (.iload 4, 4, 0, []), (.iaload, 0, 0, []), (.iastore, 0, 0, []), (.iinc 4 (-1), 4, (-1), []), (.goto (-25), 32, 0, []), (.aload_n 0, 0, 0, []), (.dup, 0, 0, []), (.getfield 29, 3, 0, [4]), (.iload_n 3, 3, 0, []), (.iadd, 0, 0, []), (.putfield 29, 3, 0, [4]), (.return_, 0, 0, [])]
def qX4_makeGap : List Nat := [0, 1, 2, 3, 4, 5, 8, 9, 10, 11, 13, 15, 16, 19, 22, 23, 26, 28, 29, 30, 31, 34, 36, 37, 38, 41, 44, 47, 48, 51, 52, 53, 55, 57, 58, 61, 62, 65, 67, 68, 69, 70, 73, 75, 76, 77, 80, 83, 84, 85, 88, 89, 90, 93]
def pX4_isSeat : List PI := [(.iload_n 1, 1, 0, []), (.ifCond .lt 24, 13, 0, []), (.iload_n 1, 1, 0, []), (.aload_n 0, 0, 0, []), (.getfield 29, 3, 0, [4]), (.if_icmp .ge 16, 13, 0, []), (.iload_n 1, 1, 0, []), (.aload_n 0, 0, 0, []), (.getfield 19, 2, 0, [4]), (.arraylength, 0, 0, []), (.if_icmp .ge 7, 13, 0, []), (.iconst 1, 0, 1, []), (.goto 4, 14, 0, []), (.iconst 0, 0, 0, []), (.ireturn, 0, 0, [])]
def qX4_isSeat : List Nat := [0, 1, 4, 5, 6, 9, 12, 13, 14, 17, 18, 21, 22, 25, 26]
def pX5_begin : List PI := [(.aload_n 0, 0, 0, []), (.iconst (-1), 0, (-1), []), (.putfield 23, 3, 0, [5]), (.aload_n 0, 0, 0, []), (.iconst 0, 0, 0, []), (.iload_n 2, 2, 0, []), (.aload_n 1, 1, 0, []), (.arraylength, 0, 0, []), (.invokestatic 27, 0, 0, []), (.invokevirtual 33, 54, 0, [2, 0, 5]), (.iconst 0, 0, 0, []), (.istore_n 3, 3, 0, []), (.iload_n 3, 3, 0, []), (.aload_n 0, 0, 0, []), (.getfield 37, 4, 0, [5]), (.if_icmp .ge 31, 33, 0, []), (.iload_n 3, 3, 0, []), (.aload_n 1, 1, 0, []), (.arraylength, 0, 0, []), (.if_icmp .ge 25, 33, 0, []), (.aload_n 0, 0, 0, []), (.aload_n 0, 0, 0, []), (.getfield 23, 3, 0, [5]), (.bipush 6, 0, 6, []), (.iadd, 0, 0, []), (.iload_n 3, 3, 0, []), (.iadd, 0, 0, []), (.aload_n 1, 1, 0, []), (.iload_n 3, 3, 0, []), (.iaload, 0, 0, []), (.invokevirtual 40, 65, 0, [2, 0, 5]), (.iinc 3 1, 3, 1, []), (.goto (-33), 12, 0, []), (.iconst 0, 0, 0, []), (.istore_n 3, 3, 0, []), (.iload_n 3, 3, 0, []), (.aload_n 0, 0, 0, []), (.getfield 15, 1, 0, [5]), (.invokevirtual 43, 31, 0, [0, 1, 3]), (.if_icmp .ge 72, 74, 0, []), (.aload_n 0, 0, 0, []), (.iload_n 3, 3, 0, []), (.invokevirtual 49, 55, 0, [1, 1, 5]), (.istore 4, 4, 0, []), (.aload_n 0, 0, 0, []), (.getfield 15, 1, 0, [5]), (.iload_n 3, 3, 0, []), (.invokevirtual 53, 33, 0, [1, 1, 3]), (.istore 5, 5, 0, []), (.iconst 0, 0, 0, []), (.istore 6, 6, 0, []), (.iload 6, 6, 0, []), (.aload_n 0, 0, 0, []), (.getfield 37, 4, 0, [5]), (.if_icmp .ge 37, 72, 0, []), (.aload_n 0, 0, 0, []), (.iload 4, 4, 0, []), (.iconst 1, 0, 1, []), (.iadd, 0, 0, []), (.iload 6, 6, 0, []), (.iadd, 0, 0, []), (.aload_n 0, 0, 0, []), (.iload 5, 5, 0, []), (.invokevirtual 56, 61, 0, [1, 1, 5]), (.invokevirtual 40, 65, 0, [2, 0, 5]), (.aload_n 0, 0, 0, []), (.getfield 15, 1, 0, [5]), (.iload 5, 5, 0, []), (.invokevirtual 59, 35, 0, [1, 1, 3]), (.istore 5, 5, 0, []), (.iinc 6 1, 6, 1, []), (.goto (-40), 51, 0, []), (.iinc 3 1, 3, 1, []), (.goto (-77), 35, 0, []), (.return_, 0, 0, [])]
def qX5_begin : List Nat := [0, 1, 2, 5, 6, 7, 8, 9, 10, 13, 16, 17, 18, 19, 20, 23, 26, 27, 28, 29, 32, 33, 34, 37, 39, 40, 41, 42, 43, 44, 45, 48, 51, 54, 55, 56, 57, 58, 61, 64, 67, 68, 69, 72, 74, 75, 78, 79, 82, 84, 85, 87, 89, 90, 93, 96, 97, 99, 100, 101, 103, 104, 105, 107, 110, 113, 114, 117, 119, 122, 124, 127, 130, 133, 136]
def pX5_hasOpen : List PI := [(.aload_n 0, 0, 0, []), (.getfield 23, 3, 0, [5]), (.ifCond .lt 7, 5, 0, []), (.iconst 1, 0, 1, []), (.goto 4, 6, 0, []), (.iconst 0, 0, 0, []), (.ireturn, 0, 0, [])]
def qX5_hasOpen : List Nat := [0, 1, 4, 7, 8, 11, 12]
def pX5_drop : List PI := [(.aload_n 0, 0, 0, []), (.aload_n 0, 0, 0, []), (.iconst 0, 0, 0, []), (.invokevirtual 62, 63, 0, [1, 1, 5]), (.putfield 23, 3, 0, [5]), (.aload_n 0, 0, 0, []), (.aload_n 0, 0, 0, []), (.iconst 1, 0, 1, []), (.invokevirtual 62, 63, 0, [1, 1, 5]), (.iconst 0, 0, 0, []), (.invokestatic 65, 1, 0, []), (.putfield 37, 4, 0, [5]), (.aload_n 0, 0, 0, []), (.aload_n 0, 0, 0, []), (.iconst 2, 0, 2, []), (.invokevirtual 62, 63, 0, [1, 1, 5]), (.iconst 0, 0, 0, []), (.invokestatic 65, 1, 0, []), (.putfield 68, 5, 0, [5]), (.return_, 0, 0, [])]
def qX5_drop : List Nat := [0, 1, 2, 3, 6, 9, 10, 11, 12, 15, 16, 19, 22, 23, 24, 25, 28, 29, 32, 35]
def pX5_placeCount : List PI := [(.aload_n 0, 0, 0, []), (.getfield 37, 4, 0, [5]), (.ireturn, 0, 0, [])]
def qX5_placeCount : List Nat := [0, 1, 4]
def pX5_lineCount : List PI := [(.aload_n 0, 0, 0, []), (.getfield 68, 5, 0, [5]), (.ireturn, 0, 0, [])]
def qX5_lineCount : List Nat := [0, 1, 4]
def pX5_openNode : List PI := [(.aload_n 0, 0, 0, []), (.iconst 3, 0, 3, []), (.invokevirtual 62, 63, 0, [1, 1, 5]), (.ireturn, 0, 0, [])]
def qX5_openNode : List Nat := [0, 1, 2, 5]
def pX5_typeAt : List PI := [(.aload_n 0, 0, 0, []), (.aload_n 0, 0, 0, []), (.getfield 23, 3, 0, [5]), (.bipush 6, 0, 6, []), (.iadd, 0, 0, []), (.iload_n 1, 1, 0, []), (.iadd, 0, 0, []), (.invokevirtual 71, 64, 0, [1, 1, 5]), (.ireturn, 0, 0, [])]
def qX5_typeAt : List Nat := [0, 1, 2, 5, 7, 8, 9, 10, 13]
def pX5_firstRow : List PI := [(.aload_n 0, 0, 0, []), (.aload_n 0, 0, 0, []), (.iconst 0, 0, 0, []), (.invokevirtual 74, 62, 0, [1, 1, 5]), (.invokevirtual 71, 64, 0, [1, 1, 5]), (.ireturn, 0, 0, [])]
def qX5_firstRow : List Nat := [0, 1, 2, 3, 6, 9]
def pX5_splitEithers : List PI := [(.aload_n 0, 0, 0, []), (.getfield 37, 4, 0, [5]), (.bipush 40, 0, 40, []), (.if_icmp .gt 12, 8, 0, []), (.aload_n 0, 0, 0, []), (.getfield 68, 5, 0, [5]), (.bipush 60, 0, 60, []), (.if_icmp .le 5, 10, 0, []), (.iconst 0, 0, 0, []), (.ireturn, 0, 0, []), (.iconst 0, 0, 0, []), (.istore_n 1, 1, 0, []), (.iload_n 1, 1, 0, []), (.aload_n 0, 0, 0, []), (.getfield 68, 5, 0, [5]), (.if_icmp .ge 36, 33, 0, []), (.iconst 0, 0, 0, []), (.istore_n 2, 2, 0, []), (.iload_n 2, 2, 0, []), (.aload_n 0, 0, 0, []), (.getfield 37, 4, 0, [5]), (.if_icmp .ge 20, 31, 0, []), (.aload_n 0, 0, 0, []), (.iload_n 1, 1, 0, []), (.iload_n 2, 2, 0, []), (.invokevirtual 77, 56, 0, [2, 2, 5]), (.ifCond .ne 5, 29, 0, []), (.iconst 0, 0, 0, []), (.ireturn, 0, 0, []), (.iinc 2 1, 2, 1, []), (.goto (-22), 18, 0, []), (.iinc 1 1, 1, 1, []), (.goto (-38), 12, 0, []), (.iconst 1, 0, 1, []), (.ireturn, 0, 0, [])]
def qX5_splitEithers : List Nat := [0, 1, 4, 6, 9, 10, 13, 15, 18, 19, 20, 21, 22, 23, 24, 27, 30, 31, 32, 33, 34, 37, 40, 41, 42, 43, 46, 49, 50, 51, 54, 57, 60, 63, 64]
def pX5_firstTested : List PI := [(.iconst 0, 0, 0, []), (.istore_n 1, 1, 0, []), (.iload_n 1, 1, 0, []), (.aload_n 0, 0, 0, []), (.getfield 37, 4, 0, [5]), (.if_icmp .ge 28, 21, 0, []), (.aload_n 0, 0, 0, []), (.aload_n 0, 0, 0, []), (.iconst 0, 0, 0, []), (.invokevirtual 74, 62, 0, [1, 1, 5]), (.iconst 1, 0, 1, []), (.iadd, 0, 0, []), (.iload_n 1, 1, 0, []), (.iadd, 0, 0, []), (.invokevirtual 71, 64, 0, [1, 1, 5]), (.iconst (-1), 0, (-1), []), (.if_icmp .eq 5, 19, 0, []), (.iload_n 1, 1, 0, []), (.ireturn, 0, 0, []), (.iinc 1 1, 1, 1, []), (.goto (-30), 2, 0, []), (.iconst (-1), 0, (-1), []), (.ireturn, 0, 0, [])]
def qX5_firstTested : List Nat := [0, 1, 2, 3, 4, 7, 10, 11, 12, 13, 16, 17, 18, 19, 20, 23, 24, 27, 28, 29, 32, 35, 36]
def pX5_keepFor : List PI := [(.aload_n 0, 0, 0, []), (.aload_n 0, 0, 0, []), (.getfield 23, 3, 0, [5]), (.iconst 1, 0, 1, []), (.iadd, 0, 0, []), (.aload_n 0, 0, 0, []), (.getfield 37, 4, 0, [5]), (.invokevirtual 40, 65, 0, [2, 0, 5]), (.aload_n 0, 0, 0, []), (.aload_n 0, 0, 0, []), (.getfield 23, 3, 0, [5]), (.iconst 2, 0, 2, []), (.iadd, 0, 0, []), (.aload_n 0, 0, 0, []), (.getfield 68, 5, 0, [5]), (.invokevirtual 40, 65, 0, [2, 0, 5]), (.aload_n 0, 0, 0, []), (.aload_n 0, 0, 0, []), (.getfield 23, 3, 0, [5]), (.iconst 3, 0, 3, []), (.iadd, 0, 0, []), (.iload_n 1, 1, 0, []), (.invokevirtual 40, 65, 0, [2, 0, 5]), (.aload_n 0, 0, 0, []), (.aload_n 0, 0, 0, []), (.getfield 23, 3, 0, [5]), (.iconst 4, 0, 4, []), (.iadd, 0, 0, []), (.iload_n 2, 2, 0, []), (.invokevirtual 40, 65, 0, [2, 0, 5]), (.aload_n 0, 0, 0, []), (.aload_n 0, 0, 0, []), (.getfield 23, 3, 0, [5]), (.iconst 5, 0, 5, []), (.iadd, 0, 0, []), (.iconst (-1), 0, (-1), []), (.invokevirtual 40, 65, 0, [2, 0, 5]), (.return_, 0, 0, [])]
def qX5_keepFor : List Nat := [0, 1, 2, 5, 6, 7, 8, 11, 14, 15, 16, 19, 20, 21, 22, 25, 28, 29, 30, 33, 34, 35, 36, 39, 40, 41, 44, 45, 46, 47, 50, 51, 52, 55, 56, 57, 58, 61]
def pX5_nextBranch : List PI := [(.aload_n 0, 0, 0, []), (.iconst 4, 0, 4, []), (.invokevirtual 62, 63, 0, [1, 1, 5]), (.istore_n 1, 1, 0, []), (.aload_n 0, 0, 0, []), (.iconst 5, 0, 5, []), (.invokevirtual 62, 63, 0, [1, 1, 5]), (.iconst 1, 0, 1, []), (.iadd, 0, 0, []), (.istore_n 2, 2, 0, []), (.iload_n 2, 2, 0, []), (.aload_n 0, 0, 0, []), (.getfield 9, 0, 0, [5]), (.invokevirtual 81, 18, 0, [0, 1, 2]), (.if_icmp .ge 45, 37, 0, []), (.aload_n 0, 0, 0, []), (.getfield 9, 0, 0, [5]), (.iload_n 2, 2, 0, []), (.invokevirtual 86, 23, 0, [1, 1, 2]), (.iload_n 1, 1, 0, []), (.if_icmp .ne 27, 35, 0, []), (.aload_n 0, 0, 0, []), (.getfield 9, 0, 0, [5]), (.iload_n 2, 2, 0, []), (.invokevirtual 89, 26, 0, [1, 2, 2]), (.ifCond .ne 16, 35, 0, []), (.aload_n 0, 0, 0, []), (.aload_n 0, 0, 0, []), (.getfield 23, 3, 0, [5]), (.iconst 5, 0, 5, []), (.iadd, 0, 0, []), (.iload_n 2, 2, 0, []), (.invokevirtual 40, 65, 0, [2, 0, 5]), (.iload_n 2, 2, 0, []), (.ireturn, 0, 0, []), (.iinc 2 1, 2, 1, []), (.goto (-50), 10, 0, []), (.iconst (-1), 0, (-1), []), (.ireturn, 0, 0, [])]
def qX5_nextBranch : List Nat := [0, 1, 2, 5, 6, 7, 8, 11, 12, 13, 14, 15, 16, 19, 22, 25, 26, 29, 30, 33, 34, 37, 38, 41, 42, 45, 48, 49, 50, 53, 54, 55, 56, 59, 60, 61, 64, 67, 68]
def pX5_openBranch : List PI := [(.aload_n 0, 0, 0, []), (.getfield 9, 0, 0, [5]), (.iload_n 1, 1, 0, []), (.invokevirtual 93, 24, 0, [1, 1, 2]), (.istore_n 3, 3, 0, []), (.aload_n 0, 0, 0, []), (.getfield 37, 4, 0, [5]), (.iconst 1, 0, 1, []), (.isub, 0, 0, []), (.iload_n 3, 3, 0, []), (.iadd, 0, 0, []), (.bipush 40, 0, 40, []), (.if_icmp .le 5, 15, 0, []), (.iconst 0, 0, 0, []), (.ireturn, 0, 0, []), (.aload_n 0, 0, 0, []), (.getfield 23, 3, 0, [5]), (.bipush 6, 0, 6, []), (.iadd, 0, 0, []), (.istore 4, 4, 0, []), (.aload_n 0, 0, 0, []), (.getfield 37, 4, 0, [5]), (.istore 5, 5, 0, []), (.aload_n 0, 0, 0, []), (.getfield 68, 5, 0, [5]), (.istore 6, 6, 0, []), (.aload_n 0, 0, 0, []), (.iconst 0, 0, 0, []), (.invokevirtual 74, 62, 0, [1, 1, 5]), (.istore 7, 7, 0, []), (.aload_n 0, 0, 0, []), (.aload_n 0, 0, 0, []), (.aload_n 0, 0, 0, []), (.getfield 68, 5, 0, [5]), (.invokevirtual 74, 62, 0, [1, 1, 5]), (.aload_n 0, 0, 0, []), (.getfield 37, 4, 0, [5]), (.iconst 1, 0, 1, []), (.isub, 0, 0, []), (.iload_n 3, 3, 0, []), (.iadd, 0, 0, []), (.invokevirtual 33, 54, 0, [2, 0, 5]), (.aload_n 0, 0, 0, []), (.iload 4, 4, 0, []), (.aload_n 0, 0, 0, []), (.getfield 23, 3, 0, [5]), (.bipush 6, 0, 6, []), (.iadd, 0, 0, []), (.iload_n 2, 2, 0, []), (.iload 5, 5, 0, []), (.iload_n 3, 3, 0, []), (.invokevirtual 96, 59, 0, [5, 0, 5]), (.iconst 0, 0, 0, []), (.istore 8, 8, 0, []), (.iload 8, 8, 0, []), (.iload_n 3, 3, 0, []), (.if_icmp .ge 35, 74, 0, []), (.aload_n 0, 0, 0, []), (.aload_n 0, 0, 0, []), (.getfield 23, 3, 0, [5]), (.bipush 6, 0, 6, []), (.iadd, 0, 0, []), (.iload_n 2, 2, 0, []), (.iadd, 0, 0, []), (.iload 8, 8, 0, []), (.iadd, 0, 0, []), (.aload_n 0, 0, 0, []), (.getfield 9, 0, 0, [5]), (.iload_n 1, 1, 0, []), (.iload 8, 8, 0, []), (.invokevirtual 100, 25, 0, [2, 1, 2]), (.invokevirtual 40, 65, 0, [2, 0, 5]), (.iinc 8 1, 8, 1, []), (.goto (-35), 54, 0, []), (.iconst 0, 0, 0, []), (.istore 8, 8, 0, []), (.iload 8, 8, 0, []), (.iload 6, 6, 0, []), (.if_icmp .ge 90, 130, 0, []), (.aload_n 0, 0, 0, []), (.iload 7, 7, 0, []), (.iconst 1, 0, 1, []), (.iadd, 0, 0, []), (.iload_n 2, 2, 0, []), (.iadd, 0, 0, []), (.invokevirtual 71, 64, 0, [1, 1, 5]), (.istore 9, 9, 0, []), (.iload 9, 9, 0, []), (.iconst (-1), 0, (-1), []), (.if_icmp .eq 16, 96, 0, []), (.aload_n 0, 0, 0, []), (.getfield 15, 1, 0, [5]), (.iload 9, 9, 0, []), (.invokevirtual 103, 34, 0, [1, 1, 3]), (.iload_n 1, 1, 0, []), (.if_icmp .ne 44, 122, 0, []), (.aload_n 0, 0, 0, []), (.aload_n 0, 0, 0, []), (.iload 7, 7, 0, []), (.invokevirtual 71, 64, 0, [1, 1, 5]), (.invokevirtual 49, 55, 0, [1, 1, 5]), (.istore 10, 10, 0, []), (.aload_n 0, 0, 0, []), (.iload 7, 7, 0, []), (.iconst 1, 0, 1, []), (.iadd, 0, 0, []), (.iload 10, 10, 0, []), (.iconst 1, 0, 1, []), (.iadd, 0, 0, []), (.iload_n 2, 2, 0, []), (.iload 5, 5, 0, []), (.iload_n 3, 3, 0, []), (.invokevirtual 96, 59, 0, [5, 0, 5]), (.aload_n 0, 0, 0, []), (.iload 10, 10, 0, []), (.iconst 1, 0, 1, []), (.iadd, 0, 0, []), (.iload_n 2, 2, 0, []), (.iadd, 0, 0, []), (.iload 9, 9, 0, []), (.iload_n 3, 3, 0, []), (.invokevirtual 106, 60, 0, [3, 0, 5]), (.iload 7, 7, 0, []), (.iload 5, 5, 0, []), (.iconst 1, 0, 1, []), (.iadd, 0, 0, []), (.iadd, 0, 0, []), (.istore 7, 7, 0, []), (.iinc 8 1, 8, 1, []), (.goto (-91), 76, 0, []), (.iconst 1, 0, 1, []), (.ireturn, 0, 0, [])]
def qX5_openBranch : List Nat := [0, 1, 4, 5, 8, 9, 10, 13, 14, 15, 16, 17, 19, 22, 23, 24, 25, 28, 30, 31, 33, 34, 37, 39, 40, 43, 45, 46, 47, 50, 52, 53, 54, 55, 58, 61, 62, 65, 66, 67, 68, 69, 72, 73, 75, 76, 79, 81, 82, 83, 85, 86, 89, 90, 92, 94, 95, 98, 99, 100, 103, 105, 106, 107, 108, 110, 111, 112, 115, 116, 118, 121, 124, 127, 130, 131, 133, 135, 137, 140, 141, 143, 144, 145, 146, 147, 150, 152, 154, 155, 158, 159, 162, 164, 167, 168, 171, 172, 173, 175, 178, 181, 183, 184, 186, 187, 188, 190, 191, 192, 193, 195, 196, 199, 200, 202, 203, 204, 205, 206, 208, 209, 212, 214, 216, 217, 218, 219, 221, 224, 227, 228]
def pX5_pile : List PI := [(.aload_n 0, 0, 0, []), (.iload_n 1, 1, 0, []), (.bipush 6, 0, 6, []), (.iadd, 0, 0, []), (.iload_n 2, 2, 0, []), (.iadd, 0, 0, []), (.invokevirtual 110, 67, 0, [1, 0, 5]), (.aload_n 0, 0, 0, []), (.iload_n 1, 1, 0, []), (.iconst 0, 0, 0, []), (.iadd, 0, 0, []), (.aload_n 0, 0, 0, []), (.getfield 23, 3, 0, [5]), (.invokevirtual 40, 65, 0, [2, 0, 5]), (.aload_n 0, 0, 0, []), (.iload_n 1, 1, 0, []), (.putfield 23, 3, 0, [5]), (.aload_n 0, 0, 0, []), (.iload_n 2, 2, 0, []), (.putfield 37, 4, 0, [5]), (.aload_n 0, 0, 0, []), (.iconst 0, 0, 0, []), (.putfield 68, 5, 0, [5]), (.return_, 0, 0, [])]
def qX5_pile : List Nat := [0, 1, 2, 4, 5, 6, 7, 10, 11, 12, 13, 14, 15, 18, 21, 22, 23, 26, 27, 28, 31, 32, 33, 36]
def pX5_addLine : List PI := [(.aload_n 0, 0, 0, []), (.aload_n 0, 0, 0, []), (.getfield 68, 5, 0, [5]), (.invokevirtual 74, 62, 0, [1, 1, 5]), (.istore_n 2, 2, 0, []), (.aload_n 0, 0, 0, []), (.dup, 0, 0, []), (.getfield 68, 5, 0, [5]), (.iconst 1, 0, 1, []), (.iadd, 0, 0, []), (.putfield 68, 5, 0, [5]), (.aload_n 0, 0, 0, []), (.aload_n 0, 0, 0, []), (.aload_n 0, 0, 0, []), (.getfield 68, 5, 0, [5]), (.invokevirtual 74, 62, 0, [1, 1, 5]), (.invokevirtual 110, 67, 0, [1, 0, 5]), (.aload_n 0, 0, 0, []), (.iload_n 2, 2, 0, []), (.iload_n 1, 1, 0, []), (.invokevirtual 40, 65, 0, [2, 0, 5]), (.iload_n 2, 2, 0, []), (.ireturn, 0, 0, [])]
def qX5_addLine : List Nat := [0, 1, 2, 5, 8, 9, 10, 11, 14, 15, 16, 19, 20, 21, 22, 25, 28, 31, 32, 33, 34, 37, 38]
def pX5_splitAt : List PI := [(.aload_n 0, 0, 0, []), (.iload_n 1, 1, 0, []), (.invokevirtual 74, 62, 0, [1, 1, 5]), (.iconst 1, 0, 1, []), (.iadd, 0, 0, []), (.iload_n 2, 2, 0, []), (.iadd, 0, 0, []), (.istore_n 3, 3, 0, []), (.aload_n 0, 0, 0, []), (.iload_n 3, 3, 0, []), (.invokevirtual 71, 64, 0, [1, 1, 5]), (.istore 4, 4, 0, []), (.iconst 0, 0, 0, []), (.istore 5, 5, 0, []), (.iload 5, 5, 0, []), (.bipush 60, 0, 60, []), (.if_icmp .ge 83, 60, 0, []), (.aload_n 0, 0, 0, []), (.iload 4, 4, 0, []), (.invokevirtual 114, 57, 0, [1, 2, 5]), (.ifCond .eq 74, 60, 0, []), (.aload_n 0, 0, 0, []), (.getfield 68, 5, 0, [5]), (.bipush 60, 0, 60, []), (.if_icmp .lt 5, 27, 0, []), (.iconst 0, 0, 0, []), (.ireturn, 0, 0, []), (.aload_n 0, 0, 0, []), (.iload_n 1, 1, 0, []), (.invokevirtual 117, 58, 0, [1, 0, 5]), (.iload 4, 4, 0, []), (.iconst 1, 0, 1, []), (.iadd, 0, 0, []), (.istore 6, 6, 0, []), (.aload_n 0, 0, 0, []), (.iload_n 3, 3, 0, []), (.aload_n 0, 0, 0, []), (.iload 6, 6, 0, []), (.invokevirtual 56, 61, 0, [1, 1, 5]), (.invokevirtual 40, 65, 0, [2, 0, 5]), (.aload_n 0, 0, 0, []), (.iload_n 3, 3, 0, []), (.aload_n 0, 0, 0, []), (.getfield 37, 4, 0, [5]), (.iadd, 0, 0, []), (.iconst 1, 0, 1, []), (.iadd, 0, 0, []), (.aload_n 0, 0, 0, []), (.aload_n 0, 0, 0, []), (.getfield 15, 1, 0, [5]), (.iload 6, 6, 0, []), (.invokevirtual 59, 35, 0, [1, 1, 3]), (.invokevirtual 56, 61, 0, [1, 1, 5]), (.invokevirtual 40, 65, 0, [2, 0, 5]), (.aload_n 0, 0, 0, []), (.iload_n 3, 3, 0, []), (.invokevirtual 71, 64, 0, [1, 1, 5]), (.istore 4, 4, 0, []), (.iinc 5 1, 5, 1, []), (.goto (-84), 14, 0, []), (.iconst 1, 0, 1, []), (.ireturn, 0, 0, [])]
def qX5_splitAt : List Nat := [0, 1, 2, 5, 6, 7, 8, 9, 10, 11, 12, 15, 17, 18, 20, 22, 24, 27, 28, 30, 33, 36, 37, 40, 42, 45, 46, 47, 48, 49, 52, 54, 55, 56, 58, 59, 60, 61, 63, 66, 69, 70, 71, 72, 75, 76, 77, 78, 79, 80, 83, 85, 88, 91, 94, 95, 96, 99, 101, 104, 107, 108]
def pX5_isEither : List PI := [(.iload_n 1, 1, 0, []), (.iconst (-1), 0, (-1), []), (.if_icmp .eq 20, 11, 0, []), (.aload_n 0, 0, 0, []), (.getfield 15, 1, 0, [5]), (.iload_n 1, 1, 0, []), (.invokevirtual 103, 34, 0, [1, 1, 3]), (.bipush (-2), 0, (-2), []), (.if_icmp .ne 7, 11, 0, []), (.iconst 1, 0, 1, []), (.goto 4, 12, 0, []), (.iconst 0, 0, 0, []), (.ireturn, 0, 0, [])]
def qX5_isEither : List Nat := [0, 1, 2, 5, 6, 9, 10, 13, 15, 18, 19, 22, 23]
def pX5_doubleLine : List PI := [(.aload_n 0, 0, 0, []), (.iload_n 1, 1, 0, []), (.invokevirtual 74, 62, 0, [1, 1, 5]), (.istore_n 2, 2, 0, []), (.aload_n 0, 0, 0, []), (.aload_n 0, 0, 0, []), (.getfield 68, 5, 0, [5]), (.invokevirtual 74, 62, 0, [1, 1, 5]), (.iload_n 2, 2, 0, []), (.isub, 0, 0, []), (.istore_n 3, 3, 0, []), (.aload_n 0, 0, 0, []), (.dup, 0, 0, []), (.getfield 68, 5, 0, [5]), (.iconst 1, 0, 1, []), (.iadd, 0, 0, []), (.putfield 68, 5, 0, [5]), (.aload_n 0, 0, 0, []), (.aload_n 0, 0, 0, []), (.aload_n 0, 0, 0, []), (.getfield 68, 5, 0, [5]), (.invokevirtual 74, 62, 0, [1, 1, 5]), (.invokevirtual 110, 67, 0, [1, 0, 5]), (.aload_n 0, 0, 0, []), (.iload_n 2, 2, 0, []), (.aload_n 0, 0, 0, []), (.iload_n 1, 1, 0, []), (.iconst 1, 0, 1, []), (.iadd, 0, 0, []), (.invokevirtual 74, 62, 0, [1, 1, 5]), (.iload_n 3, 3, 0, []), (.invokevirtual 120, 66, 0, [3, 0, 5]), (.return_, 0, 0, [])]
def qX5_doubleLine : List Nat := [0, 1, 2, 5, 6, 7, 8, 11, 14, 15, 16, 17, 18, 19, 22, 23, 24, 27, 28, 29, 30, 33, 36, 39, 40, 41, 42, 43, 44, 45, 48, 49, 52]
def pX5_copyAround : List PI := [(.aload_n 0, 0, 0, []), (.iload_n 1, 1, 0, []), (.iload_n 2, 2, 0, []), (.iload_n 3, 3, 0, []), (.invokevirtual 120, 66, 0, [3, 0, 5]), (.aload_n 0, 0, 0, []), (.iload_n 1, 1, 0, []), (.iload_n 3, 3, 0, []), (.iadd, 0, 0, []), (.iconst 1, 0, 1, []), (.iadd, 0, 0, []), (.iload_n 2, 2, 0, []), (.iload_n 3, 3, 0, []), (.iadd, 0, 0, []), (.iload 5, 5, 0, []), (.iadd, 0, 0, []), (.iload 4, 4, 0, []), (.iload_n 3, 3, 0, []), (.isub, 0, 0, []), (.iconst 1, 0, 1, []), (.isub, 0, 0, []), (.invokevirtual 120, 66, 0, [3, 0, 5]), (.return_, 0, 0, [])]
def qX5_copyAround : List Nat := [0, 1, 2, 3, 4, 7, 8, 9, 10, 11, 12, 13, 14, 15, 16, 18, 19, 21, 22, 23, 24, 25, 28]
def pX5_putFields : List PI := [(.iload_n 2, 2, 0, []), (.iconst 1, 0, 1, []), (.iadd, 0, 0, []), (.istore 4, 4, 0, []), (.iconst 0, 0, 0, []), (.istore 5, 5, 0, []), (.iload 5, 5, 0, []), (.iload_n 3, 3, 0, []), (.if_icmp .ge 51, 34, 0, []), (.iload_n 2, 2, 0, []), (.iconst (-1), 0, (-1), []), (.if_icmp .ne 15, 19, 0, []), (.aload_n 0, 0, 0, []), (.iload_n 1, 1, 0, []), (.iload 5, 5, 0, []), (.iadd, 0, 0, []), (.iconst (-1), 0, (-1), []), (.invokevirtual 40, 65, 0, [2, 0, 5]), (.goto 28, 32, 0, []), (.aload_n 0, 0, 0, []), (.iload_n 1, 1, 0, []), (.iload 5, 5, 0, []), (.iadd, 0, 0, []), (.aload_n 0, 0, 0, []), (.iload 4, 4, 0, []), (.invokevirtual 56, 61, 0, [1, 1, 5]), (.invokevirtual 40, 65, 0, [2, 0, 5]), (.aload_n 0, 0, 0, []), (.getfield 15, 1, 0, [5]), (.iload 4, 4, 0, []), (.invokevirtual 59, 35, 0, [1, 1, 3]), (.istore 4, 4, 0, []), (.iinc 5 1, 5, 1, []), (.goto (-51), 6, 0, []), (.return_, 0, 0, [])]
def qX5_putFields : List Nat := [0, 1, 2, 3, 5, 6, 8, 10, 11, 14, 15, 16, 19, 20, 21, 23, 24, 25, 28, 31, 32, 33, 35, 36, 37, 39, 42, 45, 46, 49, 51, 54, 56, 59, 62]
def pX5_cellOf : List PI := [(.aload_n 0, 0, 0, []), (.getfield 15, 1, 0, [5]), (.iload_n 1, 1, 0, []), (.invokevirtual 103, 34, 0, [1, 1, 3]), (.iconst (-1), 0, (-1), []), (.if_icmp .ne 7, 8, 0, []), (.iconst (-1), 0, (-1), []), (.goto 4, 9, 0, []), (.iload_n 1, 1, 0, []), (.ireturn, 0, 0, [])]
def qX5_cellOf : List Nat := [0, 1, 4, 5, 8, 9, 12, 13, 16, 17]
def pX5_lineAt : List PI := [(.aload_n 0, 0, 0, []), (.getfield 23, 3, 0, [5]), (.bipush 6, 0, 6, []), (.iadd, 0, 0, []), (.aload_n 0, 0, 0, []), (.getfield 37, 4, 0, [5]), (.iadd, 0, 0, []), (.iload_n 1, 1, 0, []), (.aload_n 0, 0, 0, []), (.getfield 37, 4, 0, [5]), (.iconst 1, 0, 1, []), (.iadd, 0, 0, []), (.imul, 0, 0, []), (.iadd, 0, 0, []), (.ireturn, 0, 0, [])]
def qX5_lineAt : List Nat := [0, 1, 4, 6, 7, 8, 11, 12, 13, 14, 17, 18, 19, 20, 21]
def pX5_head : List PI := [(.aload_n 0, 0, 0, []), (.getfield 23, 3, 0, [5]), (.ifCond .lt 16, 10, 0, []), (.aload_n 0, 0, 0, []), (.aload_n 0, 0, 0, []), (.getfield 23, 3, 0, [5]), (.iload_n 1, 1, 0, []), (.iadd, 0, 0, []), (.invokevirtual 71, 64, 0, [1, 1, 5]), (.goto 4, 11, 0, []), (.iconst (-1), 0, (-1), []), (.ireturn, 0, 0, [])]
def qX5_head : List Nat := [0, 1, 4, 7, 8, 9, 12, 13, 14, 17, 20, 21]
def pX5_get : List PI := [(.iload_n 1, 1, 0, []), (.ifCond .lt 21, 12, 0, []), (.iload_n 1, 1, 0, []), (.aload_n 0, 0, 0, []), (.getfield 19, 2, 0, [5]), (.arraylength, 0, 0, []), (.if_icmp .ge 12, 12, 0, []), (.aload_n 0, 0, 0, []), (.getfield 19, 2, 0, [5]), (.iload_n 1, 1, 0, []), (.iaload, 0, 0, []), (.goto 4, 13, 0, []), (.iconst (-1), 0, (-1), []), (.ireturn, 0, 0, [])]
def qX5_get : List Nat := [0, 1, 4, 5, 6, 9, 10, 13, 14, 17, 18, 19, 22, 23]
def pX5_set : List PI := [(.iload_n 1, 1, 0, []), (.ifCond .lt 19, 12, 0, []), (.iload_n 1, 1, 0, []), (.aload_n 0, 0, 0, []), (.getfield 19, 2, 0, [5]), (.arraylength, 0, 0, []), (.if_icmp .ge 10, 12, 0, []), (.aload_n 0, 0, 0, []), (.getfield 19, 2, 0, [5]), (.iload_n 1, 1, 0, []), (.iload_n 2, 2, 0, []), (.iastore, 0, 0, []), (.return_, 0, 0, [])]
def qX5_set : List Nat := [0, 1, 4, 5, 6, 9, 10, 13, 14, 17, 18, 19, 20]
def pX5_copy : List PI := [(.aload_n 0, 0, 0, []), (.getfield 19, 2, 0, [5]), (.arraylength, 0, 0, []), (.iload_n 3, 3, 0, []), (.isub, 0, 0, []), (.istore 4, 4, 0, []), (.iload_n 3, 3, 0, []), (.ifCond .le 37, 26, 0, []), (.iload_n 1, 1, 0, []), (.ifCond .lt 33, 26, 0, []), (.iload_n 1, 1, 0, []), (.iload 4, 4, 0, []), (.if_icmp .gt 27, 26, 0, []), (.iload_n 2, 2, 0, []), (.ifCond .lt 23, 26, 0, []), (.iload_n 2, 2, 0, []), (.iload 4, 4, 0, []), (.if_icmp .gt 17, 26, 0, []), (.aload_n 0, 0, 0, []), (.getfield 19, 2, 0, [5]), (.iload_n 1, 1, 0, []), (.aload_n 0, 0, 0, []), (.getfield 19, 2, 0, [5]), (.iload_n 2, 2, 0, []), (.iload_n 3, 3, 0, []), (.invokestatic 123, 2, 0, []), (.return_, 0, 0, [])]
def qX5_copy : List Nat := [0, 1, 4, 5, 6, 7, 9, 10, 13, 14, 17, 18, 20, 23, 24, 27, 28, 30, 33, 34, 37, 38, 39, 42, 43, 44, 47]
def pX6_fell : List PI := [(.aload_n 0, 0, 0, []), (.iconst 0, 0, 0, []), (.putfield 15, 1, 0, [6]), (.aload_n 0, 0, 0, []), (.iconst 0, 0, 0, []), (.putfield 19, 2, 0, [6]), (.aload_n 0, 0, 0, []), (.iconst 0, 0, 0, []), (.putfield 22, 3, 0, [6, 2]), (.return_, 0, 0, [])]
def qX6_fell : List Nat := [0, 1, 2, 5, 6, 7, 10, 11, 12, 15]
def pX6_stand : List PI := [(.aload_n 0, 0, 0, []), (.iconst 1, 0, 1, []), (.putfield 22, 3, 0, [6, 2]), (.return_, 0, 0, [])]
def qX6_stand : List Nat := [0, 1, 2, 5]
def pX6_stands : List PI := [(.aload_n 0, 0, 0, []), (.getfield 22, 3, 0, [6]), (.ireturn, 0, 0, [])]
def qX6_stands : List Nat := [0, 1, 4]
def pX6_count : List PI := [(.aload_n 0, 0, 0, []), (.getfield 15, 1, 0, [6]), (.ireturn, 0, 0, [])]
def qX6_count : List Nat := [0, 1, 4]
def pX6_failCount : List PI := [(.aload_n 0, 0, 0, []), (.getfield 19, 2, 0, [6]), (.ireturn, 0, 0, [])]
def qX6_failCount : List Nat := [0, 1, 4]
def pX6_add : List PI := [(.aload_n 0, 0, 0, []), (.getfield 15, 1, 0, [6]), (.istore_n 3, 3, 0, []), (.iload_n 3, 3, 0, []), (.ifCond .lt 10, 8, 0, []), (.iload_n 3, 3, 0, []), (.sipush 300, 0, 300, []), (.if_icmp .lt 5, 10, 0, []), (.iconst (-1), 0, (-1), []), (.ireturn, 0, 0, []), (.aload_n 0, 0, 0, []), (.dup, 0, 0, []), (.getfield 15, 1, 0, [6]), (.iconst 1, 0, 1, []), (.iadd, 0, 0, []), (.putfield 15, 1, 0, [6]), (.iconst 0, 0, 0, []), (.istore 4, 4, 0, []), (.iload 4, 4, 0, []), (.bipush 9, 0, 9, []), (.if_icmp .ge 17, 28, 0, []), (.aload_n 0, 0, 0, []), (.iload_n 3, 3, 0, []), (.iload 4, 4, 0, []), (.iconst (-1), 0, (-1), []), (.invokevirtual 26, 88, 0, [3, 0, 6]), (.iinc 4 1, 4, 1, []), (.goto (-18), 18, 0, []), (.aload_n 0, 0, 0, []), (.iload_n 3, 3, 0, []), (.bipush 7, 0, 7, []), (.iload_n 1, 1, 0, []), (.invokevirtual 26, 88, 0, [3, 0, 6]), (.aload_n 0, 0, 0, []), (.iload_n 3, 3, 0, []), (.bipush 8, 0, 8, []), (.iload_n 2, 2, 0, []), (.invokevirtual 26, 88, 0, [3, 0, 6]), (.iload_n 1, 1, 0, []), (.iconst (-1), 0, (-1), []), (.if_icmp .eq 9, 45, 0, []), (.aload_n 0, 0, 0, []), (.iload_n 3, 3, 0, []), (.iload_n 1, 1, 0, []), (.invokevirtual 30, 86, 0, [2, 0, 6]), (.iload_n 3, 3, 0, []), (.ireturn, 0, 0, [])]
def qX6_add : List Nat := [0, 1, 4, 5, 6, 9, 10, 13, 16, 17, 18, 19, 20, 23, 24, 25, 28, 29, 31, 33, 35, 38, 39, 40, 42, 43, 46, 49, 52, 53, 54, 56, 57, 60, 61, 62, 64, 65, 68, 69, 70, 73, 74, 75, 76, 79, 80]
def pX6_makeFail : List PI := [(.aload_n 0, 0, 0, []), (.iload_n 1, 1, 0, []), (.iconst 0, 0, 0, []), (.iconst 0, 0, 0, []), (.invokevirtual 26, 88, 0, [3, 0, 6]), (.aload_n 0, 0, 0, []), (.dup, 0, 0, []), (.getfield 19, 2, 0, [6]), (.iconst 1, 0, 1, []), (.iadd, 0, 0, []), (.putfield 19, 2, 0, [6]), (.return_, 0, 0, [])]
def qX6_makeFail : List Nat := [0, 1, 2, 3, 4, 7, 8, 9, 12, 13, 14, 17]
def pX6_makeLeaf : List PI := [(.aload_n 0, 0, 0, []), (.iload_n 1, 1, 0, []), (.iconst 0, 0, 0, []), (.iconst 1, 0, 1, []), (.invokevirtual 26, 88, 0, [3, 0, 6]), (.aload_n 0, 0, 0, []), (.iload_n 1, 1, 0, []), (.iconst 1, 0, 1, []), (.iload_n 2, 2, 0, []), (.invokevirtual 26, 88, 0, [3, 0, 6]), (.return_, 0, 0, [])]
def qX6_makeLeaf : List Nat := [0, 1, 2, 3, 4, 7, 8, 9, 10, 11, 14]
def pX6_makeTest : List PI := [(.aload_n 0, 0, 0, []), (.iload_n 1, 1, 0, []), (.iconst 0, 0, 0, []), (.iconst 2, 0, 2, []), (.invokevirtual 26, 88, 0, [3, 0, 6]), (.aload_n 0, 0, 0, []), (.iload_n 1, 1, 0, []), (.iconst 1, 0, 1, []), (.iload_n 2, 2, 0, []), (.invokevirtual 26, 88, 0, [3, 0, 6]), (.aload_n 0, 0, 0, []), (.iload_n 1, 1, 0, []), (.iconst 2, 0, 2, []), (.iload_n 3, 3, 0, []), (.invokevirtual 26, 88, 0, [3, 0, 6]), (.aload_n 0, 0, 0, []), (.iload_n 1, 1, 0, []), (.iconst 3, 0, 3, []), (.iload 4, 4, 0, []), (.invokevirtual 26, 88, 0, [3, 0, 6]), (.aload_n 0, 0, 0, []), (.iload_n 1, 1, 0, []), (.iconst 4, 0, 4, []), (.iconst 0, 0, 0, []), (.invokevirtual 26, 88, 0, [3, 0, 6]), (.return_, 0, 0, [])]
def qX6_makeTest : List Nat := [0, 1, 2, 3, 4, 7, 8, 9, 10, 11, 14, 15, 16, 17, 18, 21, 22, 23, 24, 26, 29, 30, 31, 32, 33, 36]
def pX6_kindOf : List PI := [(.aload_n 0, 0, 0, []), (.iload_n 1, 1, 0, []), (.iconst 0, 0, 0, []), (.invokevirtual 34, 87, 0, [2, 1, 6]), (.ireturn, 0, 0, [])]
def qX6_kindOf : List Nat := [0, 1, 2, 3, 6]
def pX6_testedPlace : List PI := [(.aload_n 0, 0, 0, []), (.iload_n 1, 1, 0, []), (.iconst 3, 0, 3, []), (.invokevirtual 34, 87, 0, [2, 1, 6]), (.ireturn, 0, 0, [])]
def qX6_testedPlace : List Nat := [0, 1, 2, 3, 6]
def pX6_makerOf : List PI := [(.aload_n 0, 0, 0, []), (.iload_n 1, 1, 0, []), (.bipush 8, 0, 8, []), (.invokevirtual 34, 87, 0, [2, 1, 6]), (.ireturn, 0, 0, [])]
def qX6_makerOf : List Nat := [0, 1, 2, 4, 7]
def pX6_tell : List PI := [(.iload_n 2, 2, 0, []), (.bipush 100, 0, 100, []), (.if_icmp .ne 11, 8, 0, []), (.aload_n 0, 0, 0, []), (.iload_n 1, 1, 0, []), (.bipush 7, 0, 7, []), (.invokevirtual 34, 87, 0, [2, 1, 6]), (.ireturn, 0, 0, []), (.iload_n 2, 2, 0, []), (.bipush 101, 0, 101, []), (.if_icmp .ne 11, 16, 0, []), (.aload_n 0, 0, 0, []), (.iload_n 1, 1, 0, []), (.bipush 8, 0, 8, []), (.invokevirtual 34, 87, 0, [2, 1, 6]), (.ireturn, 0, 0, []), (.iload_n 2, 2, 0, []), (.iconst 4, 0, 4, []), (.if_icmp .gt 10, 24, 0, []), (.aload_n 0, 0, 0, []), (.iload_n 1, 1, 0, []), (.iload_n 2, 2, 0, []), (.invokevirtual 34, 87, 0, [2, 1, 6]), (.ireturn, 0, 0, []), (.aload_n 0, 0, 0, []), (.iload_n 1, 1, 0, []), (.iload_n 2, 2, 0, []), (.iconst 5, 0, 5, []), (.isub, 0, 0, []), (.invokevirtual 38, 85, 0, [2, 1, 6]), (.ireturn, 0, 0, [])]
def qX6_tell : List Nat := [0, 1, 3, 6, 7, 8, 10, 13, 14, 15, 17, 20, 21, 22, 24, 27, 28, 29, 30, 33, 34, 35, 36, 39, 40, 41, 42, 43, 44, 45, 48]
def pX6_branchOf : List PI := [(.aload_n 0, 0, 0, []), (.iload_n 1, 1, 0, []), (.iconst 5, 0, 5, []), (.invokevirtual 34, 87, 0, [2, 1, 6]), (.istore_n 3, 3, 0, []), (.iconst 0, 0, 0, []), (.istore 4, 4, 0, []), (.iload 4, 4, 0, []), (.bipush 8, 0, 8, []), (.if_icmp .ge 35, 28, 0, []), (.iload_n 3, 3, 0, []), (.iconst (-1), 0, (-1), []), (.if_icmp .eq 30, 28, 0, []), (.aload_n 0, 0, 0, []), (.iload_n 3, 3, 0, []), (.bipush 8, 0, 8, []), (.invokevirtual 34, 87, 0, [2, 1, 6]), (.iload_n 2, 2, 0, []), (.if_icmp .ne 5, 21, 0, []), (.iload_n 3, 3, 0, []), (.ireturn, 0, 0, []), (.aload_n 0, 0, 0, []), (.iload_n 3, 3, 0, []), (.bipush 6, 0, 6, []), (.invokevirtual 34, 87, 0, [2, 1, 6]), (.istore_n 3, 3, 0, []), (.iinc 4 1, 4, 1, []), (.goto (-36), 7, 0, []), (.iconst (-1), 0, (-1), []), (.ireturn, 0, 0, [])]
def qX6_branchOf : List Nat := [0, 1, 2, 3, 6, 7, 8, 10, 12, 14, 17, 18, 19, 22, 23, 24, 26, 29, 30, 33, 34, 35, 36, 37, 39, 42, 43, 46, 49, 50]
def pX6_branchTowards : List PI := [(.iconst (-1), 0, (-1), []), (.istore_n 3, 3, 0, []), (.aload_n 0, 0, 0, []), (.iload_n 1, 1, 0, []), (.iconst 5, 0, 5, []), (.invokevirtual 34, 87, 0, [2, 1, 6]), (.istore 4, 4, 0, []), (.iconst 0, 0, 0, []), (.istore 5, 5, 0, []), (.iload 5, 5, 0, []), (.bipush 8, 0, 8, []), (.if_icmp .ge 34, 27, 0, []), (.iload 4, 4, 0, []), (.iconst (-1), 0, (-1), []), (.if_icmp .eq 28, 27, 0, []), (.iload 4, 4, 0, []), (.iload_n 2, 2, 0, []), (.if_icmp .gt 22, 27, 0, []), (.iload 4, 4, 0, []), (.istore_n 3, 3, 0, []), (.aload_n 0, 0, 0, []), (.iload 4, 4, 0, []), (.bipush 6, 0, 6, []), (.invokevirtual 34, 87, 0, [2, 1, 6]), (.istore 4, 4, 0, []), (.iinc 5 1, 5, 1, []), (.goto (-35), 9, 0, []), (.iload_n 3, 3, 0, []), (.ireturn, 0, 0, [])]
def qX6_branchTowards : List Nat := [0, 1, 2, 3, 4, 5, 8, 10, 11, 13, 15, 17, 20, 22, 23, 26, 28, 29, 32, 34, 35, 36, 38, 40, 43, 45, 48, 51, 52]
def pX6_failNode : List PI := [(.iload_n 1, 1, 0, []), (.istore_n 2, 2, 0, []), (.iconst 0, 0, 0, []), (.istore_n 3, 3, 0, []), (.iload_n 3, 3, 0, []), (.aload_n 0, 0, 0, []), (.getfield 15, 1, 0, [6]), (.if_icmp .ge 26, 19, 0, []), (.aload_n 0, 0, 0, []), (.iload_n 3, 3, 0, []), (.invokevirtual 41, 77, 0, [1, 1, 6]), (.ifCond .ne 12, 17, 0, []), (.iload_n 2, 2, 0, []), (.ifCond .ne 5, 16, 0, []), (.iload_n 3, 3, 0, []), (.ireturn, 0, 0, []), (.iinc 2 (-1), 2, (-1), []), (.iinc 3 1, 3, 1, []), (.goto (-28), 4, 0, []), (.iconst (-1), 0, (-1), []), (.ireturn, 0, 0, [])]
def qX6_failNode : List Nat := [0, 1, 2, 3, 4, 5, 6, 9, 12, 13, 14, 17, 20, 21, 24, 25, 26, 29, 32, 35, 36]
def pX6_hasLeafOf : List PI := [(.iconst 0, 0, 0, []), (.istore_n 2, 2, 0, []), (.iload_n 2, 2, 0, []), (.aload_n 0, 0, 0, []), (.getfield 15, 1, 0, [6]), (.if_icmp .ge 30, 21, 0, []), (.aload_n 0, 0, 0, []), (.iload_n 2, 2, 0, []), (.invokevirtual 41, 77, 0, [1, 1, 6]), (.iconst 1, 0, 1, []), (.if_icmp .ne 15, 19, 0, []), (.aload_n 0, 0, 0, []), (.iload_n 2, 2, 0, []), (.iconst 1, 0, 1, []), (.invokevirtual 34, 87, 0, [2, 1, 6]), (.iload_n 1, 1, 0, []), (.if_icmp .ne 5, 19, 0, []), (.iconst 1, 0, 1, []), (.ireturn, 0, 0, []), (.iinc 2 1, 2, 1, []), (.goto (-32), 2, 0, []), (.iconst 0, 0, 0, []), (.ireturn, 0, 0, [])]
def qX6_hasLeafOf : List Nat := [0, 1, 2, 3, 4, 7, 10, 11, 12, 15, 16, 19, 20, 21, 22, 25, 26, 29, 30, 31, 34, 37, 38]
def pX6_branchAt : List PI := [(.iload_n 2, 2, 0, []), (.aload_n 0, 0, 0, []), (.iload_n 1, 1, 0, []), (.iconst 4, 0, 4, []), (.invokevirtual 34, 87, 0, [2, 1, 6]), (.if_icmp .lt 5, 8, 0, []), (.iconst (-1), 0, (-1), []), (.ireturn, 0, 0, []), (.aload_n 0, 0, 0, []), (.iload_n 1, 1, 0, []), (.iconst 5, 0, 5, []), (.invokevirtual 34, 87, 0, [2, 1, 6]), (.istore_n 3, 3, 0, []), (.iconst 0, 0, 0, []), (.istore 4, 4, 0, []), (.iload 4, 4, 0, []), (.iload_n 2, 2, 0, []), (.if_icmp .ge 17, 25, 0, []), (.aload_n 0, 0, 0, []), (.iload_n 3, 3, 0, []), (.bipush 6, 0, 6, []), (.invokevirtual 34, 87, 0, [2, 1, 6]), (.istore_n 3, 3, 0, []), (.iinc 4 1, 4, 1, []), (.goto (-17), 15, 0, []), (.iload_n 3, 3, 0, []), (.ireturn, 0, 0, [])]
def qX6_branchAt : List Nat := [0, 1, 2, 3, 4, 7, 10, 11, 12, 13, 14, 15, 18, 19, 20, 22, 24, 25, 28, 29, 30, 32, 35, 36, 39, 42, 43]
def pX6_hang : List PI := [(.aload_n 0, 0, 0, []), (.iload_n 2, 2, 0, []), (.iconst 4, 0, 4, []), (.invokevirtual 34, 87, 0, [2, 1, 6]), (.istore_n 3, 3, 0, []), (.iload_n 3, 3, 0, []), (.ifCond .ne 13, 13, 0, []), (.aload_n 0, 0, 0, []), (.iload_n 2, 2, 0, []), (.iconst 5, 0, 5, []), (.iload_n 1, 1, 0, []), (.invokevirtual 26, 88, 0, [3, 0, 6]), (.goto 18, 23, 0, []), (.aload_n 0, 0, 0, []), (.aload_n 0, 0, 0, []), (.iload_n 2, 2, 0, []), (.iload_n 3, 3, 0, []), (.iconst 1, 0, 1, []), (.isub, 0, 0, []), (.invokevirtual 38, 85, 0, [2, 1, 6]), (.bipush 6, 0, 6, []), (.iload_n 1, 1, 0, []), (.invokevirtual 26, 88, 0, [3, 0, 6]), (.aload_n 0, 0, 0, []), (.iload_n 2, 2, 0, []), (.iconst 4, 0, 4, []), (.iload_n 3, 3, 0, []), (.iconst 1, 0, 1, []), (.iadd, 0, 0, []), (.invokevirtual 26, 88, 0, [3, 0, 6]), (.return_, 0, 0, [])]
def qX6_hang : List Nat := [0, 1, 2, 3, 6, 7, 8, 11, 12, 13, 14, 15, 18, 21, 22, 23, 24, 25, 26, 27, 30, 32, 33, 36, 37, 38, 39, 40, 41, 42, 45]
def pX6_get : List PI := [(.iload_n 1, 1, 0, []), (.ifCond .lt 25, 13, 0, []), (.iload_n 1, 1, 0, []), (.aload_n 0, 0, 0, []), (.getfield 15, 1, 0, [6]), (.if_icmp .ge 17, 13, 0, []), (.iload_n 2, 2, 0, []), (.ifCond .lt 13, 13, 0, []), (.iload_n 2, 2, 0, []), (.bipush 9, 0, 9, []), (.if_icmp .ge 7, 13, 0, []), (.iconst 1, 0, 1, []), (.goto 4, 14, 0, []), (.iconst 0, 0, 0, []), (.istore_n 3, 3, 0, []), (.iload_n 3, 3, 0, []), (.ifCond .eq 17, 26, 0, []), (.aload_n 0, 0, 0, []), (.getfield 11, 0, 0, [6]), (.iload_n 1, 1, 0, []), (.bipush 9, 0, 9, []), (.imul, 0, 0, []), (.iload_n 2, 2, 0, []), (.iadd, 0, 0, []), (.iaload, 0, 0, []), (.goto 4, 27, 0, []), (.iconst (-1), 0, (-1), []), (.ireturn, 0, 0, [])]
def qX6_get : List Nat := [0, 1, 4, 5, 6, 9, 12, 13, 16, 17, 19, 22, 23, 26, 27, 28, 29, 32, 33, 36, 37, 39, 40, 41, 42, 43, 46, 47]
def pX6_set : List PI := [(.iload_n 1, 1, 0, []), (.ifCond .lt 33, 20, 0, []), (.iload_n 1, 1, 0, []), (.aload_n 0, 0, 0, []), (.getfield 15, 1, 0, [6]), (.if_icmp .ge 25, 20, 0, []), (.iload_n 2, 2, 0, []), (.ifCond .lt 21, 20, 0, []), (.iload_n 2, 2, 0, []), (.bipush 9, 0, 9, []), (.if_icmp .ge 15, 20, 0, []), (.aload_n 0, 0, 0, []), (.getfield 11, 0, 0, [6]), (.iload_n 1, 1, 0, []), (.bipush 9, 0, 9, []), (.imul, 0, 0, []), (.iload_n 2, 2, 0, []), (.iadd, 0, 0, []), (.iload_n 3, 3, 0, []), (.iastore, 0, 0, []), (.return_, 0, 0, [])]
def qX6_set : List Nat := [0, 1, 4, 5, 6, 9, 12, 13, 16, 17, 19, 22, 23, 26, 27, 29, 30, 31, 32, 33, 34]
def pX7_type : List PI := [(.aload_n 0, 0, 0, []), (.getfield 12, 0, 0, [7]), (.invokevirtual 77, 17, 0, [0, 1, 2]), (.bipush 8, 0, 8, []), (.if_icmp .lt 13, 10, 0, []), (.new 81, 1, 0, [83, 85, 0]), (.dup, 0, 0, []), (.ldc 83, 0, 0, []), (.invokespecial 85, 0, 0, []), (.athrow, 0, 0, []), (.aload_n 0, 0, 0, []), (.getfield 12, 0, 0, [7]), (.invokevirtual 88, 27, 0, [0, 1, 2]), (.ireturn, 0, 0, [])]
def qX7_type : List Nat := [0, 1, 4, 7, 9, 12, 15, 16, 18, 21, 22, 23, 26, 29]
def pX7_maker : List PI := [(.aload_n 0, 0, 0, []), (.iload_n 2, 2, 0, []), (.iload_n 3, 3, 0, []), (.iload 4, 4, 0, []), (.invokevirtual 91, 105, 0, [3, 1, 7]), (.istore 5, 5, 0, []), (.aload_n 0, 0, 0, []), (.getfield 12, 0, 0, [7]), (.iload_n 1, 1, 0, []), (.invokevirtual 95, 19, 0, [1, 2, 2]), (.ifCond .eq 9, 14, 0, []), (.iload 5, 5, 0, []), (.iconst (-1), 0, (-1), []), (.if_icmp .ne 13, 19, 0, []), (.new 99, 3, 0, [101, 103, 0]), (.dup, 0, 0, []), (.ldc 101, 0, 0, []), (.invokespecial 103, 0, 0, []), (.athrow, 0, 0, []), (.aload_n 0, 0, 0, []), (.getfield 12, 0, 0, [7]), (.iload_n 1, 1, 0, []), (.invokevirtual 104, 21, 0, [1, 2, 2]), (.ifCond .ne 13, 29, 0, []), (.new 81, 1, 0, [107, 85, 0]), (.dup, 0, 0, []), (.ldc 107, 0, 0, []), (.invokespecial 85, 0, 0, []), (.athrow, 0, 0, []), (.aload_n 0, 0, 0, []), (.iconst 0, 0, 0, []), (.iconst (-1), 0, (-1), []), (.iconst (-1), 0, (-1), []), (.iconst (-1), 0, (-1), []), (.invokevirtual 109, 106, 0, [4, 0, 7]), (.aload_n 0, 0, 0, []), (.getfield 12, 0, 0, [7]), (.iload_n 1, 1, 0, []), (.iload 5, 5, 0, []), (.iload_n 2, 2, 0, []), (.iload_n 3, 3, 0, []), (.iload 4, 4, 0, []), (.invokevirtual 113, 28, 0, [5, 1, 2]), (.ireturn, 0, 0, [])]
def qX7_maker : List Nat := [0, 1, 2, 3, 5, 8, 10, 11, 14, 15, 18, 21, 23, 24, 27, 30, 31, 33, 36, 37, 38, 41, 42, 45, 48, 51, 52, 54, 57, 58, 59, 60, 61, 62, 63, 66, 67, 70, 71, 73, 74, 75, 77, 80]
def pX7_isEmpty : List PI := [(.aload_n 0, 0, 0, []), (.getfield 12, 0, 0, [7]), (.iload_n 1, 1, 0, []), (.invokevirtual 95, 19, 0, [1, 2, 2]), (.ifCond .ne 13, 10, 0, []), (.new 99, 3, 0, [101, 103, 0]), (.dup, 0, 0, []), (.ldc 101, 0, 0, []), (.invokespecial 103, 0, 0, []), (.athrow, 0, 0, []), (.aload_n 0, 0, 0, []), (.getfield 12, 0, 0, [7]), (.iload_n 1, 1, 0, []), (.invokevirtual 117, 22, 0, [1, 2, 2]), (.ifCond .ne 7, 17, 0, []), (.iconst 1, 0, 1, []), (.goto 4, 18, 0, []), (.iconst 0, 0, 0, []), (.ireturn, 0, 0, [])]
def qX7_isEmpty : List Nat := [0, 1, 4, 5, 8, 11, 14, 15, 17, 20, 21, 22, 25, 26, 29, 32, 33, 36, 37]
def pX7_match : List PI := [(.aload_n 0, 0, 0, []), (.iload_n 1, 1, 0, []), (.iload_n 2, 2, 0, []), (.iload_n 3, 3, 0, []), (.invokevirtual 91, 105, 0, [3, 1, 7]), (.istore 4, 4, 0, []), (.iload 4, 4, 0, []), (.iconst (-1), 0, (-1), []), (.if_icmp .eq 8, 11, 0, []), (.iload 4, 4, 0, []), (.ifCond .ne 13, 16, 0, []), (.new 99, 3, 0, [120, 103, 0]), (.dup, 0, 0, []), (.ldc 120, 0, 0, []), (.invokespecial 103, 0, 0, []), (.athrow, 0, 0, []), (.aload_n 0, 0, 0, []), (.iload 4, 4, 0, []), (.iload_n 1, 1, 0, []), (.iload_n 2, 2, 0, []), (.iload_n 3, 3, 0, []), (.invokevirtual 109, 106, 0, [4, 0, 7]), (.return_, 0, 0, [])]
def qX7_match : List Nat := [0, 1, 2, 3, 4, 7, 9, 11, 12, 15, 17, 20, 23, 24, 26, 29, 30, 31, 33, 34, 35, 36, 39]
def pX7_sign : List PI := [(.aload_n 0, 0, 0, []), (.invokevirtual 122, 107, 0, [0, 0, 7]), (.aload_n 0, 0, 0, []), (.getfield 36, 4, 0, [7]), (.invokevirtual 125, 8, 0, [0, 2, 1]), (.ifCond .eq 13, 11, 0, []), (.new 81, 1, 0, [129, 85, 0]), (.dup, 0, 0, []), (.ldc 129, 0, 0, []), (.invokespecial 85, 0, 0, []), (.athrow, 0, 0, []), (.aload_n 0, 0, 0, []), (.getfield 36, 4, 0, [7]), (.iload_n 1, 1, 0, []), (.invokevirtual 131, 10, 0, [1, 2, 1]), (.ifCond .ne 24, 26, 0, []), (.aload_n 0, 0, 0, []), (.getfield 36, 4, 0, [7]), (.invokevirtual 134, 9, 0, [0, 2, 1]), (.ifCond .eq 18, 28, 0, []), (.iload_n 1, 1, 0, []), (.iconst (-1), 0, (-1), []), (.if_icmp .eq 9, 26, 0, []), (.iload_n 1, 1, 0, []), (.bipush (-2), 0, (-2), []), (.if_icmp .ne 7, 28, 0, []), (.iconst 1, 0, 1, []), (.goto 4, 29, 0, []), (.iconst 0, 0, 0, []), (.istore_n 2, 2, 0, []), (.iload_n 2, 2, 0, []), (.ifCond .ne 13, 37, 0, []), (.new 137, 2, 0, [139, 141, 0]), (.dup, 0, 0, []), (.ldc 139, 0, 0, []), (.invokespecial 141, 0, 0, []), (.athrow, 0, 0, []), (.aload_n 0, 0, 0, []), (.getfield 36, 4, 0, [7]), (.iload_n 1, 1, 0, []), (.invokevirtual 142, 11, 0, [1, 1, 1]), (.ireturn, 0, 0, [])]
def qX7_sign : List Nat := [0, 1, 4, 5, 8, 11, 14, 17, 18, 20, 23, 24, 25, 28, 29, 32, 35, 36, 39, 42, 45, 46, 47, 50, 51, 53, 56, 57, 60, 61, 62, 63, 66, 69, 70, 72, 75, 76, 77, 80, 81, 84]
def pX7_row : List PI := [(.aload_n 0, 0, 0, []), (.invokevirtual 122, 107, 0, [0, 0, 7]), (.aload_n 0, 0, 0, []), (.getfield 27, 3, 0, [7]), (.invokevirtual 146, 31, 0, [0, 1, 3]), (.bipush 12, 0, 12, []), (.if_icmp .lt 13, 12, 0, []), (.new 81, 1, 0, [149, 85, 0]), (.dup, 0, 0, []), (.ldc 149, 0, 0, []), (.invokespecial 85, 0, 0, []), (.athrow, 0, 0, []), (.aload_n 0, 0, 0, []), (.getfield 36, 4, 0, [7]), (.invokevirtual 134, 9, 0, [0, 2, 1]), (.ifCond .eq 28, 28, 0, []), (.aload_n 0, 0, 0, []), (.getfield 36, 4, 0, [7]), (.aload_n 0, 0, 0, []), (.getfield 16, 1, 0, [7]), (.aload_n 0, 0, 0, []), (.getfield 20, 2, 0, [7]), (.invokevirtual 151, 6, 0, [2, 0, 1]), (.new 137, 2, 0, [155, 141, 0]), (.dup, 0, 0, []), (.ldc 155, 0, 0, []), (.invokespecial 141, 0, 0, []), (.athrow, 0, 0, []), (.aload_n 0, 0, 0, []), (.getfield 46, 6, 0, [7]), (.invokevirtual 157, 68, 0, [0, 0, 6]), (.aload_n 0, 0, 0, []), (.getfield 27, 3, 0, [7]), (.aload_n 0, 0, 0, []), (.getfield 36, 4, 0, [7]), (.invokevirtual 160, 32, 0, [1, 1, 3]), (.istore_n 1, 1, 0, []), (.aload_n 0, 0, 0, []), (.getfield 36, 4, 0, [7]), (.aload_n 0, 0, 0, []), (.getfield 16, 1, 0, [7]), (.aload_n 0, 0, 0, []), (.getfield 20, 2, 0, [7]), (.invokevirtual 151, 6, 0, [2, 0, 1]), (.iload_n 1, 1, 0, []), (.ireturn, 0, 0, [])]
def qX7_row : List Nat := [0, 1, 4, 5, 8, 11, 13, 16, 19, 20, 22, 25, 26, 27, 30, 33, 36, 37, 40, 41, 44, 45, 48, 51, 54, 55, 57, 60, 61, 62, 65, 68, 69, 72, 73, 76, 79, 80, 81, 84, 85, 88, 89, 92, 95, 96]
def pX7_compile : List PI := [(.aload_n 0, 0, 0, []), (.invokevirtual 122, 107, 0, [0, 0, 7]), (.aload_n 0, 0, 0, []), (.getfield 64, 8, 0, [7]), (.invokevirtual 164, 0, 0, [0, 0, 0]), (.aload_n 0, 0, 0, []), (.invokevirtual 167, 112, 0, [0, 2, 7]), (.istore_n 1, 1, 0, []), (.iload_n 1, 1, 0, []), (.ifCond .ne 20, 18, 0, []), (.aload_n 0, 0, 0, []), (.getfield 46, 6, 0, [7]), (.invokevirtual 157, 68, 0, [0, 0, 6]), (.new 170, 4, 0, [172, 174, 0]), (.dup, 0, 0, []), (.ldc 172, 0, 0, []), (.invokespecial 174, 0, 0, []), (.athrow, 0, 0, []), (.aload_n 0, 0, 0, []), (.getfield 46, 6, 0, [7]), (.invokevirtual 175, 69, 0, [0, 0, 6]), (.aload_n 0, 0, 0, []), (.getfield 46, 6, 0, [7]), (.invokevirtual 178, 71, 0, [0, 1, 6]), (.ireturn, 0, 0, [])]
def qX7_compile : List Nat := [0, 1, 4, 5, 8, 11, 12, 15, 16, 17, 20, 21, 24, 27, 30, 31, 33, 36, 37, 38, 41, 44, 45, 48, 51]
def pX7_node : List PI := [(.aload_n 0, 0, 0, []), (.getfield 46, 6, 0, [7]), (.invokevirtual 179, 70, 0, [0, 2, 6]), (.ifCond .eq 18, 11, 0, []), (.iload_n 1, 1, 0, []), (.ifCond .lt 14, 11, 0, []), (.iload_n 1, 1, 0, []), (.aload_n 0, 0, 0, []), (.getfield 46, 6, 0, [7]), (.invokevirtual 178, 71, 0, [0, 1, 6]), (.if_icmp .lt 13, 16, 0, []), (.new 182, 5, 0, [184, 186, 0]), (.dup, 0, 0, []), (.ldc 184, 0, 0, []), (.invokespecial 186, 0, 0, []), (.athrow, 0, 0, []), (.aload_n 0, 0, 0, []), (.getfield 46, 6, 0, [7]), (.iload_n 1, 1, 0, []), (.iload_n 2, 2, 0, []), (.invokevirtual 187, 80, 0, [2, 1, 6]), (.ireturn, 0, 0, [])]
def qX7_node : List Nat := [0, 1, 4, 7, 10, 11, 14, 15, 16, 19, 22, 25, 28, 29, 31, 34, 35, 36, 39, 40, 41, 44]
def pX7_missing : List PI := [(.aload_n 0, 0, 0, []), (.getfield 46, 6, 0, [7]), (.invokevirtual 179, 70, 0, [0, 2, 6]), (.ifCond .eq 13, 8, 0, []), (.aload_n 0, 0, 0, []), (.getfield 46, 6, 0, [7]), (.invokevirtual 191, 72, 0, [0, 1, 6]), (.goto 4, 9, 0, []), (.iconst (-1), 0, (-1), []), (.ireturn, 0, 0, [])]
def qX7_missing : List Nat := [0, 1, 4, 7, 10, 11, 14, 17, 20, 21]
def pX7_missingSign : List PI := [(.aload_n 0, 0, 0, []), (.getfield 46, 6, 0, [7]), (.invokevirtual 179, 70, 0, [0, 2, 6]), (.ifCond .eq 18, 11, 0, []), (.iload_n 1, 1, 0, []), (.ifCond .lt 14, 11, 0, []), (.iload_n 1, 1, 0, []), (.aload_n 0, 0, 0, []), (.getfield 46, 6, 0, [7]), (.invokevirtual 191, 72, 0, [0, 1, 6]), (.if_icmp .lt 13, 16, 0, []), (.new 182, 5, 0, [194, 186, 0]), (.dup, 0, 0, []), (.ldc 194, 0, 0, []), (.invokespecial 186, 0, 0, []), (.athrow, 0, 0, []), (.aload_n 0, 0, 0, []), (.getfield 64, 8, 0, [7]), (.invokevirtual 196, 1, 0, [0, 1, 0]), (.iload_n 1, 1, 0, []), (.if_icmp .eq 15, 27, 0, []), (.aload_n 0, 0, 0, []), (.getfield 64, 8, 0, [7]), (.iload_n 1, 1, 0, []), (.aload_n 0, 0, 0, []), (.getfield 20, 2, 0, [7]), (.invokevirtual 199, 2, 0, [2, 0, 0]), (.aload_n 0, 0, 0, []), (.getfield 64, 8, 0, [7]), (.iload_n 2, 2, 0, []), (.invokevirtual 203, 3, 0, [1, 1, 0]), (.ireturn, 0, 0, [])]
def qX7_missingSign : List Nat := [0, 1, 4, 7, 10, 11, 14, 15, 16, 19, 22, 25, 28, 29, 31, 34, 35, 36, 39, 42, 43, 46, 47, 50, 51, 52, 55, 58, 59, 62, 63, 66]
def pX7_isIdle : List PI := [(.aload_n 0, 0, 0, []), (.getfield 46, 6, 0, [7]), (.invokevirtual 179, 70, 0, [0, 2, 6]), (.ifCond .eq 18, 11, 0, []), (.iload_n 1, 1, 0, []), (.ifCond .lt 14, 11, 0, []), (.iload_n 1, 1, 0, []), (.aload_n 0, 0, 0, []), (.getfield 27, 3, 0, [7]), (.invokevirtual 146, 31, 0, [0, 1, 3]), (.if_icmp .lt 13, 16, 0, []), (.new 182, 5, 0, [206, 186, 0]), (.dup, 0, 0, []), (.ldc 206, 0, 0, []), (.invokespecial 186, 0, 0, []), (.athrow, 0, 0, []), (.aload_n 0, 0, 0, []), (.getfield 46, 6, 0, [7]), (.iload_n 1, 1, 0, []), (.invokevirtual 208, 84, 0, [1, 2, 6]), (.ifCond .ne 7, 23, 0, []), (.iconst 1, 0, 1, []), (.goto 4, 24, 0, []), (.iconst 0, 0, 0, []), (.ireturn, 0, 0, [])]
def qX7_isIdle : List Nat := [0, 1, 4, 7, 10, 11, 14, 15, 16, 19, 22, 25, 28, 29, 31, 34, 35, 36, 39, 40, 43, 46, 47, 50, 51]
def pX7_give : List PI := [(.aload_n 0, 0, 0, []), (.invokevirtual 122, 107, 0, [0, 0, 7]), (.aload_n 0, 0, 0, []), (.getfield 40, 5, 0, [7]), (.invokevirtual 125, 8, 0, [0, 2, 1]), (.ifCond .eq 13, 11, 0, []), (.new 81, 1, 0, [211, 85, 0]), (.dup, 0, 0, []), (.ldc 211, 0, 0, []), (.invokespecial 85, 0, 0, []), (.athrow, 0, 0, []), (.aload_n 0, 0, 0, []), (.getfield 40, 5, 0, [7]), (.iload_n 1, 1, 0, []), (.invokevirtual 131, 10, 0, [1, 2, 1]), (.ifCond .ne 13, 21, 0, []), (.new 137, 2, 0, [213, 141, 0]), (.dup, 0, 0, []), (.ldc 213, 0, 0, []), (.invokespecial 141, 0, 0, []), (.athrow, 0, 0, []), (.aload_n 0, 0, 0, []), (.getfield 40, 5, 0, [7]), (.iload_n 1, 1, 0, []), (.invokevirtual 142, 11, 0, [1, 1, 1]), (.ireturn, 0, 0, [])]
def qX7_give : List Nat := [0, 1, 4, 5, 8, 11, 14, 17, 18, 20, 23, 24, 25, 28, 29, 32, 35, 38, 39, 41, 44, 45, 46, 49, 50, 53]
def pX7_answer : List PI := [(.aload_n 0, 0, 0, []), (.invokevirtual 215, 108, 0, [0, 0, 7]), (.aload_n 0, 0, 0, []), (.getfield 40, 5, 0, [7]), (.invokevirtual 218, 14, 0, [0, 0, 1]), (.iconst 0, 0, 0, []), (.istore_n 1, 1, 0, []), (.iload_n 1, 1, 0, []), (.aload_n 0, 0, 0, []), (.getfield 27, 3, 0, [7]), (.invokevirtual 146, 31, 0, [0, 1, 3]), (.if_icmp .ge 19, 20, 0, []), (.aload_n 0, 0, 0, []), (.iload_n 1, 1, 0, []), (.invokevirtual 221, 109, 0, [1, 2, 7]), (.ifCond .eq 5, 18, 0, []), (.iload_n 1, 1, 0, []), (.ireturn, 0, 0, []), (.iinc 1 1, 1, 1, []), (.goto (-24), 7, 0, []), (.iconst (-1), 0, (-1), []), (.ireturn, 0, 0, [])]
def qX7_answer : List Nat := [0, 1, 4, 5, 8, 11, 12, 13, 14, 15, 18, 21, 24, 25, 26, 29, 32, 33, 34, 37, 40, 41]
def pX7_tests : List PI := [(.aload_n 0, 0, 0, []), (.invokevirtual 215, 108, 0, [0, 0, 7]), (.aload_n 0, 0, 0, []), (.getfield 46, 6, 0, [7]), (.invokevirtual 179, 70, 0, [0, 2, 6]), (.ifCond .ne 13, 11, 0, []), (.new 182, 5, 0, [224, 186, 0]), (.dup, 0, 0, []), (.ldc 224, 0, 0, []), (.invokespecial 186, 0, 0, []), (.athrow, 0, 0, []), (.aload_n 0, 0, 0, []), (.getfield 40, 5, 0, [7]), (.invokevirtual 218, 14, 0, [0, 0, 1]), (.aload_n 0, 0, 0, []), (.invokevirtual 226, 111, 0, [0, 1, 7]), (.ireturn, 0, 0, [])]
def qX7_tests : List Nat := [0, 1, 4, 5, 8, 11, 14, 17, 18, 20, 23, 24, 25, 28, 31, 32, 35]
def pX7_empty : List PI := [(.aload_n 0, 0, 0, []), (.getfield 40, 5, 0, [7]), (.aload_n 0, 0, 0, []), (.getfield 16, 1, 0, [7]), (.aload_n 0, 0, 0, []), (.getfield 20, 2, 0, [7]), (.invokevirtual 151, 6, 0, [2, 0, 1]), (.return_, 0, 0, [])]
def qX7_empty : List Nat := [0, 1, 4, 5, 8, 9, 12, 15]
def pX7_about : List PI := [(.iload_n 1, 1, 0, []), (.tableswitch 110 0 6 #[43, 51, 59, 64, 72, 80, 88], 35, 0, [2, 6, 10, 13, 17, 21, 25]), (.aload_n 0, 0, 0, []), (.getfield 12, 0, 0, [7]), (.invokevirtual 77, 17, 0, [0, 1, 2]), (.ireturn, 0, 0, []), (.aload_n 0, 0, 0, []), (.getfield 12, 0, 0, [7]), (.invokevirtual 229, 18, 0, [0, 1, 2]), (.ireturn, 0, 0, []), (.aload_n 0, 0, 0, []), (.getfield 20, 2, 0, [7]), (.ireturn, 0, 0, []), (.aload_n 0, 0, 0, []), (.getfield 27, 3, 0, [7]), (.invokevirtual 146, 31, 0, [0, 1, 3]), (.ireturn, 0, 0, []), (.aload_n 0, 0, 0, []), (.getfield 36, 4, 0, [7]), (.invokevirtual 232, 7, 0, [0, 1, 1]), (.ireturn, 0, 0, []), (.aload_n 0, 0, 0, []), (.getfield 40, 5, 0, [7]), (.invokevirtual 232, 7, 0, [0, 1, 1]), (.ireturn, 0, 0, []), (.aload_n 0, 0, 0, []), (.getfield 46, 6, 0, [7]), (.invokevirtual 179, 70, 0, [0, 2, 6]), (.ifCond .eq 13, 33, 0, []), (.aload_n 0, 0, 0, []), (.getfield 46, 6, 0, [7]), (.invokevirtual 178, 71, 0, [0, 1, 6]), (.goto 4, 34, 0, []), (.iconst (-1), 0, (-1), []), (.ireturn, 0, 0, []), (.iconst (-1), 0, (-1), []), (.ireturn, 0, 0, [])]
def qX7_about : List Nat := [0, 1, 44, 45, 48, 51, 52, 53, 56, 59, 60, 61, 64, 65, 66, 69, 72, 73, 74, 77, 80, 81, 82, 85, 88, 89, 90, 93, 96, 99, 100, 103, 106, 109, 110, 111, 112]
def pX7_countTypes : List PI := [(.iload_n 1, 1, 0, []), (.iconst (-1), 0, (-1), []), (.if_icmp .ne 5, 5, 0, []), (.iconst 0, 0, 0, []), (.ireturn, 0, 0, []), (.aload_n 0, 0, 0, []), (.getfield 12, 0, 0, [7]), (.iload_n 1, 1, 0, []), (.invokevirtual 95, 19, 0, [1, 2, 2]), (.ifCond .ne 5, 12, 0, []), (.iconst (-1), 0, (-1), []), (.ireturn, 0, 0, []), (.iload_n 2, 2, 0, []), (.iconst (-1), 0, (-1), []), (.if_icmp .ne 5, 17, 0, []), (.iconst 1, 0, 1, []), (.ireturn, 0, 0, []), (.aload_n 0, 0, 0, []), (.getfield 12, 0, 0, [7]), (.iload_n 2, 2, 0, []), (.invokevirtual 95, 19, 0, [1, 2, 2]), (.ifCond .ne 5, 24, 0, []), (.iconst (-1), 0, (-1), []), (.ireturn, 0, 0, []), (.iload_n 3, 3, 0, []), (.iconst (-1), 0, (-1), []), (.if_icmp .ne 5, 29, 0, []), (.iconst 2, 0, 2, []), (.ireturn, 0, 0, []), (.aload_n 0, 0, 0, []), (.getfield 12, 0, 0, [7]), (.iload_n 3, 3, 0, []), (.invokevirtual 95, 19, 0, [1, 2, 2]), (.ifCond .eq 7, 36, 0, []), (.iconst 3, 0, 3, []), (.goto 4, 37, 0, []), (.iconst (-1), 0, (-1), []), (.ireturn, 0, 0, [])]
def qX7_countTypes : List Nat := [0, 1, 2, 5, 6, 7, 8, 11, 12, 15, 18, 19, 20, 21, 22, 25, 26, 27, 28, 31, 32, 35, 38, 39, 40, 41, 42, 45, 46, 47, 48, 51, 52, 55, 58, 59, 62, 63]
def pX7_beginMatch : List PI := [(.aload_n 0, 0, 0, []), (.iload_n 1, 1, 0, []), (.putfield 20, 2, 0, [7]), (.aload_n 0, 0, 0, []), (.getfield 16, 1, 0, [7]), (.iconst 0, 0, 0, []), (.iload_n 2, 2, 0, []), (.iastore, 0, 0, []), (.aload_n 0, 0, 0, []), (.getfield 16, 1, 0, [7]), (.iconst 1, 0, 1, []), (.iload_n 3, 3, 0, []), (.iastore, 0, 0, []), (.aload_n 0, 0, 0, []), (.getfield 16, 1, 0, [7]), (.iconst 2, 0, 2, []), (.iload 4, 4, 0, []), (.iastore, 0, 0, []), (.aload_n 0, 0, 0, []), (.getfield 27, 3, 0, [7]), (.invokevirtual 233, 30, 0, [0, 0, 3]), (.aload_n 0, 0, 0, []), (.getfield 46, 6, 0, [7]), (.invokevirtual 157, 68, 0, [0, 0, 6]), (.aload_n 0, 0, 0, []), (.getfield 36, 4, 0, [7]), (.aload_n 0, 0, 0, []), (.getfield 16, 1, 0, [7]), (.aload_n 0, 0, 0, []), (.getfield 20, 2, 0, [7]), (.invokevirtual 151, 6, 0, [2, 0, 1]), (.aload_n 0, 0, 0, []), (.getfield 40, 5, 0, [7]), (.aload_n 0, 0, 0, []), (.getfield 16, 1, 0, [7]), (.aload_n 0, 0, 0, []), (.getfield 20, 2, 0, [7]), (.invokevirtual 151, 6, 0, [2, 0, 1]), (.return_, 0, 0, [])]
def qX7_beginMatch : List Nat := [0, 1, 2, 5, 6, 9, 10, 11, 12, 13, 16, 17, 18, 19, 20, 23, 24, 26, 27, 28, 31, 34, 35, 38, 41, 42, 45, 46, 49, 50, 53, 56, 57, 60, 61, 64, 65, 68, 71]
def pX7_refuseWithoutMatch : List PI := [(.aload_n 0, 0, 0, []), (.getfield 20, 2, 0, [7]), (.ifCond .ne 13, 8, 0, []), (.new 81, 1, 0, [236, 85, 0]), (.dup, 0, 0, []), (.ldc 236, 0, 0, []), (.invokespecial 85, 0, 0, []), (.athrow, 0, 0, []), (.return_, 0, 0, [])]
def qX7_refuseWithoutMatch : List Nat := [0, 1, 4, 7, 10, 11, 13, 16, 17]
def pX7_refuseWithoutWholeValues : List PI := [(.aload_n 0, 0, 0, []), (.invokevirtual 122, 107, 0, [0, 0, 7]), (.aload_n 0, 0, 0, []), (.getfield 40, 5, 0, [7]), (.invokevirtual 134, 9, 0, [0, 2, 1]), (.ifCond .eq 13, 11, 0, []), (.new 137, 2, 0, [238, 141, 0]), (.dup, 0, 0, []), (.ldc 238, 0, 0, []), (.invokespecial 141, 0, 0, []), (.athrow, 0, 0, []), (.return_, 0, 0, [])]
def qX7_refuseWithoutWholeValues : List Nat := [0, 1, 4, 5, 8, 11, 14, 17, 18, 20, 23, 24]
def pX7_rowTakesValues : List PI := [(.aload_n 0, 0, 0, []), (.getfield 27, 3, 0, [7]), (.iload_n 1, 1, 0, []), (.invokevirtual 240, 33, 0, [1, 1, 3]), (.istore_n 2, 2, 0, []), (.iconst 0, 0, 0, []), (.istore_n 3, 3, 0, []), (.iconst 0, 0, 0, []), (.istore 4, 4, 0, []), (.iload 4, 4, 0, []), (.aload_n 0, 0, 0, []), (.getfield 20, 2, 0, [7]), (.if_icmp .ge 39, 33, 0, []), (.aload_n 0, 0, 0, []), (.iload_n 2, 2, 0, []), (.iload_n 3, 3, 0, []), (.iconst 0, 0, 0, []), (.invokevirtual 243, 110, 0, [3, 2, 7]), (.ifCond .ne 5, 21, 0, []), (.iconst 0, 0, 0, []), (.ireturn, 0, 0, []), (.aload_n 0, 0, 0, []), (.getfield 27, 3, 0, [7]), (.iload_n 2, 2, 0, []), (.invokevirtual 247, 35, 0, [1, 1, 3]), (.istore_n 2, 2, 0, []), (.aload_n 0, 0, 0, []), (.getfield 40, 5, 0, [7]), (.iload_n 3, 3, 0, []), (.invokevirtual 250, 13, 0, [1, 1, 1]), (.istore_n 3, 3, 0, []), (.iinc 4 1, 4, 1, []), (.goto (-42), 9, 0, []), (.iconst 1, 0, 1, []), (.ireturn, 0, 0, [])]
def qX7_rowTakesValues : List Nat := [0, 1, 4, 5, 8, 9, 10, 11, 12, 14, 16, 17, 20, 23, 24, 25, 26, 27, 30, 33, 34, 35, 36, 39, 40, 43, 44, 45, 48, 49, 52, 53, 56, 59, 60]
def pX7_takes : List PI := [(.aload_n 0, 0, 0, []), (.getfield 27, 3, 0, [7]), (.iload_n 1, 1, 0, []), (.invokevirtual 251, 34, 0, [1, 1, 3]), (.istore 4, 4, 0, []), (.iload 4, 4, 0, []), (.iconst (-1), 0, (-1), []), (.if_icmp .ne 5, 10, 0, []), (.iconst 1, 0, 1, []), (.ireturn, 0, 0, []), (.iload_n 3, 3, 0, []), (.bipush 40, 0, 40, []), (.if_icmp .lt 5, 15, 0, []), (.iconst 0, 0, 0, []), (.ireturn, 0, 0, []), (.iload_n 1, 1, 0, []), (.iconst 1, 0, 1, []), (.iadd, 0, 0, []), (.istore 5, 5, 0, []), (.iload 4, 4, 0, []), (.bipush (-2), 0, (-2), []), (.if_icmp .ne 42, 45, 0, []), (.aload_n 0, 0, 0, []), (.iload 5, 5, 0, []), (.iload_n 2, 2, 0, []), (.iload_n 3, 3, 0, []), (.iconst 1, 0, 1, []), (.iadd, 0, 0, []), (.invokevirtual 243, 110, 0, [3, 2, 7]), (.ifCond .ne 23, 41, 0, []), (.aload_n 0, 0, 0, []), (.aload_n 0, 0, 0, []), (.getfield 27, 3, 0, [7]), (.iload 5, 5, 0, []), (.invokevirtual 247, 35, 0, [1, 1, 3]), (.iload_n 2, 2, 0, []), (.iload_n 3, 3, 0, []), (.iconst 1, 0, 1, []), (.iadd, 0, 0, []), (.invokevirtual 243, 110, 0, [3, 2, 7]), (.ifCond .eq 7, 43, 0, []), (.iconst 1, 0, 1, []), (.goto 4, 44, 0, []), (.iconst 0, 0, 0, []), (.ireturn, 0, 0, []), (.iload 4, 4, 0, []), (.aload_n 0, 0, 0, []), (.getfield 40, 5, 0, [7]), (.iload_n 2, 2, 0, []), (.invokevirtual 252, 12, 0, [1, 1, 1]), (.if_icmp .eq 5, 53, 0, []), (.iconst 0, 0, 0, []), (.ireturn, 0, 0, []), (.iload_n 2, 2, 0, []), (.iconst 1, 0, 1, []), (.iadd, 0, 0, []), (.istore 6, 6, 0, []), (.aload_n 0, 0, 0, []), (.getfield 12, 0, 0, [7]), (.iload 4, 4, 0, []), (.invokevirtual 253, 24, 0, [1, 1, 2]), (.istore 7, 7, 0, []), (.iconst 0, 0, 0, []), (.istore 8, 8, 0, []), (.iload 8, 8, 0, []), (.iload 7, 7, 0, []), (.if_icmp .ge 47, 89, 0, []), (.aload_n 0, 0, 0, []), (.iload 5, 5, 0, []), (.iload 6, 6, 0, []), (.iload_n 3, 3, 0, []), (.iconst 1, 0, 1, []), (.iadd, 0, 0, []), (.invokevirtual 243, 110, 0, [3, 2, 7]), (.ifCond .ne 5, 77, 0, []), (.iconst 0, 0, 0, []), (.ireturn, 0, 0, []), (.aload_n 0, 0, 0, []), (.getfield 27, 3, 0, [7]), (.iload 5, 5, 0, []), (.invokevirtual 247, 35, 0, [1, 1, 3]), (.istore 5, 5, 0, []), (.aload_n 0, 0, 0, []), (.getfield 40, 5, 0, [7]), (.iload 6, 6, 0, []), (.invokevirtual 250, 13, 0, [1, 1, 1]), (.istore 6, 6, 0, []), (.iinc 8 1, 8, 1, []), (.goto (-48), 64, 0, []), (.iconst 1, 0, 1, []), (.ireturn, 0, 0, [])]
def qX7_takes : List Nat := [0, 1, 4, 5, 8, 10, 12, 13, 16, 17, 18, 19, 21, 24, 25, 26, 27, 28, 29, 31, 33, 35, 38, 39, 41, 42, 43, 44, 45, 48, 51, 52, 53, 56, 58, 61, 62, 63, 64, 65, 68, 71, 72, 75, 76, 77, 79, 80, 83, 84, 87, 90, 91, 92, 93, 94, 95, 97, 98, 101, 103, 106, 108, 109, 111, 113, 115, 118, 119, 121, 123, 124, 125, 126, 129, 132, 133, 134, 135, 138, 140, 143, 145, 146, 149, 151, 154, 156, 159, 162, 163]
def pX7_countTests : List PI := [(.aload_n 0, 0, 0, []), (.getfield 73, 9, 0, [7]), (.aload_n 0, 0, 0, []), (.getfield 20, 2, 0, [7]), (.invokevirtual 256, 36, 0, [1, 0, 4]), (.iconst 0, 0, 0, []), (.istore_n 1, 1, 0, []), (.iconst 0, 0, 0, []), (.istore_n 2, 2, 0, []), (.iload_n 2, 2, 0, []), (.sipush 300, 0, 300, []), (.if_icmp .ge 61, 41, 0, []), (.aload_n 0, 0, 0, []), (.getfield 46, 6, 0, [7]), (.iload_n 1, 1, 0, []), (.invokevirtual 259, 77, 0, [1, 1, 6]), (.iconst 2, 0, 2, []), (.if_icmp .ne 49, 41, 0, []), (.aload_n 0, 0, 0, []), (.getfield 46, 6, 0, [7]), (.iload_n 1, 1, 0, []), (.invokevirtual 262, 78, 0, [1, 1, 6]), (.istore_n 3, 3, 0, []), (.aload_n 0, 0, 0, []), (.getfield 73, 9, 0, [7]), (.iload_n 3, 3, 0, []), (.invokevirtual 265, 37, 0, [1, 1, 4]), (.istore 4, 4, 0, []), (.aload_n 0, 0, 0, []), (.getfield 46, 6, 0, [7]), (.iload_n 1, 1, 0, []), (.iload 4, 4, 0, []), (.invokevirtual 268, 81, 0, [2, 1, 6]), (.istore_n 1, 1, 0, []), (.aload_n 0, 0, 0, []), (.getfield 73, 9, 0, [7]), (.iload_n 3, 3, 0, []), (.iload 4, 4, 0, []), (.invokevirtual 271, 38, 0, [2, 0, 4]), (.iinc 2 1, 2, 1, []), (.goto (-62), 9, 0, []), (.iload_n 2, 2, 0, []), (.ireturn, 0, 0, [])]
def qX7_countTests : List Nat := [0, 1, 4, 5, 8, 11, 12, 13, 14, 15, 16, 19, 22, 23, 26, 27, 30, 31, 34, 35, 38, 39, 42, 43, 44, 47, 48, 51, 53, 54, 57, 58, 60, 63, 64, 65, 68, 69, 71, 74, 77, 80, 81]
def pX7_growTree : List PI := [(.aload_n 0, 0, 0, []), (.getfield 46, 6, 0, [7]), (.invokevirtual 157, 68, 0, [0, 0, 6]), (.aload_n 0, 0, 0, []), (.getfield 55, 7, 0, [7]), (.aload_n 0, 0, 0, []), (.getfield 16, 1, 0, [7]), (.aload_n 0, 0, 0, []), (.getfield 20, 2, 0, [7]), (.invokevirtual 274, 41, 0, [2, 0, 5]), (.aload_n 0, 0, 0, []), (.iconst (-1), 0, (-1), []), (.iconst (-1), 0, (-1), []), (.invokevirtual 275, 113, 0, [2, 2, 7]), (.istore_n 1, 1, 0, []), (.iconst 0, 0, 0, []), (.istore_n 2, 2, 0, []), (.iload_n 2, 2, 0, []), (.sipush 600, 0, 600, []), (.if_icmp .gt 91, 61, 0, []), (.iload_n 1, 1, 0, []), (.ifCond .eq 87, 61, 0, []), (.aload_n 0, 0, 0, []), (.getfield 55, 7, 0, [7]), (.invokevirtual 279, 42, 0, [0, 2, 5]), (.ifCond .eq 77, 61, 0, []), (.aload_n 0, 0, 0, []), (.getfield 55, 7, 0, [7]), (.invokevirtual 282, 52, 0, [0, 1, 5]), (.istore_n 3, 3, 0, []), (.iload_n 3, 3, 0, []), (.iconst (-1), 0, (-1), []), (.if_icmp .ne 13, 37, 0, []), (.aload_n 0, 0, 0, []), (.getfield 55, 7, 0, [7]), (.invokevirtual 285, 43, 0, [0, 0, 5]), (.goto 48, 59, 0, []), (.aload_n 0, 0, 0, []), (.getfield 55, 7, 0, [7]), (.invokevirtual 288, 46, 0, [0, 1, 5]), (.istore 4, 4, 0, []), (.aload_n 0, 0, 0, []), (.getfield 55, 7, 0, [7]), (.iload_n 3, 3, 0, []), (.aload_n 0, 0, 0, []), (.getfield 46, 6, 0, [7]), (.iload 4, 4, 0, []), (.invokevirtual 262, 78, 0, [1, 1, 6]), (.invokevirtual 291, 53, 0, [2, 2, 5]), (.ifCond .eq 17, 57, 0, []), (.aload_n 0, 0, 0, []), (.iload 4, 4, 0, []), (.iload_n 3, 3, 0, []), (.invokevirtual 275, 113, 0, [2, 2, 7]), (.ifCond .eq 7, 57, 0, []), (.iconst 1, 0, 1, []), (.goto 4, 58, 0, []), (.iconst 0, 0, 0, []), (.istore_n 1, 1, 0, []), (.iinc 2 1, 2, 1, []), (.goto (-92), 17, 0, []), (.iload_n 1, 1, 0, []), (.ireturn, 0, 0, [])]
def qX7_growTree : List Nat := [0, 1, 4, 7, 8, 11, 12, 15, 16, 19, 22, 23, 24, 25, 28, 29, 30, 31, 32, 35, 38, 39, 42, 43, 46, 49, 52, 53, 56, 59, 60, 61, 62, 65, 66, 69, 72, 75, 76, 79, 82, 84, 85, 88, 89, 90, 93, 95, 98, 101, 104, 105, 107, 108, 111, 114, 115, 118, 119, 120, 123, 126, 127]
def pX7_addNode : List PI := [(.aload_n 0, 0, 0, []), (.getfield 46, 6, 0, [7]), (.invokevirtual 178, 71, 0, [0, 1, 6]), (.sipush 300, 0, 300, []), (.if_icmp .ge 13, 9, 0, []), (.aload_n 0, 0, 0, []), (.getfield 55, 7, 0, [7]), (.invokevirtual 294, 49, 0, [0, 2, 5]), (.ifCond .ne 5, 11, 0, []), (.iconst 0, 0, 0, []), (.ireturn, 0, 0, []), (.aload_n 0, 0, 0, []), (.getfield 46, 6, 0, [7]), (.iload_n 1, 1, 0, []), (.iload_n 2, 2, 0, []), (.invokevirtual 297, 73, 0, [2, 1, 6]), (.istore_n 3, 3, 0, []), (.aload_n 0, 0, 0, []), (.getfield 55, 7, 0, [7]), (.invokevirtual 299, 45, 0, [0, 1, 5]), (.ifCond .ne 20, 30, 0, []), (.aload_n 0, 0, 0, []), (.getfield 46, 6, 0, [7]), (.iload_n 3, 3, 0, []), (.invokevirtual 302, 74, 0, [1, 0, 6]), (.aload_n 0, 0, 0, []), (.getfield 55, 7, 0, [7]), (.invokevirtual 285, 43, 0, [0, 0, 5]), (.iconst 1, 0, 1, []), (.ireturn, 0, 0, []), (.aload_n 0, 0, 0, []), (.getfield 55, 7, 0, [7]), (.invokevirtual 305, 50, 0, [0, 1, 5]), (.istore 4, 4, 0, []), (.iload 4, 4, 0, []), (.iconst (-1), 0, (-1), []), (.if_icmp .ne 27, 49, 0, []), (.aload_n 0, 0, 0, []), (.getfield 46, 6, 0, [7]), (.iload_n 3, 3, 0, []), (.aload_n 0, 0, 0, []), (.getfield 55, 7, 0, [7]), (.invokevirtual 308, 48, 0, [0, 1, 5]), (.invokevirtual 311, 75, 0, [2, 0, 6]), (.aload_n 0, 0, 0, []), (.getfield 55, 7, 0, [7]), (.invokevirtual 285, 43, 0, [0, 0, 5]), (.iconst 1, 0, 1, []), (.ireturn, 0, 0, []), (.aload_n 0, 0, 0, []), (.getfield 55, 7, 0, [7]), (.iload 4, 4, 0, []), (.invokevirtual 314, 47, 0, [1, 1, 5]), (.istore 5, 5, 0, []), (.aload_n 0, 0, 0, []), (.getfield 46, 6, 0, [7]), (.iload_n 3, 3, 0, []), (.iload 5, 5, 0, []), (.aload_n 0, 0, 0, []), (.getfield 55, 7, 0, [7]), (.invokevirtual 317, 44, 0, [0, 1, 5]), (.iload 4, 4, 0, []), (.invokevirtual 320, 76, 0, [4, 0, 6]), (.aload_n 0, 0, 0, []), (.getfield 55, 7, 0, [7]), (.iload_n 3, 3, 0, []), (.iload 5, 5, 0, []), (.invokevirtual 323, 51, 0, [2, 0, 5]), (.iconst 1, 0, 1, []), (.ireturn, 0, 0, [])]
def qX7_addNode : List Nat := [0, 1, 4, 7, 10, 13, 14, 17, 20, 23, 24, 25, 26, 29, 30, 31, 34, 35, 36, 39, 42, 45, 46, 49, 50, 53, 54, 57, 60, 61, 62, 63, 66, 69, 71, 73, 74, 77, 78, 81, 82, 83, 86, 89, 92, 93, 96, 99, 100, 101, 102, 105, 107, 110, 112, 113, 116, 117, 119, 120, 123, 126, 128, 131, 132, 135, 136, 138, 141, 142]
def pX8_thrown : List PI := [(.aload_n 0, 0, 0, []), (.getfield 93, 0, 0, [8]), (.ireturn, 0, 0, [])]
def qX8_thrown : List Nat := [0, 1, 4]
def pX8_isType : List PI := [(.iload_n 1, 1, 0, []), (.ifCond .lt 15, 8, 0, []), (.iload_n 1, 1, 0, []), (.aload_n 0, 0, 0, []), (.getfield 96, 1, 0, [8]), (.if_icmp .ge 7, 8, 0, []), (.iconst 1, 0, 1, []), (.goto 4, 9, 0, []), (.iconst 0, 0, 0, []), (.ireturn, 0, 0, [])]
def qX8_isType : List Nat := [0, 1, 4, 5, 6, 9, 12, 13, 16, 17]
def pX8_makersOf : List PI := [(.iconst 0, 0, 0, []), (.istore_n 2, 2, 0, []), (.iconst 0, 0, 0, []), (.istore_n 3, 3, 0, []), (.iload_n 3, 3, 0, []), (.aload_n 0, 0, 0, []), (.getfield 99, 2, 0, [8]), (.if_icmp .ge 27, 22, 0, []), (.iload_n 2, 2, 0, []), (.aload_n 0, 0, 0, []), (.getfield 7, 3, 0, [8]), (.iload_n 3, 3, 0, []), (.iaload, 0, 0, []), (.iload_n 1, 1, 0, []), (.if_icmp .ne 7, 17, 0, []), (.iconst 1, 0, 1, []), (.goto 4, 18, 0, []), (.iconst 0, 0, 0, []), (.iadd, 0, 0, []), (.istore_n 2, 2, 0, []), (.iinc 3 1, 3, 1, []), (.goto (-29), 4, 0, []), (.iload_n 2, 2, 0, []), (.ireturn, 0, 0, [])]
def qX8_makersOf : List Nat := [0, 1, 2, 3, 4, 5, 6, 9, 12, 13, 14, 17, 18, 19, 20, 23, 24, 27, 28, 29, 30, 33, 36, 37]
def pX8_fields : List PI := [(.aload_n 0, 0, 0, []), (.getfield 13, 4, 0, [8]), (.iconst 3, 0, 3, []), (.iload_n 1, 1, 0, []), (.imul, 0, 0, []), (.iaload, 0, 0, []), (.iconst (-1), 0, (-1), []), (.if_icmp .ne 7, 10, 0, []), (.iconst 0, 0, 0, []), (.goto 40, 35, 0, []), (.aload_n 0, 0, 0, []), (.getfield 13, 4, 0, [8]), (.iconst 3, 0, 3, []), (.iload_n 1, 1, 0, []), (.imul, 0, 0, []), (.iconst 1, 0, 1, []), (.iadd, 0, 0, []), (.iaload, 0, 0, []), (.iconst (-1), 0, (-1), []), (.if_icmp .ne 7, 22, 0, []), (.iconst 1, 0, 1, []), (.goto 22, 35, 0, []), (.aload_n 0, 0, 0, []), (.getfield 13, 4, 0, [8]), (.iconst 3, 0, 3, []), (.iload_n 1, 1, 0, []), (.imul, 0, 0, []), (.iconst 2, 0, 2, []), (.iadd, 0, 0, []), (.iaload, 0, 0, []), (.iconst (-1), 0, (-1), []), (.if_icmp .ne 7, 34, 0, []), (.iconst 2, 0, 2, []), (.goto 4, 35, 0, []), (.iconst 3, 0, 3, []), (.ireturn, 0, 0, [])]
def qX8_fields : List Nat := [0, 1, 4, 5, 6, 7, 8, 9, 12, 13, 16, 17, 20, 21, 22, 23, 24, 25, 26, 27, 30, 31, 34, 35, 38, 39, 40, 41, 42, 43, 44, 45, 48, 49, 52, 53]
def pX8_type : List PI := [(.aload_n 0, 0, 0, []), (.aload_n 0, 0, 0, []), (.getfield 96, 1, 0, [8]), (.bipush 8, 0, 8, []), (.if_icmp .ne 7, 7, 0, []), (.iconst 1, 0, 1, []), (.goto 4, 8, 0, []), (.iconst 0, 0, 0, []), (.putfield 93, 0, 0, [8]), (.aload_n 0, 0, 0, []), (.getfield 93, 0, 0, [8]), (.ifCond .le 5, 14, 0, []), (.iconst 0, 0, 0, []), (.ireturn, 0, 0, []), (.aload_n 0, 0, 0, []), (.dup, 0, 0, []), (.getfield 96, 1, 0, [8]), (.iconst 1, 0, 1, []), (.iadd, 0, 0, []), (.putfield 96, 1, 0, [8]), (.aload_n 0, 0, 0, []), (.getfield 96, 1, 0, [8]), (.iconst 1, 0, 1, []), (.isub, 0, 0, []), (.ireturn, 0, 0, [])]
def qX8_type : List Nat := [0, 1, 2, 5, 7, 10, 11, 14, 15, 18, 19, 22, 25, 26, 27, 28, 29, 32, 33, 34, 37, 38, 41, 42, 43]
def pX8_areTypes : List PI := [(.iload_n 1, 1, 0, []), (.iconst (-1), 0, (-1), []), (.if_icmp .eq 37, 21, 0, []), (.aload_n 0, 0, 0, []), (.iload_n 1, 1, 0, []), (.invokevirtual 102, 115, 0, [1, 2, 8]), (.ifCond .eq 33, 23, 0, []), (.iload_n 2, 2, 0, []), (.iconst (-1), 0, (-1), []), (.if_icmp .eq 24, 21, 0, []), (.aload_n 0, 0, 0, []), (.iload_n 2, 2, 0, []), (.invokevirtual 102, 115, 0, [1, 2, 8]), (.ifCond .eq 20, 23, 0, []), (.iload_n 3, 3, 0, []), (.iconst (-1), 0, (-1), []), (.if_icmp .eq 11, 21, 0, []), (.aload_n 0, 0, 0, []), (.iload_n 3, 3, 0, []), (.invokevirtual 102, 115, 0, [1, 2, 8]), (.ifCond .eq 7, 23, 0, []), (.iconst 1, 0, 1, []), (.goto 4, 24, 0, []), (.iconst 0, 0, 0, []), (.ireturn, 0, 0, [])]
def qX8_areTypes : List Nat := [0, 1, 2, 5, 6, 7, 10, 13, 14, 15, 18, 19, 20, 23, 26, 27, 28, 31, 32, 33, 36, 39, 40, 43, 44]
def pX8_maker : List PI := [(.aload_n 0, 0, 0, []), (.aload_n 0, 0, 0, []), (.iload_n 1, 1, 0, []), (.invokevirtual 102, 115, 0, [1, 2, 8]), (.ifCond .eq 14, 11, 0, []), (.aload_n 0, 0, 0, []), (.iload_n 2, 2, 0, []), (.iload_n 3, 3, 0, []), (.iload 4, 4, 0, []), (.invokevirtual 106, 119, 0, [3, 2, 8]), (.ifCond .ne 7, 13, 0, []), (.iconst 1, 0, 1, []), (.goto 27, 25, 0, []), (.aload_n 0, 0, 0, []), (.getfield 99, 2, 0, [8]), (.bipush 40, 0, 40, []), (.if_icmp .eq 13, 22, 0, []), (.aload_n 0, 0, 0, []), (.iload_n 1, 1, 0, []), (.invokevirtual 110, 116, 0, [1, 1, 8]), (.bipush 8, 0, 8, []), (.if_icmp .ne 7, 24, 0, []), (.iconst 2, 0, 2, []), (.goto 4, 25, 0, []), (.iconst 0, 0, 0, []), (.putfield 93, 0, 0, [8]), (.aload_n 0, 0, 0, []), (.getfield 93, 0, 0, [8]), (.ifCond .le 5, 31, 0, []), (.iconst 0, 0, 0, []), (.ireturn, 0, 0, []), (.aload_n 0, 0, 0, []), (.getfield 7, 3, 0, [8]), (.aload_n 0, 0, 0, []), (.getfield 99, 2, 0, [8]), (.iload_n 1, 1, 0, []), (.iastore, 0, 0, []), (.aload_n 0, 0, 0, []), (.getfield 13, 4, 0, [8]), (.iconst 3, 0, 3, []), (.aload_n 0, 0, 0, []), (.getfield 99, 2, 0, [8]), (.imul, 0, 0, []), (.iload_n 2, 2, 0, []), (.iastore, 0, 0, []), (.aload_n 0, 0, 0, []), (.getfield 13, 4, 0, [8]), (.iconst 3, 0, 3, []), (.aload_n 0, 0, 0, []), (.getfield 99, 2, 0, [8]), (.imul, 0, 0, []), (.iconst 1, 0, 1, []), (.iadd, 0, 0, []), (.iload_n 2, 2, 0, []), (.iconst (-1), 0, (-1), []), (.if_icmp .ne 7, 58, 0, []), (.iconst (-1), 0, (-1), []), (.goto 4, 59, 0, []), (.iload_n 3, 3, 0, []), (.iastore, 0, 0, []), (.aload_n 0, 0, 0, []), (.getfield 13, 4, 0, [8]), (.iconst 3, 0, 3, []), (.aload_n 0, 0, 0, []), (.getfield 99, 2, 0, [8]), (.imul, 0, 0, []), (.iconst 2, 0, 2, []), (.iadd, 0, 0, []), (.iload_n 2, 2, 0, []), (.iconst (-1), 0, (-1), []), (.if_icmp .eq 8, 74, 0, []), (.iload_n 3, 3, 0, []), (.iconst (-1), 0, (-1), []), (.if_icmp .ne 7, 76, 0, []), (.iconst (-1), 0, (-1), []), (.goto 5, 77, 0, []), (.iload 4, 4, 0, []), (.iastore, 0, 0, []), (.aload_n 0, 0, 0, []), (.dup, 0, 0, []), (.getfield 99, 2, 0, [8]), (.iconst 1, 0, 1, []), (.iadd, 0, 0, []), (.putfield 99, 2, 0, [8]), (.aload_n 0, 0, 0, []), (.iconst 0, 0, 0, []), (.putfield 114, 6, 0, [8]), (.aload_n 0, 0, 0, []), (.invokevirtual 117, 124, 0, [0, 0, 8]), (.aload_n 0, 0, 0, []), (.getfield 99, 2, 0, [8]), (.iconst 1, 0, 1, []), (.isub, 0, 0, []), (.ireturn, 0, 0, [])]
def qX8_maker : List Nat := [0, 1, 2, 3, 6, 9, 10, 11, 12, 14, 17, 20, 21, 24, 25, 28, 30, 33, 34, 35, 38, 40, 43, 44, 47, 48, 51, 52, 55, 58, 59, 60, 61, 64, 65, 68, 69, 70, 71, 74, 75, 76, 79, 80, 81, 82, 83, 86, 87, 88, 91, 92, 93, 94, 95, 96, 99, 100, 103, 104, 105, 106, 109, 110, 111, 114, 115, 116, 117, 118, 119, 122, 123, 124, 127, 128, 131, 133, 134, 135, 136, 139, 140, 141, 144, 145, 146, 149, 150, 153, 154, 157, 158, 159]
def pX8_find : List PI := [(.iconst 0, 0, 0, []), (.istore_n 1, 1, 0, []), (.iload_n 1, 1, 0, []), (.bipush 8, 0, 8, []), (.if_icmp .ge 16, 12, 0, []), (.aload_n 0, 0, 0, []), (.getfield 16, 5, 0, [8]), (.iload_n 1, 1, 0, []), (.iconst 0, 0, 0, []), (.bastore, 0, 0, []), (.iinc 1 1, 1, 1, []), (.goto (-16), 2, 0, []), (.iconst 0, 0, 0, []), (.istore_n 1, 1, 0, []), (.iload_n 1, 1, 0, []), (.aload_n 0, 0, 0, []), (.getfield 96, 1, 0, [8]), (.if_icmp .ge 63, 50, 0, []), (.iconst 0, 0, 0, []), (.istore_n 2, 2, 0, []), (.iload_n 2, 2, 0, []), (.aload_n 0, 0, 0, []), (.getfield 99, 2, 0, [8]), (.if_icmp .ge 47, 48, 0, []), (.aload_n 0, 0, 0, []), (.getfield 16, 5, 0, [8]), (.aload_n 0, 0, 0, []), (.getfield 7, 3, 0, [8]), (.iload_n 2, 2, 0, []), (.iaload, 0, 0, []), (.aload_n 0, 0, 0, []), (.getfield 16, 5, 0, [8]), (.aload_n 0, 0, 0, []), (.getfield 7, 3, 0, [8]), (.iload_n 2, 2, 0, []), (.iaload, 0, 0, []), (.baload, 0, 0, []), (.ifCond .ne 11, 42, 0, []), (.aload_n 0, 0, 0, []), (.iload_n 2, 2, 0, []), (.invokevirtual 120, 122, 0, [1, 2, 8]), (.ifCond .ne 7, 44, 0, []), (.iconst 1, 0, 1, []), (.goto 4, 45, 0, []), (.iconst 0, 0, 0, []), (.bastore, 0, 0, []), (.iinc 2 1, 2, 1, []), (.goto (-49), 20, 0, []), (.iinc 1 1, 1, 1, []), (.goto (-65), 14, 0, []), (.return_, 0, 0, [])]
def qX8_find : List Nat := [0, 1, 2, 3, 5, 8, 9, 12, 13, 14, 15, 18, 21, 22, 23, 24, 25, 28, 31, 32, 33, 34, 35, 38, 41, 42, 45, 46, 49, 50, 51, 52, 55, 56, 59, 60, 61, 62, 65, 66, 67, 70, 73, 74, 77, 78, 79, 82, 85, 88, 91]
def pX8_isDead : List PI := [(.iconst 0, 0, 0, []), (.istore_n 2, 2, 0, []), (.iconst 0, 0, 0, []), (.istore_n 3, 3, 0, []), (.iload_n 3, 3, 0, []), (.aload_n 0, 0, 0, []), (.iload_n 1, 1, 0, []), (.invokevirtual 123, 117, 0, [1, 1, 8]), (.if_icmp .ge 37, 29, 0, []), (.iload_n 2, 2, 0, []), (.ifCond .ne 21, 23, 0, []), (.aload_n 0, 0, 0, []), (.getfield 16, 5, 0, [8]), (.aload_n 0, 0, 0, []), (.getfield 13, 4, 0, [8]), (.iconst 3, 0, 3, []), (.iload_n 1, 1, 0, []), (.imul, 0, 0, []), (.iload_n 3, 3, 0, []), (.iadd, 0, 0, []), (.iaload, 0, 0, []), (.baload, 0, 0, []), (.ifCond .ne 7, 25, 0, []), (.iconst 1, 0, 1, []), (.goto 4, 26, 0, []), (.iconst 0, 0, 0, []), (.istore_n 2, 2, 0, []), (.iinc 3 1, 3, 1, []), (.goto (-40), 4, 0, []), (.iload_n 2, 2, 0, []), (.ireturn, 0, 0, [])]
def qX8_isDead : List Nat := [0, 1, 2, 3, 4, 5, 6, 7, 10, 13, 14, 17, 18, 21, 22, 25, 26, 27, 28, 29, 30, 31, 32, 35, 36, 39, 40, 41, 44, 47, 48]
def pX8_isEmpty : List PI := [(.aload_n 0, 0, 0, []), (.aload_n 0, 0, 0, []), (.iload_n 1, 1, 0, []), (.invokevirtual 102, 115, 0, [1, 2, 8]), (.ifCond .eq 7, 7, 0, []), (.iconst 0, 0, 0, []), (.goto 4, 8, 0, []), (.iconst 1, 0, 1, []), (.putfield 93, 0, 0, [8]), (.aload_n 0, 0, 0, []), (.getfield 93, 0, 0, [8]), (.ifCond .le 5, 14, 0, []), (.iconst 0, 0, 0, []), (.ireturn, 0, 0, []), (.aload_n 0, 0, 0, []), (.invokevirtual 126, 121, 0, [0, 0, 8]), (.aload_n 0, 0, 0, []), (.getfield 16, 5, 0, [8]), (.iload_n 1, 1, 0, []), (.baload, 0, 0, []), (.ifCond .ne 7, 23, 0, []), (.iconst 1, 0, 1, []), (.goto 4, 24, 0, []), (.iconst 0, 0, 0, []), (.ireturn, 0, 0, [])]
def qX8_isEmpty : List Nat := [0, 1, 2, 3, 6, 9, 10, 13, 14, 17, 18, 21, 24, 25, 26, 27, 30, 31, 34, 35, 36, 39, 40, 43, 44]
def pX8_forget : List PI := [(.aload_n 0, 0, 0, []), (.iconst 0, 0, 0, []), (.putfield 129, 7, 0, [8]), (.aload_n 0, 0, 0, []), (.iconst 0, 0, 0, []), (.putfield 132, 8, 0, [8]), (.aload_n 0, 0, 0, []), (.iconst 0, 0, 0, []), (.putfield 135, 9, 0, [8]), (.aload_n 0, 0, 0, []), (.iconst (-1), 0, (-1), []), (.putfield 53, 24, 0, [8]), (.return_, 0, 0, [])]
def qX8_forget : List Nat := [0, 1, 2, 5, 6, 7, 10, 11, 12, 15, 16, 17, 20]
def pX8_match : List PI := [(.aload_n 0, 0, 0, []), (.iload_n 1, 1, 0, []), (.iconst (-1), 0, (-1), []), (.if_icmp .eq 13, 10, 0, []), (.aload_n 0, 0, 0, []), (.iload_n 1, 1, 0, []), (.iload_n 2, 2, 0, []), (.iload_n 3, 3, 0, []), (.invokevirtual 106, 119, 0, [3, 2, 8]), (.ifCond .ne 7, 12, 0, []), (.iconst 1, 0, 1, []), (.goto 4, 13, 0, []), (.iconst 0, 0, 0, []), (.putfield 93, 0, 0, [8]), (.aload_n 0, 0, 0, []), (.getfield 93, 0, 0, [8]), (.ifCond .le 4, 18, 0, []), (.return_, 0, 0, []), (.aload_n 0, 0, 0, []), (.getfield 20, 10, 0, [8]), (.iconst 0, 0, 0, []), (.iload_n 1, 1, 0, []), (.iastore, 0, 0, []), (.aload_n 0, 0, 0, []), (.getfield 20, 10, 0, [8]), (.iconst 1, 0, 1, []), (.iload_n 2, 2, 0, []), (.iastore, 0, 0, []), (.aload_n 0, 0, 0, []), (.getfield 20, 10, 0, [8]), (.iconst 2, 0, 2, []), (.iload_n 3, 3, 0, []), (.iastore, 0, 0, []), (.aload_n 0, 0, 0, []), (.iload_n 2, 2, 0, []), (.iconst (-1), 0, (-1), []), (.if_icmp .ne 7, 39, 0, []), (.iconst 1, 0, 1, []), (.goto 13, 45, 0, []), (.iload_n 3, 3, 0, []), (.iconst (-1), 0, (-1), []), (.if_icmp .ne 7, 44, 0, []), (.iconst 2, 0, 2, []), (.goto 4, 45, 0, []), (.iconst 3, 0, 3, []), (.putfield 114, 6, 0, [8]), (.aload_n 0, 0, 0, []), (.invokevirtual 117, 124, 0, [0, 0, 8]), (.return_, 0, 0, [])]
def qX8_match : List Nat := [0, 1, 2, 3, 6, 7, 8, 9, 10, 13, 16, 17, 20, 21, 24, 25, 28, 31, 32, 33, 36, 37, 38, 39, 40, 43, 44, 45, 46, 47, 50, 51, 52, 53, 54, 55, 56, 59, 60, 63, 64, 65, 68, 69, 72, 73, 76, 77, 80]
def pX8_next : List PI := [(.iconst 0, 0, 0, []), (.istore_n 3, 3, 0, []), (.aload_n 0, 0, 0, []), (.getfield 114, 6, 0, [8]), (.iconst 1, 0, 1, []), (.isub, 0, 0, []), (.istore 4, 4, 0, []), (.iload 4, 4, 0, []), (.ifCond .lt 25, 20, 0, []), (.aload_n 0, 0, 0, []), (.getfield 35, 15, 0, [8]), (.iload_n 3, 3, 0, []), (.aload_n 0, 0, 0, []), (.getfield 20, 10, 0, [8]), (.iload 4, 4, 0, []), (.iaload, 0, 0, []), (.iastore, 0, 0, []), (.iinc 3 1, 3, 1, []), (.iinc 4 (-1), 4, (-1), []), (.goto (-24), 7, 0, []), (.iconst 0, 0, 0, []), (.istore 4, 4, 0, []), (.iload 4, 4, 0, []), (.iload_n 2, 2, 0, []), (.if_icmp .ge 110, 80, 0, []), (.iinc 3 (-1), 3, (-1), []), (.aload_n 0, 0, 0, []), (.getfield 35, 15, 0, [8]), (.iload_n 3, 3, 0, []), (.iaload, 0, 0, []), (.istore 5, 5, 0, []), (.aload_n 1, 1, 0, []), (.iload 4, 4, 0, []), (.iaload, 0, 0, []), (.istore 6, 6, 0, []), (.iconst 0, 0, 0, []), (.istore 7, 7, 0, []), (.iload 6, 6, 0, []), (.bipush (-2), 0, (-2), []), (.if_icmp .ne 26, 51, 0, []), (.iload 7, 7, 0, []), (.iconst 2, 0, 2, []), (.if_icmp .ge 20, 51, 0, []), (.aload_n 0, 0, 0, []), (.getfield 35, 15, 0, [8]), (.iload_n 3, 3, 0, []), (.iload 5, 5, 0, []), (.iastore, 0, 0, []), (.iinc 3 1, 3, 1, []), (.iinc 7 1, 7, 1, []), (.goto (-27), 37, 0, []), (.iload 6, 6, 0, []), (.ifCond .ge 7, 55, 0, []), (.iconst (-1), 0, (-1), []), (.goto 11, 60, 0, []), (.aload_n 0, 0, 0, []), (.iload 6, 6, 0, []), (.invokevirtual 123, 117, 0, [1, 1, 8]), (.iconst 1, 0, 1, []), (.isub, 0, 0, []), (.istore 7, 7, 0, []), (.iload 7, 7, 0, []), (.ifCond .lt 30, 78, 0, []), (.aload_n 0, 0, 0, []), (.getfield 35, 15, 0, [8]), (.iload_n 3, 3, 0, []), (.aload_n 0, 0, 0, []), (.getfield 13, 4, 0, [8]), (.iconst 3, 0, 3, []), (.iload 6, 6, 0, []), (.imul, 0, 0, []), (.iload 7, 7, 0, []), (.iadd, 0, 0, []), (.iaload, 0, 0, []), (.iastore, 0, 0, []), (.iinc 3 1, 3, 1, []), (.iinc 7 (-1), 7, (-1), []), (.goto (-29), 61, 0, []), (.iinc 4 1, 4, 1, []), (.goto (-110), 22, 0, []), (.iload_n 3, 3, 0, []), (.ifCond .ne 7, 84, 0, []), (.iconst (-1), 0, (-1), []), (.goto 11, 90, 0, []), (.aload_n 0, 0, 0, []), (.getfield 35, 15, 0, [8]), (.iload_n 3, 3, 0, []), (.iconst 1, 0, 1, []), (.isub, 0, 0, []), (.iaload, 0, 0, []), (.ireturn, 0, 0, [])]
def qX8_next : List Nat := [0, 1, 2, 3, 6, 7, 8, 10, 12, 15, 16, 19, 20, 21, 24, 26, 27, 28, 31, 34, 37, 38, 40, 42, 43, 46, 49, 50, 53, 54, 55, 57, 58, 60, 61, 63, 64, 66, 68, 70, 73, 75, 76, 79, 80, 83, 84, 86, 87, 90, 93, 96, 98, 101, 102, 105, 106, 108, 111, 112, 113, 115, 117, 120, 121, 124, 125, 126, 129, 130, 132, 133, 135, 136, 137, 138, 141, 144, 147, 150, 153, 154, 157, 158, 161, 162, 165, 166, 167, 168, 169]
def pX8_isMakerOf : List PI := [(.iload_n 2, 2, 0, []), (.iconst (-1), 0, (-1), []), (.if_icmp .eq 29, 17, 0, []), (.iload_n 1, 1, 0, []), (.ifCond .lt 25, 17, 0, []), (.iload_n 1, 1, 0, []), (.aload_n 0, 0, 0, []), (.getfield 99, 2, 0, [8]), (.if_icmp .ge 17, 17, 0, []), (.aload_n 0, 0, 0, []), (.getfield 7, 3, 0, [8]), (.iload_n 1, 1, 0, []), (.iaload, 0, 0, []), (.iload_n 2, 2, 0, []), (.if_icmp .ne 7, 17, 0, []), (.iconst 1, 0, 1, []), (.goto 4, 18, 0, []), (.iconst 0, 0, 0, []), (.ireturn, 0, 0, [])]
def qX8_isMakerOf : List Nat := [0, 1, 2, 5, 6, 9, 10, 11, 14, 17, 18, 21, 22, 23, 24, 27, 28, 31, 32]
def pX8_sign : List PI := [(.aload_n 0, 0, 0, []), (.aload_n 0, 0, 0, []), (.getfield 114, 6, 0, [8]), (.ifCond .eq 12, 8, 0, []), (.aload_n 0, 0, 0, []), (.getfield 132, 8, 0, [8]), (.bipush 40, 0, 40, []), (.if_icmp .ne 7, 10, 0, []), (.iconst 1, 0, 1, []), (.goto 4, 11, 0, []), (.iconst 0, 0, 0, []), (.putfield 93, 0, 0, [8]), (.aload_n 0, 0, 0, []), (.getfield 93, 0, 0, [8]), (.ifCond .le 5, 17, 0, []), (.iconst 0, 0, 0, []), (.ireturn, 0, 0, []), (.aload_n 0, 0, 0, []), (.aload_n 0, 0, 0, []), (.getfield 29, 13, 0, [8]), (.aload_n 0, 0, 0, []), (.getfield 132, 8, 0, [8]), (.invokevirtual 138, 126, 0, [2, 1, 8]), (.istore_n 2, 2, 0, []), (.aload_n 0, 0, 0, []), (.iload_n 2, 2, 0, []), (.iconst (-1), 0, (-1), []), (.if_icmp .eq 14, 34, 0, []), (.iload_n 1, 1, 0, []), (.iconst (-1), 0, (-1), []), (.if_icmp .eq 18, 39, 0, []), (.iload_n 1, 1, 0, []), (.bipush (-2), 0, (-2), []), (.if_icmp .eq 12, 39, 0, []), (.aload_n 0, 0, 0, []), (.iload_n 1, 1, 0, []), (.iload_n 2, 2, 0, []), (.invokevirtual 142, 127, 0, [2, 2, 8]), (.ifCond .eq 7, 41, 0, []), (.iconst 0, 0, 0, []), (.goto 4, 42, 0, []), (.iconst 2, 0, 2, []), (.putfield 93, 0, 0, [8]), (.aload_n 0, 0, 0, []), (.getfield 93, 0, 0, [8]), (.ifCond .le 5, 48, 0, []), (.iconst 0, 0, 0, []), (.ireturn, 0, 0, []), (.aload_n 0, 0, 0, []), (.getfield 29, 13, 0, [8]), (.aload_n 0, 0, 0, []), (.getfield 132, 8, 0, [8]), (.iload_n 1, 1, 0, []), (.iastore, 0, 0, []), (.aload_n 0, 0, 0, []), (.dup, 0, 0, []), (.getfield 132, 8, 0, [8]), (.iconst 1, 0, 1, []), (.iadd, 0, 0, []), (.putfield 132, 8, 0, [8]), (.aload_n 0, 0, 0, []), (.getfield 132, 8, 0, [8]), (.ireturn, 0, 0, [])]
def qX8_sign : List Nat := [0, 1, 2, 5, 8, 9, 12, 14, 17, 18, 21, 22, 25, 26, 29, 32, 33, 34, 35, 36, 39, 40, 43, 46, 47, 48, 49, 50, 53, 54, 55, 58, 59, 61, 64, 65, 66, 67, 70, 73, 74, 77, 78, 81, 82, 85, 88, 89, 90, 91, 94, 95, 98, 99, 100, 101, 102, 105, 106, 107, 110, 111, 114]
def pX8_row : List PI := [(.aload_n 0, 0, 0, []), (.aload_n 0, 0, 0, []), (.getfield 114, 6, 0, [8]), (.ifCond .eq 12, 8, 0, []), (.aload_n 0, 0, 0, []), (.getfield 129, 7, 0, [8]), (.bipush 12, 0, 12, []), (.if_icmp .ne 7, 10, 0, []), (.iconst 1, 0, 1, []), (.goto 4, 11, 0, []), (.iconst 0, 0, 0, []), (.putfield 93, 0, 0, [8]), (.aload_n 0, 0, 0, []), (.getfield 93, 0, 0, [8]), (.ifCond .le 5, 17, 0, []), (.iconst 0, 0, 0, []), (.ireturn, 0, 0, []), (.aload_n 0, 0, 0, []), (.getfield 132, 8, 0, [8]), (.istore_n 1, 1, 0, []), (.aload_n 0, 0, 0, []), (.aload_n 0, 0, 0, []), (.aload_n 0, 0, 0, []), (.getfield 29, 13, 0, [8]), (.iload_n 1, 1, 0, []), (.invokevirtual 138, 126, 0, [2, 1, 8]), (.iconst (-1), 0, (-1), []), (.if_icmp .ne 7, 30, 0, []), (.iconst 0, 0, 0, []), (.goto 4, 31, 0, []), (.iconst 2, 0, 2, []), (.putfield 93, 0, 0, [8]), (.aload_n 0, 0, 0, []), (.iconst 0, 0, 0, []), (.putfield 132, 8, 0, [8]), (.aload_n 0, 0, 0, []), (.getfield 93, 0, 0, [8]), (.ifCond .le 5, 40, 0, []), (.iconst 0, 0, 0, []), (.ireturn, 0, 0, []), (.iconst 0, 0, 0, []), (.istore_n 2, 2, 0, []), (.iload_n 2, 2, 0, []), (.iload_n 1, 1, 0, []), (.if_icmp .ge 29, 60, 0, []), (.aload_n 0, 0, 0, []), (.getfield 23, 11, 0, [8]), (.bipush 40, 0, 40, []), (.aload_n 0, 0, 0, []), (.getfield 129, 7, 0, [8]), (.imul, 0, 0, []), (.iload_n 2, 2, 0, []), (.iadd, 0, 0, []), (.aload_n 0, 0, 0, []), (.getfield 29, 13, 0, [8]), (.iload_n 2, 2, 0, []), (.iaload, 0, 0, []), (.iastore, 0, 0, []), (.iinc 2 1, 2, 1, []), (.goto (-28), 42, 0, []), (.aload_n 0, 0, 0, []), (.getfield 26, 12, 0, [8]), (.aload_n 0, 0, 0, []), (.getfield 129, 7, 0, [8]), (.iload_n 1, 1, 0, []), (.iastore, 0, 0, []), (.aload_n 0, 0, 0, []), (.dup, 0, 0, []), (.getfield 129, 7, 0, [8]), (.iconst 1, 0, 1, []), (.iadd, 0, 0, []), (.putfield 129, 7, 0, [8]), (.aload_n 0, 0, 0, []), (.iconst (-1), 0, (-1), []), (.putfield 53, 24, 0, [8]), (.aload_n 0, 0, 0, []), (.getfield 129, 7, 0, [8]), (.iconst 1, 0, 1, []), (.isub, 0, 0, []), (.ireturn, 0, 0, [])]
def qX8_row : List Nat := [0, 1, 2, 5, 8, 9, 12, 14, 17, 18, 21, 22, 25, 26, 29, 32, 33, 34, 35, 38, 39, 40, 41, 42, 45, 46, 49, 50, 53, 54, 57, 58, 61, 62, 63, 66, 67, 70, 73, 74, 75, 76, 77, 78, 79, 82, 83, 86, 88, 89, 92, 93, 94, 95, 96, 99, 100, 101, 102, 105, 108, 109, 112, 113, 116, 117, 118, 119, 120, 123, 124, 125, 128, 129, 130, 133, 134, 137, 138, 139]
def pX8_give : List PI := [(.aload_n 0, 0, 0, []), (.aload_n 0, 0, 0, []), (.getfield 114, 6, 0, [8]), (.ifCond .eq 12, 8, 0, []), (.aload_n 0, 0, 0, []), (.getfield 135, 9, 0, [8]), (.bipush 60, 0, 60, []), (.if_icmp .ne 7, 10, 0, []), (.iconst 1, 0, 1, []), (.goto 4, 11, 0, []), (.iconst 0, 0, 0, []), (.putfield 93, 0, 0, [8]), (.aload_n 0, 0, 0, []), (.getfield 93, 0, 0, [8]), (.ifCond .le 5, 17, 0, []), (.iconst 0, 0, 0, []), (.ireturn, 0, 0, []), (.aload_n 0, 0, 0, []), (.aload_n 0, 0, 0, []), (.iload_n 1, 1, 0, []), (.aload_n 0, 0, 0, []), (.aload_n 0, 0, 0, []), (.getfield 32, 14, 0, [8]), (.aload_n 0, 0, 0, []), (.getfield 135, 9, 0, [8]), (.invokevirtual 138, 126, 0, [2, 1, 8]), (.invokevirtual 142, 127, 0, [2, 2, 8]), (.ifCond .eq 7, 30, 0, []), (.iconst 0, 0, 0, []), (.goto 4, 31, 0, []), (.iconst 2, 0, 2, []), (.putfield 93, 0, 0, [8]), (.aload_n 0, 0, 0, []), (.getfield 93, 0, 0, [8]), (.ifCond .le 5, 37, 0, []), (.iconst 0, 0, 0, []), (.ireturn, 0, 0, []), (.aload_n 0, 0, 0, []), (.getfield 32, 14, 0, [8]), (.aload_n 0, 0, 0, []), (.getfield 135, 9, 0, [8]), (.iload_n 1, 1, 0, []), (.iastore, 0, 0, []), (.aload_n 0, 0, 0, []), (.dup, 0, 0, []), (.getfield 135, 9, 0, [8]), (.iconst 1, 0, 1, []), (.iadd, 0, 0, []), (.putfield 135, 9, 0, [8]), (.aload_n 0, 0, 0, []), (.getfield 135, 9, 0, [8]), (.ireturn, 0, 0, [])]
def qX8_give : List Nat := [0, 1, 2, 5, 8, 9, 12, 14, 17, 18, 21, 22, 25, 26, 29, 32, 33, 34, 35, 36, 37, 38, 39, 42, 43, 46, 49, 52, 55, 56, 59, 60, 63, 64, 67, 70, 71, 72, 73, 76, 77, 80, 81, 82, 83, 84, 87, 88, 89, 92, 93, 96]
def pX8_empty : List PI := [(.aload_n 0, 0, 0, []), (.iconst 0, 0, 0, []), (.putfield 93, 0, 0, [8]), (.aload_n 0, 0, 0, []), (.iconst 0, 0, 0, []), (.putfield 135, 9, 0, [8]), (.return_, 0, 0, [])]
def qX8_empty : List Nat := [0, 1, 2, 5, 6, 7, 10]
def pX8_behind : List PI := [(.iload_n 2, 2, 0, []), (.istore_n 3, 3, 0, []), (.iconst 1, 0, 1, []), (.istore 4, 4, 0, []), (.iload 4, 4, 0, []), (.ifCond .le 48, 30, 0, []), (.aload_n 1, 1, 0, []), (.iload_n 3, 3, 0, []), (.iaload, 0, 0, []), (.istore 5, 5, 0, []), (.iload 4, 4, 0, []), (.iload 5, 5, 0, []), (.bipush (-2), 0, (-2), []), (.if_icmp .ne 7, 16, 0, []), (.iconst 1, 0, 1, []), (.goto 21, 26, 0, []), (.iload 5, 5, 0, []), (.iconst (-1), 0, (-1), []), (.if_icmp .ne 7, 21, 0, []), (.iconst (-1), 0, (-1), []), (.goto 11, 26, 0, []), (.aload_n 0, 0, 0, []), (.iload 5, 5, 0, []), (.invokevirtual 123, 117, 0, [1, 1, 8]), (.iconst 1, 0, 1, []), (.isub, 0, 0, []), (.iadd, 0, 0, []), (.istore 4, 4, 0, []), (.iinc 3 1, 3, 1, []), (.goto (-47), 4, 0, []), (.iload_n 3, 3, 0, []), (.ireturn, 0, 0, [])]
def qX8_behind : List Nat := [0, 1, 2, 3, 5, 7, 10, 11, 12, 13, 15, 17, 19, 21, 24, 25, 28, 30, 31, 34, 35, 38, 39, 41, 44, 45, 46, 47, 49, 52, 55, 56]
def pX8_rowTakes : List PI := [(.bipush 40, 0, 40, []), (.iload_n 1, 1, 0, []), (.imul, 0, 0, []), (.aload_n 0, 0, 0, []), (.getfield 26, 12, 0, [8]), (.iload_n 1, 1, 0, []), (.iaload, 0, 0, []), (.iadd, 0, 0, []), (.iconst 1, 0, 1, []), (.isub, 0, 0, []), (.istore_n 2, 2, 0, []), (.iload_n 2, 2, 0, []), (.bipush 40, 0, 40, []), (.iload_n 1, 1, 0, []), (.imul, 0, 0, []), (.if_icmp .lt 128, 86, 0, []), (.aload_n 0, 0, 0, []), (.getfield 23, 11, 0, [8]), (.iload_n 2, 2, 0, []), (.iaload, 0, 0, []), (.istore_n 3, 3, 0, []), (.iconst 0, 0, 0, []), (.istore 4, 4, 0, []), (.iload 4, 4, 0, []), (.aload_n 0, 0, 0, []), (.getfield 135, 9, 0, [8]), (.if_icmp .ge 103, 84, 0, []), (.aload_n 0, 0, 0, []), (.getfield 38, 16, 0, [8]), (.bipush 60, 0, 60, []), (.iload_n 2, 2, 0, []), (.imul, 0, 0, []), (.iload 4, 4, 0, []), (.iadd, 0, 0, []), (.iload_n 3, 3, 0, []), (.iconst (-1), 0, (-1), []), (.if_icmp .eq 75, 78, 0, []), (.iload_n 3, 3, 0, []), (.bipush (-2), 0, (-2), []), (.if_icmp .ne 48, 67, 0, []), (.aload_n 0, 0, 0, []), (.getfield 38, 16, 0, [8]), (.bipush 60, 0, 60, []), (.iload_n 2, 2, 0, []), (.iconst 1, 0, 1, []), (.iadd, 0, 0, []), (.imul, 0, 0, []), (.iload 4, 4, 0, []), (.iadd, 0, 0, []), (.baload, 0, 0, []), (.ifCond .ne 52, 78, 0, []), (.aload_n 0, 0, 0, []), (.getfield 38, 16, 0, [8]), (.bipush 60, 0, 60, []), (.aload_n 0, 0, 0, []), (.aload_n 0, 0, 0, []), (.getfield 23, 11, 0, [8]), (.iload_n 2, 2, 0, []), (.iconst 1, 0, 1, []), (.iadd, 0, 0, []), (.invokevirtual 146, 132, 0, [2, 1, 8]), (.imul, 0, 0, []), (.iload 4, 4, 0, []), (.iadd, 0, 0, []), (.baload, 0, 0, []), (.ifCond .eq 31, 80, 0, []), (.goto 24, 78, 0, []), (.iload_n 3, 3, 0, []), (.aload_n 0, 0, 0, []), (.getfield 32, 14, 0, [8]), (.iload 4, 4, 0, []), (.iaload, 0, 0, []), (.if_icmp .ne 17, 80, 0, []), (.aload_n 0, 0, 0, []), (.iload_n 2, 2, 0, []), (.iload 4, 4, 0, []), (.invokevirtual 149, 134, 0, [2, 2, 8]), (.ifCond .eq 7, 80, 0, []), (.iconst 1, 0, 1, []), (.goto 4, 81, 0, []), (.iconst 0, 0, 0, []), (.bastore, 0, 0, []), (.iinc 4 1, 4, 1, []), (.goto (-106), 23, 0, []), (.iinc 2 (-1), 2, (-1), []), (.goto (-130), 11, 0, []), (.bipush 40, 0, 40, []), (.iload_n 1, 1, 0, []), (.imul, 0, 0, []), (.istore_n 2, 2, 0, []), (.iconst 0, 0, 0, []), (.istore_n 3, 3, 0, []), (.iconst 1, 0, 1, []), (.istore 4, 4, 0, []), (.iconst 0, 0, 0, []), (.istore 5, 5, 0, []), (.iload 5, 5, 0, []), (.aload_n 0, 0, 0, []), (.getfield 114, 6, 0, [8]), (.if_icmp .ge 55, 129, 0, []), (.iload 4, 4, 0, []), (.ifCond .eq 21, 113, 0, []), (.aload_n 0, 0, 0, []), (.getfield 38, 16, 0, [8]), (.bipush 60, 0, 60, []), (.iload_n 2, 2, 0, []), (.imul, 0, 0, []), (.iload_n 3, 3, 0, []), (.iadd, 0, 0, []), (.baload, 0, 0, []), (.ifCond .eq 7, 113, 0, []), (.iconst 1, 0, 1, []), (.goto 4, 114, 0, []), (.iconst 0, 0, 0, []), (.istore 4, 4, 0, []), (.aload_n 0, 0, 0, []), (.aload_n 0, 0, 0, []), (.getfield 23, 11, 0, [8]), (.iload_n 2, 2, 0, []), (.invokevirtual 146, 132, 0, [2, 1, 8]), (.istore_n 2, 2, 0, []), (.aload_n 0, 0, 0, []), (.aload_n 0, 0, 0, []), (.getfield 32, 14, 0, [8]), (.iload_n 3, 3, 0, []), (.invokevirtual 146, 132, 0, [2, 1, 8]), (.istore_n 3, 3, 0, []), (.iinc 5 1, 5, 1, []), (.goto (-58), 96, 0, []), (.iload 4, 4, 0, []), (.ireturn, 0, 0, [])]
def qX8_rowTakes : List Nat := [0, 2, 3, 4, 5, 8, 9, 10, 11, 12, 13, 14, 15, 17, 18, 19, 22, 23, 26, 27, 28, 29, 30, 32, 34, 35, 38, 41, 42, 45, 47, 48, 49, 51, 52, 53, 54, 57, 58, 60, 63, 64, 67, 69, 70, 71, 72, 73, 75, 76, 77, 80, 81, 84, 86, 87, 88, 91, 92, 93, 94, 97, 98, 100, 101, 102, 105, 108, 109, 110, 113, 115, 116, 119, 120, 121, 123, 126, 129, 130, 133, 134, 135, 138, 141, 144, 147, 149, 150, 151, 152, 153, 154, 155, 157, 158, 160, 162, 163, 166, 169, 171, 174, 175, 178, 180, 181, 182, 183, 184, 185, 188, 189, 192, 193, 195, 196, 197, 200, 201, 204, 205, 206, 207, 210, 211, 214, 215, 218, 221, 223]
def pX8_fieldsTake : List PI := [(.iload_n 1, 1, 0, []), (.iconst 1, 0, 1, []), (.iadd, 0, 0, []), (.istore_n 3, 3, 0, []), (.iload_n 2, 2, 0, []), (.iconst 1, 0, 1, []), (.iadd, 0, 0, []), (.istore 4, 4, 0, []), (.iconst 1, 0, 1, []), (.istore 5, 5, 0, []), (.iconst 0, 0, 0, []), (.istore 6, 6, 0, []), (.iload 6, 6, 0, []), (.aload_n 0, 0, 0, []), (.aload_n 0, 0, 0, []), (.getfield 32, 14, 0, [8]), (.iload_n 2, 2, 0, []), (.iaload, 0, 0, []), (.invokevirtual 123, 117, 0, [1, 1, 8]), (.if_icmp .ge 58, 49, 0, []), (.iload 5, 5, 0, []), (.ifCond .eq 22, 33, 0, []), (.aload_n 0, 0, 0, []), (.getfield 38, 16, 0, [8]), (.bipush 60, 0, 60, []), (.iload_n 3, 3, 0, []), (.imul, 0, 0, []), (.iload 4, 4, 0, []), (.iadd, 0, 0, []), (.baload, 0, 0, []), (.ifCond .eq 7, 33, 0, []), (.iconst 1, 0, 1, []), (.goto 4, 34, 0, []), (.iconst 0, 0, 0, []), (.istore 5, 5, 0, []), (.aload_n 0, 0, 0, []), (.aload_n 0, 0, 0, []), (.getfield 23, 11, 0, [8]), (.iload_n 3, 3, 0, []), (.invokevirtual 146, 132, 0, [2, 1, 8]), (.istore_n 3, 3, 0, []), (.aload_n 0, 0, 0, []), (.aload_n 0, 0, 0, []), (.getfield 32, 14, 0, [8]), (.iload 4, 4, 0, []), (.invokevirtual 146, 132, 0, [2, 1, 8]), (.istore 4, 4, 0, []), (.iinc 6 1, 6, 1, []), (.goto (-67), 12, 0, []), (.iload 5, 5, 0, []), (.ireturn, 0, 0, [])]
def qX8_fieldsTake : List Nat := [0, 1, 2, 3, 4, 5, 6, 7, 9, 10, 12, 13, 15, 17, 18, 19, 22, 23, 24, 27, 30, 32, 35, 36, 39, 41, 42, 43, 45, 46, 47, 50, 51, 54, 55, 57, 58, 59, 62, 63, 66, 67, 68, 69, 72, 74, 77, 79, 82, 85, 87]
def pX8_canAnswer : List PI := [(.aload_n 0, 0, 0, []), (.aload_n 0, 0, 0, []), (.getfield 114, 6, 0, [8]), (.ifCond .ne 7, 6, 0, []), (.iconst 1, 0, 1, []), (.goto 24, 17, 0, []), (.aload_n 0, 0, 0, []), (.aload_n 0, 0, 0, []), (.getfield 32, 14, 0, [8]), (.aload_n 0, 0, 0, []), (.getfield 135, 9, 0, [8]), (.invokevirtual 138, 126, 0, [2, 1, 8]), (.iconst (-1), 0, (-1), []), (.if_icmp .eq 7, 16, 0, []), (.iconst 2, 0, 2, []), (.goto 4, 17, 0, []), (.iconst 0, 0, 0, []), (.putfield 93, 0, 0, [8]), (.aload_n 0, 0, 0, []), (.getfield 93, 0, 0, [8]), (.ifCond .ne 7, 23, 0, []), (.iconst 1, 0, 1, []), (.goto 4, 24, 0, []), (.iconst 0, 0, 0, []), (.ireturn, 0, 0, [])]
def qX8_canAnswer : List Nat := [0, 1, 2, 5, 8, 9, 12, 13, 14, 17, 18, 21, 24, 25, 28, 29, 32, 33, 36, 37, 40, 43, 44, 47, 48]
def pX8_answer : List PI := [(.aload_n 0, 0, 0, []), (.invokevirtual 152, 135, 0, [0, 2, 8]), (.ifCond .ne 5, 5, 0, []), (.iconst 0, 0, 0, []), (.ireturn, 0, 0, []), (.iconst 0, 0, 0, []), (.istore_n 1, 1, 0, []), (.iload_n 1, 1, 0, []), (.aload_n 0, 0, 0, []), (.getfield 129, 7, 0, [8]), (.if_icmp .ge 19, 19, 0, []), (.aload_n 0, 0, 0, []), (.iload_n 1, 1, 0, []), (.invokevirtual 156, 133, 0, [1, 2, 8]), (.ifCond .eq 5, 17, 0, []), (.iload_n 1, 1, 0, []), (.ireturn, 0, 0, []), (.iinc 1 1, 1, 1, []), (.goto (-21), 7, 0, []), (.iconst (-1), 0, (-1), []), (.ireturn, 0, 0, [])]
def qX8_answer : List Nat := [0, 1, 4, 7, 8, 9, 10, 11, 12, 13, 16, 19, 20, 21, 24, 27, 28, 29, 32, 35, 36]
def pX8_signOf : List PI := [(.iload_n 1, 1, 0, []), (.iconst (-1), 0, (-1), []), (.if_icmp .ne 7, 5, 0, []), (.iconst (-1), 0, (-1), []), (.goto 9, 9, 0, []), (.aload_n 0, 0, 0, []), (.getfield 23, 11, 0, [8]), (.iload_n 1, 1, 0, []), (.iaload, 0, 0, []), (.ireturn, 0, 0, [])]
def qX8_signOf : List Nat := [0, 1, 2, 5, 6, 9, 10, 13, 14, 15]
def pX8_firstTable : List PI := [(.aload_n 0, 0, 0, []), (.aload_n 0, 0, 0, []), (.getfield 114, 6, 0, [8]), (.putfield 159, 17, 0, [8]), (.aload_n 0, 0, 0, []), (.aload_n 0, 0, 0, []), (.getfield 129, 7, 0, [8]), (.putfield 162, 18, 0, [8]), (.aload_n 0, 0, 0, []), (.iconst 0, 0, 0, []), (.putfield 165, 22, 0, [8, 2]), (.iconst 0, 0, 0, []), (.istore_n 1, 1, 0, []), (.iload_n 1, 1, 0, []), (.aload_n 0, 0, 0, []), (.getfield 114, 6, 0, [8]), (.if_icmp .ge 21, 27, 0, []), (.aload_n 0, 0, 0, []), (.getfield 41, 19, 0, [8]), (.iload_n 1, 1, 0, []), (.aload_n 0, 0, 0, []), (.getfield 20, 10, 0, [8]), (.iload_n 1, 1, 0, []), (.iaload, 0, 0, []), (.iastore, 0, 0, []), (.iinc 1 1, 1, 1, []), (.goto (-23), 13, 0, []), (.iconst 0, 0, 0, []), (.istore_n 1, 1, 0, []), (.iload_n 1, 1, 0, []), (.aload_n 0, 0, 0, []), (.getfield 129, 7, 0, [8]), (.if_icmp .ge 59, 67, 0, []), (.aload_n 0, 0, 0, []), (.getfield 44, 20, 0, [8]), (.iload_n 1, 1, 0, []), (.iload_n 1, 1, 0, []), (.iastore, 0, 0, []), (.bipush 40, 0, 40, []), (.iload_n 1, 1, 0, []), (.imul, 0, 0, []), (.istore_n 2, 2, 0, []), (.iconst 0, 0, 0, []), (.istore_n 3, 3, 0, []), (.iload_n 3, 3, 0, []), (.aload_n 0, 0, 0, []), (.getfield 114, 6, 0, [8]), (.if_icmp .ge 31, 65, 0, []), (.aload_n 0, 0, 0, []), (.getfield 47, 21, 0, [8]), (.bipush 44, 0, 44, []), (.iload_n 1, 1, 0, []), (.imul, 0, 0, []), (.iload_n 3, 3, 0, []), (.iadd, 0, 0, []), (.iload_n 2, 2, 0, []), (.iastore, 0, 0, []), (.aload_n 0, 0, 0, []), (.aload_n 0, 0, 0, []), (.getfield 23, 11, 0, [8]), (.iload_n 2, 2, 0, []), (.invokevirtual 146, 132, 0, [2, 1, 8]), (.istore_n 2, 2, 0, []), (.iinc 3 1, 3, 1, []), (.goto (-33), 44, 0, []), (.iinc 1 1, 1, 1, []), (.goto (-61), 29, 0, []), (.aload_n 0, 0, 0, []), (.invokevirtual 169, 139, 0, [0, 0, 8]), (.return_, 0, 0, [])]
def qX8_firstTable : List Nat := [0, 1, 2, 5, 8, 9, 10, 13, 16, 17, 18, 21, 22, 23, 24, 25, 28, 31, 32, 35, 36, 37, 40, 41, 42, 43, 46, 49, 50, 51, 52, 53, 56, 59, 60, 63, 64, 65, 66, 68, 69, 70, 71, 72, 73, 74, 75, 78, 81, 82, 85, 87, 88, 89, 90, 91, 92, 93, 94, 95, 98, 99, 102, 103, 106, 109, 112, 115, 116, 119]
def pX8_part : List PI := [(.iconst 1, 0, 1, []), (.istore_n 1, 1, 0, []), (.iload_n 1, 1, 0, []), (.ifCond .eq 117, 64, 0, []), (.aload_n 0, 0, 0, []), (.getfield 165, 22, 0, [8]), (.ifCond .ne 110, 64, 0, []), (.iconst 0, 0, 0, []), (.istore_n 1, 1, 0, []), (.iconst 0, 0, 0, []), (.istore_n 2, 2, 0, []), (.iload_n 2, 2, 0, []), (.aload_n 0, 0, 0, []), (.getfield 162, 18, 0, [8]), (.if_icmp .ge 95, 63, 0, []), (.iload_n 1, 1, 0, []), (.ifCond .ne 91, 63, 0, []), (.iconst 0, 0, 0, []), (.istore_n 3, 3, 0, []), (.iload_n 3, 3, 0, []), (.aload_n 0, 0, 0, []), (.getfield 159, 17, 0, [8]), (.if_icmp .ge 75, 61, 0, []), (.iload_n 1, 1, 0, []), (.ifCond .ne 71, 61, 0, []), (.aload_n 0, 0, 0, []), (.getfield 47, 21, 0, [8]), (.bipush 44, 0, 44, []), (.iload_n 2, 2, 0, []), (.imul, 0, 0, []), (.iload_n 3, 3, 0, []), (.iadd, 0, 0, []), (.iaload, 0, 0, []), (.istore 4, 4, 0, []), (.aload_n 0, 0, 0, []), (.iload 4, 4, 0, []), (.invokevirtual 172, 137, 0, [1, 1, 8]), (.bipush (-2), 0, (-2), []), (.if_icmp .eq 6, 40, 0, []), (.goto 38, 59, 0, []), (.iconst 1, 0, 1, []), (.istore_n 1, 1, 0, []), (.aload_n 0, 0, 0, []), (.aload_n 0, 0, 0, []), (.getfield 162, 18, 0, [8]), (.bipush 60, 0, 60, []), (.if_icmp .ne 7, 49, 0, []), (.iconst 1, 0, 1, []), (.goto 4, 50, 0, []), (.iconst 0, 0, 0, []), (.putfield 165, 22, 0, [8, 2]), (.aload_n 0, 0, 0, []), (.getfield 165, 22, 0, [8]), (.ifCond .ne 11, 59, 0, []), (.aload_n 0, 0, 0, []), (.iload_n 2, 2, 0, []), (.iload_n 3, 3, 0, []), (.iload 4, 4, 0, []), (.invokevirtual 175, 140, 0, [3, 0, 8]), (.iinc 3 1, 3, 1, []), (.goto (-77), 19, 0, []), (.iinc 2 1, 2, 1, []), (.goto (-97), 11, 0, []), (.goto (-115), 2, 0, []), (.return_, 0, 0, [])]
def qX8_part : List Nat := [0, 1, 2, 3, 6, 7, 10, 13, 14, 15, 16, 17, 18, 19, 22, 25, 26, 29, 30, 31, 32, 33, 36, 39, 40, 43, 44, 47, 49, 50, 51, 52, 53, 54, 56, 57, 59, 62, 64, 67, 70, 71, 72, 73, 74, 77, 79, 82, 83, 86, 87, 90, 91, 94, 97, 98, 99, 100, 102, 105, 108, 111, 114, 117, 120]
def pX8_doubled : List PI := [(.aload_n 0, 0, 0, []), (.getfield 162, 18, 0, [8]), (.istore 4, 4, 0, []), (.iload 4, 4, 0, []), (.iload_n 1, 1, 0, []), (.if_icmp .le 71, 44, 0, []), (.aload_n 0, 0, 0, []), (.getfield 44, 20, 0, [8]), (.iload 4, 4, 0, []), (.aload_n 0, 0, 0, []), (.getfield 44, 20, 0, [8]), (.iload 4, 4, 0, []), (.iconst 1, 0, 1, []), (.isub, 0, 0, []), (.iaload, 0, 0, []), (.iastore, 0, 0, []), (.iconst 0, 0, 0, []), (.istore 5, 5, 0, []), (.iload 5, 5, 0, []), (.aload_n 0, 0, 0, []), (.getfield 159, 17, 0, [8]), (.if_icmp .ge 37, 42, 0, []), (.aload_n 0, 0, 0, []), (.getfield 47, 21, 0, [8]), (.bipush 44, 0, 44, []), (.iload 4, 4, 0, []), (.imul, 0, 0, []), (.iload 5, 5, 0, []), (.iadd, 0, 0, []), (.aload_n 0, 0, 0, []), (.getfield 47, 21, 0, [8]), (.bipush 44, 0, 44, []), (.iload 4, 4, 0, []), (.iconst 1, 0, 1, []), (.isub, 0, 0, []), (.imul, 0, 0, []), (.iload 5, 5, 0, []), (.iadd, 0, 0, []), (.iaload, 0, 0, []), (.iastore, 0, 0, []), (.iinc 5 1, 5, 1, []), (.goto (-40), 18, 0, []), (.iinc 4 (-1), 4, (-1), []), (.goto (-71), 3, 0, []), (.aload_n 0, 0, 0, []), (.dup, 0, 0, []), (.getfield 162, 18, 0, [8]), (.iconst 1, 0, 1, []), (.iadd, 0, 0, []), (.putfield 162, 18, 0, [8]), (.aload_n 0, 0, 0, []), (.getfield 47, 21, 0, [8]), (.bipush 44, 0, 44, []), (.iload_n 1, 1, 0, []), (.imul, 0, 0, []), (.iload_n 2, 2, 0, []), (.iadd, 0, 0, []), (.iload_n 3, 3, 0, []), (.iconst 1, 0, 1, []), (.iadd, 0, 0, []), (.iastore, 0, 0, []), (.aload_n 0, 0, 0, []), (.getfield 47, 21, 0, [8]), (.bipush 44, 0, 44, []), (.iload_n 1, 1, 0, []), (.iconst 1, 0, 1, []), (.iadd, 0, 0, []), (.imul, 0, 0, []), (.iload_n 2, 2, 0, []), (.iadd, 0, 0, []), (.aload_n 0, 0, 0, []), (.aload_n 0, 0, 0, []), (.getfield 23, 11, 0, [8]), (.iload_n 3, 3, 0, []), (.iconst 1, 0, 1, []), (.iadd, 0, 0, []), (.invokevirtual 146, 132, 0, [2, 1, 8]), (.iastore, 0, 0, []), (.return_, 0, 0, [])]
def qX8_doubled : List Nat := [0, 1, 4, 6, 8, 9, 12, 13, 16, 18, 19, 22, 24, 25, 26, 27, 28, 29, 31, 33, 34, 37, 40, 41, 44, 46, 48, 49, 51, 52, 53, 56, 58, 60, 61, 62, 63, 65, 66, 67, 68, 71, 74, 77, 80, 81, 82, 85, 86, 87, 90, 91, 94, 96, 97, 98, 99, 100, 101, 102, 103, 104, 105, 108, 110, 111, 112, 113, 114, 115, 116, 117, 118, 121, 122, 123, 124, 127, 128]
def pX8_branch : List PI := [(.aload_n 0, 0, 0, []), (.iload_n 2, 2, 0, []), (.invokevirtual 123, 117, 0, [1, 1, 8]), (.istore_n 3, 3, 0, []), (.iconst 0, 0, 0, []), (.istore 4, 4, 0, []), (.aload_n 0, 0, 0, []), (.aload_n 0, 0, 0, []), (.getfield 165, 22, 0, [8]), (.ifCond .ne 16, 18, 0, []), (.aload_n 0, 0, 0, []), (.getfield 159, 17, 0, [8]), (.iload_n 3, 3, 0, []), (.iadd, 0, 0, []), (.iconst 1, 0, 1, []), (.isub, 0, 0, []), (.bipush 40, 0, 40, []), (.if_icmp .le 7, 20, 0, []), (.iconst 1, 0, 1, []), (.goto 4, 21, 0, []), (.iconst 0, 0, 0, []), (.putfield 165, 22, 0, [8, 2]), (.aload_n 0, 0, 0, []), (.getfield 165, 22, 0, [8]), (.ifCond .eq 4, 26, 0, []), (.return_, 0, 0, []), (.iconst 0, 0, 0, []), (.istore 5, 5, 0, []), (.iload 5, 5, 0, []), (.aload_n 0, 0, 0, []), (.getfield 162, 18, 0, [8]), (.if_icmp .ge 85, 75, 0, []), (.aload_n 0, 0, 0, []), (.getfield 47, 21, 0, [8]), (.bipush 44, 0, 44, []), (.iload 5, 5, 0, []), (.imul, 0, 0, []), (.iload_n 1, 1, 0, []), (.iadd, 0, 0, []), (.iaload, 0, 0, []), (.istore 6, 6, 0, []), (.aload_n 0, 0, 0, []), (.iload 6, 6, 0, []), (.invokevirtual 172, 137, 0, [1, 1, 8]), (.istore 7, 7, 0, []), (.iload 7, 7, 0, []), (.iconst (-1), 0, (-1), []), (.if_icmp .eq 12, 52, 0, []), (.iload 7, 7, 0, []), (.iload_n 2, 2, 0, []), (.if_icmp .eq 6, 52, 0, []), (.goto 42, 73, 0, []), (.aload_n 0, 0, 0, []), (.getfield 44, 20, 0, [8]), (.iload 4, 4, 0, []), (.aload_n 0, 0, 0, []), (.getfield 44, 20, 0, [8]), (.iload 5, 5, 0, []), (.iaload, 0, 0, []), (.iastore, 0, 0, []), (.aload_n 0, 0, 0, []), (.iload 5, 5, 0, []), (.iload 4, 4, 0, []), (.iload_n 1, 1, 0, []), (.iload_n 3, 3, 0, []), (.iload 7, 7, 0, []), (.iconst (-1), 0, (-1), []), (.if_icmp .ne 7, 70, 0, []), (.iconst (-1), 0, (-1), []), (.goto 5, 71, 0, []), (.iload 6, 6, 0, []), (.invokevirtual 179, 142, 0, [5, 0, 8]), (.iinc 4 1, 4, 1, []), (.iinc 5 1, 5, 1, []), (.goto (-88), 28, 0, []), (.aload_n 0, 0, 0, []), (.iload 4, 4, 0, []), (.putfield 162, 18, 0, [8]), (.iload_n 3, 3, 0, []), (.ifCond .le 12, 85, 0, []), (.aload_n 0, 0, 0, []), (.getfield 159, 17, 0, [8]), (.iconst 1, 0, 1, []), (.isub, 0, 0, []), (.goto 4, 86, 0, []), (.iconst (-1), 0, (-1), []), (.istore 5, 5, 0, []), (.iload 5, 5, 0, []), (.iload_n 1, 1, 0, []), (.if_icmp .le 27, 104, 0, []), (.aload_n 0, 0, 0, []), (.getfield 41, 19, 0, [8]), (.iload 5, 5, 0, []), (.iload_n 3, 3, 0, []), (.iadd, 0, 0, []), (.iconst 1, 0, 1, []), (.isub, 0, 0, []), (.aload_n 0, 0, 0, []), (.getfield 41, 19, 0, [8]), (.iload 5, 5, 0, []), (.iaload, 0, 0, []), (.iastore, 0, 0, []), (.iinc 5 (-1), 5, (-1), []), (.goto (-27), 87, 0, []), (.iload_n 1, 1, 0, []), (.istore 5, 5, 0, []), (.iload_n 3, 3, 0, []), (.ifCond .ne 36, 126, 0, []), (.iload 5, 5, 0, []), (.iconst 1, 0, 1, []), (.iadd, 0, 0, []), (.aload_n 0, 0, 0, []), (.getfield 159, 17, 0, [8]), (.if_icmp .ge 25, 126, 0, []), (.aload_n 0, 0, 0, []), (.getfield 41, 19, 0, [8]), (.iload 5, 5, 0, []), (.aload_n 0, 0, 0, []), (.getfield 41, 19, 0, [8]), (.iload 5, 5, 0, []), (.iconst 1, 0, 1, []), (.iadd, 0, 0, []), (.iaload, 0, 0, []), (.iastore, 0, 0, []), (.iinc 5 1, 5, 1, []), (.goto (-34), 106, 0, []), (.iconst 0, 0, 0, []), (.istore 5, 5, 0, []), (.iload 5, 5, 0, []), (.iload_n 3, 3, 0, []), (.if_icmp .ge 29, 147, 0, []), (.aload_n 0, 0, 0, []), (.getfield 41, 19, 0, [8]), (.iload_n 1, 1, 0, []), (.iload 5, 5, 0, []), (.iadd, 0, 0, []), (.aload_n 0, 0, 0, []), (.getfield 13, 4, 0, [8]), (.iconst 3, 0, 3, []), (.iload_n 2, 2, 0, []), (.imul, 0, 0, []), (.iload 5, 5, 0, []), (.iadd, 0, 0, []), (.iaload, 0, 0, []), (.iastore, 0, 0, []), (.iinc 5 1, 5, 1, []), (.goto (-29), 128, 0, []), (.aload_n 0, 0, 0, []), (.dup, 0, 0, []), (.getfield 159, 17, 0, [8]), (.iload_n 3, 3, 0, []), (.iconst 1, 0, 1, []), (.isub, 0, 0, []), (.iadd, 0, 0, []), (.putfield 159, 17, 0, [8]), (.aload_n 0, 0, 0, []), (.invokevirtual 169, 139, 0, [0, 0, 8]), (.return_, 0, 0, [])]
def qX8_branch : List Nat := [0, 1, 2, 5, 6, 7, 9, 10, 11, 14, 17, 18, 21, 22, 23, 24, 25, 27, 30, 31, 34, 35, 38, 39, 42, 45, 46, 47, 49, 51, 52, 55, 58, 59, 62, 64, 66, 67, 68, 69, 70, 72, 73, 75, 78, 80, 82, 83, 86, 88, 89, 92, 95, 96, 99, 101, 102, 105, 107, 108, 109, 110, 112, 114, 115, 116, 118, 119, 122, 123, 126, 128, 131, 134, 137, 140, 141, 143, 146, 147, 150, 151, 154, 155, 156, 159, 160, 162, 164, 165, 168, 169, 172, 174, 175, 176, 177, 178, 179, 182, 184, 185, 186, 189, 192, 193, 195, 196, 199, 201, 202, 203, 204, 207, 210, 211, 214, 216, 217, 220, 222, 223, 224, 225, 226, 229, 232, 233, 235, 237, 238, 241, 242, 245, 246, 248, 249, 250, 253, 254, 255, 256, 258, 259, 260, 261, 264, 267, 268, 269, 272, 273, 274, 275, 276, 279, 280, 283]
def pX8_widen : List PI := [(.iconst 0, 0, 0, []), (.istore 6, 6, 0, []), (.iload 6, 6, 0, []), (.aload_n 0, 0, 0, []), (.getfield 159, 17, 0, [8]), (.if_icmp .ge 28, 20, 0, []), (.aload_n 0, 0, 0, []), (.getfield 50, 23, 0, [8]), (.iload 6, 6, 0, []), (.aload_n 0, 0, 0, []), (.getfield 47, 21, 0, [8]), (.bipush 44, 0, 44, []), (.iload_n 1, 1, 0, []), (.imul, 0, 0, []), (.iload 6, 6, 0, []), (.iadd, 0, 0, []), (.iaload, 0, 0, []), (.iastore, 0, 0, []), (.iinc 6 1, 6, 1, []), (.goto (-31), 2, 0, []), (.iconst 0, 0, 0, []), (.istore 6, 6, 0, []), (.iload 6, 6, 0, []), (.iload_n 3, 3, 0, []), (.if_icmp .ge 28, 39, 0, []), (.aload_n 0, 0, 0, []), (.getfield 47, 21, 0, [8]), (.bipush 44, 0, 44, []), (.iload_n 2, 2, 0, []), (.imul, 0, 0, []), (.iload 6, 6, 0, []), (.iadd, 0, 0, []), (.aload_n 0, 0, 0, []), (.getfield 50, 23, 0, [8]), (.iload 6, 6, 0, []), (.iaload, 0, 0, []), (.iastore, 0, 0, []), (.iinc 6 1, 6, 1, []), (.goto (-28), 22, 0, []), (.iload 5, 5, 0, []), (.iconst (-1), 0, (-1), []), (.if_icmp .ne 7, 44, 0, []), (.iconst (-1), 0, (-1), []), (.goto 7, 47, 0, []), (.iload 5, 5, 0, []), (.iconst 1, 0, 1, []), (.iadd, 0, 0, []), (.istore 6, 6, 0, []), (.iconst 0, 0, 0, []), (.istore 7, 7, 0, []), (.iload 7, 7, 0, []), (.iload 4, 4, 0, []), (.if_icmp .ge 47, 77, 0, []), (.aload_n 0, 0, 0, []), (.getfield 47, 21, 0, [8]), (.bipush 44, 0, 44, []), (.iload_n 2, 2, 0, []), (.imul, 0, 0, []), (.iload_n 3, 3, 0, []), (.iadd, 0, 0, []), (.iload 7, 7, 0, []), (.iadd, 0, 0, []), (.iload 6, 6, 0, []), (.iastore, 0, 0, []), (.iload 6, 6, 0, []), (.iconst (-1), 0, (-1), []), (.if_icmp .ne 7, 69, 0, []), (.iconst (-1), 0, (-1), []), (.goto 13, 74, 0, []), (.aload_n 0, 0, 0, []), (.aload_n 0, 0, 0, []), (.getfield 23, 11, 0, [8]), (.iload 6, 6, 0, []), (.invokevirtual 146, 132, 0, [2, 1, 8]), (.istore 6, 6, 0, []), (.iinc 7 1, 7, 1, []), (.goto (-48), 50, 0, []), (.iload_n 3, 3, 0, []), (.iconst 1, 0, 1, []), (.iadd, 0, 0, []), (.istore 7, 7, 0, []), (.iload 7, 7, 0, []), (.aload_n 0, 0, 0, []), (.getfield 159, 17, 0, [8]), (.if_icmp .ge 33, 103, 0, []), (.aload_n 0, 0, 0, []), (.getfield 47, 21, 0, [8]), (.bipush 44, 0, 44, []), (.iload_n 2, 2, 0, []), (.imul, 0, 0, []), (.iload 7, 7, 0, []), (.iadd, 0, 0, []), (.iload 4, 4, 0, []), (.iadd, 0, 0, []), (.iconst 1, 0, 1, []), (.isub, 0, 0, []), (.aload_n 0, 0, 0, []), (.getfield 50, 23, 0, [8]), (.iload 7, 7, 0, []), (.iaload, 0, 0, []), (.iastore, 0, 0, []), (.iinc 7 1, 7, 1, []), (.goto (-36), 81, 0, []), (.return_, 0, 0, [])]
def qX8_widen : List Nat := [0, 1, 3, 5, 6, 9, 12, 13, 16, 18, 19, 22, 24, 25, 26, 28, 29, 30, 31, 34, 37, 38, 40, 42, 43, 46, 47, 50, 52, 53, 54, 56, 57, 58, 61, 63, 64, 65, 68, 71, 73, 74, 77, 78, 81, 83, 84, 85, 87, 88, 90, 92, 94, 97, 98, 101, 103, 104, 105, 106, 107, 109, 110, 112, 113, 115, 116, 119, 120, 123, 124, 125, 128, 130, 133, 135, 138, 141, 142, 143, 144, 146, 148, 149, 152, 155, 156, 159, 161, 162, 163, 165, 166, 168, 169, 170, 171, 172, 175, 177, 178, 179, 182, 185]
def pX8_tableOf : List PI := [(.iconst 0, 0, 0, []), (.istore_n 3, 3, 0, []), (.iload_n 1, 1, 0, []), (.istore 4, 4, 0, []), (.iload 4, 4, 0, []), (.iconst (-1), 0, (-1), []), (.if_icmp .eq 26, 19, 0, []), (.aload_n 0, 0, 0, []), (.getfield 87, 36, 0, [8]), (.iload_n 3, 3, 0, []), (.iload 4, 4, 0, []), (.iastore, 0, 0, []), (.iinc 3 1, 3, 1, []), (.aload_n 0, 0, 0, []), (.getfield 72, 31, 0, [8]), (.iload 4, 4, 0, []), (.iaload, 0, 0, []), (.istore 4, 4, 0, []), (.goto (-26), 4, 0, []), (.aload_n 0, 0, 0, []), (.invokevirtual 183, 138, 0, [0, 0, 8]), (.iload_n 3, 3, 0, []), (.iconst 1, 0, 1, []), (.isub, 0, 0, []), (.istore 4, 4, 0, []), (.iload 4, 4, 0, []), (.ifCond .lt 55, 54, 0, []), (.aload_n 0, 0, 0, []), (.getfield 165, 22, 0, [8]), (.ifCond .ne 48, 54, 0, []), (.aload_n 0, 0, 0, []), (.aload_n 0, 0, 0, []), (.getfield 60, 27, 0, [8]), (.aload_n 0, 0, 0, []), (.getfield 87, 36, 0, [8]), (.iload 4, 4, 0, []), (.iaload, 0, 0, []), (.iaload, 0, 0, []), (.iload 4, 4, 0, []), (.ifCond .le 20, 50, 0, []), (.aload_n 0, 0, 0, []), (.getfield 75, 32, 0, [8]), (.aload_n 0, 0, 0, []), (.getfield 87, 36, 0, [8]), (.iload 4, 4, 0, []), (.iconst 1, 0, 1, []), (.isub, 0, 0, []), (.iaload, 0, 0, []), (.iaload, 0, 0, []), (.goto 4, 51, 0, []), (.iload_n 2, 2, 0, []), (.invokevirtual 186, 141, 0, [2, 0, 8]), (.iinc 4 (-1), 4, (-1), []), (.goto (-54), 25, 0, []), (.return_, 0, 0, [])]
def qX8_tableOf : List Nat := [0, 1, 2, 3, 5, 7, 8, 11, 12, 15, 16, 18, 19, 22, 23, 26, 28, 29, 31, 34, 35, 38, 39, 40, 41, 43, 45, 48, 49, 52, 55, 56, 57, 60, 61, 64, 66, 67, 68, 70, 73, 74, 77, 78, 81, 83, 84, 85, 86, 87, 90, 91, 94, 97, 100]
def pX8_begin : List PI := [(.aload_n 0, 0, 0, []), (.iload_n 1, 1, 0, []), (.iload_n 2, 2, 0, []), (.invokevirtual 190, 143, 0, [2, 0, 8]), (.aload_n 0, 0, 0, []), (.getfield 165, 22, 0, [8]), (.ifCond .ne 13, 11, 0, []), (.aload_n 0, 0, 0, []), (.getfield 53, 24, 0, [8]), (.sipush 300, 0, 300, []), (.if_icmp .ne 9, 15, 0, []), (.aload_n 0, 0, 0, []), (.iconst 1, 0, 1, []), (.putfield 165, 22, 0, [8, 2]), (.return_, 0, 0, []), (.aload_n 0, 0, 0, []), (.getfield 53, 24, 0, [8]), (.istore_n 3, 3, 0, []), (.aload_n 0, 0, 0, []), (.dup, 0, 0, []), (.getfield 53, 24, 0, [8]), (.iconst 1, 0, 1, []), (.iadd, 0, 0, []), (.putfield 53, 24, 0, [8]), (.aload_n 0, 0, 0, []), (.getfield 72, 31, 0, [8]), (.iload_n 3, 3, 0, []), (.iload_n 1, 1, 0, []), (.iastore, 0, 0, []), (.aload_n 0, 0, 0, []), (.getfield 75, 32, 0, [8]), (.iload_n 3, 3, 0, []), (.iload_n 2, 2, 0, []), (.iastore, 0, 0, []), (.aload_n 0, 0, 0, []), (.getfield 78, 33, 0, [8]), (.iload_n 3, 3, 0, []), (.iconst 0, 0, 0, []), (.iastore, 0, 0, []), (.aload_n 0, 0, 0, []), (.getfield 66, 29, 0, [8]), (.iload_n 3, 3, 0, []), (.aload_n 0, 0, 0, []), (.getfield 159, 17, 0, [8]), (.iastore, 0, 0, []), (.iconst 0, 0, 0, []), (.istore 4, 4, 0, []), (.aload_n 0, 0, 0, []), (.getfield 162, 18, 0, [8]), (.ifCond .le 33, 64, 0, []), (.iload 4, 4, 0, []), (.aload_n 0, 0, 0, []), (.getfield 159, 17, 0, [8]), (.if_icmp .ge 24, 64, 0, []), (.aload_n 0, 0, 0, []), (.aload_n 0, 0, 0, []), (.getfield 47, 21, 0, [8]), (.iload 4, 4, 0, []), (.iaload, 0, 0, []), (.invokevirtual 172, 137, 0, [1, 1, 8]), (.iconst (-1), 0, (-1), []), (.if_icmp .ne 9, 64, 0, []), (.iinc 4 1, 4, 1, []), (.goto (-34), 47, 0, []), (.aload_n 0, 0, 0, []), (.getfield 57, 26, 0, [8]), (.iload_n 3, 3, 0, []), (.aload_n 0, 0, 0, []), (.getfield 162, 18, 0, [8]), (.ifCond .ne 7, 72, 0, []), (.iconst 0, 0, 0, []), (.goto 17, 79, 0, []), (.iload 4, 4, 0, []), (.aload_n 0, 0, 0, []), (.getfield 159, 17, 0, [8]), (.if_icmp .ne 7, 78, 0, []), (.iconst 1, 0, 1, []), (.goto 4, 79, 0, []), (.iconst 2, 0, 2, []), (.iastore, 0, 0, []), (.aload_n 0, 0, 0, []), (.getfield 69, 30, 0, [8]), (.iload_n 3, 3, 0, []), (.aload_n 0, 0, 0, []), (.getfield 57, 26, 0, [8]), (.iload_n 3, 3, 0, []), (.iaload, 0, 0, []), (.iconst 1, 0, 1, []), (.if_icmp .ne 12, 94, 0, []), (.aload_n 0, 0, 0, []), (.getfield 44, 20, 0, [8]), (.iconst 0, 0, 0, []), (.iaload, 0, 0, []), (.goto 4, 95, 0, []), (.iconst (-1), 0, (-1), []), (.iastore, 0, 0, []), (.aload_n 0, 0, 0, []), (.getfield 57, 26, 0, [8]), (.iload_n 3, 3, 0, []), (.iaload, 0, 0, []), (.iconst 2, 0, 2, []), (.if_icmp .eq 4, 103, 0, []), (.return_, 0, 0, []), (.aload_n 0, 0, 0, []), (.getfield 60, 27, 0, [8]), (.iload_n 3, 3, 0, []), (.iload 4, 4, 0, []), (.iastore, 0, 0, []), (.aload_n 0, 0, 0, []), (.getfield 63, 28, 0, [8]), (.iload_n 3, 3, 0, []), (.aload_n 0, 0, 0, []), (.getfield 41, 19, 0, [8]), (.iload 4, 4, 0, []), (.iaload, 0, 0, []), (.iastore, 0, 0, []), (.aload_n 0, 0, 0, []), (.getfield 99, 2, 0, [8]), (.iconst 1, 0, 1, []), (.isub, 0, 0, []), (.istore 5, 5, 0, []), (.iload 5, 5, 0, []), (.ifCond .lt 78, 165, 0, []), (.aload_n 0, 0, 0, []), (.getfield 7, 3, 0, [8]), (.iload 5, 5, 0, []), (.iaload, 0, 0, []), (.aload_n 0, 0, 0, []), (.getfield 63, 28, 0, [8]), (.iload_n 3, 3, 0, []), (.iaload, 0, 0, []), (.if_icmp .ne 56, 163, 0, []), (.aload_n 0, 0, 0, []), (.iload 5, 5, 0, []), (.invokevirtual 120, 122, 0, [1, 2, 8]), (.ifCond .eq 6, 137, 0, []), (.goto 44, 163, 0, []), (.aload_n 0, 0, 0, []), (.getfield 81, 34, 0, [8]), (.aload_n 0, 0, 0, []), (.getfield 193, 25, 0, [8]), (.iload_n 3, 3, 0, []), (.iastore, 0, 0, []), (.aload_n 0, 0, 0, []), (.getfield 84, 35, 0, [8]), (.aload_n 0, 0, 0, []), (.getfield 193, 25, 0, [8]), (.iload 5, 5, 0, []), (.iastore, 0, 0, []), (.aload_n 0, 0, 0, []), (.dup, 0, 0, []), (.getfield 193, 25, 0, [8]), (.iconst 1, 0, 1, []), (.iadd, 0, 0, []), (.putfield 193, 25, 0, [8]), (.aload_n 0, 0, 0, []), (.getfield 78, 33, 0, [8]), (.iload_n 3, 3, 0, []), (.dup2, 0, 0, []), (.iaload, 0, 0, []), (.iconst 1, 0, 1, []), (.iadd, 0, 0, []), (.iastore, 0, 0, []), (.iinc 5 (-1), 5, (-1), []), (.goto (-77), 121, 0, []), (.return_, 0, 0, [])]
def qX8_begin : List Nat := [0, 1, 2, 3, 6, 7, 10, 13, 14, 17, 20, 23, 24, 25, 28, 29, 30, 33, 34, 35, 36, 39, 40, 41, 44, 45, 48, 49, 50, 51, 52, 55, 56, 57, 58, 59, 62, 63, 64, 65, 66, 69, 70, 71, 74, 75, 76, 78, 79, 82, 85, 87, 88, 91, 94, 95, 96, 99, 101, 102, 105, 106, 109, 112, 115, 116, 119, 120, 121, 124, 127, 128, 131, 133, 134, 137, 140, 141, 144, 145, 146, 147, 150, 151, 152, 155, 156, 157, 158, 161, 162, 165, 166, 167, 170, 171, 172, 173, 176, 177, 178, 179, 182, 183, 184, 187, 188, 190, 191, 192, 195, 196, 197, 200, 202, 203, 204, 205, 208, 209, 210, 212, 214, 217, 218, 221, 223, 224, 225, 228, 229, 230, 233, 234, 236, 239, 242, 245, 246, 249, 250, 253, 254, 255, 256, 259, 260, 263, 265, 266, 267, 268, 271, 272, 273, 276, 277, 280, 281, 282, 283, 284, 285, 286, 289, 292]
def pX8_compile : List PI := [(.aload_n 0, 0, 0, []), (.aload_n 0, 0, 0, []), (.getfield 114, 6, 0, [8]), (.ifCond .ne 7, 6, 0, []), (.iconst 1, 0, 1, []), (.goto 4, 7, 0, []), (.iconst 0, 0, 0, []), (.putfield 93, 0, 0, [8]), (.aload_n 0, 0, 0, []), (.getfield 93, 0, 0, [8]), (.ifCond .le 5, 13, 0, []), (.iconst 0, 0, 0, []), (.ireturn, 0, 0, []), (.aload_n 0, 0, 0, []), (.invokevirtual 126, 121, 0, [0, 0, 8]), (.aload_n 0, 0, 0, []), (.iconst 0, 0, 0, []), (.putfield 53, 24, 0, [8]), (.aload_n 0, 0, 0, []), (.iconst 0, 0, 0, []), (.putfield 193, 25, 0, [8]), (.aload_n 0, 0, 0, []), (.iconst 0, 0, 0, []), (.putfield 165, 22, 0, [8, 2]), (.aload_n 0, 0, 0, []), (.iconst (-1), 0, (-1), []), (.iconst (-1), 0, (-1), []), (.invokevirtual 196, 144, 0, [2, 0, 8]), (.aload_n 0, 0, 0, []), (.getfield 193, 25, 0, [8]), (.ifCond .le 45, 53, 0, []), (.aload_n 0, 0, 0, []), (.getfield 165, 22, 0, [8]), (.ifCond .ne 38, 53, 0, []), (.aload_n 0, 0, 0, []), (.dup, 0, 0, []), (.getfield 193, 25, 0, [8]), (.iconst 1, 0, 1, []), (.isub, 0, 0, []), (.putfield 193, 25, 0, [8]), (.aload_n 0, 0, 0, []), (.aload_n 0, 0, 0, []), (.getfield 81, 34, 0, [8]), (.aload_n 0, 0, 0, []), (.getfield 193, 25, 0, [8]), (.iaload, 0, 0, []), (.aload_n 0, 0, 0, []), (.getfield 84, 35, 0, [8]), (.aload_n 0, 0, 0, []), (.getfield 193, 25, 0, [8]), (.iaload, 0, 0, []), (.invokevirtual 196, 144, 0, [2, 0, 8]), (.goto (-46), 28, 0, []), (.aload_n 0, 0, 0, []), (.getfield 165, 22, 0, [8]), (.ifCond .ne 8, 59, 0, []), (.aload_n 0, 0, 0, []), (.getfield 53, 24, 0, [8]), (.ireturn, 0, 0, []), (.aload_n 0, 0, 0, []), (.iconst (-1), 0, (-1), []), (.putfield 53, 24, 0, [8]), (.aload_n 0, 0, 0, []), (.iconst 2, 0, 2, []), (.putfield 93, 0, 0, [8]), (.iconst 0, 0, 0, []), (.ireturn, 0, 0, [])]
def qX8_compile : List Nat := [0, 1, 2, 5, 8, 9, 12, 13, 16, 17, 20, 23, 24, 25, 26, 29, 30, 31, 34, 35, 36, 39, 40, 41, 44, 45, 46, 47, 50, 51, 54, 57, 58, 61, 64, 65, 66, 69, 70, 71, 74, 75, 76, 79, 80, 83, 84, 85, 88, 89, 92, 93, 96, 99, 100, 103, 106, 107, 110, 111, 112, 113, 116, 117, 118, 121, 122]
def pX8_isNode : List PI := [(.aload_n 0, 0, 0, []), (.iload_n 1, 1, 0, []), (.ifCond .lt 15, 9, 0, []), (.iload_n 1, 1, 0, []), (.aload_n 0, 0, 0, []), (.getfield 53, 24, 0, [8]), (.if_icmp .ge 7, 9, 0, []), (.iconst 0, 0, 0, []), (.goto 4, 10, 0, []), (.iconst 1, 0, 1, []), (.putfield 93, 0, 0, [8]), (.aload_n 0, 0, 0, []), (.getfield 93, 0, 0, [8]), (.ifCond .ne 7, 16, 0, []), (.iconst 1, 0, 1, []), (.goto 4, 17, 0, []), (.iconst 0, 0, 0, []), (.ireturn, 0, 0, [])]
def qX8_isNode : List Nat := [0, 1, 2, 5, 6, 7, 10, 13, 14, 17, 18, 21, 22, 25, 28, 29, 32, 33]
def pX8_branchOf : List PI := [(.iconst 0, 0, 0, []), (.istore_n 3, 3, 0, []), (.iload_n 1, 1, 0, []), (.iconst 1, 0, 1, []), (.iadd, 0, 0, []), (.istore 4, 4, 0, []), (.iload 4, 4, 0, []), (.aload_n 0, 0, 0, []), (.getfield 53, 24, 0, [8]), (.if_icmp .ge 34, 25, 0, []), (.aload_n 0, 0, 0, []), (.getfield 72, 31, 0, [8]), (.iload 4, 4, 0, []), (.iaload, 0, 0, []), (.iload_n 1, 1, 0, []), (.if_icmp .eq 6, 17, 0, []), (.goto 14, 23, 0, []), (.iload_n 3, 3, 0, []), (.iload_n 2, 2, 0, []), (.if_icmp .ne 6, 22, 0, []), (.iload 4, 4, 0, []), (.ireturn, 0, 0, []), (.iinc 3 1, 3, 1, []), (.iinc 4 1, 4, 1, []), (.goto (-37), 6, 0, []), (.iconst (-1), 0, (-1), []), (.ireturn, 0, 0, [])]
def qX8_branchOf : List Nat := [0, 1, 2, 3, 4, 5, 7, 9, 10, 13, 16, 17, 20, 22, 23, 24, 27, 30, 31, 32, 35, 37, 38, 41, 44, 47, 48]
def pX8_node : List PI := [(.aload_n 0, 0, 0, []), (.iload_n 1, 1, 0, []), (.invokevirtual 199, 146, 0, [1, 2, 8]), (.ifCond .ne 5, 6, 0, []), (.iconst 0, 0, 0, []), (.ireturn, 0, 0, []), (.aload_n 0, 0, 0, []), (.getfield 57, 26, 0, [8]), (.iload_n 1, 1, 0, []), (.iaload, 0, 0, []), (.iconst 2, 0, 2, []), (.if_icmp .ne 7, 14, 0, []), (.iconst 1, 0, 1, []), (.goto 4, 15, 0, []), (.iconst 0, 0, 0, []), (.istore_n 3, 3, 0, []), (.iload_n 2, 2, 0, []), (.lookupswitch 151 #[(0, 65), (1, 72), (2, 92), (3, 107), (4, 122), (100, 137), (101, 144)], 72, 0, [18, 23, 35, 44, 53, 62, 67]), (.aload_n 0, 0, 0, []), (.getfield 57, 26, 0, [8]), (.iload_n 1, 1, 0, []), (.iaload, 0, 0, []), (.ireturn, 0, 0, []), (.iload_n 3, 3, 0, []), (.ifCond .eq 12, 30, 0, []), (.aload_n 0, 0, 0, []), (.getfield 63, 28, 0, [8]), (.iload_n 1, 1, 0, []), (.iaload, 0, 0, []), (.goto 9, 34, 0, []), (.aload_n 0, 0, 0, []), (.getfield 69, 30, 0, [8]), (.iload_n 1, 1, 0, []), (.iaload, 0, 0, []), (.ireturn, 0, 0, []), (.iload_n 3, 3, 0, []), (.ifCond .eq 12, 42, 0, []), (.aload_n 0, 0, 0, []), (.getfield 66, 29, 0, [8]), (.iload_n 1, 1, 0, []), (.iaload, 0, 0, []), (.goto 4, 43, 0, []), (.iconst (-1), 0, (-1), []), (.ireturn, 0, 0, []), (.iload_n 3, 3, 0, []), (.ifCond .eq 12, 51, 0, []), (.aload_n 0, 0, 0, []), (.getfield 60, 27, 0, [8]), (.iload_n 1, 1, 0, []), (.iaload, 0, 0, []), (.goto 4, 52, 0, []), (.iconst (-1), 0, (-1), []), (.ireturn, 0, 0, []), (.iload_n 3, 3, 0, []), (.ifCond .eq 12, 60, 0, []), (.aload_n 0, 0, 0, []), (.getfield 78, 33, 0, [8]), (.iload_n 1, 1, 0, []), (.iaload, 0, 0, []), (.goto 4, 61, 0, []), (.iconst (-1), 0, (-1), []), (.ireturn, 0, 0, []), (.aload_n 0, 0, 0, []), (.getfield 72, 31, 0, [8]), (.iload_n 1, 1, 0, []), (.iaload, 0, 0, []), (.ireturn, 0, 0, []), (.aload_n 0, 0, 0, []), (.getfield 75, 32, 0, [8]), (.iload_n 1, 1, 0, []), (.iaload, 0, 0, []), (.ireturn, 0, 0, []), (.iload_n 2, 2, 0, []), (.iconst 5, 0, 5, []), (.if_icmp .lt 13, 80, 0, []), (.iload_n 2, 2, 0, []), (.bipush 12, 0, 12, []), (.if_icmp .gt 7, 80, 0, []), (.iload_n 3, 3, 0, []), (.ifCond .ne 7, 82, 0, []), (.iconst (-1), 0, (-1), []), (.goto 11, 88, 0, []), (.aload_n 0, 0, 0, []), (.iload_n 1, 1, 0, []), (.iload_n 2, 2, 0, []), (.iconst 5, 0, 5, []), (.isub, 0, 0, []), (.invokevirtual 202, 147, 0, [2, 1, 8]), (.ireturn, 0, 0, [])]
def qX8_node : List Nat := [0, 1, 2, 5, 8, 9, 10, 11, 14, 15, 16, 17, 20, 21, 24, 25, 26, 27, 92, 93, 96, 97, 98, 99, 100, 103, 104, 107, 108, 109, 112, 113, 116, 117, 118, 119, 120, 123, 124, 127, 128, 129, 132, 133, 134, 135, 138, 139, 142, 143, 144, 147, 148, 149, 150, 153, 154, 157, 158, 159, 162, 163, 164, 165, 168, 169, 170, 171, 172, 175, 176, 177, 178, 179, 180, 183, 184, 186, 189, 190, 193, 194, 197, 198, 199, 200, 201, 202, 205]
def pX8_missing : List PI := [(.aload_n 0, 0, 0, []), (.iconst 0, 0, 0, []), (.putfield 93, 0, 0, [8]), (.iconst 0, 0, 0, []), (.istore_n 1, 1, 0, []), (.iconst 0, 0, 0, []), (.istore_n 2, 2, 0, []), (.iload_n 2, 2, 0, []), (.aload_n 0, 0, 0, []), (.getfield 53, 24, 0, [8]), (.if_icmp .ge 26, 24, 0, []), (.iload_n 1, 1, 0, []), (.aload_n 0, 0, 0, []), (.getfield 57, 26, 0, [8]), (.iload_n 2, 2, 0, []), (.iaload, 0, 0, []), (.ifCond .ne 7, 19, 0, []), (.iconst 1, 0, 1, []), (.goto 4, 20, 0, []), (.iconst 0, 0, 0, []), (.iadd, 0, 0, []), (.istore_n 1, 1, 0, []), (.iinc 2 1, 2, 1, []), (.goto (-28), 7, 0, []), (.aload_n 0, 0, 0, []), (.getfield 53, 24, 0, [8]), (.iconst (-1), 0, (-1), []), (.if_icmp .ne 7, 30, 0, []), (.iconst (-1), 0, (-1), []), (.goto 4, 31, 0, []), (.iload_n 1, 1, 0, []), (.ireturn, 0, 0, [])]
def qX8_missing : List Nat := [0, 1, 2, 5, 6, 7, 8, 9, 10, 11, 14, 17, 18, 19, 22, 23, 24, 27, 28, 31, 32, 33, 34, 37, 40, 41, 44, 45, 48, 49, 52, 53]
def pX8_missingSign : List PI := [(.aload_n 0, 0, 0, []), (.iload_n 1, 1, 0, []), (.ifCond .lt 15, 9, 0, []), (.iload_n 1, 1, 0, []), (.aload_n 0, 0, 0, []), (.invokevirtual 206, 149, 0, [0, 1, 8]), (.if_icmp .ge 7, 9, 0, []), (.iconst 0, 0, 0, []), (.goto 4, 10, 0, []), (.iconst 1, 0, 1, []), (.putfield 93, 0, 0, [8]), (.aload_n 0, 0, 0, []), (.getfield 93, 0, 0, [8]), (.ifCond .le 5, 16, 0, []), (.iconst 0, 0, 0, []), (.ireturn, 0, 0, []), (.iconst 0, 0, 0, []), (.istore_n 3, 3, 0, []), (.iload_n 1, 1, 0, []), (.istore 4, 4, 0, []), (.aload_n 0, 0, 0, []), (.getfield 57, 26, 0, [8]), (.iload_n 3, 3, 0, []), (.iaload, 0, 0, []), (.ifCond .ne 8, 27, 0, []), (.iload 4, 4, 0, []), (.ifCond .le 28, 40, 0, []), (.iload 4, 4, 0, []), (.aload_n 0, 0, 0, []), (.getfield 57, 26, 0, [8]), (.iload_n 3, 3, 0, []), (.iaload, 0, 0, []), (.ifCond .ne 7, 35, 0, []), (.iconst 1, 0, 1, []), (.goto 4, 36, 0, []), (.iconst 0, 0, 0, []), (.isub, 0, 0, []), (.istore 4, 4, 0, []), (.iinc 3 1, 3, 1, []), (.goto (-36), 20, 0, []), (.aload_n 0, 0, 0, []), (.iload_n 3, 3, 0, []), (.invokevirtual 210, 151, 0, [1, 1, 8]), (.istore 5, 5, 0, []), (.iload_n 2, 2, 0, []), (.ifCond .lt 18, 54, 0, []), (.iload_n 2, 2, 0, []), (.iload 5, 5, 0, []), (.if_icmp .ge 12, 54, 0, []), (.aload_n 0, 0, 0, []), (.getfield 90, 37, 0, [8]), (.iload_n 2, 2, 0, []), (.iaload, 0, 0, []), (.goto 5, 55, 0, []), (.bipush (-3), 0, (-3), []), (.ireturn, 0, 0, [])]
def qX8_missingSign : List Nat := [0, 1, 2, 5, 6, 7, 10, 13, 14, 17, 18, 21, 22, 25, 28, 29, 30, 31, 32, 33, 35, 36, 39, 40, 41, 44, 46, 49, 51, 52, 55, 56, 57, 60, 61, 64, 65, 66, 68, 71, 74, 75, 76, 79, 81, 82, 85, 86, 88, 91, 92, 95, 96, 97, 100, 102]
def pX8_tell : List PI := [(.iconst 0, 0, 0, []), (.istore_n 2, 2, 0, []), (.iload_n 1, 1, 0, []), (.istore_n 3, 3, 0, []), (.aload_n 0, 0, 0, []), (.getfield 72, 31, 0, [8]), (.iload_n 3, 3, 0, []), (.iaload, 0, 0, []), (.iconst (-1), 0, (-1), []), (.if_icmp .eq 23, 22, 0, []), (.aload_n 0, 0, 0, []), (.getfield 87, 36, 0, [8]), (.iload_n 2, 2, 0, []), (.iload_n 3, 3, 0, []), (.iastore, 0, 0, []), (.iinc 2 1, 2, 1, []), (.aload_n 0, 0, 0, []), (.getfield 72, 31, 0, [8]), (.iload_n 3, 3, 0, []), (.iaload, 0, 0, []), (.istore_n 3, 3, 0, []), (.goto (-27), 4, 0, []), (.aload_n 0, 0, 0, []), (.getfield 114, 6, 0, [8]), (.istore_n 3, 3, 0, []), (.iconst 0, 0, 0, []), (.istore 4, 4, 0, []), (.iload 4, 4, 0, []), (.aload_n 0, 0, 0, []), (.getfield 114, 6, 0, [8]), (.if_icmp .ge 17, 38, 0, []), (.aload_n 0, 0, 0, []), (.getfield 90, 37, 0, [8]), (.iload 4, 4, 0, []), (.iconst (-1), 0, (-1), []), (.iastore, 0, 0, []), (.iinc 4 1, 4, 1, []), (.goto (-20), 27, 0, []), (.iload_n 2, 2, 0, []), (.iconst 1, 0, 1, []), (.isub, 0, 0, []), (.istore 4, 4, 0, []), (.iload 4, 4, 0, []), (.ifCond .lt 172, 135, 0, []), (.aload_n 0, 0, 0, []), (.getfield 60, 27, 0, [8]), (.aload_n 0, 0, 0, []), (.getfield 72, 31, 0, [8]), (.aload_n 0, 0, 0, []), (.getfield 87, 36, 0, [8]), (.iload 4, 4, 0, []), (.iaload, 0, 0, []), (.iaload, 0, 0, []), (.iaload, 0, 0, []), (.istore 5, 5, 0, []), (.iconst 0, 0, 0, []), (.istore 6, 6, 0, []), (.aload_n 0, 0, 0, []), (.getfield 90, 37, 0, [8]), (.iload 6, 6, 0, []), (.iaload, 0, 0, []), (.iconst (-1), 0, (-1), []), (.if_icmp .ne 8, 65, 0, []), (.iload 5, 5, 0, []), (.ifCond .le 30, 79, 0, []), (.iload 5, 5, 0, []), (.aload_n 0, 0, 0, []), (.getfield 90, 37, 0, [8]), (.iload 6, 6, 0, []), (.iaload, 0, 0, []), (.iconst (-1), 0, (-1), []), (.if_icmp .ne 7, 74, 0, []), (.iconst 1, 0, 1, []), (.goto 4, 75, 0, []), (.iconst 0, 0, 0, []), (.isub, 0, 0, []), (.istore 5, 5, 0, []), (.iinc 6 1, 6, 1, []), (.goto (-40), 57, 0, []), (.aload_n 0, 0, 0, []), (.getfield 75, 32, 0, [8]), (.aload_n 0, 0, 0, []), (.getfield 87, 36, 0, [8]), (.iload 4, 4, 0, []), (.iaload, 0, 0, []), (.iaload, 0, 0, []), (.istore 7, 7, 0, []), (.aload_n 0, 0, 0, []), (.iload 7, 7, 0, []), (.invokevirtual 123, 117, 0, [1, 1, 8]), (.istore 8, 8, 0, []), (.iload_n 3, 3, 0, []), (.iconst 1, 0, 1, []), (.isub, 0, 0, []), (.istore 9, 9, 0, []), (.iload 9, 9, 0, []), (.iload 6, 6, 0, []), (.if_icmp .le 26, 110, 0, []), (.aload_n 0, 0, 0, []), (.getfield 90, 37, 0, [8]), (.iload 9, 9, 0, []), (.iload 8, 8, 0, []), (.iadd, 0, 0, []), (.aload_n 0, 0, 0, []), (.getfield 90, 37, 0, [8]), (.iload 9, 9, 0, []), (.iaload, 0, 0, []), (.iastore, 0, 0, []), (.iinc 9 (-1), 9, (-1), []), (.goto (-27), 95, 0, []), (.aload_n 0, 0, 0, []), (.getfield 90, 37, 0, [8]), (.iload 6, 6, 0, []), (.iload 7, 7, 0, []), (.iastore, 0, 0, []), (.iconst 1, 0, 1, []), (.istore 9, 9, 0, []), (.iload 9, 9, 0, []), (.iload 8, 8, 0, []), (.if_icmp .gt 20, 129, 0, []), (.aload_n 0, 0, 0, []), (.getfield 90, 37, 0, [8]), (.iload 6, 6, 0, []), (.iload 9, 9, 0, []), (.iadd, 0, 0, []), (.iconst (-1), 0, (-1), []), (.iastore, 0, 0, []), (.iinc 9 1, 9, 1, []), (.goto (-21), 117, 0, []), (.iload_n 3, 3, 0, []), (.iload 8, 8, 0, []), (.iadd, 0, 0, []), (.istore_n 3, 3, 0, []), (.iinc 4 (-1), 4, (-1), []), (.goto (-171), 42, 0, []), (.iload_n 3, 3, 0, []), (.ireturn, 0, 0, [])]
def qX8_tell : List Nat := [0, 1, 2, 3, 4, 5, 8, 9, 10, 11, 14, 15, 18, 19, 20, 21, 24, 25, 28, 29, 30, 31, 34, 35, 38, 39, 40, 42, 44, 45, 48, 51, 52, 55, 57, 58, 59, 62, 65, 66, 67, 68, 70, 72, 75, 76, 79, 80, 83, 84, 87, 89, 90, 91, 92, 94, 95, 97, 98, 101, 103, 104, 105, 108, 110, 113, 115, 116, 119, 121, 122, 123, 126, 127, 130, 131, 132, 134, 137, 140, 141, 144, 145, 148, 150, 151, 152, 154, 155, 157, 160, 162, 163, 164, 165, 167, 169, 171, 174, 175, 178, 180, 182, 183, 184, 187, 189, 190, 191, 194, 197, 198, 201, 203, 205, 206, 207, 209, 211, 213, 216, 217, 220, 222, 224, 225, 226, 227, 230, 233, 234, 236, 237, 238, 241, 244, 245]
def pX8_isIdle : List PI := [(.aload_n 0, 0, 0, []), (.iload_n 1, 1, 0, []), (.ifCond .lt 23, 13, 0, []), (.iload_n 1, 1, 0, []), (.aload_n 0, 0, 0, []), (.getfield 129, 7, 0, [8]), (.if_icmp .ge 15, 13, 0, []), (.aload_n 0, 0, 0, []), (.getfield 53, 24, 0, [8]), (.iconst (-1), 0, (-1), []), (.if_icmp .eq 7, 13, 0, []), (.iconst 0, 0, 0, []), (.goto 4, 14, 0, []), (.iconst 1, 0, 1, []), (.putfield 93, 0, 0, [8]), (.aload_n 0, 0, 0, []), (.getfield 93, 0, 0, [8]), (.ifCond .le 5, 20, 0, []), (.iconst 0, 0, 0, []), (.ireturn, 0, 0, []), (.iconst 1, 0, 1, []), (.istore_n 2, 2, 0, []), (.iconst 0, 0, 0, []), (.istore_n 3, 3, 0, []), (.iload_n 3, 3, 0, []), (.aload_n 0, 0, 0, []), (.getfield 53, 24, 0, [8]), (.if_icmp .ge 39, 48, 0, []), (.iload_n 2, 2, 0, []), (.ifCond .eq 27, 44, 0, []), (.aload_n 0, 0, 0, []), (.getfield 57, 26, 0, [8]), (.iload_n 3, 3, 0, []), (.iaload, 0, 0, []), (.iconst 1, 0, 1, []), (.if_icmp .ne 13, 42, 0, []), (.aload_n 0, 0, 0, []), (.getfield 69, 30, 0, [8]), (.iload_n 3, 3, 0, []), (.iaload, 0, 0, []), (.iload_n 1, 1, 0, []), (.if_icmp .eq 7, 44, 0, []), (.iconst 1, 0, 1, []), (.goto 4, 45, 0, []), (.iconst 0, 0, 0, []), (.istore_n 2, 2, 0, []), (.iinc 3 1, 3, 1, []), (.goto (-41), 24, 0, []), (.iload_n 2, 2, 0, []), (.ireturn, 0, 0, [])]
def qX8_isIdle : List Nat := [0, 1, 2, 5, 6, 7, 10, 13, 14, 17, 18, 21, 22, 25, 26, 29, 30, 33, 36, 37, 38, 39, 40, 41, 42, 43, 44, 47, 50, 51, 54, 55, 58, 59, 60, 61, 64, 65, 68, 69, 70, 71, 74, 75, 78, 79, 80, 83, 86, 87]
def pX8_tests : List PI := [(.aload_n 0, 0, 0, []), (.invokevirtual 152, 135, 0, [0, 2, 8]), (.ifCond .ne 5, 5, 0, []), (.iconst 0, 0, 0, []), (.ireturn, 0, 0, []), (.aload_n 0, 0, 0, []), (.getfield 53, 24, 0, [8]), (.iconst (-1), 0, (-1), []), (.if_icmp .ne 10, 14, 0, []), (.aload_n 0, 0, 0, []), (.iconst 3, 0, 3, []), (.putfield 93, 0, 0, [8]), (.iconst 0, 0, 0, []), (.ireturn, 0, 0, []), (.iconst 0, 0, 0, []), (.istore_n 1, 1, 0, []), (.iconst 0, 0, 0, []), (.istore_n 2, 2, 0, []), (.aload_n 0, 0, 0, []), (.getfield 114, 6, 0, [8]), (.istore_n 3, 3, 0, []), (.iconst 0, 0, 0, []), (.istore 4, 4, 0, []), (.iconst 0, 0, 0, []), (.istore 5, 5, 0, []), (.iload 5, 5, 0, []), (.aload_n 0, 0, 0, []), (.getfield 114, 6, 0, [8]), (.if_icmp .ge 30, 42, 0, []), (.aload_n 0, 0, 0, []), (.getfield 50, 23, 0, [8]), (.iload 5, 5, 0, []), (.iload 4, 4, 0, []), (.iastore, 0, 0, []), (.aload_n 0, 0, 0, []), (.aload_n 0, 0, 0, []), (.getfield 32, 14, 0, [8]), (.iload 4, 4, 0, []), (.invokevirtual 146, 132, 0, [2, 1, 8]), (.istore 4, 4, 0, []), (.iinc 5 1, 5, 1, []), (.goto (-33), 25, 0, []), (.aload_n 0, 0, 0, []), (.getfield 57, 26, 0, [8]), (.iload_n 1, 1, 0, []), (.iaload, 0, 0, []), (.iconst 2, 0, 2, []), (.if_icmp .ne 215, 164, 0, []), (.iinc 2 1, 2, 1, []), (.aload_n 0, 0, 0, []), (.getfield 60, 27, 0, [8]), (.iload_n 1, 1, 0, []), (.iaload, 0, 0, []), (.istore 5, 5, 0, []), (.aload_n 0, 0, 0, []), (.getfield 50, 23, 0, [8]), (.iload 5, 5, 0, []), (.iaload, 0, 0, []), (.istore 6, 6, 0, []), (.aload_n 0, 0, 0, []), (.getfield 32, 14, 0, [8]), (.iload 6, 6, 0, []), (.iaload, 0, 0, []), (.istore 7, 7, 0, []), (.aload_n 0, 0, 0, []), (.iload 7, 7, 0, []), (.invokevirtual 123, 117, 0, [1, 1, 8]), (.istore 8, 8, 0, []), (.iload_n 3, 3, 0, []), (.iconst 1, 0, 1, []), (.isub, 0, 0, []), (.istore 9, 9, 0, []), (.iload 8, 8, 0, []), (.iconst 1, 0, 1, []), (.if_icmp .le 35, 92, 0, []), (.iload 9, 9, 0, []), (.iload 5, 5, 0, []), (.if_icmp .le 28, 92, 0, []), (.aload_n 0, 0, 0, []), (.getfield 50, 23, 0, [8]), (.iload 9, 9, 0, []), (.iload 8, 8, 0, []), (.iadd, 0, 0, []), (.iconst 1, 0, 1, []), (.isub, 0, 0, []), (.aload_n 0, 0, 0, []), (.getfield 50, 23, 0, [8]), (.iload 9, 9, 0, []), (.iaload, 0, 0, []), (.iastore, 0, 0, []), (.iinc 9 (-1), 9, (-1), []), (.goto (-35), 72, 0, []), (.iload 5, 5, 0, []), (.istore 9, 9, 0, []), (.iload 8, 8, 0, []), (.ifCond .ne 33, 113, 0, []), (.iload 9, 9, 0, []), (.iconst 1, 0, 1, []), (.iadd, 0, 0, []), (.iload_n 3, 3, 0, []), (.if_icmp .ge 25, 113, 0, []), (.aload_n 0, 0, 0, []), (.getfield 50, 23, 0, [8]), (.iload 9, 9, 0, []), (.aload_n 0, 0, 0, []), (.getfield 50, 23, 0, [8]), (.iload 9, 9, 0, []), (.iconst 1, 0, 1, []), (.iadd, 0, 0, []), (.iaload, 0, 0, []), (.iastore, 0, 0, []), (.iinc 9 1, 9, 1, []), (.goto (-32), 94, 0, []), (.iload 6, 6, 0, []), (.iconst 1, 0, 1, []), (.iadd, 0, 0, []), (.istore 9, 9, 0, []), (.iconst 0, 0, 0, []), (.istore 10, 10, 0, []), (.iload 10, 10, 0, []), (.iload 8, 8, 0, []), (.if_icmp .ge 33, 137, 0, []), (.aload_n 0, 0, 0, []), (.getfield 50, 23, 0, [8]), (.iload 5, 5, 0, []), (.iload 10, 10, 0, []), (.iadd, 0, 0, []), (.iload 9, 9, 0, []), (.iastore, 0, 0, []), (.aload_n 0, 0, 0, []), (.aload_n 0, 0, 0, []), (.getfield 32, 14, 0, [8]), (.iload 9, 9, 0, []), (.invokevirtual 146, 132, 0, [2, 1, 8]), (.istore 9, 9, 0, []), (.iinc 10 1, 10, 1, []), (.goto (-34), 119, 0, []), (.iload_n 3, 3, 0, []), (.iload 8, 8, 0, []), (.iconst 1, 0, 1, []), (.isub, 0, 0, []), (.iadd, 0, 0, []), (.istore_n 3, 3, 0, []), (.iload_n 1, 1, 0, []), (.iconst 1, 0, 1, []), (.iadd, 0, 0, []), (.istore 10, 10, 0, []), (.aload_n 0, 0, 0, []), (.getfield 72, 31, 0, [8]), (.iload 10, 10, 0, []), (.iaload, 0, 0, []), (.iload_n 1, 1, 0, []), (.if_icmp .ne 15, 159, 0, []), (.aload_n 0, 0, 0, []), (.getfield 75, 32, 0, [8]), (.iload 10, 10, 0, []), (.iaload, 0, 0, []), (.iload 7, 7, 0, []), (.if_icmp .eq 9, 161, 0, []), (.iinc 10 1, 10, 1, []), (.goto (-26), 147, 0, []), (.iload 10, 10, 0, []), (.istore_n 1, 1, 0, []), (.goto (-219), 42, 0, []), (.iload_n 2, 2, 0, []), (.ireturn, 0, 0, [])]
def qX8_tests : List Nat := [0, 1, 4, 7, 8, 9, 10, 13, 14, 17, 18, 19, 22, 23, 24, 25, 26, 27, 28, 29, 32, 33, 34, 36, 37, 39, 41, 42, 45, 48, 49, 52, 54, 56, 57, 58, 59, 62, 64, 67, 69, 72, 75, 76, 79, 80, 81, 82, 85, 88, 89, 92, 93, 94, 96, 97, 100, 102, 103, 105, 106, 109, 111, 112, 114, 115, 117, 120, 122, 123, 124, 125, 127, 129, 130, 133, 135, 137, 140, 141, 144, 146, 148, 149, 150, 151, 152, 155, 157, 158, 159, 162, 165, 167, 169, 171, 174, 176, 177, 178, 179, 182, 183, 186, 188, 189, 192, 194, 195, 196, 197, 198, 201, 204, 206, 207, 208, 210, 211, 213, 215, 217, 220, 221, 224, 226, 228, 229, 231, 232, 233, 234, 237, 239, 242, 244, 247, 250, 251, 253, 254, 255, 256, 257, 258, 259, 260, 262, 263, 266, 268, 269, 270, 273, 274, 277, 279, 280, 282, 285, 288, 291, 293, 294, 297, 298]
def pX8_about : List PI := [(.aload_n 0, 0, 0, []), (.iconst 0, 0, 0, []), (.putfield 93, 0, 0, [8]), (.iload_n 1, 1, 0, []), (.tableswitch 77 0 6 #[42, 47, 52, 57, 62, 67, 72], 26, 0, [5, 8, 11, 14, 17, 20, 23]), (.aload_n 0, 0, 0, []), (.getfield 96, 1, 0, [8]), (.ireturn, 0, 0, []), (.aload_n 0, 0, 0, []), (.getfield 99, 2, 0, [8]), (.ireturn, 0, 0, []), (.aload_n 0, 0, 0, []), (.getfield 114, 6, 0, [8]), (.ireturn, 0, 0, []), (.aload_n 0, 0, 0, []), (.getfield 129, 7, 0, [8]), (.ireturn, 0, 0, []), (.aload_n 0, 0, 0, []), (.getfield 132, 8, 0, [8]), (.ireturn, 0, 0, []), (.aload_n 0, 0, 0, []), (.getfield 135, 9, 0, [8]), (.ireturn, 0, 0, []), (.aload_n 0, 0, 0, []), (.getfield 53, 24, 0, [8]), (.ireturn, 0, 0, []), (.iconst (-1), 0, (-1), []), (.ireturn, 0, 0, [])]
def qX8_about : List Nat := [0, 1, 2, 5, 6, 48, 49, 52, 53, 54, 57, 58, 59, 62, 63, 64, 67, 68, 69, 72, 73, 74, 77, 78, 79, 82, 83, 84]
/-- a method: its class, name, bytes, locals, answer (0 none, 1 an int, 2 a boolean), arguments, rows, where each row stands -/
abbrev MI : Type := Nat × MethodName × ByteArray × Nat × Nat × Nat × List PI × List Nat
def mm_MT0 : List MI := [(0, yX0_forget, cX0_forget, 1, 0, 0, pX0_forget, qX0_forget),
  (0, yX0_shown, cX0_shown, 1, 1, 0, pX0_shown, qX0_shown),
  (0, yX0_show, cX0_show, 7, 0, 2, pX0_show, qX0_show),
  (0, yX0_signAt, cX0_signAt, 2, 1, 1, pX0_signAt, qX0_signAt),
  (0, yX0_putFound, cX0_putFound, 6, 0, 2, pX0_putFound, qX0_putFound),
  (0, yX0_anyOf, cX0_anyOf, 4, 1, 1, pX0_anyOf, qX0_anyOf),
  (1, yX1_begin, cX1_begin, 4, 0, 2, pX1_begin, qX1_begin),
  (1, yX1_count, cX1_count, 1, 1, 0, pX1_count, qX1_count),
  (1, yX1_isFull, cX1_isFull, 1, 2, 0, pX1_isFull, qX1_isFull),
  (1, yX1_asks, cX1_asks, 1, 2, 0, pX1_asks, qX1_asks),
  (1, yX1_takesMaker, cX1_takesMaker, 2, 2, 1, pX1_takesMaker, qX1_takesMaker),
  (1, yX1_put, cX1_put, 4, 1, 1, pX1_put, qX1_put),
  (1, yX1_signAt, cX1_signAt, 2, 1, 1, pX1_signAt, qX1_signAt),
  (1, yX1_endAt, cX1_endAt, 2, 1, 1, pX1_endAt, qX1_endAt),
  (1, yX1_findEnds, cX1_findEnds, 6, 0, 0, pX1_findEnds, qX1_findEnds),
  (1, yX1_nextAsked, cX1_nextAsked, 1, 1, 0, pX1_nextAsked, qX1_nextAsked),
  (1, yX1_ask, cX1_ask, 2, 0, 1, pX1_ask, qX1_ask),
  (2, yX2_typeCount, cX2_typeCount, 1, 1, 0, pX2_typeCount, qX2_typeCount),
  (2, yX2_makerCount, cX2_makerCount, 1, 1, 0, pX2_makerCount, qX2_makerCount),
  (2, yX2_hasType, cX2_hasType, 2, 2, 1, pX2_hasType, qX2_hasType)]
def mm_MT1 : List MI := [(2, yX2_hasMaker, cX2_hasMaker, 2, 2, 1, pX2_hasMaker, qX2_hasMaker),
  (2, yX2_hasRoomForMaker, cX2_hasRoomForMaker, 2, 2, 1, pX2_hasRoomForMaker, qX2_hasRoomForMaker),
  (2, yX2_hasValue, cX2_hasValue, 2, 2, 1, pX2_hasValue, qX2_hasValue),
  (2, yX2_typeOf, cX2_typeOf, 2, 1, 1, pX2_typeOf, qX2_typeOf),
  (2, yX2_fieldCount, cX2_fieldCount, 2, 1, 1, pX2_fieldCount, qX2_fieldCount),
  (2, yX2_fieldType, cX2_fieldType, 4, 1, 2, pX2_fieldType, qX2_fieldType),
  (2, yX2_isDead, cX2_isDead, 3, 2, 1, pX2_isDead, qX2_isDead),
  (2, yX2_addType, cX2_addType, 2, 1, 0, pX2_addType, qX2_addType),
  (2, yX2_addMaker, cX2_addMaker, 7, 1, 5, pX2_addMaker, qX2_addMaker),
  (2, yX2_findValued, cX2_findValued, 5, 0, 0, pX2_findValued, qX2_findValued),
  (3, yX3_clear, cX3_clear, 1, 0, 0, pX3_clear, qX3_clear),
  (3, yX3_count, cX3_count, 1, 1, 0, pX3_count, qX3_count),
  (3, yX3_add, cX3_add, 5, 1, 1, pX3_add, qX3_add),
  (3, yX3_startOf, cX3_startOf, 2, 1, 1, pX3_startOf, qX3_startOf),
  (3, yX3_signAt, cX3_signAt, 2, 1, 1, pX3_signAt, qX3_signAt),
  (3, yX3_endAt, cX3_endAt, 2, 1, 1, pX3_endAt, qX3_endAt),
  (4, yX4_begin, cX4_begin, 4, 0, 1, pX4_begin, qX4_begin),
  (4, yX4_makerAt, cX4_makerAt, 2, 1, 1, pX4_makerAt, qX4_makerAt),
  (4, yX4_openUp, cX4_openUp, 6, 0, 2, pX4_openUp, qX4_openUp),
  (4, yX4_makeGap, cX4_makeGap, 5, 0, 2, pX4_makeGap, qX4_makeGap)]
def mm_MT2 : List MI := [(4, yX4_isSeat, cX4_isSeat, 2, 2, 1, pX4_isSeat, qX4_isSeat),
  (5, yX5_begin, cX5_begin, 7, 0, 2, pX5_begin, qX5_begin),
  (5, yX5_hasOpen, cX5_hasOpen, 1, 2, 0, pX5_hasOpen, qX5_hasOpen),
  (5, yX5_drop, cX5_drop, 1, 0, 0, pX5_drop, qX5_drop),
  (5, yX5_placeCount, cX5_placeCount, 1, 1, 0, pX5_placeCount, qX5_placeCount),
  (5, yX5_lineCount, cX5_lineCount, 1, 1, 0, pX5_lineCount, qX5_lineCount),
  (5, yX5_openNode, cX5_openNode, 1, 1, 0, pX5_openNode, qX5_openNode),
  (5, yX5_typeAt, cX5_typeAt, 2, 1, 1, pX5_typeAt, qX5_typeAt),
  (5, yX5_firstRow, cX5_firstRow, 1, 1, 0, pX5_firstRow, qX5_firstRow),
  (5, yX5_splitEithers, cX5_splitEithers, 3, 2, 0, pX5_splitEithers, qX5_splitEithers),
  (5, yX5_firstTested, cX5_firstTested, 2, 1, 0, pX5_firstTested, qX5_firstTested),
  (5, yX5_keepFor, cX5_keepFor, 3, 0, 2, pX5_keepFor, qX5_keepFor),
  (5, yX5_nextBranch, cX5_nextBranch, 3, 1, 0, pX5_nextBranch, qX5_nextBranch),
  (5, yX5_openBranch, cX5_openBranch, 11, 2, 2, pX5_openBranch, qX5_openBranch),
  (5, yX5_pile, cX5_pile, 3, 0, 2, pX5_pile, qX5_pile),
  (5, yX5_addLine, cX5_addLine, 3, 1, 1, pX5_addLine, qX5_addLine),
  (5, yX5_splitAt, cX5_splitAt, 7, 2, 2, pX5_splitAt, qX5_splitAt),
  (5, yX5_isEither, cX5_isEither, 2, 2, 1, pX5_isEither, qX5_isEither),
  (5, yX5_doubleLine, cX5_doubleLine, 4, 0, 1, pX5_doubleLine, qX5_doubleLine),
  (5, yX5_copyAround, cX5_copyAround, 6, 0, 5, pX5_copyAround, qX5_copyAround)]
def mm_MT3 : List MI := [(5, yX5_putFields, cX5_putFields, 6, 0, 3, pX5_putFields, qX5_putFields),
  (5, yX5_cellOf, cX5_cellOf, 2, 1, 1, pX5_cellOf, qX5_cellOf),
  (5, yX5_lineAt, cX5_lineAt, 2, 1, 1, pX5_lineAt, qX5_lineAt),
  (5, yX5_head, cX5_head, 2, 1, 1, pX5_head, qX5_head),
  (5, yX5_get, cX5_get, 2, 1, 1, pX5_get, qX5_get),
  (5, yX5_set, cX5_set, 3, 0, 2, pX5_set, qX5_set),
  (5, yX5_copy, cX5_copy, 5, 0, 3, pX5_copy, qX5_copy),
  (5, yX5_reserve, cX5_reserve, 2, 0, 1, [], [0]),
  (6, yX6_fell, cX6_fell, 1, 0, 0, pX6_fell, qX6_fell),
  (6, yX6_stand, cX6_stand, 1, 0, 0, pX6_stand, qX6_stand),
  (6, yX6_stands, cX6_stands, 1, 2, 0, pX6_stands, qX6_stands),
  (6, yX6_count, cX6_count, 1, 1, 0, pX6_count, qX6_count),
  (6, yX6_failCount, cX6_failCount, 1, 1, 0, pX6_failCount, qX6_failCount),
  (6, yX6_add, cX6_add, 5, 1, 2, pX6_add, qX6_add),
  (6, yX6_makeFail, cX6_makeFail, 2, 0, 1, pX6_makeFail, qX6_makeFail),
  (6, yX6_makeLeaf, cX6_makeLeaf, 3, 0, 2, pX6_makeLeaf, qX6_makeLeaf),
  (6, yX6_makeTest, cX6_makeTest, 5, 0, 4, pX6_makeTest, qX6_makeTest),
  (6, yX6_kindOf, cX6_kindOf, 2, 1, 1, pX6_kindOf, qX6_kindOf),
  (6, yX6_testedPlace, cX6_testedPlace, 2, 1, 1, pX6_testedPlace, qX6_testedPlace),
  (6, yX6_makerOf, cX6_makerOf, 2, 1, 1, pX6_makerOf, qX6_makerOf)]
def mm_MT4 : List MI := [(6, yX6_tell, cX6_tell, 3, 1, 2, pX6_tell, qX6_tell),
  (6, yX6_branchOf, cX6_branchOf, 5, 1, 2, pX6_branchOf, qX6_branchOf),
  (6, yX6_branchTowards, cX6_branchTowards, 6, 1, 2, pX6_branchTowards, qX6_branchTowards),
  (6, yX6_failNode, cX6_failNode, 4, 1, 1, pX6_failNode, qX6_failNode),
  (6, yX6_hasLeafOf, cX6_hasLeafOf, 3, 2, 1, pX6_hasLeafOf, qX6_hasLeafOf),
  (6, yX6_branchAt, cX6_branchAt, 5, 1, 2, pX6_branchAt, qX6_branchAt),
  (6, yX6_hang, cX6_hang, 4, 0, 2, pX6_hang, qX6_hang),
  (6, yX6_get, cX6_get, 4, 1, 2, pX6_get, qX6_get),
  (6, yX6_set, cX6_set, 4, 0, 3, pX6_set, qX6_set),
  (7, yX7_type, cX7_type, 1, 1, 0, pX7_type, qX7_type),
  (7, yX7_maker, cX7_maker, 6, 1, 4, pX7_maker, qX7_maker),
  (7, yX7_isEmpty, cX7_isEmpty, 2, 2, 1, pX7_isEmpty, qX7_isEmpty),
  (7, yX7_match, cX7_match, 5, 0, 3, pX7_match, qX7_match),
  (7, yX7_sign, cX7_sign, 3, 1, 1, pX7_sign, qX7_sign),
  (7, yX7_row, cX7_row, 2, 1, 0, pX7_row, qX7_row),
  (7, yX7_compile, cX7_compile, 2, 1, 0, pX7_compile, qX7_compile),
  (7, yX7_node, cX7_node, 3, 1, 2, pX7_node, qX7_node),
  (7, yX7_missing, cX7_missing, 1, 1, 0, pX7_missing, qX7_missing),
  (7, yX7_missingSign, cX7_missingSign, 3, 1, 2, pX7_missingSign, qX7_missingSign),
  (7, yX7_isIdle, cX7_isIdle, 2, 2, 1, pX7_isIdle, qX7_isIdle)]
def mm_MT5 : List MI := [(7, yX7_give, cX7_give, 2, 1, 1, pX7_give, qX7_give),
  (7, yX7_answer, cX7_answer, 2, 1, 0, pX7_answer, qX7_answer),
  (7, yX7_tests, cX7_tests, 1, 1, 0, pX7_tests, qX7_tests),
  (7, yX7_empty, cX7_empty, 1, 0, 0, pX7_empty, qX7_empty),
  (7, yX7_about, cX7_about, 2, 1, 1, pX7_about, qX7_about),
  (7, yX7_countTypes, cX7_countTypes, 4, 1, 3, pX7_countTypes, qX7_countTypes),
  (7, yX7_beginMatch, cX7_beginMatch, 5, 0, 4, pX7_beginMatch, qX7_beginMatch),
  (7, yX7_refuseWithoutMatch, cX7_refuseWithoutMatch, 1, 0, 0, pX7_refuseWithoutMatch, qX7_refuseWithoutMatch),
  (7, yX7_refuseWithoutWholeValues, cX7_refuseWithoutWholeValues, 1, 0, 0, pX7_refuseWithoutWholeValues, qX7_refuseWithoutWholeValues),
  (7, yX7_rowTakesValues, cX7_rowTakesValues, 5, 2, 1, pX7_rowTakesValues, qX7_rowTakesValues),
  (7, yX7_takes, cX7_takes, 9, 2, 3, pX7_takes, qX7_takes),
  (7, yX7_countTests, cX7_countTests, 5, 1, 0, pX7_countTests, qX7_countTests),
  (7, yX7_growTree, cX7_growTree, 5, 2, 0, pX7_growTree, qX7_growTree),
  (7, yX7_addNode, cX7_addNode, 6, 2, 2, pX7_addNode, qX7_addNode),
  (8, yX8_thrown, cX8_thrown, 1, 1, 0, pX8_thrown, qX8_thrown),
  (8, yX8_isType, cX8_isType, 2, 2, 1, pX8_isType, qX8_isType),
  (8, yX8_makersOf, cX8_makersOf, 4, 1, 1, pX8_makersOf, qX8_makersOf),
  (8, yX8_fields, cX8_fields, 2, 1, 1, pX8_fields, qX8_fields),
  (8, yX8_type, cX8_type, 1, 1, 0, pX8_type, qX8_type),
  (8, yX8_areTypes, cX8_areTypes, 4, 2, 3, pX8_areTypes, qX8_areTypes)]
def mm_MT6 : List MI := [(8, yX8_maker, cX8_maker, 5, 1, 4, pX8_maker, qX8_maker),
  (8, yX8_find, cX8_find, 3, 0, 0, pX8_find, qX8_find),
  (8, yX8_isDead, cX8_isDead, 4, 2, 1, pX8_isDead, qX8_isDead),
  (8, yX8_isEmpty, cX8_isEmpty, 2, 2, 1, pX8_isEmpty, qX8_isEmpty),
  (8, yX8_forget, cX8_forget, 1, 0, 0, pX8_forget, qX8_forget),
  (8, yX8_match, cX8_match, 4, 0, 3, pX8_match, qX8_match),
  (8, yX8_next, cX8_next, 8, 1, 2, pX8_next, qX8_next),
  (8, yX8_isMakerOf, cX8_isMakerOf, 3, 2, 2, pX8_isMakerOf, qX8_isMakerOf),
  (8, yX8_sign, cX8_sign, 3, 1, 1, pX8_sign, qX8_sign),
  (8, yX8_row, cX8_row, 3, 1, 0, pX8_row, qX8_row),
  (8, yX8_give, cX8_give, 2, 1, 1, pX8_give, qX8_give),
  (8, yX8_empty, cX8_empty, 1, 0, 0, pX8_empty, qX8_empty),
  (8, yX8_behind, cX8_behind, 6, 1, 2, pX8_behind, qX8_behind),
  (8, yX8_rowTakes, cX8_rowTakes, 6, 2, 1, pX8_rowTakes, qX8_rowTakes),
  (8, yX8_fieldsTake, cX8_fieldsTake, 7, 2, 2, pX8_fieldsTake, qX8_fieldsTake),
  (8, yX8_canAnswer, cX8_canAnswer, 1, 2, 0, pX8_canAnswer, qX8_canAnswer),
  (8, yX8_answer, cX8_answer, 2, 1, 0, pX8_answer, qX8_answer),
  (8, yX8_signOf, cX8_signOf, 2, 1, 1, pX8_signOf, qX8_signOf),
  (8, yX8_firstTable, cX8_firstTable, 4, 0, 0, pX8_firstTable, qX8_firstTable),
  (8, yX8_part, cX8_part, 5, 0, 0, pX8_part, qX8_part)]
def mm_MT7 : List MI := [(8, yX8_doubled, cX8_doubled, 6, 0, 3, pX8_doubled, qX8_doubled),
  (8, yX8_branch, cX8_branch, 8, 0, 2, pX8_branch, qX8_branch),
  (8, yX8_widen, cX8_widen, 8, 0, 5, pX8_widen, qX8_widen),
  (8, yX8_tableOf, cX8_tableOf, 5, 0, 2, pX8_tableOf, qX8_tableOf),
  (8, yX8_begin, cX8_begin, 6, 0, 2, pX8_begin, qX8_begin),
  (8, yX8_compile, cX8_compile, 1, 1, 0, pX8_compile, qX8_compile),
  (8, yX8_isNode, cX8_isNode, 2, 2, 1, pX8_isNode, qX8_isNode),
  (8, yX8_branchOf, cX8_branchOf, 5, 1, 2, pX8_branchOf, qX8_branchOf),
  (8, yX8_node, cX8_node, 4, 1, 2, pX8_node, qX8_node),
  (8, yX8_missing, cX8_missing, 3, 1, 0, pX8_missing, qX8_missing),
  (8, yX8_missingSign, cX8_missingSign, 6, 1, 2, pX8_missingSign, qX8_missingSign),
  (8, yX8_tell, cX8_tell, 10, 1, 1, pX8_tell, qX8_tell),
  (8, yX8_isIdle, cX8_isIdle, 4, 2, 1, pX8_isIdle, qX8_isIdle),
  (8, yX8_tests, cX8_tests, 11, 1, 0, pX8_tests, qX8_tests),
  (8, yX8_about, cX8_about, 2, 1, 1, pX8_about, qX8_about)]
def mm_MT : List MI := mm_MT0 ++ (mm_MT1 ++ (mm_MT2 ++ (mm_MT3 ++ (mm_MT4 ++ (mm_MT5 ++ (mm_MT6 ++ (mm_MT7)))))))
def mm_yRes : Nat := 67
abbrev mY0_forget : Nat := 0
abbrev mY0_shown : Nat := 1
abbrev mY0_show : Nat := 2
abbrev mY0_signAt : Nat := 3
abbrev mY0_putFound : Nat := 4
abbrev mY0_anyOf : Nat := 5
abbrev mY1_begin : Nat := 6
abbrev mY1_count : Nat := 7
abbrev mY1_isFull : Nat := 8
abbrev mY1_asks : Nat := 9
abbrev mY1_takesMaker : Nat := 10
abbrev mY1_put : Nat := 11
abbrev mY1_signAt : Nat := 12
abbrev mY1_endAt : Nat := 13
abbrev mY1_findEnds : Nat := 14
abbrev mY1_nextAsked : Nat := 15
abbrev mY1_ask : Nat := 16
abbrev mY2_typeCount : Nat := 17
abbrev mY2_makerCount : Nat := 18
abbrev mY2_hasType : Nat := 19
abbrev mY2_hasMaker : Nat := 20
abbrev mY2_hasRoomForMaker : Nat := 21
abbrev mY2_hasValue : Nat := 22
abbrev mY2_typeOf : Nat := 23
abbrev mY2_fieldCount : Nat := 24
abbrev mY2_fieldType : Nat := 25
abbrev mY2_isDead : Nat := 26
abbrev mY2_addType : Nat := 27
abbrev mY2_addMaker : Nat := 28
abbrev mY2_findValued : Nat := 29
abbrev mY3_clear : Nat := 30
abbrev mY3_count : Nat := 31
abbrev mY3_add : Nat := 32
abbrev mY3_startOf : Nat := 33
abbrev mY3_signAt : Nat := 34
abbrev mY3_endAt : Nat := 35
abbrev mY4_begin : Nat := 36
abbrev mY4_makerAt : Nat := 37
abbrev mY4_openUp : Nat := 38
abbrev mY4_makeGap : Nat := 39
abbrev mY4_isSeat : Nat := 40
abbrev mY5_begin : Nat := 41
abbrev mY5_hasOpen : Nat := 42
abbrev mY5_drop : Nat := 43
abbrev mY5_placeCount : Nat := 44
abbrev mY5_lineCount : Nat := 45
abbrev mY5_openNode : Nat := 46
abbrev mY5_typeAt : Nat := 47
abbrev mY5_firstRow : Nat := 48
abbrev mY5_splitEithers : Nat := 49
abbrev mY5_firstTested : Nat := 50
abbrev mY5_keepFor : Nat := 51
abbrev mY5_nextBranch : Nat := 52
abbrev mY5_openBranch : Nat := 53
abbrev mY5_pile : Nat := 54
abbrev mY5_addLine : Nat := 55
abbrev mY5_splitAt : Nat := 56
abbrev mY5_isEither : Nat := 57
abbrev mY5_doubleLine : Nat := 58
abbrev mY5_copyAround : Nat := 59
abbrev mY5_putFields : Nat := 60
abbrev mY5_cellOf : Nat := 61
abbrev mY5_lineAt : Nat := 62
abbrev mY5_head : Nat := 63
abbrev mY5_get : Nat := 64
abbrev mY5_set : Nat := 65
abbrev mY5_copy : Nat := 66
abbrev mY5_reserve : Nat := 67
abbrev mY6_fell : Nat := 68
abbrev mY6_stand : Nat := 69
abbrev mY6_stands : Nat := 70
abbrev mY6_count : Nat := 71
abbrev mY6_failCount : Nat := 72
abbrev mY6_add : Nat := 73
abbrev mY6_makeFail : Nat := 74
abbrev mY6_makeLeaf : Nat := 75
abbrev mY6_makeTest : Nat := 76
abbrev mY6_kindOf : Nat := 77
abbrev mY6_testedPlace : Nat := 78
abbrev mY6_makerOf : Nat := 79
abbrev mY6_tell : Nat := 80
abbrev mY6_branchOf : Nat := 81
abbrev mY6_branchTowards : Nat := 82
abbrev mY6_failNode : Nat := 83
abbrev mY6_hasLeafOf : Nat := 84
abbrev mY6_branchAt : Nat := 85
abbrev mY6_hang : Nat := 86
abbrev mY6_get : Nat := 87
abbrev mY6_set : Nat := 88
abbrev mY7_type : Nat := 89
abbrev mY7_maker : Nat := 90
abbrev mY7_isEmpty : Nat := 91
abbrev mY7_match : Nat := 92
abbrev mY7_sign : Nat := 93
abbrev mY7_row : Nat := 94
abbrev mY7_compile : Nat := 95
abbrev mY7_node : Nat := 96
abbrev mY7_missing : Nat := 97
abbrev mY7_missingSign : Nat := 98
abbrev mY7_isIdle : Nat := 99
abbrev mY7_give : Nat := 100
abbrev mY7_answer : Nat := 101
abbrev mY7_tests : Nat := 102
abbrev mY7_empty : Nat := 103
abbrev mY7_about : Nat := 104
abbrev mY7_countTypes : Nat := 105
abbrev mY7_beginMatch : Nat := 106
abbrev mY7_refuseWithoutMatch : Nat := 107
abbrev mY7_refuseWithoutWholeValues : Nat := 108
abbrev mY7_rowTakesValues : Nat := 109
abbrev mY7_takes : Nat := 110
abbrev mY7_countTests : Nat := 111
abbrev mY7_growTree : Nat := 112
abbrev mY7_addNode : Nat := 113
abbrev mY8_thrown : Nat := 114
abbrev mY8_isType : Nat := 115
abbrev mY8_makersOf : Nat := 116
abbrev mY8_fields : Nat := 117
abbrev mY8_type : Nat := 118
abbrev mY8_areTypes : Nat := 119
abbrev mY8_maker : Nat := 120
abbrev mY8_find : Nat := 121
abbrev mY8_isDead : Nat := 122
abbrev mY8_isEmpty : Nat := 123
abbrev mY8_forget : Nat := 124
abbrev mY8_match : Nat := 125
abbrev mY8_next : Nat := 126
abbrev mY8_isMakerOf : Nat := 127
abbrev mY8_sign : Nat := 128
abbrev mY8_row : Nat := 129
abbrev mY8_give : Nat := 130
abbrev mY8_empty : Nat := 131
abbrev mY8_behind : Nat := 132
abbrev mY8_rowTakes : Nat := 133
abbrev mY8_fieldsTake : Nat := 134
abbrev mY8_canAnswer : Nat := 135
abbrev mY8_answer : Nat := 136
abbrev mY8_signOf : Nat := 137
abbrev mY8_firstTable : Nat := 138
abbrev mY8_part : Nat := 139
abbrev mY8_doubled : Nat := 140
abbrev mY8_branch : Nat := 141
abbrev mY8_widen : Nat := 142
abbrev mY8_tableOf : Nat := 143
abbrev mY8_begin : Nat := 144
abbrev mY8_compile : Nat := 145
abbrev mY8_isNode : Nat := 146
abbrev mY8_branchOf : Nat := 147
abbrev mY8_node : Nat := 148
abbrev mY8_missing : Nat := 149
abbrev mY8_missingSign : Nat := 150
abbrev mY8_tell : Nat := 151
abbrev mY8_isIdle : Nat := 152
abbrev mY8_tests : Nat := 153
abbrev mY8_about : Nat := 154
/-- fields: class, pool number, slot -/
def mm_FT : List (Nat × Nat × Nat) := [(0, 9, 0), (0, 15, 1), (0, 19, 2), (0, 23, 4), (0, 33, 3), (1, 9, 0), (1, 21, 1), (1, 25, 2), (1, 28, 3), (1, 31, 4), (1, 35, 5), (2, 9, 2), (2, 15, 3), (2, 19, 4), (2, 22, 5), (2, 25, 6), (2, 28, 0), (2, 32, 1), (3, 9, 0), (3, 15, 1), (3, 18, 2), (4, 9, 0), (4, 15, 1), (4, 19, 2), (4, 29, 3), (5, 9, 0), (5, 15, 1), (5, 19, 2), (5, 23, 3), (5, 37, 4), (5, 68, 5), (6, 11, 0), (6, 15, 1), (6, 19, 2), (6, 22, 3), (7, 12, 0), (7, 16, 1), (7, 20, 2), (7, 27, 3), (7, 36, 4), (7, 40, 5), (7, 46, 6), (7, 55, 7), (7, 64, 8), (7, 73, 9), (8, 7, 3), (8, 13, 4), (8, 16, 5), (8, 20, 10), (8, 23, 11), (8, 26, 12), (8, 29, 13), (8, 32, 14), (8, 35, 15), (8, 38, 16), (8, 41, 19), (8, 44, 20), (8, 47, 21), (8, 50, 23), (8, 53, 24), (8, 57, 26), (8, 60, 27), (8, 63, 28), (8, 66, 29), (8, 69, 30), (8, 72, 31), (8, 75, 32), (8, 78, 33), (8, 81, 34), (8, 84, 35), (8, 87, 36), (8, 90, 37), (8, 93, 0), (8, 96, 1), (8, 99, 2), (8, 114, 6), (8, 129, 7), (8, 132, 8), (8, 135, 9), (8, 159, 17), (8, 162, 18), (8, 165, 22), (8, 193, 25)]
/-- calls: class, pool number, method -/
def mm_CT : List (Nat × Nat × Nat) := [(0, 36, 83), (0, 42, 82), (0, 45, 78), (0, 48, 79), (0, 51, 4), (0, 55, 5), (0, 58, 24), (1, 41, 16), (1, 45, 9), (1, 49, 20), (1, 55, 23), (1, 59, 15), (1, 63, 8), (1, 66, 24), (1, 69, 25), (1, 72, 12), (1, 75, 13), (2, 35, 19), (2, 39, 20), (2, 42, 24), (2, 46, 25), (2, 50, 22), (2, 53, 21), (2, 56, 29), (2, 59, 23), (2, 62, 26), (3, 22, 14), (3, 27, 33), (3, 31, 7), (3, 34, 12), (3, 37, 13), (4, 33, 13), (4, 39, 40), (4, 43, 12), (4, 46, 24), (4, 51, 39), (5, 33, 54), (5, 40, 65), (5, 43, 31), (5, 49, 55), (5, 53, 33), (5, 56, 61), (5, 59, 35), (5, 62, 63), (5, 71, 64), (5, 74, 62), (5, 77, 56), (5, 81, 18), (5, 86, 23), (5, 89, 26), (5, 93, 24), (5, 96, 59), (5, 100, 25), (5, 103, 34), (5, 106, 60), (5, 110, 67), (5, 114, 57), (5, 117, 58), (5, 120, 66), (6, 26, 88), (6, 30, 86), (6, 34, 87), (6, 38, 85), (6, 41, 77), (7, 77, 17), (7, 88, 27), (7, 91, 105), (7, 95, 19), (7, 104, 21), (7, 109, 106), (7, 113, 28), (7, 117, 22), (7, 122, 107), (7, 125, 8), (7, 131, 10), (7, 134, 9), (7, 142, 11), (7, 146, 31), (7, 151, 6), (7, 157, 68), (7, 160, 32), (7, 164, 0), (7, 167, 112), (7, 175, 69), (7, 178, 71), (7, 179, 70), (7, 187, 80), (7, 191, 72), (7, 196, 1), (7, 199, 2), (7, 203, 3), (7, 208, 84), (7, 215, 108), (7, 218, 14), (7, 221, 109), (7, 226, 111), (7, 229, 18), (7, 232, 7), (7, 233, 30), (7, 240, 33), (7, 243, 110), (7, 247, 35), (7, 250, 13), (7, 251, 34), (7, 252, 12), (7, 253, 24), (7, 256, 36), (7, 259, 77), (7, 262, 78), (7, 265, 37), (7, 268, 81), (7, 271, 38), (7, 274, 41), (7, 275, 113), (7, 279, 42), (7, 282, 52), (7, 285, 43), (7, 288, 46), (7, 291, 53), (7, 294, 49), (7, 297, 73), (7, 299, 45), (7, 302, 74), (7, 305, 50), (7, 308, 48), (7, 311, 75), (7, 314, 47), (7, 317, 44), (7, 320, 76), (7, 323, 51), (8, 102, 115), (8, 106, 119), (8, 110, 116), (8, 117, 124), (8, 120, 122), (8, 123, 117), (8, 126, 121), (8, 138, 126), (8, 142, 127), (8, 146, 132), (8, 149, 134), (8, 152, 135), (8, 156, 133), (8, 169, 139), (8, 172, 137), (8, 175, 140), (8, 179, 142), (8, 183, 138), (8, 186, 141), (8, 190, 143), (8, 196, 144), (8, 199, 146), (8, 202, 147), (8, 206, 149), (8, 210, 151)]
/-- static calls: class, pool number, 0 min, 1 max, 2 arraycopy -/
def mm_ST : List (Nat × Nat × Nat) := [(0, 27, 0), (1, 15, 1), (1, 38, 0), (4, 23, 0), (5, 27, 0), (5, 65, 1), (5, 123, 2)]
/-- throws: the pool number of the class, of its constructor, which -/
def mm_XT : List (Nat × Nat × Nat) := [(81, 85, 1), (99, 103, 3), (137, 141, 2), (170, 174, 4), (182, 186, 5)]
def mm_STR : List (Nat × String) := [(83, "there are 8 types"), (101, "no such type"), (107, "the type has 8 makers, or there are 40"), (120, "no such type, or no column"), (236, "there is no match"), (129, "the row in hand has 40 signs"), (139, "the sign can't stand there"), (149, "there are 12 rows"), (155, "a column has no whole pattern yet"), (172, "the tree is too great"), (184, "no such node"), (194, "no such missing case"), (206, "no such row, or no tree"), (211, "the values in hand have 60 makers"), (213, "the maker can't stand there"), (238, "the values in hand are not whole"), (224, "there is no tree")]
/-- where the words stand: of the methods (instanceMethod, selects, initialized, code), of the fields, of the calls -/
def mm_MW : List (Nat × Nat × Nat × Nat) := [(607, 608, 67, 609), (851, 852, 67, 853), (855, 856, 67, 857), (886, 887, 67, 888), (878, 27, 67, 879), (882, 28, 67, 883), (295, 296, 63, 297), (322, 323, 63, 324), (524, 525, 63, 526), (533, 534, 63, 535), (529, 530, 63, 531), (560, 561, 63, 562), (584, 585, 63, 586), (588, 589, 63, 590), (580, 581, 63, 582), (540, 6, 63, 541), (303, 0, 63, 304), (310, 311, 61, 312), (314, 315, 61, 316), (424, 425, 61, 426), (475, 476, 61, 477), (444, 445, 61, 446), (491, 492, 61, 493), (471, 472, 61, 473), (483, 484, 61, 485), (487, 488, 61, 489), (479, 480, 61, 481), (408, 409, 61, 410), (462, 463, 61, 464), (468, 4, 61, 469), (454, 455, 62, 456), (318, 319, 62, 320), (576, 577, 62, 578), (592, 593, 62, 594), (661, 662, 62, 663), (665, 666, 62, 667), (950, 951, 68, 952), (957, 958, 68, 959), (970, 971, 68, 972), (976, 34, 68, 977), (962, 33, 68, 963), (615, 616, 66, 617), (762, 763, 66, 764), (726, 727, 66, 728), (750, 751, 66, 752), (718, 719, 66, 720), (773, 774, 66, 775), (746, 747, 66, 748), (738, 739, 66, 740), (673, 674, 66, 675), (734, 735, 66, 736), (758, 759, 66, 760), (766, 767, 66, 768), (781, 782, 66, 783), (621, 8, 66, 622), (649, 11, 66, 650), (678, 15, 66, 679), (686, 17, 66, 687), (690, 18, 66, 691), (787, 25, 66, 788), (792, 26, 66, 793), (658, 13, 66, 659), (653, 12, 66, 654), (731, 24, 66, 732), (682, 16, 66, 683), (644, 10, 66, 645), (694, 19, 66, 695), (625, 9, 66, 626), (458, 459, 65, 460), (811, 812, 65, 813), (283, 284, 65, 285), (326, 327, 65, 328), (287, 288, 65, 289), (698, 699, 65, 700), (722, 723, 65, 724), (742, 743, 65, 744), (754, 755, 65, 756), (864, 865, 65, 866), (777, 778, 65, 779), (873, 874, 65, 875), (839, 840, 65, 841), (966, 967, 65, 968), (868, 869, 65, 870), (860, 861, 65, 862), (898, 899, 65, 900), (715, 23, 65, 716), (707, 21, 65, 708), (711, 22, 65, 712), (703, 20, 65, 704), (334, 335, 60, 336), (416, 417, 60, 418), (498, 499, 60, 500), (506, 507, 60, 508), (515, 516, 60, 517), (570, 571, 60, 572), (603, 604, 60, 605), (819, 820, 60, 821), (279, 280, 60, 281), (846, 847, 60, 848), (893, 894, 60, 895), (905, 906, 60, 907), (914, 915, 60, 916), (941, 942, 60, 943), (291, 292, 60, 293), (306, 307, 60, 308), (421, 2, 60, 422), (451, 3, 60, 452), (520, 5, 60, 521), (919, 29, 60, 920), (925, 30, 60, 926), (930, 31, 60, 931), (947, 32, 60, 948), (612, 7, 60, 613), (670, 14, 60, 671), (1100, 1101, 69, 1102), (1113, 35, 69, 1114), (1121, 37, 69, 1122), (1141, 41, 69, 1142), (1104, 1105, 69, 1106), (1117, 36, 69, 1118), (1108, 1109, 69, 1110), (1133, 39, 69, 1134), (1137, 40, 69, 1138), (1128, 1129, 69, 1130), (1125, 38, 69, 1126), (1144, 1145, 69, 1146), (1153, 42, 69, 1154), (1157, 43, 69, 1158), (1148, 1149, 69, 1150), (1160, 1161, 69, 1162), (1164, 1165, 69, 1166), (1168, 1169, 69, 1170), (1185, 46, 69, 1186), (1181, 45, 69, 1182), (1189, 47, 69, 1190), (1177, 44, 69, 1178), (1172, 1173, 69, 1174), (1213, 52, 69, 1214), (1205, 50, 69, 1206), (1209, 51, 69, 1210), (1217, 53, 69, 1218), (1221, 54, 69, 1222), (1225, 55, 69, 1226), (1201, 49, 69, 1202), (1197, 48, 69, 1198), (1192, 1193, 69, 1194), (1233, 56, 69, 1234), (1237, 57, 69, 1238), (1228, 1229, 69, 1230), (1240, 1241, 69, 1242), (1244, 1245, 69, 1246), (1250, 58, 69, 1251), (1253, 1254, 69, 1255), (1257, 1258, 69, 1259), (1261, 1262, 69, 1263)]
def mm_FW : List Nat := [212, 213, 214, 216, 215, 143, 144, 145, 146, 147, 148, 96, 97, 98, 99, 100, 94, 95, 124, 125, 126, 234, 235, 236, 237, 187, 188, 189, 190, 191, 192, 168, 169, 170, 171, 247, 248, 249, 250, 251, 252, 253, 254, 255, 256, 987, 988, 989, 994, 995, 996, 997, 998, 999, 1000, 1003, 1004, 1005, 1007, 1008, 1010, 1011, 1012, 1013, 1014, 1015, 1016, 1017, 1018, 1019, 1020, 1021, 984, 985, 986, 990, 991, 992, 993, 1001, 1002, 1006, 1009]
def mm_CW : List Nat := [859, 867, 871, 872, 876, 880, 884, 301, 532, 536, 537, 538, 563, 564, 565, 583, 587, 447, 474, 482, 486, 490, 465, 466, 470, 478, 579, 591, 595, 596, 597, 954, 960, 964, 973, 974, 619, 642, 646, 647, 655, 656, 664, 729, 680, 651, 676, 769, 770, 771, 784, 785, 789, 660, 790, 623, 684, 688, 692, 701, 705, 709, 713, 863, 309, 407, 419, 423, 443, 449, 461, 501, 518, 523, 528, 542, 559, 317, 294, 457, 575, 606, 610, 810, 325, 282, 838, 286, 850, 854, 885, 897, 917, 922, 923, 945, 313, 321, 453, 927, 928, 933, 936, 932, 934, 935, 949, 955, 776, 956, 965, 969, 614, 668, 761, 765, 725, 772, 780, 672, 697, 717, 721, 733, 737, 741, 745, 749, 753, 757, 1111, 1115, 1119, 1123, 1135, 1139, 1131, 1151, 1155, 1183, 1187, 1175, 1179, 1207, 1211, 1215, 1223, 1203, 1219, 1199, 1195, 1231, 1235, 1247, 1248]
def mm_SW : List Nat := [858, 140, 298, 953, 618, 627, 696]
def mm_JW : List Nat := [299, 64, 300, 141, 142, 640, 77, 641]
end
section
/-! THE CHECKS: what the tables say, held once against the words of the Statement -/
def mm_ut : List Cond := lw_tbl.filter goodWord
theorem mm_in_ut {w : Cond} (h : w ∈ lw_tbl) (hg : goodWord w = true) : w ∈ mm_ut := List.mem_filter.mpr ⟨h, hg⟩
theorem mm_ut_good {w : Cond} (h : w ∈ mm_ut) : goodWord w = true := (List.mem_filter.mp h).2
def mm_rty (rt : Nat) : Option FieldType := match rt with
  | 0 => none
  | 1 => some .int
  | _ => some .boolean
abbrev MI.ci (q : MI) : Nat := q.1
abbrev MI.nm (q : MI) : MethodName := q.2.1
abbrev MI.cc (q : MI) : ByteArray := q.2.2.1
abbrev MI.mL (q : MI) : Nat := q.2.2.2.1
abbrev MI.rt (q : MI) : Nat := q.2.2.2.2.1
abbrev MI.na (q : MI) : Nat := q.2.2.2.2.2.1
abbrev MI.P (q : MI) : List PI := q.2.2.2.2.2.2.1
abbrev MI.pcs (q : MI) : List Nat := q.2.2.2.2.2.2.2
def mm_dec (cc : ByteArray) (pc : Nat) (i : Instr) (n : Nat) : Bool := decide (decode cc pc = .ok (i, n))
def mm_decs (cc : ByteArray) (pc : Nat) (i : Instr) : Bool := match decode cc pc with
  | .ok (i', _) => decide (i' = i)
  | .error _ => false
def mm_nx (pcs : List Nat) (j pc : Nat) : Bool := decide (pcs[j]? = some pc)
def mm_jmp (pcs : List Nat) (x pc : Nat) (off : Int) : Bool := match pcs[x]? with
  | some t => decide ((pc : Int) + off = (t : Int))
  | none => false
/-- a row is what its bytes say, and its numbers are what the tables say -/
def mm_okR (cc : ByteArray) (ci : Nat) (pcs : List Nat) (j : Nat) (r : PI) : Bool := match pcs[j]? with
  | none => false
  | some pc => match r with
    | (.iconst n, _, v, _) => mm_dec cc pc (.iconst n) 1 && mm_nx pcs (j + 1) (pc + 1) && decide (Int32.ofInt n = v)
    | (.bipush n, _, v, _) => mm_dec cc pc (.bipush n) 2 && mm_nx pcs (j + 1) (pc + 2) && decide ((Int8.ofInt n).toInt32 = v)
    | (.sipush n, _, v, _) => mm_dec cc pc (.sipush n) 3 && mm_nx pcs (j + 1) (pc + 3) && decide ((Int16.ofInt n).toInt32 = v)
    | (.iload_n q, x, _, _) => mm_dec cc pc (.iload_n q) 1 && mm_nx pcs (j + 1) (pc + 1) && decide (q.val = x)
    | (.iload q, x, _, _) => mm_dec cc pc (.iload q) 2 && mm_nx pcs (j + 1) (pc + 2) && decide (q = x)
    | (.aload_n q, x, _, _) => mm_dec cc pc (.aload_n q) 1 && mm_nx pcs (j + 1) (pc + 1) && decide (q.val = x)
    | (.istore_n q, x, _, _) => mm_dec cc pc (.istore_n q) 1 && mm_nx pcs (j + 1) (pc + 1) && decide (q.val = x)
    | (.istore q, x, _, _) => mm_dec cc pc (.istore q) 2 && mm_nx pcs (j + 1) (pc + 2) && decide (q = x)
    | (.iinc q n, x, v, _) => mm_dec cc pc (.iinc q n) 3 && mm_nx pcs (j + 1) (pc + 3) && decide (q = x) && decide (Int32.ofInt n = v)
    | (.iadd, _, _, _) => mm_dec cc pc .iadd 1 && mm_nx pcs (j + 1) (pc + 1)
    | (.isub, _, _, _) => mm_dec cc pc .isub 1 && mm_nx pcs (j + 1) (pc + 1)
    | (.imul, _, _, _) => mm_dec cc pc .imul 1 && mm_nx pcs (j + 1) (pc + 1)
    | (.dup, _, _, _) => mm_dec cc pc .dup 1 && mm_nx pcs (j + 1) (pc + 1)
    | (.dup2, _, _, _) => mm_dec cc pc .dup2 1 && mm_nx pcs (j + 1) (pc + 1)
    | (.iaload, _, _, _) => mm_dec cc pc .iaload 1 && mm_nx pcs (j + 1) (pc + 1)
    | (.baload, _, _, _) => mm_dec cc pc .baload 1 && mm_nx pcs (j + 1) (pc + 1)
    | (.iastore, _, _, _) => mm_dec cc pc .iastore 1 && mm_nx pcs (j + 1) (pc + 1)
    | (.bastore, _, _, _) => mm_dec cc pc .bastore 1 && mm_nx pcs (j + 1) (pc + 1)
    | (.arraylength, _, _, _) => mm_dec cc pc .arraylength 1 && mm_nx pcs (j + 1) (pc + 1)
    | (.goto off, x, _, _) => mm_dec cc pc (.goto off) 3 && mm_jmp pcs x pc off
    | (.ifCond q off, x, _, _) => mm_dec cc pc (.ifCond q off) 3 && mm_nx pcs (j + 1) (pc + 3) && mm_jmp pcs x pc off
    | (.if_icmp q off, x, _, _) => mm_dec cc pc (.if_icmp q off) 3 && mm_nx pcs (j + 1) (pc + 3) && mm_jmp pcs x pc off
    | (.getfield ix, x, _, ts) => mm_dec cc pc (.getfield ix) 3 && mm_nx pcs (j + 1) (pc + 3) && decide ((ci, ix, x) ∈ mm_FT) && decide (ts = [ci])
    | (.putfield ix, x, _, ts) => mm_dec cc pc (.putfield ix) 3 && mm_nx pcs (j + 1) (pc + 3) && decide ((ci, ix, x) ∈ mm_FT) && (match vwCl[ci]? with
      | some q => decide ((q.2.1 x).2.2.2 = false ∧ ((parseFieldDescriptor (q.2.1 x).2.2.1 = some .int ∧ ts = [ci]) ∨ (parseFieldDescriptor (q.2.1 x).2.2.1 = some .boolean ∧ ts = [ci, 2])))
      | none => false)
    | (.invokevirtual ix, y, _, ts) => mm_dec cc pc (.invokevirtual ix) 3 && mm_nx pcs (j + 1) (pc + 3) && decide ((ci, ix, y) ∈ mm_CT) && (match mm_MT[y]? with
      | some q => decide (ts = [q.na, q.rt, q.ci])
      | none => false)
    | (.invokestatic ix, x, _, _) => mm_dec cc pc (.invokestatic ix) 3 && mm_nx pcs (j + 1) (pc + 3) && decide ((ci, ix, x) ∈ mm_ST)
    | (.new ix, x, _, ts) => mm_dec cc pc (.new ix) 3 && mm_dec cc (pc + 3) .dup 1 && mm_dec cc (pc + 4) (.ldc (ts.headD 0)) 2 && mm_dec cc (pc + 6) (.invokespecial (ts.getD 1 0)) 3 && mm_dec cc (pc + 9) .athrow 1 && decide (ci = 7) && decide ((ix, ts.getD 1 0, x) ∈ mm_XT) && decide (ts.headD 0 ∈ mm_STR.map Prod.fst)
    | (.ireturn, _, _, _) => mm_dec cc pc .ireturn 1
    | (.return_, _, _, _) => mm_dec cc pc .return_ 1
    | (.tableswitch d lo hi offs, x, _, ts) => mm_decs cc pc (.tableswitch d lo hi offs) && mm_jmp pcs x pc d && decide (offs.size = ts.length) && (offs.toList.zip ts).all (fun q => mm_jmp pcs q.2 pc q.1)
    | (.lookupswitch d ps, x, _, ts) => mm_decs cc pc (.lookupswitch d ps) && mm_jmp pcs x pc d && decide (ps.toList.length = ts.length) && (ps.toList.zip ts).all (fun q => mm_jmp pcs q.2 pc q.1.2) && (ps.toList.zip (ps.toList.drop 1)).all (fun (a, next) => a.1 < next.1)
    | _ => true
def mm_okRs (cc : ByteArray) (ci : Nat) (pcs : List Nat) : Nat → List PI → Bool
  | _, [] => true
  | j, r :: rs => mm_okR cc ci pcs j r && mm_okRs cc ci pcs (j + 1) rs
theorem mm_okRs_at {cc : ByteArray} {ci : Nat} {pcs : List Nat} : ∀ (P : List PI) (j k : Nat) (r : PI), mm_okRs cc ci pcs j P = true → P[k]? = some r → mm_okR cc ci pcs (j + k) r = true := by
  intro P
  induction P with
  | nil => intro j k r _ h; simp at h
  | cons a P ih =>
    intro j k r h hk
    simp only [mm_okRs, Bool.and_eq_true] at h
    cases k with
    | zero => simp at hk; subst hk; exact h.1
    | succ k =>
      have := ih (j + 1) k r h.2 (by simpa using hk)
      rw [show j + (k + 1) = j + 1 + k by omega]; exact this
theorem mm_t0 : mm_okRs cX7_row 7 qX7_row 0 pX7_row = true := by decide +kernel
theorem mm_t1 : mm_okRs cX2_hasType 2 qX2_hasType 0 pX2_hasType = true := by decide +kernel
theorem mm_t2 : mm_okRs cX8_begin 8 qX8_begin 0 pX8_begin = true := by decide +kernel
theorem mm_t3 : mm_okRs cX5_openBranch 5 qX5_openBranch 0 pX5_openBranch = true := by decide +kernel
end
section
/-! THE WORLD of the small machine: 55 cells -/
def mm_rv (ad : Nat → Nat) : MV → Value
  | .inl x => .int x
  | .inr c => .ref (ad c)
theorem mm_rv_cat (ad : Nat → Nat) (v : MV) : (mm_rv ad v).category = 1 := by cases v <;> rfl
def mm_ent (cy : ClassId × ClassId × ClassId) (ad : Nat → Nat) (ov : Int64) (S : Mem) (c : Nat) : va_E := match mm_KD[c]? with
  | some (0, ci) => .inr (ci, (List.range (mm_NF[ci]?.getD 0)).map (fun k => mm_rv ad (mm_fv S c k)))
  | some (1, n) => .inl (cy.1, mm_len S c n, .inl (S c))
  | some (2, n) => .inl (cy.2.1, mm_len S c n, .inl (S c))
  | some (_, n) => .inl (cy.2.2, n, .inr (.inl (fun _ => ov)))
  | none => .inr (0, [])
def mm_W (cy : ClassId × ClassId × ClassId) (ad : Nat → Nat) (ov : Int64) (S : Mem) : va_W := (List.range 55).map (fun c => (ad c, mm_ent cy ad ov S c))
abbrev mm_ty (cy : ClassId × ClassId × ClassId) : List (ClassId × FieldType) := [(cy.1, .int), (cy.2.1, .boolean), (cy.2.2, .long)]
theorem mm_KD_lt {c : Nat} {q : Nat × Nat} (h : mm_KD[c]? = some q) : c < 55 := (List.getElem?_eq_some_iff.mp h).1
theorem mm_W_at {cy : ClassId × ClassId × ClassId} {ad : Nat → Nat} {ov : Int64} {S : Mem} {c : Nat} (hc : c < 55) : (mm_W cy ad ov S)[c]? = some (ad c, mm_ent cy ad ov S c) := by
  simp [mm_W, hc]
theorem mm_W_set {cy : ClassId × ClassId × ClassId} {ad : Nat → Nat} {ov : Int64} {S S' : Mem} {c : Nat} {e : va_E} (hc : c < 55) (h1 : mm_ent cy ad ov S' c = e) (h2 : ∀ x, x ≠ c → x < 55 → mm_ent cy ad ov S' x = mm_ent cy ad ov S x) : (mm_W cy ad ov S).set c (ad c, e) = mm_W cy ad ov S' := by
  apply List.ext_getElem?
  intro i
  by_cases hi : i < 55
  · rw [List.getElem?_set, mm_W_at hi]
    by_cases hic : c = i
    · subst hic
      simp [mm_W, hc, h1]
    · rw [if_neg hic, mm_W_at hi, h2 i (fun q => hic q.symm) hi]
  · rw [List.getElem?_eq_none (by simp [mm_W]; omega), List.getElem?_eq_none (by simp [mm_W]; omega)]
theorem mm_ent_congr {cy : ClassId × ClassId × ClassId} {ad : Nat → Nat} {ov : Int64} {S S' : Mem} {x : Nat} (h : S' x = S x) (h5 : S' 55 = S 55) : mm_ent cy ad ov S' x = mm_ent cy ad ov S x := by
  unfold mm_ent mm_fv mm_len
  rw [h, h5]
theorem mm_stc_at (S : Mem) (c : Nat) (f : Nat → Int32) : mm_stc S c f c = f := if_pos rfl
theorem mm_stc_ne (S : Mem) {c x : Nat} (f : Nat → Int32) (h : x ≠ c) : mm_stc S c f x = S x := if_neg h
theorem mm_ent_obj {cy : ClassId × ClassId × ClassId} {ad : Nat → Nat} {ov : Int64} {S : Mem} {c ci : Nat} (h : mm_KD[c]? = some (0, ci)) : mm_ent cy ad ov S c = .inr (ci, (List.range (mm_NF[ci]?.getD 0)).map (fun k => mm_rv ad (mm_fv S c k))) := by
  unfold mm_ent; rw [h]; rfl
theorem mm_ent_int {cy : ClassId × ClassId × ClassId} {ad : Nat → Nat} {ov : Int64} {S : Mem} {c n : Nat} (h : mm_KD[c]? = some (1, n)) : mm_ent cy ad ov S c = .inl (cy.1, mm_len S c n, .inl (S c)) := by
  unfold mm_ent; rw [h]; rfl
theorem mm_ent_boo {cy : ClassId × ClassId × ClassId} {ad : Nat → Nat} {ov : Int64} {S : Mem} {c n : Nat} (h : mm_KD[c]? = some (2, n)) : mm_ent cy ad ov S c = .inl (cy.2.1, mm_len S c n, .inl (S c)) := by
  unfold mm_ent; rw [h]; rfl
theorem mm_len_put (S : Mem) {c x k n : Nat} {v : Int32} (h : c ≠ 55) : mm_len (mm_put S c k v) x n = mm_len S x n := by
  unfold mm_len mm_put
  rw [mm_stc_ne _ _ (fun q => h q.symm)]
theorem mm_len_stc (S : Mem) {c x n : Nat} {f : Nat → Int32} (h : c ≠ 55) : mm_len (mm_stc S c f) x n = mm_len S x n := by
  unfold mm_len
  rw [mm_stc_ne _ _ (fun q => h q.symm)]
/-- an int array's cell is written -/
theorem mm_W_arr {cy : ClassId × ClassId × ClassId} {ad : Nat → Nat} {ov : Int64} {S : Mem} {c n : Nat} {f : Nat → Int32} (h : mm_KD[c]? = some (1, n)) : (mm_W cy ad ov S).set c (ad c, .inl (cy.1, mm_len S c n, .inl f)) = mm_W cy ad ov (mm_stc S c f) := by
  have hc := mm_KD_lt h
  refine mm_W_set hc ?_ ?_
  · rw [mm_ent_int h, mm_stc_at, mm_len_stc S (by omega)]
  · intro x hx _
    exact mm_ent_congr (mm_stc_ne _ _ hx) (mm_stc_ne _ _ (by omega))
theorem mm_W_boo {cy : ClassId × ClassId × ClassId} {ad : Nat → Nat} {ov : Int64} {S : Mem} {c n : Nat} {f : Nat → Int32} (h : mm_KD[c]? = some (2, n)) : (mm_W cy ad ov S).set c (ad c, .inl (cy.2.1, mm_len S c n, .inl f)) = mm_W cy ad ov (mm_stc S c f) := by
  have hc := mm_KD_lt h
  refine mm_W_set hc ?_ ?_
  · rw [mm_ent_boo h, mm_stc_at, mm_len_stc S (by omega)]
  · intro x hx _
    exact mm_ent_congr (mm_stc_ne _ _ hx) (mm_stc_ne _ _ (by omega))
/-- an object's number field is written -/
theorem mm_W_obj {cy : ClassId × ClassId × ClassId} {ad : Nat → Nat} {ov : Int64} {S : Mem} {c ci k : Nat} {v : Int32} (h : mm_KD[c]? = some (0, ci)) (hr : mm_rf c k = none) : (mm_W cy ad ov S).set c (ad c, .inr (ci, ((List.range (mm_NF[ci]?.getD 0)).map (fun k => mm_rv ad (mm_fv S c k))).set k (.int v))) = mm_W cy ad ov (mm_put S c k v) := by
  have hc := mm_KD_lt h
  refine mm_W_set hc ?_ ?_
  · rw [mm_ent_obj h]
    refine congrArg (fun z => Sum.inr (ci, z)) ?_
    apply List.ext_getElem?
    intro i
    rw [List.getElem?_set]
    by_cases hik : k = i
    · subst hik
      by_cases hN : k < mm_NF[ci]?.getD 0
      · simp [hN, mm_fv, hr, mm_put, mm_stc_at, upd, mm_rv]
      · simp [hN]
    · rw [if_neg hik]
      by_cases hN : i < mm_NF[ci]?.getD 0
      · have : mm_fv (mm_put S c k v) c i = mm_fv S c i := by
          unfold mm_fv mm_put
          cases mm_rf c i with
          | some t => rfl
          | none =>
            simp [mm_stc_at, upd]
            exact fun q => absurd q.symm hik
        simp [hN, this]
      · simp [hN]
  · intro x hx _
    exact mm_ent_congr (mm_stc_ne _ _ hx) (mm_stc_ne _ _ (by omega))
/-- the locals -/
def mm_lh (ad : Nat → Nat) (ls : Array Slot) (nL : Nat) (L : List (Option MV)) : Prop := ls.size = nL ∧ lv_wf ls ∧ L.length = nL ∧ (∀ (i : Nat) (v : MV), L[i]? = some (some v) → ls[i]? = some (.val (mm_rv ad v))) ∧ mm_noRmL L = true
def mm_lv (ad : Nat → Nat) (L : List (Option MV)) : List (Nat × Value) := (List.range L.length).filterMap (fun i => match L[i]? with
  | some (some v) => some (i, mm_rv ad v)
  | _ => none)
theorem mm_lv_mem {ad : Nat → Nat} {L : List (Option MV)} {q : Nat × Value} : q ∈ mm_lv ad L ↔ ∃ (i : Nat) (v : MV), L[i]? = some (some v) ∧ q = (i, mm_rv ad v) := by
  unfold mm_lv
  rw [List.mem_filterMap]
  constructor
  · rintro ⟨i, -, h⟩
    split at h
    · rename_i v hv
      exact ⟨i, v, hv, (Option.some.inj h).symm⟩
    · cases h
  · rintro ⟨i, v, hv, rfl⟩
    refine ⟨i, List.mem_range.mpr (List.getElem?_eq_some_iff.mp hv).1, ?_⟩
    rw [hv]
theorem mm_lh.has {ad : Nat → Nat} {ls : Array Slot} {nL : Nat} {L : List (Option MV)} (h : mm_lh ad ls nL L) : lv_has ls nL (mm_lv ad L) := by
  refine ⟨h.1, h.2.1, fun q hq => ?_⟩
  obtain ⟨i, v, hv, rfl⟩ := mm_lv_mem.mp hq
  exact h.2.2.2.1 i v hv
theorem mm_noRmL_set {L : List (Option MV)} {i : Nat} {y : Int32} (h : mm_noRmL L = true) : mm_noRmL (L.set i (some (.inl y))) = true := by
  unfold mm_noRmL at h ⊢
  rw [List.all_eq_true] at h ⊢
  intro z hz
  rcases List.mem_or_eq_of_mem_set hz with hz | rfl
  · exact h z hz
  · rfl
theorem mm_lh.stored {ad : Nat → Nat} {ls ls' : Array Slot} {nL i : Nat} {L : List (Option MV)} {y : Int32} (h : mm_lh ad ls nL L) (h' : lv_has ls' nL ((i, mm_rv ad (.inl y)) :: (mm_lv ad L).filter (fun q => !(q.1 == i) && !(q.1 + 1 == i && q.2.category == 2)))) : mm_lh ad ls' nL (L.set i (some (.inl y))) := by
  refine ⟨h'.1, h'.2.1, by rw [List.length_set]; exact h.2.2.1, fun j w hw => ?_, mm_noRmL_set h.2.2.2.2⟩
  rw [List.getElem?_set] at hw
  by_cases hij : i = j
  · subst hij
    rw [if_pos rfl] at hw
    split at hw
    · cases Option.some.inj (Option.some.inj hw)
      exact h'.2.2 _ List.mem_cons_self
    · cases hw
  · rw [if_neg hij] at hw
    refine h'.2.2 (j, mm_rv ad w) (List.mem_cons_of_mem _ (List.mem_filter.mpr ⟨mm_lv_mem.mpr ⟨j, w, hw, rfl⟩, ?_⟩))
    simp [mm_rv_cat]
    exact fun q => hij q.symm
/-- other addresses for the cell that grows: nothing that is held names it -/
theorem mm_lh.move {ad ad' : Nat → Nat} {ls : Array Slot} {nL : Nat} {L : List (Option MV)} (h : mm_lh ad ls nL L) (ha : ∀ c, c ≠ mm_RM → ad' c = ad c) : mm_lh ad' ls nL L := by
  have hL := h.2.2.2.2
  refine ⟨h.1, h.2.1, h.2.2.1, fun i v hv => ?_, hL⟩
  rw [h.2.2.2.1 i v hv]
  have h1 := List.all_eq_true.mp hL _ (List.mem_of_getElem? hv)
  cases v with
  | inl x => rfl
  | inr c =>
    have : c ≠ mm_RM := by intro q; subst q; simp at h1
    simp [mm_rv, ha c this]
theorem mm_rv_move {ad ad' : Nat → Nat} {st : List MV} (hL : mm_noRm st = true) (ha : ∀ c, c ≠ mm_RM → ad' c = ad c) : st.map (mm_rv ad') = st.map (mm_rv ad) := by
  apply List.map_congr_left
  intro v hv
  have h1 := List.all_eq_true.mp hL _ hv
  cases v with
  | inl x => rfl
  | inr c =>
    have : c ≠ mm_RM := by intro q; subst q; simp at h1
    simp [mm_rv, ha c this]
end
section
/-! THE SOUNDNESS of the small machine -/
def mm_exn (kd : Nat) : String := match kd with
  | 1 => "java/lang/IllegalStateException"
  | 2 => "java/lang/IllegalArgumentException"
  | 3 => "java/lang/IndexOutOfBoundsException"
  | 4 => "java/lang/UnsupportedOperationException"
  | _ => "java/util/NoSuchElementException"
def mm_rm (d kc ks : Nat) : Room := { frames := d + 8, cells := kc, slots := ks, locals := 40 * d + 200 }
def mm_ws (q : MI) : List Cond := .code q.nm q.cc q.mL (mm_rty q.rt) :: mm_ut
/-- what exceptions need of the start: two statics of Throwable, the texts, the words that aren't of every later table -/
def mm_cd (w : Cond) : Bool := match w with
  | .castable .. => true
  | .declares _ => true
  | _ => false
def mm_bw : List Cond := lw_tbl.filter mm_cd
def mm_EX (A : Nat → Prop) (U : State) : Prop := vx_Zq Bundle.tN "UNASSIGNED_STACK" Bundle.steD A U U.heap ∧ vx_Zq Bundle.tN "SUPPRESSED_SENTINEL" Bundle.listD A U U.heap ∧ (∀ w ∈ mm_bw, w.before #[] U = true) ∧ ∀ t ∈ mm_STR, ∃ sa, vk_R RX7 t.1 t.2 sa U
theorem mm_cd_at {w : Cond} (hw : mm_cd w = true) {a a' : Array Value} {s U : State} (hW : s.WarmedH U.vm) (h : w.before a s = true) : w.before a' U = true := by
  have hot : w.onTables = true := by cases w <;> first | rfl | cases hw
  have hok : w.warmOk s := by cases w <;> first | trivial | cases hw
  have h1 := Cond.before_warmed (args := a) hW w hok h
  have e := Cond.onTables_vm (A := a) (A' := a') (U := s) (U' := U) U.vm w hot
  rw [h1] at e
  exact e.symm
def mm_B (D : va_G) (cy : ClassId × ClassId × ClassId) (A : Nat → Prop) (ad0 : Nat → Nat) (ov : Int64) (u : Mem) (t : State) : Prop :=
  ∃ ad : Nat → Nat, (∀ c, c ≠ mm_RM → ad c = ad0 c) ∧ va_P D vwCl (mm_W cy ad ov u) t.heap ∧ va_K D vwCl (mm_ty cy) t ∧ va_D A (mm_W cy ad ov u)
def mm_Qc (D : va_G) (cy : ClassId × ClassId × ClassId) (A : Nat → Prop) (ad0 : Nat → Nat) (ov : Int64) (rt : Nat) (r : Res) : Array Value → State → Outcome → State → Prop :=
  if rt = 0 then va_Qv (fun u : Mem => u = r.1 ∧ r.2.2.2.1 = 0) (mm_B D cy A ad0 ov) A else va_Qi (fun (a : Int32) (u : Mem) => a = r.2.2.2.2 ∧ u = r.1 ∧ r.2.2.2.1 = 0) (mm_B D cy A ad0 ov) A
def mm_XC (D : va_G) (cy : ClassId × ClassId × ClassId) (A : Nat → Prop) (ad0 : Nat → Nat) (ov : Int64) (r : Res) : String → State → State → Prop :=
  vx_X (fun u : Mem => u = r.1 ∧ r.2.2.2.1 ≠ 0) (fun E u t => E = mm_exn r.2.2.2.1 ∧ mm_B D cy A ad0 ov u t) A
def mm_Pc (D : va_G) (cy : ClassId × ClassId × ClassId) (ad : Nat → Nat) (ov : Int64) (sz : Nat) (S : Mem) (av : List Value) : Array Value → State → Prop :=
  va_Pc av (fun U => U.heap.size = sz ∧ va_P D vwCl (mm_W cy ad ov S) U.heap ∧ va_K D vwCl (mm_ty cy) U ∧ va_D (fun _ => True) (mm_W cy ad ov S) ∧ mm_EX (va_A (mm_W cy ad ov S) sz) U)
/-- the contract of a call -/
def mm_Con (l : Launch) (D : va_G) (cy : ClassId × ClassId × ClassId) (d : Nat) (q : MI) (as : List MV) (S : Mem) (r : Res) : Prop := ∀ (ad : Nat → Nat) (ov : Int64) (sz : Nat),
  vx_Met l q.nm (mm_ws q) (mm_rm d r.2.1 r.2.2.1) (mm_Pc D cy ad ov sz S (as.map (mm_rv ad))) (mm_Qc D cy (va_A (mm_W cy ad ov S) sz) ad ov q.rt r) (mm_XC D cy (va_A (mm_W cy ad ov S) sz) ad ov r) r.2.1 r.2.2.1 (va_A (mm_W cy ad ov S) sz)
/-- the classes' fields, by the printed rows -/
theorem mm_CL_ok : ∀ (ci : Nat) (q : vw_C), vwCl[ci]? = some q → (∀ w ∈ u_ws q.1 q.2.1 q.2.2, w ∈ mm_ut) ∧ mm_NF[ci]? = some q.2.2 ∧ (∃ ty0 : Nat → FieldType, ∀ k, k < q.2.2 → parseFieldDescriptor (q.2.1 k).2.2.1 = some (ty0 k)) ∧ (∀ a, a < q.2.2 → ∀ b, b < q.2.2 → a ≠ b → (q.2.1 a).2.1 ≠ (q.2.1 b).2.1) := by
  intro ci q h
  match ci, h with
  | 0, h => cases h; exact ⟨by decide +kernel, rfl, ⟨tyX0, tyX0_ok⟩, nmX0⟩
  | 1, h => cases h; exact ⟨by decide +kernel, rfl, ⟨tyX1, tyX1_ok⟩, nmX1⟩
  | 2, h => cases h; exact ⟨by decide +kernel, rfl, ⟨tyX2, tyX2_ok⟩, nmX2⟩
  | 3, h => cases h; exact ⟨by decide +kernel, rfl, ⟨tyX3, tyX3_ok⟩, nmX3⟩
  | 4, h => cases h; exact ⟨by decide +kernel, rfl, ⟨tyX4, tyX4_ok⟩, nmX4⟩
  | 5, h => cases h; exact ⟨by decide +kernel, rfl, ⟨tyX5, tyX5_ok⟩, nmX5⟩
  | 6, h => cases h; exact ⟨by decide +kernel, rfl, ⟨tyX6, tyX6_ok⟩, nmX6⟩
  | 7, h => cases h; exact ⟨by decide +kernel, rfl, ⟨tyX7, tyX7_ok⟩, nmX7⟩
  | 8, h => cases h; exact ⟨by decide +kernel, rfl, ⟨tyX8, tyX8_ok⟩, nmX8⟩
  | n + 9, h => simp [vwCl] at h
/-- the word that stands at a place -/
def mm_wi (i : Nat) (w : Cond) : Bool := decide (lw_tbl[i]? = some w) && goodWord w
theorem mm_wi_spec {i : Nat} {w : Cond} (h : mm_wi i w = true) : w ∈ mm_ut := by
  unfold mm_wi at h
  simp only [Bool.and_eq_true, decide_eq_true_eq] at h
  exact mm_in_ut (List.mem_of_getElem? h.1) h.2
theorem mm_zip_at {α β : Type} {l : List α} {l' : List β} {f : α × β → Bool} (h : (l.zip l').all f = true) (hl : l.length = l'.length) {a : α} (ha : a ∈ l) : ∃ b, f (a, b) = true := by
  obtain ⟨i, hi⟩ := List.getElem?_of_mem ha
  have hlt : i < l'.length := by rw [← hl]; exact (List.getElem?_eq_some_iff.mp hi).1
  have h2 : (l.zip l')[i]? = some (a, l'[i]) := by
    rw [List.getElem?_zip_eq_some]
    exact ⟨hi, List.getElem?_eq_getElem hlt⟩
  exact ⟨l'[i], List.all_eq_true.mp h _ (List.mem_of_getElem? h2)⟩
def mm_okF (t : (Nat × Nat × Nat) × Nat) : Bool := match vwCl[t.1.1]? with
  | some q => decide (t.1.2.2 < q.2.2) && mm_wi t.2 (Cond.fieldLink q.1 t.1.2.1 (q.2.1 t.1.2.2).1 (q.2.1 t.1.2.2).2.1 (q.2.1 t.1.2.2).2.2.1)
  | none => false
theorem mm_FT_ok : (mm_FT.zip mm_FW).all mm_okF = true := by decide +kernel
theorem mm_FT_spec {ci ix x : Nat} {q : vw_C} (h : (ci, ix, x) ∈ mm_FT) (hq : vwCl[ci]? = some q) : x < q.2.2 ∧ Cond.fieldLink q.1 ix (q.2.1 x).1 (q.2.1 x).2.1 (q.2.1 x).2.2.1 ∈ mm_ut := by
  obtain ⟨b, h1⟩ := mm_zip_at mm_FT_ok rfl h
  unfold mm_okF at h1
  rw [hq] at h1
  simp only [Bool.and_eq_true, decide_eq_true_eq] at h1
  exact ⟨h1.1, mm_wi_spec h1.2⟩
theorem mm_cls_spec {c ci : Nat} (h : mm_cls c ci = true) : mm_KD[c]? = some (0, ci) := by
  unfold mm_cls at h
  split at h
  · rename_i q hq
    rw [hq, Nat.eq_of_beq_eq_true h]
  · cases h
theorem mm_nar_bool {a : Int32} (h : a = 0 ∨ a = 1) : narrow .boolean (.int a) = .int a := by
  rcases h with rfl | rfl <;> rfl
theorem mm_fit_bool {a : Int32} (h : a = 0 ∨ a = 1) : fits .boolean (.int a) = true := by
  rcases h with rfl | rfl <;> rfl
def mm_sname (x : Nat) : MethodName := match x with
  | 0 => Lib.Math.min.name
  | 1 => Lib.Math.max.name
  | _ => arraycopyName
def mm_okS (t : (Nat × Nat × Nat) × Nat) : Bool := match vwCl[t.1.1]? with
  | some q => mm_wi t.2 (Cond.methodLink q.1 t.1.2.1 (mm_sname t.1.2.2))
  | none => false
theorem mm_ST_ok : (mm_ST.zip mm_SW).all mm_okS = true := by decide +kernel
theorem mm_ST_spec {ci ix x : Nat} {q : vw_C} (h : (ci, ix, x) ∈ mm_ST) (hq : vwCl[ci]? = some q) : Cond.methodLink q.1 ix (mm_sname x) ∈ mm_ut := by
  obtain ⟨b, h1⟩ := mm_zip_at mm_ST_ok rfl h
  unfold mm_okS at h1
  rw [hq] at h1
  exact mm_wi_spec h1
def mm_jw : List Cond := [Cond.static Lib.Math.min.name, Cond.initialized "java/lang/Math", Cond.code Lib.Math.min.name Lib.Math.min.code 2 (some .int), Cond.static Lib.Math.max.name, Cond.code Lib.Math.max.name Lib.Math.max.code 2 (some .int), Cond.static arraycopyName, Cond.initialized "java/lang/System", Cond.native arraycopyName]
theorem mm_JW_ok : (mm_jw.zip mm_JW).all (fun t => mm_wi t.2 t.1) = true := by decide +kernel
theorem mm_jw_in {w : Cond} (h : w ∈ mm_jw) : w ∈ mm_ut := by
  obtain ⟨b, h1⟩ := mm_zip_at mm_JW_ok rfl h
  exact mm_wi_spec h1
def mm_okC (t : (Nat × Nat × Nat) × Nat) : Bool := match vwCl[t.1.1]?, mm_MT[t.1.2.2]? with
  | some q, some y => mm_wi t.2 (Cond.methodLink q.1 t.1.2.1 y.nm)
  | _, _ => false
theorem mm_CT_ok : (mm_CT.zip mm_CW).all mm_okC = true := by decide +kernel
theorem mm_CT_spec {ci ix y : Nat} {q : vw_C} {mi : MI} (h : (ci, ix, y) ∈ mm_CT) (hq : vwCl[ci]? = some q) (hy : mm_MT[y]? = some mi) : Cond.methodLink q.1 ix mi.nm ∈ mm_ut := by
  obtain ⟨b, h1⟩ := mm_zip_at mm_CT_ok rfl h
  unfold mm_okC at h1
  rw [hq, hy] at h1
  exact mm_wi_spec h1
/-- a method's own words -/
def mm_okW (t : MI × (Nat × Nat × Nat × Nat)) : Bool := match vwCl[t.1.ci]? with
  | some q => mm_wi t.2.1 (Cond.instanceMethod t.1.nm) && mm_wi t.2.2.1 (Cond.selects q.1 t.1.nm t.1.nm) && mm_wi t.2.2.2.1 (Cond.initialized q.1) && decide (t.1.nm.cls = q.1) && plainName t.1.nm.cls && decide (t.1.nm.cls ≠ "java/lang/invoke/MethodHandle") && decide (t.1.nm.cls ≠ "java/lang/invoke/VarHandle") && decide ((parseMethodDescriptor t.1.nm.desc).map (fun d => d.parameters.length) = some t.1.na) && decide (t.1.mL ≤ 21) && decide (t.1.na + 1 ≤ t.1.mL)
  | none => false
theorem mm_decs_spec {cc : ByteArray} {pc : Nat} {i : Instr} (h : mm_decs cc pc i = true) : ∃ n, decode cc pc = .ok (i, n) := by
  unfold mm_decs at h
  split at h
  · rename_i i' n hd
    exact ⟨n, by rw [hd, of_decide_eq_true h]⟩
  · cases h
theorem mm_cats (ad : Nat → Nat) (st : List MV) : ((st.map (mm_rv ad)).map fun v => v.category).sum = st.length := by
  induction st with
  | nil => rfl
  | cons a r ih =>
    simp only [List.map_cons, List.sum_cons, List.length_cons]
    rw [ih, mm_rv_cat]; omega
theorem mm_EX_at {A B : Nat → Prop} {s U : State} {H : Heap} {locs : List Loc} (h : mm_EX A s) (hS : va_S A s.heap H locs) (hAB : ∀ z, B z → A z) (hU : U.heap = H) (hW : s.WarmedH U.vm) : mm_EX B U := by
  obtain ⟨h1, h2, h3, h4⟩ := h
  refine ⟨?_, ?_, fun w hw => mm_cd_at (List.mem_filter.mp hw).2 hW (h3 w hw), fun t ht => ?_⟩
  · rw [hU]; exact vx_Zq.moved hW.alike ((h1.kept hS.2.1).narrow hAB)
  · rw [hU]; exact vx_Zq.moved hW.alike ((h2.kept hS.2.1).narrow hAB)
  · obtain ⟨sa, h5⟩ := h4 t ht
    exact ⟨sa, vk_R.warm hW h5⟩
theorem mm_EX_call {B : Nat → Prop} {U : State} {g : JFrame} {mk : MethodId} {a : Array Value} (h : mm_EX B U) : mm_EX B (U.calling g mk a) := by
  have hW : U.WarmedH (U.calling g mk a).vm := State.WarmedH.refl U
  exact mm_EX_at (H := U.heap) (locs := []) h va_S.rf (fun _ z => z) rfl hW
abbrev mm_en : List String := ["java/lang/RuntimeException", "java/lang/Exception"]
end
section
theorem mm_XT_a : mm_XT.all (fun t => decide (Cond.classLink RX7 t.1 (mm_exn t.2.2) ∈ mm_ut) && decide (Cond.initialized (mm_exn t.2.2) ∈ mm_ut)) = true := by decide +kernel
theorem mm_XT_b : mm_XT.all (fun t => Bundle.fit (mm_exn t.2.2)) = true := by decide +kernel
theorem mm_XT_c : mm_XT.all (fun t => decide (t.2.2 ≠ 0)) = true := by decide +kernel
theorem mm_XT_e : mm_XT.all (fun t => (vx_atS RX7 t.2.1 (mm_exn t.2.2) mm_en).all (fun w => vx_ot w && (goodWord w || mm_cd w))) = true := by decide +kernel
theorem mm_XT_f : mm_XT.all (fun t => vx_ot (Cond.classLink RX7 t.1 (mm_exn t.2.2)) && vx_ot (Cond.initialized (mm_exn t.2.2))) = true := by decide +kernel
theorem mm_fit_en : ∀ n ∈ mm_en, Bundle.fit n = true := by decide +kernel
theorem mm_XT_d1 : ∀ w ∈ vx_atS RX7 85 (mm_exn 1) mm_en, w ∈ lw_tbl := by decide +kernel
theorem mm_XT_d3 : ∀ w ∈ vx_atS RX7 103 (mm_exn 3) mm_en, w ∈ lw_tbl := by decide +kernel
theorem mm_XT_d2 : ∀ w ∈ vx_atS RX7 141 (mm_exn 2) mm_en, w ∈ lw_tbl := by decide +kernel
theorem mm_XT_d4 : ∀ w ∈ vx_atS RX7 174 (mm_exn 4) mm_en, w ∈ lw_tbl := by decide +kernel
theorem mm_XT_at {ix ic x : Nat} (h : (ix, ic, x) ∈ mm_XT) (h5 : x ≠ 5) : ∀ w ∈ vx_atS RX7 ic (mm_exn x) mm_en, w ∈ lw_tbl := by
  simp only [mm_XT, List.mem_cons, List.not_mem_nil, or_false, Prod.mk.injEq] at h
  rcases h with ⟨-, rfl, rfl⟩ | ⟨-, rfl, rfl⟩ | ⟨-, rfl, rfl⟩ | ⟨-, rfl, rfl⟩ | ⟨-, rfl, rfl⟩
  · exact mm_XT_d1
  · exact mm_XT_d3
  · exact mm_XT_d2
  · exact mm_XT_d4
  · exact absurd rfl h5
end
section
theorem mm_MT_ok : (mm_MT.zip mm_MW).all mm_okW = true := by decide +kernel
theorem mm_good_code (a : MethodName) (b : ByteArray) (n : Nat) (d : Option FieldType) : goodWord (Cond.code a b n d) = true := rfl
theorem mm_cw_mem {l : List MI} {ix : List Nat} (h : l.map (fun q => some (Cond.code q.nm q.cc q.mL (mm_rty q.rt))) = ix.map (fun i => lw_tbl[i]?)) {q : MI} (hq : q ∈ l) : Cond.code q.nm q.cc q.mL (mm_rty q.rt) ∈ mm_ut := by
  have h1 : some (Cond.code q.nm q.cc q.mL (mm_rty q.rt)) ∈ ix.map (fun i => lw_tbl[i]?) := by rw [← h]; exact List.mem_map.mpr ⟨q, hq, rfl⟩
  obtain ⟨i, -, hi⟩ := List.mem_map.mp h1
  exact mm_in_ut (List.mem_of_getElem? hi) (mm_good_code _ _ _ _)
set_option maxRecDepth 100000 in
set_option maxHeartbeats 4000000 in
theorem mm_cw0 : mm_MT0.map (fun q => some (Cond.code q.nm q.cc q.mL (mm_rty q.rt))) = [609, 853, 857, 888, 879, 883, 297, 324, 526, 535, 531, 562, 586, 590, 582, 541, 304, 312, 316, 426].map (fun i => lw_tbl[i]?) := rfl
set_option maxRecDepth 100000 in
set_option maxHeartbeats 4000000 in
theorem mm_cw1 : mm_MT1.map (fun q => some (Cond.code q.nm q.cc q.mL (mm_rty q.rt))) = [477, 446, 493, 473, 485, 489, 481, 410, 464, 469, 456, 320, 578, 594, 663, 667, 952, 959, 972, 977].map (fun i => lw_tbl[i]?) := rfl
set_option maxRecDepth 100000 in
set_option maxHeartbeats 4000000 in
theorem mm_cw2 : mm_MT2.map (fun q => some (Cond.code q.nm q.cc q.mL (mm_rty q.rt))) = [963, 617, 764, 728, 752, 720, 775, 748, 740, 675, 736, 760, 768, 783, 622, 650, 679, 687, 691, 788].map (fun i => lw_tbl[i]?) := rfl
set_option maxRecDepth 100000 in
set_option maxHeartbeats 4000000 in
theorem mm_cw3 : mm_MT3.map (fun q => some (Cond.code q.nm q.cc q.mL (mm_rty q.rt))) = [793, 659, 654, 732, 683, 645, 695, 626, 460, 813, 285, 328, 289, 700, 724, 744, 756, 866, 779, 875].map (fun i => lw_tbl[i]?) := rfl
set_option maxRecDepth 100000 in
set_option maxHeartbeats 4000000 in
theorem mm_cw4 : mm_MT4.map (fun q => some (Cond.code q.nm q.cc q.mL (mm_rty q.rt))) = [841, 968, 870, 862, 900, 716, 708, 712, 704, 336, 418, 500, 508, 517, 572, 605, 821, 281, 848, 895].map (fun i => lw_tbl[i]?) := rfl
set_option maxRecDepth 100000 in
set_option maxHeartbeats 4000000 in
theorem mm_cw5 : mm_MT5.map (fun q => some (Cond.code q.nm q.cc q.mL (mm_rty q.rt))) = [907, 916, 943, 293, 308, 422, 452, 521, 920, 926, 931, 948, 613, 671, 1102, 1114, 1122, 1142, 1106, 1118].map (fun i => lw_tbl[i]?) := rfl
set_option maxRecDepth 100000 in
set_option maxHeartbeats 4000000 in
theorem mm_cw6 : mm_MT6.map (fun q => some (Cond.code q.nm q.cc q.mL (mm_rty q.rt))) = [1110, 1134, 1138, 1130, 1126, 1146, 1154, 1158, 1150, 1162, 1166, 1170, 1186, 1182, 1190, 1178, 1174, 1214, 1206, 1210].map (fun i => lw_tbl[i]?) := rfl
set_option maxRecDepth 100000 in
set_option maxHeartbeats 4000000 in
theorem mm_cw7 : mm_MT7.map (fun q => some (Cond.code q.nm q.cc q.mL (mm_rty q.rt))) = [1218, 1222, 1226, 1202, 1198, 1194, 1234, 1238, 1230, 1242, 1246, 1251, 1255, 1259, 1263].map (fun i => lw_tbl[i]?) := rfl
theorem mm_code_in {q : MI} (hq : q ∈ mm_MT) : Cond.code q.nm q.cc q.mL (mm_rty q.rt) ∈ mm_ut := by
  unfold mm_MT at hq
  simp only [List.mem_append] at hq
  rcases hq with h | h | h | h | h | h | h | h
  · exact mm_cw_mem mm_cw0 h
  · exact mm_cw_mem mm_cw1 h
  · exact mm_cw_mem mm_cw2 h
  · exact mm_cw_mem mm_cw3 h
  · exact mm_cw_mem mm_cw4 h
  · exact mm_cw_mem mm_cw5 h
  · exact mm_cw_mem mm_cw6 h
  · exact mm_cw_mem mm_cw7 h
theorem mm_MT_spec {y : Nat} {q : MI} {w : vw_C} (h : mm_MT[y]? = some q) (hq : vwCl[q.ci]? = some w) : (∀ (own : String) (ix : Nat), Cond.methodLink own ix q.nm ∈ mm_ut → GoodIn mm_ut (wsV own ix w.1 q.nm (mm_ws q))) ∧ (q.nm.cls = w.1 ∧ q.nm.cls ≠ "java/lang/invoke/MethodHandle" ∧ q.nm.cls ≠ "java/lang/invoke/VarHandle" ∧ (parseMethodDescriptor q.nm.desc).map (fun d => d.parameters.length) = some q.na) ∧ plainName q.nm.cls = true ∧ q.mL ≤ 21 ∧ q.na + 1 ≤ q.mL := by
  obtain ⟨b, h1⟩ := mm_zip_at mm_MT_ok rfl (List.mem_of_getElem? h)
  unfold mm_okW at h1
  rw [hq] at h1
  simp only [Bool.and_eq_true, decide_eq_true_eq] at h1
  obtain ⟨⟨⟨⟨⟨⟨⟨⟨⟨h1, h2⟩, h3⟩, h5⟩, h6⟩, h7⟩, h8⟩, h9⟩, h10⟩, h11⟩ := h1
  refine ⟨fun own ix hl w9 hw => ?_, ⟨h5, h7, h8, h9⟩, h6, h10, h11⟩
  have hm : w9 ∈ mm_ut := by
    simp only [wsV, mm_ws, List.cons_append, List.nil_append, List.mem_cons] at hw
    rcases hw with rfl | rfl | rfl | rfl | rfl | hw
    · exact hl
    · exact mm_wi_spec h1
    · exact mm_wi_spec h2
    · exact mm_wi_spec h3
    · exact mm_code_in (List.mem_of_getElem? h)
    · exact hw
  exact ⟨hm, good_of_word (mm_ut_good hm)⟩
end
section
section MMS
variable {p : Program} {l : Launch} {e : Env} {R : Room} {s : State} {m : MethodId} {args : Array Value} {below : List Frame} {meth : Method} {c : Code}
/-- what stands fast in a method's body -/
def mm_Cx (p : Program) (l : Launch) (e : Env) (s : State) (m : MethodId) (args : Array Value) (below : List Frame) (meth : Method) (c : Code) (D : va_G) (cy : ClassId × ClassId × ClassId) (A : Nat → Prop) (q : MI) (own : String) : Prop :=
  p.tables.exec = Jvm.exec ∧ c.code = q.cc ∧ c.maxLocals = q.mL ∧ s.vm.findClass own = some m.cls ∧ (∀ w ∈ mm_ut, w.before args s = true) ∧ va_K D vwCl (mm_ty cy) s ∧ (∀ x ∈ c.exceptionTable.toList, False) ∧ meth.locks = false ∧ meth.sig.returnType = mm_rty q.rt ∧ (∀ z : Nat, s.heap.size ≤ z → A z) ∧ mm_EX A s ∧ l.stackTraces = false ∧ (∃ T N, vwCl[q.ci]? = some (own, T, N))
/-- the walk from a row on, for every heap that holds the memory -/
def mm_G (p : Program) (l : Launch) (e : Env) (R : Room) (s : State) (m : MethodId) (args : Array Value) (below : List Frame) (meth : Method) (c : Code) (D : va_G) (cy : ClassId × ClassId × ClassId) (A : Nat → Prop) (ad0 : Nat → Nat) (ov : Int64) (q : MI) (r : Res) (j : Nat) (L : List (Option MV)) (st : List MV) (S : Mem) (kc ks : Nat) : Prop :=
  ∀ (ad : Nat → Nat) (H : Heap) (locs : List Loc) (ls : Array Slot) (pc : Nat), (∀ z, z ≠ mm_RM → ad z = ad0 z) → q.pcs[j]? = some pc → va_P D vwCl (mm_W cy ad ov S) H → va_D A (mm_W cy ad ov S) → va_S A s.heap H locs → mm_lh ad ls q.mL L →
    W p l e R s m args below meth c H locs kc ks (vx_MQ below (mm_Qc D cy A ad0 ov q.rt r) (mm_XC D cy A ad0 ov r) args s r.2.1 r.2.2.1 A) (F0 m pc ls (st.map (mm_rv ad)))
theorem mm_nx_spec {pcs : List Nat} {j pc : Nat} (h : mm_nx pcs j pc = true) : pcs[j]? = some pc := of_decide_eq_true h
theorem mm_dec_spec {cc : ByteArray} {pc n : Nat} {i : Instr} (h : mm_dec cc pc i n = true) : decode cc pc = .ok (i, n) := of_decide_eq_true h
theorem mm_jmp_spec {pcs : List Nat} {x pc : Nat} {off : Int} (h : mm_jmp pcs x pc off = true) : ∃ t : Nat, pcs[x]? = some t ∧ (pc : Int) + off = (t : Int) := by
  unfold mm_jmp at h
  split at h
  · rename_i t ht
    exact ⟨t, ht, of_decide_eq_true h⟩
  · cases h
theorem mm_lk_spec {pcs : List Nat} {pc x : Nat} {d : Int} {k : Int} (hd : mm_jmp pcs x pc d = true) : ∀ (ps : List (Int × Int)) (ts : List Nat), ps.length = ts.length → (ps.zip ts).all (fun q => mm_jmp pcs q.2 pc q.1.2) = true → mm_jmp pcs (mm_lk ps ts x k) pc (Op.lookupswitch.offset ps d k) = true := by
  intro ps
  induction ps with
  | nil => intro ts _ _; cases ts <;> exact hd
  | cons a r ih =>
    intro ts hl h
    cases ts with
    | nil => simp at hl
    | cons t ts =>
      simp only [List.zip_cons_cons, List.all_cons, Bool.and_eq_true] at h
      obtain ⟨a1, a2⟩ := a
      rw [Op.lookupswitch.offset_cons]
      unfold mm_lk
      by_cases hk : a1 = k
      · simp only [hk, if_true]; exact h.1
      · simp only [hk, if_false]; exact ih ts (by simpa using hl) h.2
set_option maxHeartbeats 4000000 in
set_option maxRecDepth 100000 in
/-- a call of a method of the table -/
theorem mm_sound_call {D : va_G} {cy : ClassId × ClassId × ClassId} {A : Nat → Prop} {ad0 : Nat → Nat} {ov : Int64} {q : MI} {own : String} {r : Res} {call : Nat → List MV → Mem → Option Res} {k : Kt} {j : Nat} {L : List (Option MV)} {S : Mem} {kc ks : Nat} {st : List MV} {d : Nat}
    (C0 : mm_Cx p l e s m args below meth c D cy A q own) (hR : R.cells = r.2.1 ∧ R.slots = r.2.2.1 ∧ d + 9 ≤ R.frames ∧ 40 * d + 240 ≤ R.locals)
    (hcall : ∀ y as S r' mi, call y as S = some r' → mm_MT[y]? = some mi → mm_Con l D cy d mi as S r') (hkm : ∀ j L st S kc ks, k j L st S kc ks = some r → kc ≤ r.2.1 ∧ ks ≤ r.2.2.1)
    (hk : ∀ j L st S kc ks, k j L st S kc ks = some r → mm_G p l e R s m args below meth c D cy A ad0 ov q r j L st S kc ks)
    {x ix pc : Nat} {mi : MI} {b9 : Nat} {r9 : List MV} (hd1 : decode q.cc pc = .ok (.invokevirtual ix, 3)) (hd2 : q.pcs[j + 1]? = some (pc + 3)) (hlk : Cond.methodLink own ix mi.nm ∈ mm_ut) (hmi : mm_MT[x]? = some mi) (hdrop : st.drop mi.na = .inr b9 :: r9)
    (hc1 : mm_KD[b9]? = some (0, mi.ci)) (hc2 : mm_noRm r9 = true) (hc4 : r9.length ≤ 8)
    (h : (match call x (.inr b9 :: (st.take mi.na).reverse) S with
          | some (S', c', s', 0, a) => k (j + 1) L (mm_psh mi.rt a r9) S' (kc + c') (ks + s')
          | some (S', c', s', e + 1, _) => some (S', kc + c', ks + s', e + 1, 0)
          | none => none) = some r)
    {ad : Nat → Nat} {H : Heap} {locs : List Loc} {ls : Array Slot} (had : ∀ z, z ≠ mm_RM → ad z = ad0 z) (hP : va_P D vwCl (mm_W cy ad ov S) H) (hD : va_D A (mm_W cy ad ov S)) (hS : va_S A s.heap H locs) (hl : mm_lh ad ls q.mL L) (hFc : ∀ z, va_A (mm_W cy ad ov S) H.size z → A z) :
    W p l e R s m args below meth c H locs kc ks (vx_MQ below (mm_Qc D cy A ad0 ov q.rt r) (mm_XC D cy A ad0 ov r) args s r.2.1 r.2.2.1 A) (F0 m pc ls (st.map (mm_rv ad))) := by
  obtain ⟨hx, hb, hml, hown, hts, hK, hex, hlocks, hret, hA, hEX, hst, hcl⟩ := C0
  obtain ⟨hR1, hR2, hR3, hR4⟩ := hR
  have hst1 : st.map (mm_rv ad) = ((st.take mi.na).reverse.map (mm_rv ad)).reverse ++ .ref (ad b9) :: r9.map (mm_rv ad) := by
    rw [← List.map_reverse, List.reverse_reverse]
    conv => lhs; rw [← List.take_append_drop mi.na st, hdrop]
    rw [List.map_append]; rfl
  have hna : ((st.take mi.na).reverse.map (mm_rv ad)).length = mi.na := by
    have h9 : mi.na < st.length := by
      rcases Nat.lt_or_ge mi.na st.length with z | z
      · exact z
      · rw [List.drop_eq_nil_of_le z] at hdrop; cases hdrop
    simp; omega
  obtain ⟨w, hw⟩ : ∃ w, vwCl[mi.ci]? = some w := by
    have h9 := List.all_eq_true.mp mm_MT_ok
    obtain ⟨b, h8⟩ := mm_zip_at mm_MT_ok rfl (List.mem_of_getElem? hmi)
    unfold mm_okW at h8
    split at h8
    · rename_i w hw; exact ⟨w, hw⟩
    · cases h8
  obtain ⟨hgood, hcls, hpl, hmL, hnaL⟩ := mm_MT_spec hmi hw
  have hKm : ∀ {U : State}, s.WarmedH U.vm → va_K D vwCl (mm_ty cy) U := fun hW => va_K.moved hW.alike hK
  -- the callee's run
  have run : ∀ r' : Res, call x (.inr b9 :: (st.take mi.na).reverse) S = some r' → kc + r'.2.1 ≤ R.cells ∧ ks + r'.2.2.1 ≤ R.slots →
      vx_Run p l e R s m args below meth c H locs kc ks r'.2.1 r'.2.2.1 (F0 m pc ls (st.map (mm_rv ad))) (r9.map (mm_rv ad)) (mm_Qc D cy (va_A (mm_W cy ad ov S) H.size) ad ov mi.rt r' (Value.ref (ad b9) :: (st.take mi.na).reverse.map (mm_rv ad)).toArray) (mm_XC D cy (va_A (mm_W cy ad ov S) H.size) ad ov r') (va_A (mm_W cy ad ov S) H.size) := by
    intro r' hr' hroom
    have hM := hcall _ _ _ _ _ hr' hmi ad ov H.size
    refine vx_runV (As := (st.take mi.na).reverse.map (mm_rv ad)) (C := w.1) (b := ad b9) (n := mi.na) ⟨hx, hb, hml, hown, hts⟩ hM (cwV mi.na hts (hgood own ix hlk) rfl rfl rfl hcls ⟨?_, ?_⟩) ⟨?_, ?_, ?_⟩ rfl hna hl.1 hst1 ?_ hd1 hroom
    · show d + 8 + 1 ≤ _; omega
    · show 8 + (mi.mL + 11) + (40 * d + 200) ≤ _; omega
    · intro a U g mk qq
      obtain ⟨q0, q1, qP, qK, qD, qE⟩ := qq
      refine ⟨q0, q1, qP, va_K.moved (u := U) (U := U.calling g mk a) (Vm.Alike.refl U.vm) qK, qD, ?_⟩
      exact mm_EX_call qE
    · exact va_recv hK hP (ci := mi.ci) (q0 := b9) hw (by rw [mm_W_at (mm_KD_lt hc1), mm_ent_obj hc1])
    · intro U hU hW
      exact ⟨rfl, by rw [hU], by rw [hU]; exact hP, hKm hW, hD.weaken (fun _ _ _ _ => trivial), mm_EX_at hEX hS hFc hU hW⟩
    · exact lv_room (by rw [mm_cats]; exact hc4)
  split at h
  · rename_i S' c' s' a' hr'
    have hb9 := hkm _ _ _ _ _ _ h
    have hrun := run _ hr' ⟨by rw [hR1]; exact hb9.1, by rw [hR2]; exact hb9.2⟩
    have back : ∀ (u : Mem) (t : State) (H1 : Heap) (locs1 : List Loc), t.heap = H1 → s.vm.Alike t.vm → u = S' → mm_B D cy (va_A (mm_W cy ad ov S) H.size) ad ov u t → va_S A s.heap H1 locs1 →
        W p l e R s m args below meth c H1 locs1 (kc + c') (ks + s') (vx_MQ below (mm_Qc D cy A ad0 ov q.rt r) (mm_XC D cy A ad0 ov r) args s r.2.1 r.2.2.1 A) (F0 m (pc + 3) ls ((mm_psh mi.rt a' r9).map (mm_rv ad))) := by
      intro u t H1 locs1 ht hal hu hB hS1
      subst hu
      obtain ⟨ad', had', hP1, -, hD1⟩ := hB
      rw [ht] at hP1
      have hmv : (mm_psh mi.rt a' r9).map (mm_rv ad) = (mm_psh mi.rt a' r9).map (mm_rv ad') := by
        unfold mm_psh
        split
        · exact (mm_rv_move hc2 had').symm
        · rw [List.map_cons, List.map_cons, mm_rv_move hc2 had']; rfl
      rw [hmv]
      exact hk _ _ _ _ _ _ h ad' H1 locs1 ls _ (fun z hz => (had' z hz).trans (had z hz)) hd2 hP1 (hD1.weaken (fun _ z _ hz => hFc _ hz)) hS1 (hl.move had')
    by_cases hrt : mi.rt = 0
    · unfold mm_Qc at hrun
      rw [if_pos hrt] at hrun
      refine vx_callv hrun hS (fun z _ hz => hFc z hz) hFc (fun z _ hz => hFc z hz) ?_ ?_
      · intro E ce q9 u t H1 locs1 _ _ hpx
        exact absurd rfl hpx.2
      · intro u t H1 locs1 ht hal hpost hB _ _ hS1
        have hw9 := back u t H1 locs1 ht hal hpost.1 hB hS1
        rw [hrt] at hw9
        exact hw9
    · unfold mm_Qc at hrun
      rw [if_neg hrt] at hrun
      refine vx_calli hrun hS (fun z _ hz => hFc z hz) hFc (fun z _ hz => hFc z hz) ?_ ?_
      · intro E ce q9 u t H1 locs1 _ _ hpx
        exact absurd rfl hpx.2
      · intro a u t H1 locs1 ht hal hpost hB _ _ hS1
        have hw9 := back u t H1 locs1 ht hal hpost.2.1 hB hS1
        have e6 : a = a' := hpost.1
        obtain ⟨z9, hz9⟩ : ∃ z, mi.rt = z + 1 := ⟨mi.rt - 1, by omega⟩
        rw [hz9, ← e6] at hw9
        exact hw9
  · rename_i S' c' s' e' a' hr'
    have e8 := (Option.some.inj h).symm
    have e7 : r.2.1 = kc + c' ∧ r.2.2.1 = ks + s' := by rw [e8]; exact ⟨rfl, rfl⟩
    have hrun := run _ hr' ⟨by rw [hR1, e7.1]; exact Nat.le_refl _, by rw [hR2, e7.2]; exact Nat.le_refl _⟩
    have out : ∀ (E : String) (ce : Cell) (q9 : Addr) (u : Mem) (t : State) (H1 : Heap) (locs1 : List Loc), t.heap = H1 → s.vm.Alike t.vm → (u = S' ∧ e' + 1 ≠ 0) → (E = mm_exn (e' + 1) ∧ mm_B D cy (va_A (mm_W cy ad ov S) H.size) ad ov u t) → H.size ≤ H1.size → (∀ z : Nat, z < H.size → ¬ va_A (mm_W cy ad ov S) H.size z → H1[z]? = H[z]?) → va_S A s.heap H1 locs1 → H1[q9]? = some ce → ce.vm = .none → s.vm.findClass E = some ce.cls →
        vx_W p l e R s m args below meth c H1 locs1 (kc + c') (ks + s') (vx_MQ below (mm_Qc D cy A ad0 ov q.rt r) (mm_XC D cy A ad0 ov r) args s r.2.1 r.2.2.1 A) (F0 m pc ls (r9.map (mm_rv ad))) q9 := by
      intro E ce q9 u t H1 locs1 ht hal hpx hB hz1 hz2 hS1 hce hcv hcE
      obtain ⟨hE, ad', had', hP1, -, hD1⟩ := hB
      rw [ht] at hP1
      refine vx_out (E := E) (fun z hz => absurd hz (hex z)) hlocks hce hcv hcE (fun t' ht' hal' => ?_) hS1.2.2 (by rw [e7.1]; exact Nat.le_refl _) (by rw [e7.2]; exact Nat.le_refl _)
      refine ⟨u, ⟨by rw [hpx.1, e8], by rw [e8]; exact hpx.2⟩, ⟨by rw [e8]; exact hE, ad', fun z hz => (had' z hz).trans (had z hz), by rw [ht']; exact hP1, va_K.moved hal' hK, hD1.weaken (fun _ z _ hz => hFc _ hz)⟩, hS1.F ht'⟩
    by_cases hrt : mi.rt = 0
    · unfold mm_Qc at hrun
      rw [if_pos hrt] at hrun
      refine vx_callv hrun hS (fun z _ hz => hFc z hz) hFc (fun z _ hz => hFc z hz) out ?_
      intro u t H1 locs1 _ _ hpost
      exact absurd hpost.2 (Nat.succ_ne_zero _)
    · unfold mm_Qc at hrun
      rw [if_neg hrt] at hrun
      refine vx_calli hrun hS (fun z _ hz => hFc z hz) hFc (fun z _ hz => hFc z hz) out ?_
      intro a u t H1 locs1 _ _ hpost
      exact absurd hpost.2.2 (Nat.succ_ne_zero _)
  · cases h
end MMS
end
section
/-! THE FIFTH EXCEPTION: its constructor passes its text on by entry 13, where the library's law knows entry 7 alone -/
def mm_t5 : ByteArray := ⟨#[0x2a, 0x2b, 0xb7, 0x00, 0x0d, 0xb1]⟩
theorem mm_t5d : decode mm_t5 0 = .ok (.aload_n 0, 1) ∧ decode mm_t5 1 = .ok (.aload_n 1, 1) ∧ decode mm_t5 2 = .ok (.invokespecial 13, 3) ∧ decode mm_t5 5 = .ok (.return_, 1) := ⟨by decide +kernel, by decide +kernel, by decide +kernel, by decide +kernel⟩
abbrev mm_x5 : String := "java/util/NoSuchElementException"
/-- the fields that a Throwable has -/
def mm_f5 : List (String × String) := [("cause", "Ljava/lang/Throwable;"), ("stackTrace", Bundle.steD), ("suppressedExceptions", Bundle.listD), ("detailMessage", "Ljava/lang/String;"), ("backtrace", "Ljava/lang/Object;")]
/-- the words of it, in four lists -/
def mm_w5 : List Cond := [.methodLink RX7 186 (Bundle.initS mm_x5), .instantiable mm_x5 6, .castable mm_x5 mm_x5, .fieldLink Bundle.tN 198 Bundle.tN "backtrace" "Ljava/lang/Object;", .lays Bundle.tN Bundle.tN "backtrace" "Ljava/lang/Object;"]
def mm_s5 : List Cond := [.selects mm_x5 Bundle.tFill0 Bundle.tFill0, .selects mm_x5 Bundle.tFill Bundle.tFill, .isRef (.static Bundle.tN "UNASSIGNED_STACK" Bundle.steD), .isRef (.static Bundle.tN "SUPPRESSED_SENTINEL" Bundle.listD)]
def mm_a5 : List Cond := mm_w5 ++ mm_s5 ++ mm_f5.map (fun q => Cond.lays mm_x5 Bundle.tN q.1 q.2) ++ Bundle.passSAtoms mm_x5 "java/lang/RuntimeException" 13 mm_t5 ++ Bundle.chainSAtoms "java/lang/RuntimeException" ["java/lang/Exception"] ++ Bundle.throwableSAtoms ++ Bundle.throwableAtoms
theorem mm_a5_in : ∀ w ∈ mm_a5.filter vx_no, w ∈ lw_tbl := by decide +kernel
theorem mm_a5_ot : ∀ w ∈ mm_a5.filter vx_no, (vx_ot w && (goodWord w || mm_cd w)) = true := by decide +kernel
section FIVE
variable {p : Program} {l : Launch} {e : Env} {R : Room} {s : State} {m₀ : MethodId} {args : Array Value} {below : List Frame} {meth : Method} {c : Code} {U₀ : State} {locs : List Loc} {cells slots : Nat}
set_option maxHeartbeats 1000000 in
/-- the constructor is run, and what it made is thrown -/
theorem mm_ctor5 (X : Stand p l e R s m₀ args below meth c U₀ locs cells slots) (hx : p.tables.exec = Jvm.exec) (hno : e.platform.stackTraces = false) (hme : s.vm.findClass RX7 = some m₀.cls) (hq : ∀ w ∈ mm_a5, w.before args s = true)
    (hst : ∀ z ∈ locs, ∀ ce, s.heap[z.base]? = some ce → ce.vm.isStatics = false) {o : Addr} {ci : ClassId} {ck : Class} (hci : s.vm.findClass mm_x5 = some ci) (hck : s.vm.classes[ci]? = some ck) (ho : U₀.heap[o]? = some (freshCell ci ck)) (hn : s.heap.size ≤ o)
    {v : Value} (hv : v.isRef = true) {f : JFrame} (f1 : f.method = m₀) (f2 : f.locals.size = c.maxLocals) (f3 : f.locked = none) (f4 : f.entered = []) {r : List Value} (f5 : f.stack = v :: .ref o :: .ref o :: r)
    (d1 : decode c.code f.pc = .ok (.invokespecial 186, 3)) (d2 : decode c.code (f.pc + 3) = .ok (.athrow, 1)) (hcv : ∀ x ∈ c.exceptionTable.toList, covers x (f.pc + 3) = false) (hfr : 5 < R.frames)
    (hlo : 2 * f.monitorRoom + ((Value.ref o :: r).map fun v => v.category).sum + 81 ≤ R.locals) (hlk : meth.locks = false) :
    ∃ U : State, Steps p.tables e below (U₀.setTop f) U ∧ U.status = .running ∧ Ended U below (.threw o) ∧ s.WarmedH U.vm ∧ s.sameButNew ({ U with vm := s.vm } : State) locs cells slots ∧ ∃ ce, U.heap[o]? = some ce ∧ ce.vm = .none ∧ s.vm.findClass mm_x5 = some ce.cls := by
  have hpl : e.platform.magicAccessors = ({} : Platform).magicAccessors := by rw [X.admits.platform]
  have q1 : ∀ w ∈ mm_w5, w.before args s = true := fun w h => hq w (by simp only [mm_a5, List.mem_append]; exact Or.inl (Or.inl (Or.inl (Or.inl (Or.inl (Or.inl h))))))
  have q2 : ∀ w ∈ mm_s5, w.before args s = true := fun w h => hq w (by simp only [mm_a5, List.mem_append]; exact Or.inl (Or.inl (Or.inl (Or.inl (Or.inl (Or.inr h))))))
  have q3 : ∀ a b, (a, b) ∈ mm_f5 → (Cond.lays mm_x5 Bundle.tN a b).before args s = true := fun a b h => hq _ (by simp only [mm_a5, List.mem_append]; exact Or.inl (Or.inl (Or.inl (Or.inl (Or.inr (List.mem_map.mpr ⟨(a, b), h, rfl⟩))))))
  have q4 : ∀ w ∈ Bundle.passSAtoms mm_x5 "java/lang/RuntimeException" 13 mm_t5, w.before args s = true := fun w h => hq w (by simp only [mm_a5, List.mem_append]; exact Or.inl (Or.inl (Or.inl (Or.inr h))))
  have q5 : ∀ w ∈ Bundle.chainSAtoms "java/lang/RuntimeException" ["java/lang/Exception"], w.before args s = true := fun w h => hq w (by simp only [mm_a5, List.mem_append]; exact Or.inl (Or.inl (Or.inr h)))
  have q6 : ∀ w ∈ Bundle.throwableSAtoms, w.before args s = true := fun w h => hq w (by simp only [mm_a5, List.mem_append]; exact Or.inl (Or.inr h))
  have q7 : ∀ w ∈ Bundle.throwableAtoms, w.before args s = true := fun w h => hq w (by simp only [mm_a5, List.mem_append]; exact Or.inr h)
  -- who stands on the way up: three that pass the text on, then Throwable's own
  obtain ⟨th, z0, ly, -, ti⟩ := ThrowableC.of_atoms (args := args) (s := s) (pl := e.platform) (by rw [X.admits.platform]) (by rw [X.admits.platform]) hpl q7
  obtain ⟨zz, mg, lz, lm, ntop⟩ := Init0T.ofS_atoms (args := args) hpl ly ti q6
  obtain ⟨u1, lu1, nu1, su1⟩ := PassC.ofS_atoms (args := args) (s := s) hpl (X := mm_x5) (Y := "java/lang/RuntimeException") (index := 13) (bytes := mm_t5) (by decide +kernel) (by decide) mm_t5d.1 mm_t5d.2.1 mm_t5d.2.2.1 mm_t5d.2.2.2 q4
  obtain ⟨u2, us, nus, lu2, lus, nu2, k2, ks⟩ := Bundle.chainS (args := args) hpl ntop ["java/lang/Exception"] "java/lang/RuntimeException" (by decide +kernel) (by decide +kernel) q5
  have up1 : u1.sup = u2.m := Option.some.inj (su1.symm.trans nu2)
  have nus1 : us.length = 1 := nus
  have hc1 : s.vm.findClass mm_x5 = some u1.m.cls := findClass_of_methodNamed nu1
  obtain rfl : ci = u1.m.cls := Option.some.inj (hci.symm.trans hc1)
  obtain ⟨cj, kj, hcj, hkj, hord, -, -, -⟩ := Cond.instantiable_spec (q1 (.instantiable mm_x5 6) (by simp [mm_w5]))
  obtain rfl : cj = u1.m.cls := Option.some.inj (hcj.symm.trans hc1)
  obtain rfl : kj = ck := Option.some.inj (hkj.symm.trans hck)
  -- fillInStackTrace is Throwable's own
  have sel : ∀ (y : MethodName) (w : MethodId), (Cond.selects mm_x5 y y).before args s = true → s.methodNamed? y = some w → s.methodFound? y.cls y.name y.desc = some w → selectMethod e.platform s.vm u1.m.cls w = .method w := by
    intro y w h1 h2 h3
    obtain ⟨c2, r2, m2, g1, g2, g3, g4, -⟩ := Cond.selects_spec h1
    obtain rfl : c2 = u1.m.cls := Option.some.inj (g1.symm.trans hc1)
    obtain rfl : r2 = w := Option.some.inj (g2.symm.trans h3)
    obtain rfl : m2 = r2 := Option.some.inj (g3.symm.trans h2)
    rw [Launch.admits_selectMethod X.admits]
    exact g4
  have sel1 := sel Bundle.tFill0 th.fill0 (q2 _ (by simp [mm_s5])) ti.fill0 (State.methodFound?_of_named ti.fill0 (by decide))
  have sel2 := sel Bundle.tFill th.fill (q2 _ (by simp [mm_s5])) ti.fill (State.methodFound?_of_named ti.fill (by decide))
  -- Throwable's statics
  obtain ⟨sc, hsc, isc⟩ := ti.statics
  obtain ⟨va, hva⟩ := Cond.staticRefV ti.unassigned ly.unassignedStatic ly.statics hsc isc (q2 (.isRef (.static Bundle.tN "UNASSIGNED_STACK" Bundle.steD)) (by simp [mm_s5]))
  obtain ⟨vb, hvb⟩ := Cond.staticRefV ti.sentinel ly.sentinelStatic ly.statics hsc isc (q2 (.isRef (.static Bundle.tN "SUPPRESSED_SENTINEL" Bundle.listD)) (by simp [mm_s5]))
  obtain ⟨sc', hsc', vsc, -, keep⟩ := X.same.2.2.2.2.2 th.aS sc hsc
  have away : ∀ i, (⟨th.aS, i⟩ : Loc) ∉ locs := fun i h => by
    have := hst _ h sc hsc
    rw [isc] at this
    cases this
  have known : sc'.vm ≠ .unknown := by
    intro h
    rw [vsc] at h
    rw [show sc.vm = .unknown from h] at isc
    cases isc
  have apart : th.aS ≠ o := Nat.ne_of_lt (Nat.lt_of_lt_of_le (Array.getElem?_eq_some_iff.mp hsc).1 hn)
  -- the five fields
  obtain ⟨bi, bj, bf, w1, w2, w3, w4, -, bn, bt, bff⟩ := Cond.ownField (t := .object "java/lang/Object") ti.found ly.cls (by decide +kernel) (q1 (.fieldLink Bundle.tN 198 Bundle.tN "backtrace" "Ljava/lang/Object;") (by simp [mm_w5])) (q1 (.lays Bundle.tN Bundle.tN "backtrace" "Ljava/lang/Object;") (by simp [mm_w5])) e.platform hpl
  obtain ⟨im, ff⟩ := ti.msg
  obtain ⟨t1, x1, y1, z1⟩ := Cond.laysAt hc1 hck ti.cause (q3 "cause" _ (by simp [mm_f5]))
  obtain ⟨t2, x2, y2, z2⟩ := Cond.laysAt hc1 hck ti.stack (q3 "stackTrace" _ (by simp [mm_f5]))
  obtain ⟨t3, x3, y3, z3⟩ := Cond.laysAt hc1 hck ti.supp (q3 "suppressedExceptions" _ (by simp [mm_f5]))
  obtain ⟨t4, -, -, -⟩ := Cond.laysAt hc1 hck ff (q3 "detailMessage" _ (by simp [mm_f5]))
  obtain ⟨t5, x5, y5, z5⟩ := Cond.laysAt hc1 hck bff (q3 "backtrace" _ (by simp [mm_f5]))
  have n1 := Cond.laysApart y5 y1 z5 z1 (by rw [bn, ti.causeName]; decide)
  have n2 := Cond.laysApart y5 y2 z5 z2 (by rw [bn, ti.stackName]; decide)
  have n3 := Cond.laysApart y5 y3 z5 z3 (by rw [bn, ti.suppName]; decide)
  have bare : SkipFacts th e.platform s (fun u => u) va ((preparedCellV th.toThrowableT (freshCell u1.m.cls kj) o va vb).withEntry U₀.cur) := by
    refine ⟨{ ci198 := bi, i198 := bj, fBack := bf }, ⟨w1, w2, w3, w4⟩, ?_, fun _ _ => rfl⟩
    have h := fresh_default (c := u1.m.cls) t5
    rw [bt] at h
    simpa [preparedCellV, Cell.setSlot, Cell.withEntry, Array.getElem?_setIfInBounds, n1, n2, n3, n1.symm, n2.symm, n3.symm, defaultValue] using h
  -- the walk: into the constructor, through it, out by the throw
  obtain ⟨tm, -, -, -, vm₁, ntm, -, -, -, -, -, -, -, warm, go⟩ := Steps.initColdS (tb := p.tables) (e := e) (below := below) (s := s) (U := U₀) X.here hx X.warmed hpl hme (t := Bundle.initS mm_x5) rfl rfl ⟨by decide, by decide⟩
    (q1 (.methodLink RX7 186 (Bundle.initS mm_x5)) (by simp [mm_w5])) (q4 (.instanceMethod (Bundle.initS mm_x5)) (by simp [Bundle.passSAtoms])) (bytes := mm_t5) (maxL := 2) (q4 (.code (Bundle.initS mm_x5) mm_t5 2 none) (by simp [Bundle.passSAtoms]))
    (f := f) f1 (a := o) (msg := v) (rest := .ref o :: r) f5 d1
  obtain rfl : tm = u1.m := Option.some.inj (ntm.symm.trans nu1)
  obtain ⟨vm₂, X₂, thr⟩ := (X.noted warm).ctorMessageOffV hx (g := { f with stack := .ref o :: r }) f1 f2 th ly zz lz mg lm (u1 :: u2 :: us)
    (fun u hu => by
      rcases List.mem_cons.mp hu with rfl | hu
      · exact lu1
      · rcases List.mem_cons.mp hu with rfl | hu
        · exact lu2
        · exact lus u hu)
    ⟨up1, k2, ks⟩ (u0 := va) (sen := vb) (self := o) hv (cell := freshCell u1.m.cls kj) (cellS := sc') ho (fun _ => by simp) (by simp) rfl rfl sel1 sel2 hsc' apart known
    (by rw [keep _ (away _)]; exact hva) (by rw [keep _ (away _)]; exact hvb)
    (Takes.of_laid hck hord t1 (by rw [ti.causeType]; rfl)) (Takes.of_laid hck hord t2 (by rw [ti.stackType]; exact fits_refV_array _ va)) (Takes.of_laid hck hord t3 (by rw [ti.suppType]; exact fits_refV_object _ vb)) (Takes.of_laid hck hord t4 (by rw [ti.msgType]; exact fits_refV_object _ ⟨v, hv⟩))
    ti.objLocals bare hno [] d1 (by simp only [List.length_cons, nus1]; omega) (by simp only [List.length_cons, nus1]; exact hlo)
  obtain ⟨wk, run, ended, warmU, same⟩ := X₂.athrowLeaves hx (g := { f with stack := .ref o :: r, pc := f.pc + 3 }) f1 f3 f4 hcv (a := o) (rest := r) rfl d2 hlk
  have lt : o < ((U₀.setVm vm₁).setVm vm₂).heap.size := (Array.getElem?_eq_some_iff.mp ho).1
  refine ⟨_, go _ (fun acts => by rw [doInvoke_state]; exact thr _ wk), run, ended, warmU, same.weaken (fun z hz old => ?_) (Nat.le_refl _) (Nat.le_refl _), _, heapAt_setCell_self (s := (U₀.setVm vm₁).setVm vm₂) (plainBareV th.toThrowableT (freshCell u1.m.cls kj) o va vb v) lt, rfl, hc1⟩
  rcases List.mem_append.mp hz with h | h
  · exact h
  · have hb : z.base = o := by
      simp only [List.mem_cons, List.not_mem_nil, or_false] at h
      rcases h with rfl | rfl | rfl | rfl | rfl <;> rfl
    rw [hb] at old
    exact absurd old (Nat.not_lt.mpr hn)
end FIVE
theorem mm_i5 : Cond.initialized mm_x5 ∈ mm_ut := by decide +kernel
theorem mm_i5o : vx_ot (Cond.initialized mm_x5) = true := by decide +kernel
section MMT
variable {p : Program} {l : Launch} {e : Env} {R : Room} {s : State} {m : MethodId} {args : Array Value} {below : List Frame} {meth : Method} {c : Code} {H : Heap} {locs : List Loc} {cells slots : Nat}
variable {free : Addr → Prop} {ls : Array Slot} {rest : List Value} {Qc : Array Value → State → Outcome → State → Prop} {XC : String → State → State → Prop}
/-- 'throw new NoSuchElementException("text")': its constructor links entry 13, which the law vx_throwS doesn't know -/
theorem mm_throw5 {cc : ByteArray} {pc : Nat} (hexec : p.tables.exec = Jvm.exec) (hb : c.code = cc) (hl : l.stackTraces = false) {text : String} {ik is mc ms sa : Nat} {A : Nat → Prop}
    (hown : s.vm.findClass RX7 = some m.cls) (hk : (Cond.classLink RX7 ik (mm_exn 5)).before args s = true) (hts : ∀ w ∈ mm_ut, w.before args s = true) (hbw : ∀ w ∈ mm_bw, w.before #[] s = true) (hstr : vk_R RX7 is text sa s)
    (hU : vx_Zq Bundle.tN "UNASSIGNED_STACK" Bundle.steD A s s.heap) (hN : vx_Zq Bundle.tN "SUPPRESSED_SENTINEL" Bundle.listD A s s.heap) (hS : va_S A s.heap H locs) (hsize : ls.size = c.maxLocals)
    (d0 : decode cc pc = .ok (.new ik, 3)) (d3 : decode cc (pc + 3) = .ok (.dup, 1)) (d4 : decode cc (pc + 4) = .ok (.ldc is, 2)) (d6 : decode cc (pc + 6) = .ok (.invokespecial 186, 3)) (d9 : decode cc (pc + 9) = .ok (.athrow, 1))
    (hout : ∀ x ∈ c.exceptionTable.toList, covers x (pc + 9) = false)
    (hRframes : 5 < R.frames) (hRlocals : (rest.map fun v => v.category).sum + 82 ≤ R.locals) (hRcells : cells + 1 ≤ R.cells) (hRslots : slots + 6 ≤ R.slots) (hlocks : meth.locks = false)
    (hx : ∀ t : State, s.vm.Alike t.vm → H.size ≤ t.heap.size → (∀ q : Nat, q < H.size → t.heap[q]? = H[q]?) → XC (mm_exn 5) s t)
    (hf : ∀ z ∈ locs, free z.base) (hc : cells + 1 ≤ mc) (hs : slots + 6 ≤ ms) :
    W p l e R s m args below meth c H locs cells slots (vx_MQ below Qc XC args s mc ms free) (F0 m pc ls rest) := by
  intro T hT X
  have htr : e.platform.stackTraces = false := (show e.platform.stackTraces = l.stackTraces by rw [X.admits.platform]).trans hl
  have Y := vx_rebase X (R' := { frames := R.frames, locals := R.locals, cells := 1, slots := 6 }) (Nat.le_refl _) (Nat.le_refl _) hRcells hRslots
  obtain ⟨s', hA⟩ : ∃ z, z = (T.setVm s.vm).setFrames (.invoking m args :: below) := ⟨_, rfl⟩
  rw [← hA] at Y
  have hvm : s'.vm = s.vm := by rw [hA]; rfl
  have hhp : s'.heap = H := by rw [hA]; exact hT
  have hW0 : s.WarmedH s'.vm := by rw [hvm]; exact State.WarmedH.refl s
  have hwd : ∀ w ∈ mm_a5.filter vx_no, w.before args s = true ∧ vx_ot w = true := fun w hw => by
    have h1 := mm_a5_ot w hw
    simp only [Bool.and_eq_true, Bool.or_eq_true] at h1
    refine ⟨?_, h1.1⟩
    rcases h1.2 with g | g
    · exact hts w (List.mem_filter.mpr ⟨mm_a5_in w hw, g⟩)
    · exact mm_cd_at g (State.WarmedH.refl s) (hbw w (List.mem_filter.mpr ⟨mm_a5_in w hw, g⟩))
  have hini : (Cond.initialized mm_x5).before args s = true := hts _ mm_i5
  have hk' : (Cond.classLink RX7 ik mm_x5).before args s' = true := vx_ot_at hW0 hvm.symm rfl hk
  have hini' : (Cond.initialized mm_x5).before args s' = true := vx_ot_at hW0 hvm.symm mm_i5o hini
  have hU' : vx_Zq Bundle.tN "UNASSIGNED_STACK" Bundle.steD A s' s'.heap := by rw [hhp]; exact vx_Zq.moved hW0.alike (hU.kept hS.2.1)
  have hN' : vx_Zq Bundle.tN "SUPPRESSED_SENTINEL" Bundle.listD A s' s'.heap := by rw [hhp]; exact vx_Zq.moved hW0.alike (hN.kept hS.2.1)
  have h : ∀ w ∈ mm_a5, w.before args s' = true := vx_own (fun w hw => vx_ot_at hW0 hvm.symm (hwd w hw).2 (hwd w hw).1) (vx_isRefq hU'.1) (vx_isRefq hN'.1) hU'.2.word hN'.2.word
  have hown' : s'.vm.findClass RX7 = some m.cls := by rw [hvm]; exact hown
  have hins : (Cond.instantiable mm_x5 6).before args s' = true := h _ (by simp [mm_a5, mm_w5])
  obtain ⟨vm₁, cX, kX, hfX, hkX, -, -, X₁, st1⟩ := Y.newCold hexec (own := RX7) (C := mm_x5) (index := ik) (n := 6) hown' hk' hins hini' (g := F0 m pc ls rest) rfl (by rw [hb]; exact d0) (Nat.le_refl _) (Nat.le_refl _)
  generalize hT1 : (T.setVm vm₁).pushCell { cls := cX, slots := kX.instanceTypes.map defaultValue, vm := .none } = T1 at X₁ st1
  have hcat : (Value.ref T.heap.size).category = 1 := rfl
  have hcellA : T1.heap[T.heap.size]? = some (freshCell cX kX) := by rw [← hT1]; exact State.heap_pushCell_size _ _
  have d3' : decode c.code (pc + 3) = .ok (.dup, 1) := by rw [hb]; exact d3
  have d4' : decode c.code (pc + 4) = .ok (.ldc is, 2) := by rw [hb]; exact d4
  have hstr' : vk_R RX7 is text sa s' := vk_R.warm hW0 hstr
  obtain ⟨U, hsteps, hrun, hend, hW, hsame, ce, hce, hvce, hO⟩ := mm_ctor5 X₁ hexec htr hown' h (fun x hx => nomatch hx) hfX hkX hcellA (by rw [hhp, hT]; exact Nat.le_refl _) (v := .ref sa) rfl
    (f := { method := m, pc := pc + 6, locals := ls, stack := .ref sa :: .ref T.heap.size :: .ref T.heap.size :: rest, locked := none }) rfl hsize rfl rfl (r := rest) rfl
    (by rw [hb]; exact d6) (by rw [hb]; exact d9) hout hRframes (by simp only [List.map_cons, List.sum_cons, hcat]; omega) hlocks
  obtain ⟨g1, g2⟩ := vx_frame hsame
  rw [hhp] at g1 g2
  have hWs : s.WarmedH U.vm := State.WarmedH.trans hW0 hW
  rw [hvm] at hO
  have hall : s.sameButNew ({ U with vm := s.vm } : State) locs mc ms := by
    subst hA
    obtain ⟨e1, e2⟩ := hsame
    rw [State.setFrames_setFrames] at e1
    have h2 : (T.setVm s.vm).sameButNew ({ U with vm := s.vm } : State) [] (0 + 1) (0 + 6) := ⟨e1, e2⟩
    have h3 := X.same.trans h2
    rw [List.append_nil] at h3
    exact h3.mono hc hs
  refine ⟨U, ?_, .threw T.heap.size, hrun, hend, Or.inr ⟨T.heap.size, rfl, mm_x5, ce, locs, hx U hWs.alike g1 (fun q hq => g2 q hq (fun z hz => nomatch hz)), hce, hvce, hO, hWs, hall, hf⟩⟩
  refine st1 _ ?_
  show Steps p.tables e below (T1.setTop { method := m, pc := pc + 3, locals := ls, stack := .ref T.heap.size :: rest, locked := none }) _
  jvm_step X₁.here [X₁.here.top, hexec, d3', Value.category]
  exact X₁.ldcString hexec (own := RX7) (text := text) (index := is) (a := sa) hown' hstr'.1 hstr'.2
    (g := { method := m, pc := pc + 4, locals := ls, stack := .ref T.heap.size :: .ref T.heap.size :: rest, locked := none }) rfl d4' _ hsteps
end MMT
end
section
section MMS
variable {p : Program} {l : Launch} {e : Env} {R : Room} {s : State} {m : MethodId} {args : Array Value} {below : List Frame} {meth : Method} {c : Code}
set_option maxHeartbeats 4000000 in
set_option maxRecDepth 100000 in
theorem mm_sound_a {D : va_G} {cy : ClassId × ClassId × ClassId} {A : Nat → Prop} {ad0 : Nat → Nat} {ov : Int64} {q : MI} {own : String} {r : Res} {call : Nat → List MV → Mem → Option Res} {k : Kt} {j : Nat} {L : List (Option MV)} {S : Mem} {kc ks : Nat} {i : Instr} {x : Nat} {v : Int32} {ts : List Nat} {st : List MV}
    {d : Nat} (C0 : mm_Cx p l e s m args below meth c D cy A q own) (hR : R.cells = r.2.1 ∧ R.slots = r.2.2.1 ∧ d + 9 ≤ R.frames ∧ 40 * d + 240 ≤ R.locals)
    (hcall : ∀ y as S r' mi, call y as S = some r' → mm_MT[y]? = some mi → mm_Con l D cy d mi as S r') (hkm : ∀ j L st S kc ks, k j L st S kc ks = some r → kc ≤ r.2.1 ∧ ks ≤ r.2.2.1)
    (hk : ∀ j L st S kc ks, k j L st S kc ks = some r → mm_G p l e R s m args below meth c D cy A ad0 ov q r j L st S kc ks)
    (hok : mm_okR q.cc q.ci q.pcs j (i, x, v, ts) = true)
    (h : mm_step call q.rt k j L S kc ks i x v ts st = some r) : mm_G p l e R s m args below meth c D cy A ad0 ov q r j L st S kc ks := by
  have C0' := C0
  obtain ⟨hx, hb, hml, hown, hts, hK, hex, hlocks, hret, hA, hEX, hst, hcl⟩ := C0
  have hmono := mm_mono_step hkm h
  intro ad H locs ls pc had hpc hP hD hS hl
  have hFc : ∀ z, va_A (mm_W cy ad ov S) H.size z → A z := by
    rintro z (⟨k9, e9, hk9⟩ | hz)
    · exact hD.2 k9 _ hk9
    · exact hA z (Nat.le_trans hS.1 hz)
  unfold mm_okR at hok
  rw [hpc] at hok
  unfold mm_step at h
  split at h
  all_goals simp only [Bool.and_eq_true] at hok
  · exact lv_iconst hx hb (mm_dec_spec hok.1.1) (of_decide_eq_true hok.2) (hk _ _ _ _ _ _ h ad H locs ls _ had (mm_nx_spec hok.1.2) hP hD hS hl)
  · exact lv_bipush hx hb (mm_dec_spec hok.1.1) (of_decide_eq_true hok.2) (hk _ _ _ _ _ _ h ad H locs ls _ had (mm_nx_spec hok.1.2) hP hD hS hl)
  · exact lv_sipush hx hb (mm_dec_spec hok.1.1) (of_decide_eq_true hok.2) (hk _ _ _ _ _ _ h ad H locs ls _ had (mm_nx_spec hok.1.2) hP hD hS hl)
  · split at h
    · rename_i y hy
      exact lv_iload_n hx hb (mm_dec_spec hok.1.1) (of_decide_eq_true hok.2) (hl.2.2.2.1 _ _ hy) (hk _ _ _ _ _ _ h ad H locs ls _ had (mm_nx_spec hok.1.2) hP hD hS hl)
    · cases h
  · split at h
    · rename_i y hy
      have e9 := of_decide_eq_true hok.2
      subst e9
      exact lv_iload hx hb (mm_dec_spec hok.1.1) (hl.2.2.2.1 _ _ hy) (hk _ _ _ _ _ _ h ad H locs ls _ had (mm_nx_spec hok.1.2) hP hD hS hl)
    · cases h
  · split at h
    · rename_i y hy
      exact lv_aload_n hx hb (mm_dec_spec hok.1.1) (of_decide_eq_true hok.2) (hl.2.2.2.1 _ _ hy) (hk _ _ _ _ _ _ h ad H locs ls _ had (mm_nx_spec hok.1.2) hP hD hS hl)
    · cases h
  · rename_i y r9
    split at h
    · rename_i hx9
      exact lv_istore_n (lv := mm_lv ad L) hx hb (mm_dec_spec hok.1.1) (of_decide_eq_true hok.2) hl.has (by rw [← hl.2.2.1]; exact Nat.le_of_ble_eq_true hx9) rfl (fun ls' h' => hk _ _ _ _ _ _ h ad H locs ls' _ had (mm_nx_spec hok.1.2) hP hD hS (hl.stored (y := y) h'))
    · cases h
  · rename_i y r9
    split at h
    · rename_i hx9
      have e9 := of_decide_eq_true hok.2
      subst e9
      exact lv_istore (lv := mm_lv ad L) hx hb (mm_dec_spec hok.1.1) hl.has (by rw [← hl.2.2.1]; exact Nat.le_of_ble_eq_true hx9) rfl (fun ls' h' => hk _ _ _ _ _ _ h ad H locs ls' _ had (mm_nx_spec hok.1.2) hP hD hS (hl.stored (y := y) h'))
    · cases h
  · split at h
    · rename_i y hy
      have e9 := of_decide_eq_true hok.1.2
      subst e9
      obtain ⟨k9, hk9⟩ := List.getElem?_of_mem (mm_lv_mem.mpr ⟨_, _, hy, rfl⟩ : (_, mm_rv ad (.inl y)) ∈ mm_lv ad L)
      exact lv_iinc (lv := mm_lv ad L) hx hb (mm_dec_spec hok.1.1.1) hl.has hk9 rfl (by rw [← hl.2.2.1]; exact (List.getElem?_eq_some_iff.mp hy).1) rfl (fun ls' h' => by
        rw [of_decide_eq_true hok.2] at h'
        exact hk _ _ _ _ _ _ h ad H locs ls' _ had (mm_nx_spec hok.1.1.2) hP hD hS (hl.stored (y := y + v) h'))
    · cases h
  · exact lv_iadd hx hb (mm_dec_spec hok.1) (hk _ _ _ _ _ _ h ad H locs ls _ had (mm_nx_spec hok.2) hP hD hS hl)
  · exact lv_isub hx hb (mm_dec_spec hok.1) (hk _ _ _ _ _ _ h ad H locs ls _ had (mm_nx_spec hok.2) hP hD hS hl)
  · exact lv_imul hx hb (mm_dec_spec hok.1) (hk _ _ _ _ _ _ h ad H locs ls _ had (mm_nx_spec hok.2) hP hD hS hl)
  · exact lv_dup hx hb (mm_dec_spec hok.1) (mm_rv_cat ad _) (hk _ _ _ _ _ _ h ad H locs ls _ had (mm_nx_spec hok.2) hP hD hS hl)
  · exact lv_dup2_11 hx hb (mm_dec_spec hok.1) (mm_rv_cat ad _) (mm_rv_cat ad _) (hk _ _ _ _ _ _ h ad H locs ls _ had (mm_nx_spec hok.2) hP hD hS hl)
  · obtain ⟨t9, ht9, e9⟩ := mm_jmp_spec hok.2
    exact lv_goto hx hb (mm_dec_spec hok.1) e9 (hk _ _ _ _ _ _ h ad H locs ls _ had ht9 hP hD hS hl)
  · obtain ⟨t9, ht9, e9⟩ := mm_jmp_spec hok.2
    exact lv_if_eq hx hb (mm_dec_spec hok.1.1) e9 (fun c9 => by rw [if_pos c9] at h; exact hk _ _ _ _ _ _ h ad H locs ls _ had ht9 hP hD hS hl) (fun c9 => by rw [if_neg c9] at h; exact hk _ _ _ _ _ _ h ad H locs ls _ had (mm_nx_spec hok.1.2) hP hD hS hl)
  · obtain ⟨t9, ht9, e9⟩ := mm_jmp_spec hok.2
    exact lv_if_ne hx hb (mm_dec_spec hok.1.1) e9 (fun c9 => by rw [if_neg c9] at h; exact hk _ _ _ _ _ _ h ad H locs ls _ had ht9 hP hD hS hl) (fun c9 => by rw [if_pos c9] at h; exact hk _ _ _ _ _ _ h ad H locs ls _ had (mm_nx_spec hok.1.2) hP hD hS hl)
  · obtain ⟨t9, ht9, e9⟩ := mm_jmp_spec hok.2
    exact lv_if_lt hx hb (mm_dec_spec hok.1.1) e9 (fun c9 => by rw [if_pos c9] at h; exact hk _ _ _ _ _ _ h ad H locs ls _ had ht9 hP hD hS hl) (fun c9 => by rw [if_neg c9] at h; exact hk _ _ _ _ _ _ h ad H locs ls _ had (mm_nx_spec hok.1.2) hP hD hS hl)
  · obtain ⟨t9, ht9, e9⟩ := mm_jmp_spec hok.2
    exact lv_if_ge hx hb (mm_dec_spec hok.1.1) e9 (fun c9 => by rw [if_pos c9] at h; exact hk _ _ _ _ _ _ h ad H locs ls _ had ht9 hP hD hS hl) (fun c9 => by rw [if_neg c9] at h; exact hk _ _ _ _ _ _ h ad H locs ls _ had (mm_nx_spec hok.1.2) hP hD hS hl)
  · obtain ⟨t9, ht9, e9⟩ := mm_jmp_spec hok.2
    exact lv_if_gt hx hb (mm_dec_spec hok.1.1) e9 (fun c9 => by rw [if_pos c9] at h; exact hk _ _ _ _ _ _ h ad H locs ls _ had ht9 hP hD hS hl) (fun c9 => by rw [if_neg c9] at h; exact hk _ _ _ _ _ _ h ad H locs ls _ had (mm_nx_spec hok.1.2) hP hD hS hl)
  · obtain ⟨t9, ht9, e9⟩ := mm_jmp_spec hok.2
    exact lv_if_le hx hb (mm_dec_spec hok.1.1) e9 (fun c9 => by rw [if_pos c9] at h; exact hk _ _ _ _ _ _ h ad H locs ls _ had ht9 hP hD hS hl) (fun c9 => by rw [if_neg c9] at h; exact hk _ _ _ _ _ _ h ad H locs ls _ had (mm_nx_spec hok.1.2) hP hD hS hl)
  · obtain ⟨t9, ht9, e9⟩ := mm_jmp_spec hok.2
    exact lv_icmp_eq hx hb (mm_dec_spec hok.1.1) e9 (fun c9 => by rw [if_pos c9] at h; exact hk _ _ _ _ _ _ h ad H locs ls _ had ht9 hP hD hS hl) (fun c9 => by rw [if_neg c9] at h; exact hk _ _ _ _ _ _ h ad H locs ls _ had (mm_nx_spec hok.1.2) hP hD hS hl)
  · obtain ⟨t9, ht9, e9⟩ := mm_jmp_spec hok.2
    exact lv_icmp_ne hx hb (mm_dec_spec hok.1.1) e9 (fun c9 => by rw [if_neg c9] at h; exact hk _ _ _ _ _ _ h ad H locs ls _ had ht9 hP hD hS hl) (fun c9 => by rw [if_pos c9] at h; exact hk _ _ _ _ _ _ h ad H locs ls _ had (mm_nx_spec hok.1.2) hP hD hS hl)
  · obtain ⟨t9, ht9, e9⟩ := mm_jmp_spec hok.2
    exact lv_icmp_lt hx hb (mm_dec_spec hok.1.1) e9 (fun c9 => by rw [if_pos c9] at h; exact hk _ _ _ _ _ _ h ad H locs ls _ had ht9 hP hD hS hl) (fun c9 => by rw [if_neg c9] at h; exact hk _ _ _ _ _ _ h ad H locs ls _ had (mm_nx_spec hok.1.2) hP hD hS hl)
  · obtain ⟨t9, ht9, e9⟩ := mm_jmp_spec hok.2
    exact lv_icmp_ge hx hb (mm_dec_spec hok.1.1) e9 (fun c9 => by rw [if_pos c9] at h; exact hk _ _ _ _ _ _ h ad H locs ls _ had ht9 hP hD hS hl) (fun c9 => by rw [if_neg c9] at h; exact hk _ _ _ _ _ _ h ad H locs ls _ had (mm_nx_spec hok.1.2) hP hD hS hl)
  · obtain ⟨t9, ht9, e9⟩ := mm_jmp_spec hok.2
    exact lv_icmp_gt hx hb (mm_dec_spec hok.1.1) e9 (fun c9 => by rw [if_pos c9] at h; exact hk _ _ _ _ _ _ h ad H locs ls _ had ht9 hP hD hS hl) (fun c9 => by rw [if_neg c9] at h; exact hk _ _ _ _ _ _ h ad H locs ls _ had (mm_nx_spec hok.1.2) hP hD hS hl)
  · obtain ⟨t9, ht9, e9⟩ := mm_jmp_spec hok.2
    exact lv_icmp_le hx hb (mm_dec_spec hok.1.1) e9 (fun c9 => by rw [if_pos c9] at h; exact hk _ _ _ _ _ _ h ad H locs ls _ had ht9 hP hD hS hl) (fun c9 => by rw [if_neg c9] at h; exact hk _ _ _ _ _ _ h ad H locs ls _ had (mm_nx_spec hok.1.2) hP hD hS hl)
  · rename_i c9 r9
    split at h
    · rename_i hc9
      obtain ⟨T9, N9, hcl9⟩ := hcl
      have e9 := of_decide_eq_true hok.2
      subst e9
      have hkd := mm_cls_spec hc9
      obtain ⟨hin9, hNF9, -, -⟩ := mm_CL_ok _ _ hcl9
      obtain ⟨hx9, hf9⟩ := mm_FT_spec (of_decide_eq_true hok.1.2) hcl9
      have hkd2 : mm_KD[c9]? = some (0, q.ci) := hkd
      refine va_get (D := D) (ci := q.ci) (v := mm_rv ad (mm_fv S c9 x)) (C := own) (T := T9) (N := N9) hx hb hts hin9 hown hK hP c9 (by rw [mm_W_at (mm_KD_lt hkd2), mm_ent_obj hkd2]) hcl9 x hx9 (hts _ hf9) (fun _ h9 => h9) ?_ (mm_dec_spec hok.1.1.1) (hk _ _ _ _ _ _ h ad H locs ls _ had (mm_nx_spec hok.1.1.2) hP hD hS hl)
      rw [hNF9]
      simp only [Option.getD_some]
      rw [List.getElem?_map, List.getElem?_range hx9]
      rfl
    · cases h
  · rename_i a9 c9 r9
    obtain ⟨T9, N9, hcl9⟩ := hcl
    rw [hcl9] at hok
    obtain ⟨⟨⟨hd1, hd2⟩, hd3⟩, hd4⟩ := hok
    have hd4 := of_decide_eq_true hd4
    obtain ⟨hin9, hNF9, ⟨ty9, hty9⟩, hnm9⟩ := mm_CL_ok _ _ hcl9
    obtain ⟨hx9, hf9⟩ := mm_FT_spec (of_decide_eq_true hd3) hcl9
    have key : ∀ (ty : FieldType), parseFieldDescriptor (T9 x).2.2.1 = some ty → narrow ty (.int a9) = .int a9 → fits ty (.int a9) = true → mm_KD[c9]? = some (0, q.ci) → mm_rf c9 x = none → k (j + 1) L r9 (mm_put S c9 x a9) kc ks = some r → W p l e R s m args below meth c H locs kc ks (vx_MQ below (mm_Qc D cy A ad0 ov q.rt r) (mm_XC D cy A ad0 ov r) args s r.2.1 r.2.2.1 A) (F0 m pc ls ((Sum.inl a9 :: Sum.inr c9 :: r9 : List MV).map (mm_rv ad))) := by
      intro ty hp hn hf hkd hrf h
      refine va_put (D := D) (ci := q.ci) (v := .int a9) (ty := ty) (C := own) (T := T9) (N := N9) hx hb hts hin9 ty9 hty9 hnm9 hown hK hP hD hS c9 (by rw [mm_W_at (mm_KD_lt hkd), mm_ent_obj hkd]) hcl9 x hx9 (hts _ hf9) (fun _ h9 => h9) hd4.1 hp hn hf ?_ (mm_dec_spec hd1) (fun H1 locs1 hP1 hD1 hS1 => ?_)
      · rw [hNF9]; simpa using hx9
      · rw [mm_W_obj hkd hrf] at hP1 hD1
        exact hk _ _ _ _ _ _ h ad H1 locs1 ls _ had (mm_nx_spec hd2) hP1 hD1 hS1 hl
    rcases hd4.2 with ⟨hp, e9⟩ | ⟨hp, e9⟩
    · subst e9
      split at h
      · rename_i hc9 hr9
        exact key .int hp rfl rfl (mm_cls_spec hc9) hr9 h
      · cases h
    · subst e9
      split at h
      · rename_i hc9 hr9
        split at h
        · rename_i e8; cases e8
        · split at h
          · rename_i hz
            exact key .boolean hp (mm_nar_bool hz) (mm_fit_bool hz) (mm_cls_spec hc9) hr9 h
          · cases h
      · cases h
  · rename_i i9 c9 r9
    unfold mm_arr at h
    split at h
    · rename_i t8 n8 hkd
      split at h
      · rename_i e8; subst e8
        split at h
        · cases h
        · rename_i hin
          exact va_iald (D := D) hx hb hK hP c9 0 (by rw [mm_W_at (mm_KD_lt hkd), mm_ent_int hkd]) rfl hin (mm_dec_spec hok.1) (hk _ _ _ _ _ _ h ad H locs ls _ had (mm_nx_spec hok.2) hP hD hS hl)
      · cases h
    · cases h
  · rename_i i9 c9 r9
    unfold mm_arr at h
    split at h
    · rename_i t8 n8 hkd
      split at h
      · rename_i e8; subst e8
        split at h
        · cases h
        · rename_i hin
          exact va_zald (D := D) hx hb hK hP c9 1 (by rw [mm_W_at (mm_KD_lt hkd), mm_ent_boo hkd]) rfl hin (mm_dec_spec hok.1) (hk _ _ _ _ _ _ h ad H locs ls _ had (mm_nx_spec hok.2) hP hD hS hl)
      · cases h
    · cases h
  · rename_i a9 i9 c9 r9
    unfold mm_arr at h
    split at h
    · rename_i t8 n8 hkd
      split at h
      · rename_i e8; subst e8
        split at h
        · cases h
        · rename_i hin
          refine va_iast (D := D) hx hb hK hP hD hS c9 0 (by rw [mm_W_at (mm_KD_lt hkd), mm_ent_int hkd]) rfl hin (mm_dec_spec hok.1) (fun H1 locs1 hP1 hD1 hS1 => ?_)
          rw [mm_W_arr hkd] at hP1 hD1
          exact hk _ _ _ _ _ _ h ad H1 locs1 ls _ had (mm_nx_spec hok.2) hP1 hD1 hS1 hl
      · cases h
    · cases h
  · rename_i a9 i9 c9 r9
    unfold mm_arr at h
    split at h
    · rename_i t8 n8 hkd
      split at h
      · rename_i e8; subst e8
        split at h
        · cases h
        · rename_i hin
          refine va_zast (D := D) hx hb hK hP hD hS c9 1 (by rw [mm_W_at (mm_KD_lt hkd), mm_ent_boo hkd]) rfl hin (mm_dec_spec hok.1) (fun H1 locs1 hP1 hD1 hS1 => ?_)
          rw [mm_W_boo hkd] at hP1 hD1
          exact hk _ _ _ _ _ _ h ad H1 locs1 ls _ had (mm_nx_spec hok.2) hP1 hD1 hS1 hl
      · cases h
    · cases h
  · rename_i c9 r9
    split at h
    · rename_i n8 hkd
      exact va_alen (D := D) (x := (mm_len S c9 n8, .inl (S c9))) hx hb hK hP c9 0 (by rw [mm_W_at (mm_KD_lt hkd), mm_ent_int hkd]) (ty := .int) rfl rfl (mm_dec_spec hok.1) (hk _ _ _ _ _ _ h ad H locs ls _ had (mm_nx_spec hok.2) hP hD hS hl)
    · cases h
  · rename_i a9
    have fin : ∀ (hr0 : q.rt ≠ 0) (hr : r = (S, kc, ks, 0, a9)) (t : State), t.heap = H → s.WarmedH t.vm → mm_Qc D cy A ad0 ov q.rt r args s (.returned (some (.int a9))) t := by
      intro hr0 hr t ht hW
      unfold mm_Qc
      rw [if_neg hr0]
      exact ⟨⟨a9, S, rfl, ⟨by rw [hr], by rw [hr], by rw [hr]⟩, ad, had, by rw [ht]; exact hP, va_K.moved hW.alike hK, hD⟩, hS.F ht⟩
    split at h
    · rename_i hr1
      have e8 := (Option.some.inj h).symm
      refine vx_ret ?_
      have e7 : r.2.1 = kc ∧ r.2.2.1 = ks := by rw [e8]; exact ⟨rfl, rfl⟩
      rw [e7.1, e7.2]
      exact W.iret hx hb (by rw [hret, hr1]; rfl) (fin (by omega) e8) hS.2.2 (mm_dec_spec hok)
    · rename_i hr2
      split at h
      · rename_i hz
        have e8 := (Option.some.inj h).symm
        refine vx_ret ?_
        have e7 : r.2.1 = kc ∧ r.2.2.1 = ks := by rw [e8]; exact ⟨rfl, rfl⟩
        rw [e7.1, e7.2]
        exact W.zret (ty := .boolean) hx hb (by rw [hret, hr2]; rfl) (mm_nar_bool hz) (fin (by omega) e8) hS.2.2 (mm_dec_spec hok)
      · cases h
    · cases h
  · split at h
    · rename_i hr0
      have e8 := (Option.some.inj h).symm
      refine vx_ret ?_
      have e7 : r.2.1 = kc ∧ r.2.2.1 = ks := by rw [e8]; exact ⟨rfl, rfl⟩
      rw [e7.1, e7.2]
      refine W.vret hx hb (by rw [hret, hr0]; rfl) (fun t ht hW => ?_) hS.2.2 (mm_dec_spec hok)
      unfold mm_Qc
      rw [if_pos hr0]
      exact ⟨⟨S, rfl, ⟨by rw [e8], by rw [e8]⟩, ad, had, by rw [ht]; exact hP, va_K.moved hW.alike hK, hD⟩, hS.F ht⟩
    · cases h
  · -- tableswitch
    obtain ⟨⟨⟨hd1, hd2⟩, hd3⟩, hd4⟩ := hok
    obtain ⟨n9, hd1⟩ := mm_decs_spec hd1
    split at h
    · rename_i hz
      obtain ⟨t9, ht9, e9⟩ := mm_jmp_spec hd2
      exact lv_tableOut hx hb hd1 hz e9 (hk _ _ _ _ _ _ h ad H locs ls _ had ht9 hP hD hS hl)
    · rename_i hz
      split at h
      · rename_i t8 ht8
        have hlt := (List.getElem?_eq_some_iff.mp ht8).1
        rw [← of_decide_eq_true hd3] at hlt
        have ho := Array.getElem?_eq_getElem hlt
        have h8 := List.all_eq_true.mp hd4 _ (List.mem_of_getElem? (List.getElem?_zip_eq_some.mpr ⟨(by rw [Array.getElem?_toList]; exact ho), ht8⟩ : (_ : List (Int × Nat))[_]? = some (_, t8)))
        obtain ⟨t9, ht9, e9⟩ := mm_jmp_spec h8
        exact lv_tableIn hx hb hd1 (fun z => hz (Or.inl z)) (fun z => hz (Or.inr z)) ho e9 (hk _ _ _ _ _ _ h ad H locs ls _ had ht9 hP hD hS hl)
      · cases h
  · -- lookupswitch
    obtain ⟨⟨⟨⟨hd1, hd2⟩, hd3⟩, hd4⟩, hd5⟩ := hok
    obtain ⟨n9, hd1⟩ := mm_decs_spec hd1
    obtain ⟨t9, ht9, e9⟩ := mm_jmp_spec (mm_lk_spec hd2 _ _ (of_decide_eq_true hd3) hd4)
    exact lv_lookup hx hb hd1 hd5 rfl e9 (hk _ _ _ _ _ _ h ad H locs ls _ had ht9 hP hD hS hl)
  · -- invokevirtual
    obtain ⟨⟨⟨hd1, hd2⟩, hd3⟩, hd4⟩ := hok
    obtain ⟨T9, N9, hcl9⟩ := hcl
    split at hd4
    · rename_i mi hmi
      have e9 := of_decide_eq_true hd4
      subst e9
      dsimp only at h
      split at h
      · rename_i b9 r9 hdrop
        split at h
        · rename_i hc9
          rw [Bool.and_eq_true, Bool.and_eq_true] at hc9
          obtain ⟨⟨hc1, hc2⟩, hc4⟩ := hc9
          exact mm_sound_call C0' hR hcall hkm hk (mm_dec_spec hd1) (mm_nx_spec hd2) (mm_CT_spec (of_decide_eq_true hd3) hcl9 hmi) hmi hdrop (mm_cls_spec hc1) hc2 (Nat.le_of_ble_eq_true hc4) h had hP hD hS hl hFc
        · cases h
      · cases h
    · cases hd4
  · -- invokestatic
    obtain ⟨⟨hd1, hd2⟩, hd3⟩ := hok
    obtain ⟨T9, N9, hcl9⟩ := hcl
    have hlk := hts _ (mm_ST_spec (of_decide_eq_true hd3) hcl9)
    have hls : c.maxLocals = ls.size := by rw [hml, hl.1]
    split at h
    · rename_i b9 a9 r9
      split at h
      · rename_i hz
        have hz := Nat.le_of_ble_eq_true hz
        exact va_mmin hx hb hls hown hlk (hts _ (mm_jw_in (by decide))) (hts _ (mm_jw_in (by decide))) (hts _ (mm_jw_in (List.mem_of_getElem? (i := 2) rfl))) (by omega) (by rw [mm_cats]; omega) (by omega) (by omega) (mm_dec_spec hd1) (hk _ _ _ _ _ _ h ad H locs ls _ had (mm_nx_spec hd2) hP hD hS hl)
      · cases h
    · rename_i b9 a9 r9
      split at h
      · rename_i hz
        have hz := Nat.le_of_ble_eq_true hz
        exact va_mmax hx hb hls hown hlk (hts _ (mm_jw_in (List.mem_of_getElem? (i := 3) rfl))) (hts _ (mm_jw_in (List.mem_of_getElem? (i := 1) rfl))) (hts _ (mm_jw_in (List.mem_of_getElem? (i := 4) rfl))) (by omega) (by rw [mm_cats]; omega) (by omega) (by omega) (mm_dec_spec hd1) (hk _ _ _ _ _ _ h ad H locs ls _ had (mm_nx_spec hd2) hP hD hS hl)
      · cases h
    · rename_i n9 dp9 c19 sp9 c09 r9
      split at h
      · rename_i n0 n1 hk0 hk1
        split at h
        · rename_i hz
          obtain ⟨hz0, hz1, hz2, hz3, hz4, hz5⟩ := hz
          refine va_copyi (D := D) (ty := .int) hx hb hls hown hlk (hts _ (mm_jw_in (List.mem_of_getElem? (i := 7) rfl))) (hts _ (mm_jw_in (List.mem_of_getElem? (i := 5) rfl))) (hts _ (mm_jw_in (List.mem_of_getElem? (i := 6) rfl))) hK hP hD hS c09 c19 0 0 (by rw [mm_W_at (mm_KD_lt hk0), mm_ent_int hk0]) (by rw [mm_W_at (mm_KD_lt hk1), mm_ent_int hk1]) rfl rfl rfl hz1 hz2 hz3 hz4 hz5 (fun _ _ => rfl) (by omega) ?_ (mm_dec_spec hd1) (fun H1 locs1 hP1 hD1 hS1 => ?_)
          · rw [mm_cats]
            have e7 : nativeFrameWords "java/lang/System" "arraycopy" 5 + 11 ≤ 200 := by decide
            omega
          · rw [mm_W_arr hk1] at hP1 hD1
            exact hk _ _ _ _ _ _ h ad H1 locs1 ls _ had (mm_nx_spec hd2) hP1 hD1 hS1 hl
        · cases h
      · cases h
    · cases h
  · -- throw new
    rename_i ix9 r9
    obtain ⟨⟨⟨⟨⟨⟨⟨hd1, hd2⟩, hd3⟩, hd4⟩, hd5⟩, hd6⟩, hd7⟩, hd8⟩ := hok
    split at h
    · cases h
    · rename_i x' hz
      have hz := Nat.le_of_ble_eq_true hz
      have hx0 : Nat.succ x' ≠ 0 := Nat.succ_ne_zero _
      have h : some (S, kc + 1, ks + 6, Nat.succ x', (0 : Int32)) = some r := h
      generalize Nat.succ x' = x at hd7 h hx0
      · have e8 := (Option.some.inj h).symm
        have e7 : r.2.1 = kc + 1 ∧ r.2.2.1 = ks + 6 := by rw [e8]; exact ⟨rfl, rfl⟩
        obtain ⟨T9, N9, hcl9⟩ := hcl
        have hci := of_decide_eq_true hd6
        rw [hci] at hcl9
        have hown7 : own = RX7 := by
          have h9 := Option.some.inj hcl9
          exact (congrArg Prod.fst h9).symm
        subst hown7
        have hxt := of_decide_eq_true hd7
        have h9a := List.all_eq_true.mp mm_XT_a _ hxt
        have h93 := List.all_eq_true.mp mm_XT_b _ hxt
        have h9e := List.all_eq_true.mp mm_XT_e _ hxt
        have h9f := List.all_eq_true.mp mm_XT_f _ hxt
        simp only [Bool.and_eq_true, decide_eq_true_eq] at h9a h9f
        obtain ⟨h91, h92⟩ := h9a
        obtain ⟨h96, h97⟩ := h9f
        obtain ⟨hE1, hE2, hE3, hE4⟩ := hEX
        obtain ⟨tx9, htx9, etx9⟩ := List.mem_map.mp (of_decide_eq_true hd8)
        obtain ⟨sa, hstr⟩ := hE4 tx9 htx9
        rw [etx9] at hstr
        have hXC : ∀ t : State, s.vm.Alike t.vm → H.size ≤ t.heap.size → (∀ z : Nat, z < H.size → t.heap[z]? = H[z]?) → mm_XC D cy A ad0 ov r (mm_exn x) s t := by
          intro t hal hsz hkeep
          refine ⟨S, ⟨by rw [e8], by rw [e8]; exact hx0⟩, ⟨by rw [e8], ad, had, hP.kept (fun k9 q9 hq9 => hkeep _ (hP k9 q9 hq9).lt), va_K.moved hal hK, hD⟩, Nat.le_trans hS.1 hsz, fun z hz1 hz2 => ?_⟩
          rw [hkeep z (Nat.lt_of_lt_of_le hz1 hS.1)]
          exact hS.2.1 z hz1 hz2
        by_cases hx5 : x = 5
        · subst hx5
          have hic : ts.getD 1 0 = 186 := by
            simp only [mm_XT, List.mem_cons, List.not_mem_nil, or_false, Prod.mk.injEq] at hxt
            omega
          rw [hic] at hd4
          exact mm_throw5 hx hb hst hown (hts _ h91) hts hE3 hstr hE1 hE2 hS (by rw [hl.1, hml]) (mm_dec_spec hd1) (mm_dec_spec hd2) (mm_dec_spec hd3) (mm_dec_spec hd4) (mm_dec_spec hd5) (fun z hz9 => absurd hz9 (hex z)) (by omega) (by rw [mm_cats]; omega) (by rw [hR.1, e7.1]; exact Nat.le_refl _) (by rw [hR.2.1, e7.2]; exact Nat.le_refl _) hlocks hXC hS.2.2 (by rw [e7.1]; exact Nat.le_refl _) (by rw [e7.2]; exact Nat.le_refl _)
        have hat : ∀ w ∈ vx_atS RX7 (ts.getD 1 0) (mm_exn x) mm_en, w.before args s = true ∧ vx_ot w = true := by
          intro w hw
          have h8 := List.all_eq_true.mp h9e w hw
          have h7 := mm_XT_at hxt hx5 w hw
          simp only [Bool.and_eq_true, Bool.or_eq_true] at h8
          refine ⟨?_, h8.1⟩
          rcases h8.2 with hg | hg
          · exact hts w (mm_in_ut h7 hg)
          · exact mm_cd_at hg (State.WarmedH.refl s) (hE3 w (List.mem_filter.mpr ⟨h7, hg⟩))
        refine vx_throwS (cls := mm_exn x) (names := mm_en) (A := A) hx hb hst hown h93 mm_fit_en (hts _ h91) (hts _ h92) hstr (fun w hw => (hat w hw).1) ?_ hE1 hE2 hS (by rw [hl.1, hml]) (mm_dec_spec hd1) (mm_dec_spec hd2) (mm_dec_spec hd3) (mm_dec_spec hd4) (mm_dec_spec hd5) (fun z hz9 => absurd hz9 (hex z)) (by show 2 + 3 < _; omega) ?_ (by rw [hR.1, e7.1]; exact Nat.le_refl _) (by rw [hR.2.1, e7.2]; exact Nat.le_refl _) hlocks ?_ hS.2.2 (by rw [e7.1]; exact Nat.le_refl _) (by rw [e7.2]; exact Nat.le_refl _)
        · intro w hw
          rcases List.mem_cons.mp hw with rfl | hw
          · exact h96
          · rcases List.mem_cons.mp hw with rfl | hw
            · exact h97
            · exact (hat w hw).2
        · rw [mm_cats]
          show _ + (13 * (2 + 1) + 43) ≤ _
          omega
        · exact hXC
    · cases h
  · cases h
end MMS
end
section
/-! CALLS: methods by their numbers, to a depth -/
def mm_okM (q : MI) : Bool := mm_nx q.pcs 0 0 && mm_okRs q.cc q.ci q.pcs 0 q.P
/-- Tables.reserve: the array grows -/
def mm_resv (as : List MV) (S : Mem) : Option Res := match as with
  | [.inr 21, .inl en] => if en ≤ Int32.ofNat (S 55 0).toNatClampNeg then some (S, 0, 0, 0, 0) else
      (if (if en < 2 * Int32.ofNat (S 55 0).toNatClampNeg then 2 * Int32.ofNat (S 55 0).toNatClampNeg else en) < 0 ∨ 134217728 < (if en < 2 * Int32.ofNat (S 55 0).toNatClampNeg then 2 * Int32.ofNat (S 55 0).toNatClampNeg else en) then none else
        some (mm_put (mm_stc S 22 (va_cpy (S 22) (fun _ => 0) 0 0 (S 55 0).toNatClampNeg)) 55 0 (if en < 2 * Int32.ofNat (S 55 0).toNatClampNeg then 2 * Int32.ofNat (S 55 0).toNatClampNeg else en), 1, (if en < 2 * Int32.ofNat (S 55 0).toNatClampNeg then 2 * Int32.ofNat (S 55 0).toNatClampNeg else en).toNatClampNeg, 0, 0))
  | _ => none
noncomputable def mm_runD : Nat → Nat → List MV → Mem → Option Res
  | 0, _, _, _ => none
  | d + 1, y, as, S => if y = mm_yRes then mm_resv as S else match mm_MT[y]? with
    | some q => match as with
      | .inr b :: as' => if (mm_cls b q.ci && Nat.beq as'.length q.na && mm_noRm (Sum.inr b :: as')) = true then mm_E (mm_runD d) q.P q.rt 0 ((Sum.inr b :: as').map some ++ List.replicate (q.mL - (q.na + 1)) none) [] S 0 0 else none
      | _ => none
    | none => none
theorem mm_lv_args (ad : Nat → Nat) : ∀ (as : List MV) (k i : Nat) (v : MV), as[i]? = some v → (k + i, mm_rv ad v) ∈ lv_args k (as.map (mm_rv ad)) := by
  intro as
  induction as with
  | nil => intro k i v h; simp at h
  | cons a r ih =>
    intro k i v h
    simp only [List.map_cons, lv_args]
    cases i with
    | zero =>
      simp at h; subst h
      exact List.mem_cons_self
    | succ i =>
      refine List.mem_cons_of_mem _ ?_
      rw [mm_rv_cat, if_neg (by decide), show k + (i + 1) = k + 1 + i by omega]
      exact ih _ _ _ (by simpa using h)
theorem mm_lg_len (ad : Nat → Nat) (as : List MV) : (lg_sl (as.map (mm_rv ad))).length = as.length := by
  induction as with
  | nil => rfl
  | cons a r ih =>
    simp only [List.map_cons, lg_sl, List.flatMap_cons] at ih ⊢
    rw [mm_rv_cat, if_neg (by decide)]
    simp only [List.length_append, List.length_cons, List.length_nil]
    rw [ih]; omega
theorem mm_entry (ad : Nat → Nat) (as : List MV) {n : Nat} (h : as.length ≤ n) (hr : mm_noRm as = true) : mm_lh ad ((lg_sl (as.map (mm_rv ad)) ++ List.replicate (n - (lg_sl (as.map (mm_rv ad))).length) Slot.unset).toArray) n (as.map some ++ List.replicate (n - as.length) none) := by
  have h1 := lv_entry (as.map (mm_rv ad)) (n := n) (by rw [mm_lg_len]; exact h)
  refine ⟨h1.1, h1.2.1, by simp; omega, fun i v hi => ?_, ?_⟩
  rotate_left
  · unfold mm_noRmL
    rw [List.all_append, Bool.and_eq_true]
    refine ⟨?_, by rw [List.all_eq_true]; intro z hz; rw [(List.mem_replicate.mp hz).2]⟩
    unfold mm_noRm at hr
    rw [List.all_eq_true] at hr ⊢
    intro z hz
    obtain ⟨w, hw, rfl⟩ := List.mem_map.mp hz
    have := hr w hw
    cases w with
    | inl a => rfl
    | inr a => exact this
  have h2 : as[i]? = some v := by
    rw [List.getElem?_append] at hi
    split at hi
    · rw [List.getElem?_map] at hi
      cases h3 : as[i]? with
      | none => rw [h3] at hi; cases hi
      | some w => rw [h3] at hi; cases hi; rfl
    · have := List.mem_of_getElem? hi
      rw [List.mem_replicate] at this
      cases this.2
  have h3 := mm_lv_args ad as 0 i v h2
  rw [Nat.zero_add] at h3
  exact h1.2.2 _ h3
section MMN
variable {p : Program} {l : Launch} {e : Env} {R : Room} {s : State} {m : MethodId} {args : Array Value} {below : List Frame} {meth : Method} {c : Code}
theorem mm_soundN {D : va_G} {cy : ClassId × ClassId × ClassId} {A : Nat → Prop} {ad0 : Nat → Nat} {ov : Int64} {q : MI} {own : String} {r : Res} {call : Nat → List MV → Mem → Option Res} {d : Nat} (C0 : mm_Cx p l e s m args below meth c D cy A q own) (hR : R.cells = r.2.1 ∧ R.slots = r.2.2.1 ∧ d + 9 ≤ R.frames ∧ 40 * d + 240 ≤ R.locals)
    (hcall : ∀ y as S r' mi, call y as S = some r' → mm_MT[y]? = some mi → mm_Con l D cy d mi as S r') (hok : mm_okRs q.cc q.ci q.pcs 0 q.P = true) :
    ∀ (n j : Nat) (L : List (Option MV)) (st : List MV) (S : Mem) (kc ks : Nat), mm_runN call q.P q.rt n j L st S kc ks = some r → mm_G p l e R s m args below meth c D cy A ad0 ov q r j L st S kc ks := by
  intro n
  induction n with
  | zero => intro j L st S kc ks h; cases h
  | succ n ih =>
    intro j L st S kc ks h
    unfold mm_runN at h
    split at h
    · rename_i i x v ts hj
      have h1 := mm_okRs_at q.P 0 j _ hok hj
      rw [Nat.zero_add] at h1
      exact mm_sound_a C0 hR hcall (fun j L st S kc ks h => mm_mono n j L st S kc ks h) ih h1 h
    · cases h
end MMN
set_option maxHeartbeats 4000000 in
theorem mm_sound {l : Launch} {D : va_G} {cy : ClassId × ClassId × ClassId} (hst : l.stackTraces = false)
    (hall : ∀ y q, mm_MT[y]? = some q → y ≠ mm_yRes → mm_okM q = true)
    (hres : ∀ d as S r q, mm_MT[mm_yRes]? = some q → mm_resv as S = some r → mm_Con l D cy (d + 1) q as S r) :
    ∀ (d y : Nat) (as : List MV) (S : Mem) (r : Res) (q : MI), mm_runD d y as S = some r → mm_MT[y]? = some q → mm_Con l D cy d q as S r := by
  intro d
  induction d with
  | zero => intro y as S r q h; cases h
  | succ d ih =>
    intro y as S r q h hq
    unfold mm_runD at h
    split at h
    · rename_i e9
      subst e9
      exact hres d as S r q hq h
    · rename_i e9
      rw [hq] at h
      dsimp only at h
      split at h
      · rename_i b as'
        split at h
        · rename_i hc
          simp only [Bool.and_eq_true] at hc
          have hlen := Nat.eq_of_beq_eq_true hc.1.2
          obtain ⟨w, hw⟩ : ∃ w, vwCl[q.ci]? = some w := by
            obtain ⟨b, h8⟩ := mm_zip_at mm_MT_ok rfl (List.mem_of_getElem? hq)
            unfold mm_okW at h8
            split at h8
            · rename_i w hw; exact ⟨w, hw⟩
            · cases h8
          obtain ⟨hgood, hcls, hpl, hmL, hnaL⟩ := mm_MT_spec hq hw
          intro ad ov sz
          refine vx_ofW (cc := q.cc) (maxL := q.mL) (ret := mm_rty q.rt) hpl rfl ?_
          intro p e s m args below meth c s₁ B hml hex hv
          obtain ⟨rfl, hsz, hP, hK, hD0, hEX⟩ := hv
          obtain ⟨n9, h⟩ := mm_E_to h
          have hts := atoms_spec (ws := mm_ws q) B.pre
          have hown : s.vm.findClass w.1 = some m.cls := by
            rw [← hcls.1]; exact findClass_of_methodNamed B.named
          subst hsz
          have hD := hD0.self (sz := s.heap.size)
          rw [lg_entry_eq]
          have hl := mm_entry ad (Sum.inr b :: as') (n := q.mL) (by simp only [List.length_cons]; omega) hc.2
          have hn9 : (Sum.inr b :: as' : List MV).length = q.na + 1 := by simp only [List.length_cons]; omega
          rw [hn9] at hl
          have hokM := hall y q hq e9
          unfold mm_okM at hokM
          rw [Bool.and_eq_true] at hokM
          have hpc : q.pcs[0]? = some 0 := mm_nx_spec hokM.1
          exact mm_soundN (R := mm_rm (d + 1) r.2.1 r.2.2.1) (d := d) ⟨B.exec, B.bytes, hml, hown, fun w hw => hts w (List.mem_cons_of_mem _ hw), hK, hex, B.notSynchronized, B.returns, fun z hz => Or.inr hz, hEX, hst, w.2.1, w.2.2, hw⟩ ⟨rfl, rfl, by show d + 9 ≤ d + 1 + 8; omega, by show 40 * d + 240 ≤ 40 * (d + 1) + 200; omega⟩
            (fun y as S r' mi h1 h2 => ih y as S r' mi h1 h2) hokM.2 n9 0 _ [] S 0 0 h ad s.heap [] _ 0 (fun _ _ => rfl) hpc hP hD va_S.rf hl
        · cases h
      · cases h
theorem mm_runD_eq {d y b : Nat} {as : List MV} {S : Mem} {q : MI} (hy : y ≠ mm_yRes) (hq : mm_MT[y]? = some q) (hc : mm_cls b q.ci = true) (hn : as.length = q.na) (hr : mm_noRm (.inr b :: as) = true) : mm_runD (d + 1) y (.inr b :: as) S = mm_E (mm_runD d) q.P q.rt 0 ((Sum.inr b :: as).map some ++ List.replicate (q.mL - (q.na + 1)) none) [] S 0 0 := by
  have h9 : (mm_cls b q.ci && Nat.beq as.length q.na && mm_noRm (Sum.inr b :: as)) = true := by rw [hc, hn, Nat.beq_refl, hr]; rfl
  conv => lhs; unfold mm_runD
  rw [if_neg hy, hq]
  simp only [h9, if_true]
end
section
theorem mm_all_cut {l : List MI} (n : Nat) (h1 : (l.take n).all mm_okM = true) (h2 : (l.drop n).all mm_okM = true) : l.all mm_okM = true := by
  rw [← List.take_append_drop n l, List.all_append, h1, h2]; rfl
theorem mm_ok0_0 : ((mm_MT0.drop 0).take 5).all mm_okM = true := by decide +kernel
theorem mm_ok0_1 : ((mm_MT0.drop 5).take 5).all mm_okM = true := by decide +kernel
theorem mm_ok0_2 : ((mm_MT0.drop 10).take 5).all mm_okM = true := by decide +kernel
theorem mm_ok0_3 : (mm_MT0.drop 15).all mm_okM = true := by decide +kernel
theorem mm_ok0 : mm_MT0.all mm_okM = true := mm_all_cut 5 mm_ok0_0 (mm_all_cut 5 mm_ok0_1 (mm_all_cut 5 (by rw [List.drop_drop]; exact mm_ok0_2) (by rw [List.drop_drop, List.drop_drop]; exact mm_ok0_3)))
theorem mm_ok1_0 : ((mm_MT1.drop 0).take 5).all mm_okM = true := by decide +kernel
theorem mm_ok1_1 : ((mm_MT1.drop 5).take 5).all mm_okM = true := by decide +kernel
theorem mm_ok1_2 : ((mm_MT1.drop 10).take 5).all mm_okM = true := by decide +kernel
theorem mm_ok1_3 : (mm_MT1.drop 15).all mm_okM = true := by decide +kernel
theorem mm_ok1 : mm_MT1.all mm_okM = true := mm_all_cut 5 mm_ok1_0 (mm_all_cut 5 mm_ok1_1 (mm_all_cut 5 (by rw [List.drop_drop]; exact mm_ok1_2) (by rw [List.drop_drop, List.drop_drop]; exact mm_ok1_3)))
theorem mm_ok2_0 : ((mm_MT2.drop 0).take 5).all mm_okM = true := by decide +kernel
theorem mm_ok2_1 : ((mm_MT2.drop 5).take 5).all mm_okM = true := by decide +kernel
theorem mm_ok2_2 : ((mm_MT2.drop 10).take 5).all mm_okM = true := by decide +kernel
theorem mm_ok2_3 : (mm_MT2.drop 15).all mm_okM = true := by decide +kernel
theorem mm_ok2 : mm_MT2.all mm_okM = true := mm_all_cut 5 mm_ok2_0 (mm_all_cut 5 mm_ok2_1 (mm_all_cut 5 (by rw [List.drop_drop]; exact mm_ok2_2) (by rw [List.drop_drop, List.drop_drop]; exact mm_ok2_3)))
theorem mm_ok3_0 : ((mm_MT3.drop 0).take 5).all mm_okM = true := by decide +kernel
theorem mm_ok3_1 : ((mm_MT3.drop 5).take 5).all mm_okM = true := by decide +kernel
theorem mm_ok3_2 : ((mm_MT3.drop 10).take 5).all mm_okM = true := by decide +kernel
theorem mm_ok3_3 : (mm_MT3.drop 15).all mm_okM = true := by decide +kernel
theorem mm_ok3 : mm_MT3.all mm_okM = true := mm_all_cut 5 mm_ok3_0 (mm_all_cut 5 mm_ok3_1 (mm_all_cut 5 (by rw [List.drop_drop]; exact mm_ok3_2) (by rw [List.drop_drop, List.drop_drop]; exact mm_ok3_3)))
theorem mm_ok4_0 : ((mm_MT4.drop 0).take 5).all mm_okM = true := by decide +kernel
theorem mm_ok4_1 : ((mm_MT4.drop 5).take 5).all mm_okM = true := by decide +kernel
theorem mm_ok4_2 : ((mm_MT4.drop 10).take 5).all mm_okM = true := by decide +kernel
theorem mm_ok4_3 : (mm_MT4.drop 15).all mm_okM = true := by decide +kernel
theorem mm_ok4 : mm_MT4.all mm_okM = true := mm_all_cut 5 mm_ok4_0 (mm_all_cut 5 mm_ok4_1 (mm_all_cut 5 (by rw [List.drop_drop]; exact mm_ok4_2) (by rw [List.drop_drop, List.drop_drop]; exact mm_ok4_3)))
theorem mm_ok5_0 : ((mm_MT5.drop 0).take 5).all mm_okM = true := by decide +kernel
theorem mm_ok5_1 : ((mm_MT5.drop 5).take 5).all mm_okM = true := by decide +kernel
theorem mm_ok5_2 : ((mm_MT5.drop 10).take 5).all mm_okM = true := by decide +kernel
theorem mm_ok5_3 : (mm_MT5.drop 15).all mm_okM = true := by decide +kernel
theorem mm_ok5 : mm_MT5.all mm_okM = true := mm_all_cut 5 mm_ok5_0 (mm_all_cut 5 mm_ok5_1 (mm_all_cut 5 (by rw [List.drop_drop]; exact mm_ok5_2) (by rw [List.drop_drop, List.drop_drop]; exact mm_ok5_3)))
theorem mm_ok6_0 : ((mm_MT6.drop 0).take 5).all mm_okM = true := by decide +kernel
theorem mm_ok6_1 : ((mm_MT6.drop 5).take 5).all mm_okM = true := by decide +kernel
theorem mm_ok6_2 : ((mm_MT6.drop 10).take 5).all mm_okM = true := by decide +kernel
theorem mm_ok6_3 : (mm_MT6.drop 15).all mm_okM = true := by decide +kernel
theorem mm_ok6 : mm_MT6.all mm_okM = true := mm_all_cut 5 mm_ok6_0 (mm_all_cut 5 mm_ok6_1 (mm_all_cut 5 (by rw [List.drop_drop]; exact mm_ok6_2) (by rw [List.drop_drop, List.drop_drop]; exact mm_ok6_3)))
theorem mm_ok7_0 : ((mm_MT7.drop 0).take 5).all mm_okM = true := by decide +kernel
theorem mm_ok7_1 : ((mm_MT7.drop 5).take 5).all mm_okM = true := by decide +kernel
theorem mm_ok7_2 : ((mm_MT7.drop 10).take 5).all mm_okM = true := by decide +kernel
theorem mm_ok7_3 : (mm_MT7.drop 15).all mm_okM = true := by decide +kernel
theorem mm_ok7 : mm_MT7.all mm_okM = true := mm_all_cut 5 mm_ok7_0 (mm_all_cut 5 mm_ok7_1 (mm_all_cut 5 (by rw [List.drop_drop]; exact mm_ok7_2) (by rw [List.drop_drop, List.drop_drop]; exact mm_ok7_3)))
theorem mm_okAll {y : Nat} {q : MI} (h : mm_MT[y]? = some q) : mm_okM q = true := by
  have hq := List.mem_of_getElem? h
  unfold mm_MT at hq
  simp only [List.mem_append] at hq
  rcases hq with h | h | h | h | h | h | h | h
  · exact List.all_eq_true.mp mm_ok0 _ h
  · exact List.all_eq_true.mp mm_ok1 _ h
  · exact List.all_eq_true.mp mm_ok2 _ h
  · exact List.all_eq_true.mp mm_ok3 _ h
  · exact List.all_eq_true.mp mm_ok4 _ h
  · exact List.all_eq_true.mp mm_ok5 _ h
  · exact List.all_eq_true.mp mm_ok6 _ h
  · exact List.all_eq_true.mp mm_ok7 _ h
end
