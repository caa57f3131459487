section
-- ===== PART A: goes FIRST, ahead of the names: the tables' words, and 'selects' of the private methods out of them =====
/-- a private method of a class that the tables say can be made, by its rows of tables_1 -/
def lw_okq (q : MethodName × Nat) : Prop := (q.1.cls ≠ "java/lang/invoke/MethodHandle" ∧ q.1.cls ≠ "java/lang/invoke/VarHandle") ∧ Cond.instantiable q.1.cls q.2 ∈ tables_1 ∧ Cond.privateMethod q.1 ∈ tables_1 ∧ Cond.instanceMethod q.1 ∈ tables_1
theorem lw_p0 : lw_okq (⟨"MatchCompile$Hand", "ask", "(I)V"⟩, 6) := ⟨⟨by decide +kernel, by decide +kernel⟩, List.mem_of_getElem? (i := 76) (by decide +kernel), List.mem_of_getElem? (i := 243) (by decide +kernel), List.mem_of_getElem? (i := 244) (by decide +kernel)⟩
theorem lw_p1 : lw_okq (⟨"java/lang/Throwable", "fillInStackTrace", "(I)Ljava/lang/Throwable;"⟩, 6) := ⟨⟨by decide +kernel, by decide +kernel⟩, List.mem_of_getElem? (i := 319) (by decide +kernel), List.mem_of_getElem? (i := 317) (by decide +kernel), List.mem_of_getElem? (i := 318) (by decide +kernel)⟩
theorem lw_p2 : lw_okq (⟨"MatchCompile", "countTypes", "(III)I"⟩, 10) := ⟨⟨by decide +kernel, by decide +kernel⟩, List.mem_of_getElem? (i := 22) (by decide +kernel), List.mem_of_getElem? (i := 361) (by decide +kernel), List.mem_of_getElem? (i := 362) (by decide +kernel)⟩
theorem lw_p3 : lw_okq (⟨"MatchCompile", "beginMatch", "(IIII)V"⟩, 10) := ⟨⟨by decide +kernel, by decide +kernel⟩, List.mem_of_getElem? (i := 22) (by decide +kernel), List.mem_of_getElem? (i := 391) (by decide +kernel), List.mem_of_getElem? (i := 392) (by decide +kernel)⟩
theorem lw_p4 : lw_okq (⟨"MatchCompile$Kinds", "findValued", "()V"⟩, 7) := ⟨⟨by decide +kernel, by decide +kernel⟩, List.mem_of_getElem? (i := 30) (by decide +kernel), List.mem_of_getElem? (i := 408) (by decide +kernel), List.mem_of_getElem? (i := 409) (by decide +kernel)⟩
theorem lw_p5 : lw_okq (⟨"MatchCompile", "refuseWithoutMatch", "()V"⟩, 10) := ⟨⟨by decide +kernel, by decide +kernel⟩, List.mem_of_getElem? (i := 22) (by decide +kernel), List.mem_of_getElem? (i := 460) (by decide +kernel), List.mem_of_getElem? (i := 461) (by decide +kernel)⟩
theorem lw_p6 : lw_okq (⟨"MatchCompile$Hand", "nextAsked", "()I"⟩, 6) := ⟨⟨by decide +kernel, by decide +kernel⟩, List.mem_of_getElem? (i := 76) (by decide +kernel), List.mem_of_getElem? (i := 480) (by decide +kernel), List.mem_of_getElem? (i := 481) (by decide +kernel)⟩
theorem lw_p7 : lw_okq (⟨"MatchCompile", "growTree", "()Z"⟩, 10) := ⟨⟨by decide +kernel, by decide +kernel⟩, List.mem_of_getElem? (i := 22) (by decide +kernel), List.mem_of_getElem? (i := 552) (by decide +kernel), List.mem_of_getElem? (i := 553) (by decide +kernel)⟩
theorem lw_p8 : lw_okq (⟨"MatchCompile$Tables", "pile", "(II)V"⟩, 6) := ⟨⟨by decide +kernel, by decide +kernel⟩, List.mem_of_getElem? (i := 123) (by decide +kernel), List.mem_of_getElem? (i := 561) (by decide +kernel), List.mem_of_getElem? (i := 562) (by decide +kernel)⟩
theorem lw_p9 : lw_okq (⟨"MatchCompile$Tables", "reserve", "(I)V"⟩, 6) := ⟨⟨by decide +kernel, by decide +kernel⟩, List.mem_of_getElem? (i := 123) (by decide +kernel), List.mem_of_getElem? (i := 565) (by decide +kernel), List.mem_of_getElem? (i := 566) (by decide +kernel)⟩
theorem lw_p10 : lw_okq (⟨"MatchCompile$Tables", "set", "(II)V"⟩, 6) := ⟨⟨by decide +kernel, by decide +kernel⟩, List.mem_of_getElem? (i := 123) (by decide +kernel), List.mem_of_getElem? (i := 584) (by decide +kernel), List.mem_of_getElem? (i := 585) (by decide +kernel)⟩
theorem lw_p11 : lw_okq (⟨"MatchCompile$Tables", "addLine", "(I)I"⟩, 6) := ⟨⟨by decide +kernel, by decide +kernel⟩, List.mem_of_getElem? (i := 123) (by decide +kernel), List.mem_of_getElem? (i := 589) (by decide +kernel), List.mem_of_getElem? (i := 590) (by decide +kernel)⟩
theorem lw_p12 : lw_okq (⟨"MatchCompile$Tables", "lineAt", "(I)I"⟩, 6) := ⟨⟨by decide +kernel, by decide +kernel⟩, List.mem_of_getElem? (i := 123) (by decide +kernel), List.mem_of_getElem? (i := 593) (by decide +kernel), List.mem_of_getElem? (i := 594) (by decide +kernel)⟩
theorem lw_p13 : lw_okq (⟨"MatchCompile$Tables", "cellOf", "(I)I"⟩, 6) := ⟨⟨by decide +kernel, by decide +kernel⟩, List.mem_of_getElem? (i := 123) (by decide +kernel), List.mem_of_getElem? (i := 598) (by decide +kernel), List.mem_of_getElem? (i := 599) (by decide +kernel)⟩
theorem lw_p14 : lw_okq (⟨"MatchCompile", "addNode", "(II)Z"⟩, 10) := ⟨⟨by decide +kernel, by decide +kernel⟩, List.mem_of_getElem? (i := 22) (by decide +kernel), List.mem_of_getElem? (i := 610) (by decide +kernel), List.mem_of_getElem? (i := 611) (by decide +kernel)⟩
theorem lw_p15 : lw_okq (⟨"MatchCompile$Tables", "splitAt", "(II)Z"⟩, 6) := ⟨⟨by decide +kernel, by decide +kernel⟩, List.mem_of_getElem? (i := 123) (by decide +kernel), List.mem_of_getElem? (i := 618) (by decide +kernel), List.mem_of_getElem? (i := 619) (by decide +kernel)⟩
def lw_privs_1 : List (MethodName × Nat) := [(⟨"MatchCompile$Hand", "ask", "(I)V"⟩, 6), (⟨"java/lang/Throwable", "fillInStackTrace", "(I)Ljava/lang/Throwable;"⟩, 6), (⟨"MatchCompile", "countTypes", "(III)I"⟩, 10), (⟨"MatchCompile", "beginMatch", "(IIII)V"⟩, 10), (⟨"MatchCompile$Kinds", "findValued", "()V"⟩, 7), (⟨"MatchCompile", "refuseWithoutMatch", "()V"⟩, 10), (⟨"MatchCompile$Hand", "nextAsked", "()I"⟩, 6), (⟨"MatchCompile", "growTree", "()Z"⟩, 10), (⟨"MatchCompile$Tables", "pile", "(II)V"⟩, 6), (⟨"MatchCompile$Tables", "reserve", "(I)V"⟩, 6), (⟨"MatchCompile$Tables", "set", "(II)V"⟩, 6), (⟨"MatchCompile$Tables", "addLine", "(I)I"⟩, 6), (⟨"MatchCompile$Tables", "lineAt", "(I)I"⟩, 6), (⟨"MatchCompile$Tables", "cellOf", "(I)I"⟩, 6), (⟨"MatchCompile", "addNode", "(II)Z"⟩, 10), (⟨"MatchCompile$Tables", "splitAt", "(II)Z"⟩, 6)]
theorem lw_r1 : ∀ q ∈ lw_privs_1, lw_okq q := List.forall_mem_cons.mpr ⟨lw_p0, List.forall_mem_cons.mpr ⟨lw_p1, List.forall_mem_cons.mpr ⟨lw_p2, List.forall_mem_cons.mpr ⟨lw_p3, List.forall_mem_cons.mpr ⟨lw_p4, List.forall_mem_cons.mpr ⟨lw_p5, List.forall_mem_cons.mpr ⟨lw_p6, List.forall_mem_cons.mpr ⟨lw_p7, List.forall_mem_cons.mpr ⟨lw_p8, List.forall_mem_cons.mpr ⟨lw_p9, List.forall_mem_cons.mpr ⟨lw_p10, List.forall_mem_cons.mpr ⟨lw_p11, List.forall_mem_cons.mpr ⟨lw_p12, List.forall_mem_cons.mpr ⟨lw_p13, List.forall_mem_cons.mpr ⟨lw_p14, List.forall_mem_cons.mpr ⟨lw_p15, fun _ h => absurd h List.not_mem_nil⟩⟩⟩⟩⟩⟩⟩⟩⟩⟩⟩⟩⟩⟩⟩⟩
theorem lw_p16 : lw_okq (⟨"MatchCompile$Tables", "get", "(I)I"⟩, 6) := ⟨⟨by decide +kernel, by decide +kernel⟩, List.mem_of_getElem? (i := 123) (by decide +kernel), List.mem_of_getElem? (i := 622) (by decide +kernel), List.mem_of_getElem? (i := 623) (by decide +kernel)⟩
theorem lw_p17 : lw_okq (⟨"MatchCompile$Tables", "isEither", "(I)Z"⟩, 6) := ⟨⟨by decide +kernel, by decide +kernel⟩, List.mem_of_getElem? (i := 123) (by decide +kernel), List.mem_of_getElem? (i := 626) (by decide +kernel), List.mem_of_getElem? (i := 627) (by decide +kernel)⟩
theorem lw_p18 : lw_okq (⟨"MatchCompile$Tables", "doubleLine", "(I)V"⟩, 6) := ⟨⟨by decide +kernel, by decide +kernel⟩, List.mem_of_getElem? (i := 123) (by decide +kernel), List.mem_of_getElem? (i := 630) (by decide +kernel), List.mem_of_getElem? (i := 631) (by decide +kernel)⟩
theorem lw_p19 : lw_okq (⟨"MatchCompile$Tables", "copy", "(III)V"⟩, 6) := ⟨⟨by decide +kernel, by decide +kernel⟩, List.mem_of_getElem? (i := 123) (by decide +kernel), List.mem_of_getElem? (i := 634) (by decide +kernel), List.mem_of_getElem? (i := 635) (by decide +kernel)⟩
theorem lw_p20 : lw_okq (⟨"MatchCompile$Tree", "set", "(III)V"⟩, 4) := ⟨⟨by decide +kernel, by decide +kernel⟩, List.mem_of_getElem? (i := 104) (by decide +kernel), List.mem_of_getElem? (i := 643) (by decide +kernel), List.mem_of_getElem? (i := 644) (by decide +kernel)⟩
theorem lw_p21 : lw_okq (⟨"MatchCompile$Tree", "hang", "(II)V"⟩, 4) := ⟨⟨by decide +kernel, by decide +kernel⟩, List.mem_of_getElem? (i := 104) (by decide +kernel), List.mem_of_getElem? (i := 647) (by decide +kernel), List.mem_of_getElem? (i := 648) (by decide +kernel)⟩
theorem lw_p22 : lw_okq (⟨"MatchCompile$Tree", "get", "(II)I"⟩, 4) := ⟨⟨by decide +kernel, by decide +kernel⟩, List.mem_of_getElem? (i := 104) (by decide +kernel), List.mem_of_getElem? (i := 651) (by decide +kernel), List.mem_of_getElem? (i := 652) (by decide +kernel)⟩
theorem lw_p23 : lw_okq (⟨"MatchCompile$Tree", "branchAt", "(II)I"⟩, 4) := ⟨⟨by decide +kernel, by decide +kernel⟩, List.mem_of_getElem? (i := 104) (by decide +kernel), List.mem_of_getElem? (i := 655) (by decide +kernel), List.mem_of_getElem? (i := 656) (by decide +kernel)⟩
theorem lw_p24 : lw_okq (⟨"MatchCompile$Tables", "head", "(I)I"⟩, 6) := ⟨⟨by decide +kernel, by decide +kernel⟩, List.mem_of_getElem? (i := 123) (by decide +kernel), List.mem_of_getElem? (i := 671) (by decide +kernel), List.mem_of_getElem? (i := 672) (by decide +kernel)⟩
theorem lw_p25 : lw_okq (⟨"MatchCompile$Tables", "copyAround", "(IIIII)V"⟩, 6) := ⟨⟨by decide +kernel, by decide +kernel⟩, List.mem_of_getElem? (i := 123) (by decide +kernel), List.mem_of_getElem? (i := 727) (by decide +kernel), List.mem_of_getElem? (i := 728) (by decide +kernel)⟩
theorem lw_p26 : lw_okq (⟨"MatchCompile$Tables", "putFields", "(III)V"⟩, 6) := ⟨⟨by decide +kernel, by decide +kernel⟩, List.mem_of_getElem? (i := 123) (by decide +kernel), List.mem_of_getElem? (i := 732) (by decide +kernel), List.mem_of_getElem? (i := 733) (by decide +kernel)⟩
theorem lw_p27 : lw_okq (⟨"MatchCompile$Cases", "putFound", "(II)V"⟩, 5) := ⟨⟨by decide +kernel, by decide +kernel⟩, List.mem_of_getElem? (i := 148) (by decide +kernel), List.mem_of_getElem? (i := 818) (by decide +kernel), List.mem_of_getElem? (i := 819) (by decide +kernel)⟩
theorem lw_p28 : lw_okq (⟨"MatchCompile$Cases", "anyOf", "(I)I"⟩, 5) := ⟨⟨by decide +kernel, by decide +kernel⟩, List.mem_of_getElem? (i := 148) (by decide +kernel), List.mem_of_getElem? (i := 822) (by decide +kernel), List.mem_of_getElem? (i := 823) (by decide +kernel)⟩
theorem lw_p29 : lw_okq (⟨"MatchCompile", "refuseWithoutWholeValues", "()V"⟩, 10) := ⟨⟨by decide +kernel, by decide +kernel⟩, List.mem_of_getElem? (i := 22) (by decide +kernel), List.mem_of_getElem? (i := 859) (by decide +kernel), List.mem_of_getElem? (i := 860) (by decide +kernel)⟩
theorem lw_p30 : lw_okq (⟨"MatchCompile", "rowTakesValues", "(I)Z"⟩, 10) := ⟨⟨by decide +kernel, by decide +kernel⟩, List.mem_of_getElem? (i := 22) (by decide +kernel), List.mem_of_getElem? (i := 865) (by decide +kernel), List.mem_of_getElem? (i := 866) (by decide +kernel)⟩
theorem lw_p31 : lw_okq (⟨"MatchCompile", "takes", "(III)Z"⟩, 10) := ⟨⟨by decide +kernel, by decide +kernel⟩, List.mem_of_getElem? (i := 22) (by decide +kernel), List.mem_of_getElem? (i := 870) (by decide +kernel), List.mem_of_getElem? (i := 871) (by decide +kernel)⟩
def lw_privs_2 : List (MethodName × Nat) := [(⟨"MatchCompile$Tables", "get", "(I)I"⟩, 6), (⟨"MatchCompile$Tables", "isEither", "(I)Z"⟩, 6), (⟨"MatchCompile$Tables", "doubleLine", "(I)V"⟩, 6), (⟨"MatchCompile$Tables", "copy", "(III)V"⟩, 6), (⟨"MatchCompile$Tree", "set", "(III)V"⟩, 4), (⟨"MatchCompile$Tree", "hang", "(II)V"⟩, 4), (⟨"MatchCompile$Tree", "get", "(II)I"⟩, 4), (⟨"MatchCompile$Tree", "branchAt", "(II)I"⟩, 4), (⟨"MatchCompile$Tables", "head", "(I)I"⟩, 6), (⟨"MatchCompile$Tables", "copyAround", "(IIIII)V"⟩, 6), (⟨"MatchCompile$Tables", "putFields", "(III)V"⟩, 6), (⟨"MatchCompile$Cases", "putFound", "(II)V"⟩, 5), (⟨"MatchCompile$Cases", "anyOf", "(I)I"⟩, 5), (⟨"MatchCompile", "refuseWithoutWholeValues", "()V"⟩, 10), (⟨"MatchCompile", "rowTakesValues", "(I)Z"⟩, 10), (⟨"MatchCompile", "takes", "(III)Z"⟩, 10)]
theorem lw_r2 : ∀ q ∈ lw_privs_2, lw_okq q := List.forall_mem_cons.mpr ⟨lw_p16, List.forall_mem_cons.mpr ⟨lw_p17, List.forall_mem_cons.mpr ⟨lw_p18, List.forall_mem_cons.mpr ⟨lw_p19, List.forall_mem_cons.mpr ⟨lw_p20, List.forall_mem_cons.mpr ⟨lw_p21, List.forall_mem_cons.mpr ⟨lw_p22, List.forall_mem_cons.mpr ⟨lw_p23, List.forall_mem_cons.mpr ⟨lw_p24, List.forall_mem_cons.mpr ⟨lw_p25, List.forall_mem_cons.mpr ⟨lw_p26, List.forall_mem_cons.mpr ⟨lw_p27, List.forall_mem_cons.mpr ⟨lw_p28, List.forall_mem_cons.mpr ⟨lw_p29, List.forall_mem_cons.mpr ⟨lw_p30, List.forall_mem_cons.mpr ⟨lw_p31, fun _ h => absurd h List.not_mem_nil⟩⟩⟩⟩⟩⟩⟩⟩⟩⟩⟩⟩⟩⟩⟩⟩
theorem lw_p32 : lw_okq (⟨"MatchCompile", "countTests", "()I"⟩, 10) := ⟨⟨by decide +kernel, by decide +kernel⟩, List.mem_of_getElem? (i := 22) (by decide +kernel), List.mem_of_getElem? (i := 887) (by decide +kernel), List.mem_of_getElem? (i := 888) (by decide +kernel)⟩
theorem lw_p33 : lw_okq (⟨"MatchCompile$Seats", "isSeat", "(I)Z"⟩, 4) := ⟨⟨by decide +kernel, by decide +kernel⟩, List.mem_of_getElem? (i := 170) (by decide +kernel), List.mem_of_getElem? (i := 902) (by decide +kernel), List.mem_of_getElem? (i := 903) (by decide +kernel)⟩
theorem lw_p34 : lw_okq (⟨"MatchCompile$Seats", "makeGap", "(II)V"⟩, 4) := ⟨⟨by decide +kernel, by decide +kernel⟩, List.mem_of_getElem? (i := 170) (by decide +kernel), List.mem_of_getElem? (i := 916) (by decide +kernel), List.mem_of_getElem? (i := 917) (by decide +kernel)⟩
theorem lw_p35 : lw_okq (⟨"MatchCompileModel", "isType", "(I)Z"⟩, 38) := ⟨⟨by decide +kernel, by decide +kernel⟩, List.mem_of_getElem? (i := 920) (by decide +kernel), List.mem_of_getElem? (i := 1053) (by decide +kernel), List.mem_of_getElem? (i := 1054) (by decide +kernel)⟩
theorem lw_p36 : lw_okq (⟨"MatchCompileModel", "areTypes", "(III)Z"⟩, 38) := ⟨⟨by decide +kernel, by decide +kernel⟩, List.mem_of_getElem? (i := 920) (by decide +kernel), List.mem_of_getElem? (i := 1057) (by decide +kernel), List.mem_of_getElem? (i := 1058) (by decide +kernel)⟩
theorem lw_p37 : lw_okq (⟨"MatchCompileModel", "makersOf", "(I)I"⟩, 38) := ⟨⟨by decide +kernel, by decide +kernel⟩, List.mem_of_getElem? (i := 920) (by decide +kernel), List.mem_of_getElem? (i := 1061) (by decide +kernel), List.mem_of_getElem? (i := 1062) (by decide +kernel)⟩
theorem lw_p38 : lw_okq (⟨"MatchCompileModel", "forget", "()V"⟩, 38) := ⟨⟨by decide +kernel, by decide +kernel⟩, List.mem_of_getElem? (i := 920) (by decide +kernel), List.mem_of_getElem? (i := 1065) (by decide +kernel), List.mem_of_getElem? (i := 1066) (by decide +kernel)⟩
theorem lw_p39 : lw_okq (⟨"MatchCompileModel", "find", "()V"⟩, 38) := ⟨⟨by decide +kernel, by decide +kernel⟩, List.mem_of_getElem? (i := 920) (by decide +kernel), List.mem_of_getElem? (i := 1073) (by decide +kernel), List.mem_of_getElem? (i := 1074) (by decide +kernel)⟩
theorem lw_p40 : lw_okq (⟨"MatchCompileModel", "isDead", "(I)Z"⟩, 38) := ⟨⟨by decide +kernel, by decide +kernel⟩, List.mem_of_getElem? (i := 920) (by decide +kernel), List.mem_of_getElem? (i := 1077) (by decide +kernel), List.mem_of_getElem? (i := 1078) (by decide +kernel)⟩
theorem lw_p41 : lw_okq (⟨"MatchCompileModel", "fields", "(I)I"⟩, 38) := ⟨⟨by decide +kernel, by decide +kernel⟩, List.mem_of_getElem? (i := 920) (by decide +kernel), List.mem_of_getElem? (i := 1081) (by decide +kernel), List.mem_of_getElem? (i := 1082) (by decide +kernel)⟩
theorem lw_p42 : lw_okq (⟨"MatchCompileModel", "next", "([II)I"⟩, 38) := ⟨⟨by decide +kernel, by decide +kernel⟩, List.mem_of_getElem? (i := 920) (by decide +kernel), List.mem_of_getElem? (i := 1093) (by decide +kernel), List.mem_of_getElem? (i := 1094) (by decide +kernel)⟩
theorem lw_p43 : lw_okq (⟨"MatchCompileModel", "isMakerOf", "(II)Z"⟩, 38) := ⟨⟨by decide +kernel, by decide +kernel⟩, List.mem_of_getElem? (i := 920) (by decide +kernel), List.mem_of_getElem? (i := 1097) (by decide +kernel), List.mem_of_getElem? (i := 1098) (by decide +kernel)⟩
theorem lw_p44 : lw_okq (⟨"MatchCompileModel", "canAnswer", "()Z"⟩, 38) := ⟨⟨by decide +kernel, by decide +kernel⟩, List.mem_of_getElem? (i := 920) (by decide +kernel), List.mem_of_getElem? (i := 1117) (by decide +kernel), List.mem_of_getElem? (i := 1118) (by decide +kernel)⟩
theorem lw_p45 : lw_okq (⟨"MatchCompileModel", "rowTakes", "(I)Z"⟩, 38) := ⟨⟨by decide +kernel, by decide +kernel⟩, List.mem_of_getElem? (i := 920) (by decide +kernel), List.mem_of_getElem? (i := 1121) (by decide +kernel), List.mem_of_getElem? (i := 1122) (by decide +kernel)⟩
theorem lw_p46 : lw_okq (⟨"MatchCompileModel", "behind", "([II)I"⟩, 38) := ⟨⟨by decide +kernel, by decide +kernel⟩, List.mem_of_getElem? (i := 920) (by decide +kernel), List.mem_of_getElem? (i := 1125) (by decide +kernel), List.mem_of_getElem? (i := 1126) (by decide +kernel)⟩
theorem lw_p47 : lw_okq (⟨"MatchCompileModel", "fieldsTake", "(II)Z"⟩, 38) := ⟨⟨by decide +kernel, by decide +kernel⟩, List.mem_of_getElem? (i := 920) (by decide +kernel), List.mem_of_getElem? (i := 1129) (by decide +kernel), List.mem_of_getElem? (i := 1130) (by decide +kernel)⟩
def lw_privs_3 : List (MethodName × Nat) := [(⟨"MatchCompile", "countTests", "()I"⟩, 10), (⟨"MatchCompile$Seats", "isSeat", "(I)Z"⟩, 4), (⟨"MatchCompile$Seats", "makeGap", "(II)V"⟩, 4), (⟨"MatchCompileModel", "isType", "(I)Z"⟩, 38), (⟨"MatchCompileModel", "areTypes", "(III)Z"⟩, 38), (⟨"MatchCompileModel", "makersOf", "(I)I"⟩, 38), (⟨"MatchCompileModel", "forget", "()V"⟩, 38), (⟨"MatchCompileModel", "find", "()V"⟩, 38), (⟨"MatchCompileModel", "isDead", "(I)Z"⟩, 38), (⟨"MatchCompileModel", "fields", "(I)I"⟩, 38), (⟨"MatchCompileModel", "next", "([II)I"⟩, 38), (⟨"MatchCompileModel", "isMakerOf", "(II)Z"⟩, 38), (⟨"MatchCompileModel", "canAnswer", "()Z"⟩, 38), (⟨"MatchCompileModel", "rowTakes", "(I)Z"⟩, 38), (⟨"MatchCompileModel", "behind", "([II)I"⟩, 38), (⟨"MatchCompileModel", "fieldsTake", "(II)Z"⟩, 38)]
theorem lw_r3 : ∀ q ∈ lw_privs_3, lw_okq q := List.forall_mem_cons.mpr ⟨lw_p32, List.forall_mem_cons.mpr ⟨lw_p33, List.forall_mem_cons.mpr ⟨lw_p34, List.forall_mem_cons.mpr ⟨lw_p35, List.forall_mem_cons.mpr ⟨lw_p36, List.forall_mem_cons.mpr ⟨lw_p37, List.forall_mem_cons.mpr ⟨lw_p38, List.forall_mem_cons.mpr ⟨lw_p39, List.forall_mem_cons.mpr ⟨lw_p40, List.forall_mem_cons.mpr ⟨lw_p41, List.forall_mem_cons.mpr ⟨lw_p42, List.forall_mem_cons.mpr ⟨lw_p43, List.forall_mem_cons.mpr ⟨lw_p44, List.forall_mem_cons.mpr ⟨lw_p45, List.forall_mem_cons.mpr ⟨lw_p46, List.forall_mem_cons.mpr ⟨lw_p47, fun _ h => absurd h List.not_mem_nil⟩⟩⟩⟩⟩⟩⟩⟩⟩⟩⟩⟩⟩⟩⟩⟩
theorem lw_p48 : lw_okq (⟨"MatchCompileModel", "begin", "(II)V"⟩, 38) := ⟨⟨by decide +kernel, by decide +kernel⟩, List.mem_of_getElem? (i := 920) (by decide +kernel), List.mem_of_getElem? (i := 1137) (by decide +kernel), List.mem_of_getElem? (i := 1138) (by decide +kernel)⟩
theorem lw_p49 : lw_okq (⟨"MatchCompileModel", "tableOf", "(II)V"⟩, 38) := ⟨⟨by decide +kernel, by decide +kernel⟩, List.mem_of_getElem? (i := 920) (by decide +kernel), List.mem_of_getElem? (i := 1141) (by decide +kernel), List.mem_of_getElem? (i := 1142) (by decide +kernel)⟩
theorem lw_p50 : lw_okq (⟨"MatchCompileModel", "firstTable", "()V"⟩, 38) := ⟨⟨by decide +kernel, by decide +kernel⟩, List.mem_of_getElem? (i := 920) (by decide +kernel), List.mem_of_getElem? (i := 1145) (by decide +kernel), List.mem_of_getElem? (i := 1146) (by decide +kernel)⟩
theorem lw_p51 : lw_okq (⟨"MatchCompileModel", "part", "()V"⟩, 38) := ⟨⟨by decide +kernel, by decide +kernel⟩, List.mem_of_getElem? (i := 920) (by decide +kernel), List.mem_of_getElem? (i := 1149) (by decide +kernel), List.mem_of_getElem? (i := 1150) (by decide +kernel)⟩
theorem lw_p52 : lw_okq (⟨"MatchCompileModel", "signOf", "(I)I"⟩, 38) := ⟨⟨by decide +kernel, by decide +kernel⟩, List.mem_of_getElem? (i := 920) (by decide +kernel), List.mem_of_getElem? (i := 1153) (by decide +kernel), List.mem_of_getElem? (i := 1154) (by decide +kernel)⟩
theorem lw_p53 : lw_okq (⟨"MatchCompileModel", "doubled", "(III)V"⟩, 38) := ⟨⟨by decide +kernel, by decide +kernel⟩, List.mem_of_getElem? (i := 920) (by decide +kernel), List.mem_of_getElem? (i := 1157) (by decide +kernel), List.mem_of_getElem? (i := 1158) (by decide +kernel)⟩
theorem lw_p54 : lw_okq (⟨"MatchCompileModel", "branch", "(II)V"⟩, 38) := ⟨⟨by decide +kernel, by decide +kernel⟩, List.mem_of_getElem? (i := 920) (by decide +kernel), List.mem_of_getElem? (i := 1161) (by decide +kernel), List.mem_of_getElem? (i := 1162) (by decide +kernel)⟩
theorem lw_p55 : lw_okq (⟨"MatchCompileModel", "widen", "(IIIII)V"⟩, 38) := ⟨⟨by decide +kernel, by decide +kernel⟩, List.mem_of_getElem? (i := 920) (by decide +kernel), List.mem_of_getElem? (i := 1165) (by decide +kernel), List.mem_of_getElem? (i := 1166) (by decide +kernel)⟩
theorem lw_p56 : lw_okq (⟨"MatchCompileModel", "isNode", "(I)Z"⟩, 38) := ⟨⟨by decide +kernel, by decide +kernel⟩, List.mem_of_getElem? (i := 920) (by decide +kernel), List.mem_of_getElem? (i := 1173) (by decide +kernel), List.mem_of_getElem? (i := 1174) (by decide +kernel)⟩
theorem lw_p57 : lw_okq (⟨"MatchCompileModel", "branchOf", "(II)I"⟩, 38) := ⟨⟨by decide +kernel, by decide +kernel⟩, List.mem_of_getElem? (i := 920) (by decide +kernel), List.mem_of_getElem? (i := 1177) (by decide +kernel), List.mem_of_getElem? (i := 1178) (by decide +kernel)⟩
theorem lw_p58 : lw_okq (⟨"MatchCompileModel", "tell", "(I)I"⟩, 38) := ⟨⟨by decide +kernel, by decide +kernel⟩, List.mem_of_getElem? (i := 920) (by decide +kernel), List.mem_of_getElem? (i := 1190) (by decide +kernel), List.mem_of_getElem? (i := 1191) (by decide +kernel)⟩
def lw_privs_4 : List (MethodName × Nat) := [(⟨"MatchCompileModel", "begin", "(II)V"⟩, 38), (⟨"MatchCompileModel", "tableOf", "(II)V"⟩, 38), (⟨"MatchCompileModel", "firstTable", "()V"⟩, 38), (⟨"MatchCompileModel", "part", "()V"⟩, 38), (⟨"MatchCompileModel", "signOf", "(I)I"⟩, 38), (⟨"MatchCompileModel", "doubled", "(III)V"⟩, 38), (⟨"MatchCompileModel", "branch", "(II)V"⟩, 38), (⟨"MatchCompileModel", "widen", "(IIIII)V"⟩, 38), (⟨"MatchCompileModel", "isNode", "(I)Z"⟩, 38), (⟨"MatchCompileModel", "branchOf", "(II)I"⟩, 38), (⟨"MatchCompileModel", "tell", "(I)I"⟩, 38)]
theorem lw_r4 : ∀ q ∈ lw_privs_4, lw_okq q := List.forall_mem_cons.mpr ⟨lw_p48, List.forall_mem_cons.mpr ⟨lw_p49, List.forall_mem_cons.mpr ⟨lw_p50, List.forall_mem_cons.mpr ⟨lw_p51, List.forall_mem_cons.mpr ⟨lw_p52, List.forall_mem_cons.mpr ⟨lw_p53, List.forall_mem_cons.mpr ⟨lw_p54, List.forall_mem_cons.mpr ⟨lw_p55, List.forall_mem_cons.mpr ⟨lw_p56, List.forall_mem_cons.mpr ⟨lw_p57, List.forall_mem_cons.mpr ⟨lw_p58, fun _ h => absurd h List.not_mem_nil⟩⟩⟩⟩⟩⟩⟩⟩⟩⟩⟩
def lw_privs : List (MethodName × Nat) := lw_privs_1 ++ (lw_privs_2 ++ (lw_privs_3 ++ (lw_privs_4)))
def lw_tbl : List Cond := k2_sels lw_privs ++ tables_1
theorem lw_privs_ok : ∀ q ∈ lw_privs, lw_okq q := by
  show ∀ q ∈ lw_privs_1 ++ (lw_privs_2 ++ (lw_privs_3 ++ (lw_privs_4))), lw_okq q
  exact List.forall_mem_append.mpr ⟨lw_r1, List.forall_mem_append.mpr ⟨lw_r2, List.forall_mem_append.mpr ⟨lw_r3, lw_r4⟩⟩⟩
-- the law base, then the laws on exceptions that stand ahead of the names
/-! ===== BEGIN words of one list among another's, by their places ===== -/
theorem goodIn_r {big : List Cond} (ws : List Cond) (ps : List Nat) (hp : ws = ps.filterMap (fun i => big[i]?)) (h : ws.all goodWord = true) : GoodIn big ws := by
  intro w hw
  have h1 := List.all_eq_true.mp h w hw
  rw [hp] at hw
  obtain ⟨i, -, hi⟩ := List.mem_filterMap.mp hw
  have hm : w ∈ big := by first | exact List.mem_of_getElem? hi | exact List.getElem?_mem hi
  exact ⟨hm, good_of_word h1⟩
theorem goodIn_app {big a b : List Cond} (ha : GoodIn big a) (hb : GoodIn big b) : GoodIn big (a ++ b) := fun w h => (List.mem_append.mp h).elim (ha w) (hb w)
theorem goodIn_ca {big a b : List Cond} {c : Cond} (ha : GoodIn big (c :: a)) (hb : GoodIn big b) : GoodIn big (c :: (a ++ b)) := fun w h => (List.mem_cons.mp h).elim (fun e => ha w (List.mem_cons.mpr (Or.inl e))) (fun h => (List.mem_append.mp h).elim (fun h => ha w (List.mem_cons.mpr (Or.inr h))) (hb w))
theorem goodIn_sub {big ws : List Cond} (hm : ∀ w ∈ ws, w ∈ big) (h : ws.all goodWord = true) : GoodIn big ws := fun w hw => ⟨hm w hw, good_of_word (List.all_eq_true.mp h w hw)⟩
/-! ===== END ===== -/

/-! ===== BEGIN exceptions that leave a method, and their catching by the caller (launches without stack traces) ===== -/
section VXA
/-! The laws vx_back, vx_callV, vx_callS, vx_callSW, vx_throw0, vx_throwS follow proofs of the library, with one case more: JvmDerived/Free/Laws.lean (Back.of_free), Shelf42/LK1.lean (callV, callS), Shelf/KitTraced.lean (throwNew0V, throwNewS). -/
-- (open Bundle: the round refuses the word; its names are written out below)
/-- where a method has thrown q: the class by its name, the cell, what was written, the world -/
def vx_T (XC : String → State → State → Prop) (st : State) (q : Addr) (t : State) (mc ms : Nat) (free : Addr → Prop) : Prop :=
  ∃ (E : String) (ce : Cell) (L : List Loc), XC E st t ∧ t.heap[q]? = some ce ∧ ce.vm = .none ∧ st.vm.findClass E = some ce.cls ∧ st.WarmedH t.vm ∧ st.sameButNew ({ t with vm := st.vm } : State) L mc ms ∧ ∀ z ∈ L, free z.base
def vx_Q (Qc : Array Value → State → Outcome → State → Prop) (XC : String → State → State → Prop) (mc ms : Nat) (free : Addr → Prop) : Array Value → State → Outcome → State → Prop := fun a st o t =>
  (Qc a st o t ∧ ∃ L, FrameEnd st o t L mc ms ∧ ∀ q ∈ L, free q.base) ∨ ∃ q, o = .threw q ∧ vx_T XC st q t mc ms free
/-- a callee that returns or throws -/
def vx_Met (l : Launch) (y : MethodName) (ws : List Cond) (rm : Room) (Pc : Array Value → State → Prop) (Qc : Array Value → State → Outcome → State → Prop) (XC : String → State → State → Prop) (mc ms : Nat) (free : Addr → Prop) : Prop :=
  MetFree l y (headSpec ws rm) Pc (fun _ _ _ _ _ => True) (vx_Q Qc XC mc ms free)
def vx_Post (XC : String → State → State → Prop) (mc ms : Nat) (free : Addr → Prop) : Pt → Array Value → Addr → Pt → Prop := fun A a q B =>
  ∃ (g : JFrame) (mk : MethodId) (t : State) (L : List Loc) (E : String) (ce : Cell), B.U.heap = t.heap ∧ B.U.vm = t.vm ∧ XC E (A.U.calling g mk a) t ∧ t.heap[q]? = some ce ∧ ce.vm = .none ∧ A.U.vm.findClass E = some ce.cls ∧ B.locs = A.locs ++ L ∧ (∀ z ∈ L, free z.base) ∧ B.cells = A.cells + mc ∧ B.slots = A.slots + ms
def vx_Back (l : Launch) (R : Room) (p : Program) (e : Env) (below : List Frame) (s : State) (sargs : Array Value) (y : MethodName) (len W9 : Nat)
    (Pre : Pt → Array Value → Prop) (Post : Pt → Array Value → Option Value → Pt → Prop) (PostX : Pt → Array Value → Addr → Pt → Prop) : Prop :=
  ∀ (m : MethodId) (meth : Method) (c : Code) (A : Pt) (g : JFrame) (ig : Instr) (mk : MethodId) (a : Array Value),
    Stand p l e R s m sargs below meth c A.U A.locs A.cells A.slots → g.method = m → g.locals.size = c.maxLocals → decode c.code g.pc = .ok (ig, len) →
    2 * g.monitorRoom + (g.stack.map fun v => v.category).sum ≤ W9 → A.U.methodNamed? y = some mk → Pre A a →
    (∃ (v : Option Value) (B : Pt), Stand p l e R s m sargs below meth c B.U B.locs B.cells B.slots ∧ Post A a v B ∧
      Steps p.tables e below (doInvoke e (A.U.setTop g) [] mk a).1 (B.U.setTop { g with pc := g.pc + len, stack := v.toList ++ g.stack })) ∨
    (∃ (q : Addr) (B : Pt), Stand p l e R s m sargs below meth c B.U B.locs B.cells B.slots ∧ PostX A a q B ∧
      Steps p.tables e below (doInvoke e (A.U.setTop g) [] mk a).1 ((B.U.setTop g).pushFrame (.throwing q)))
section Payer
variable {l : Launch} {R : Room} {p : Program} {e : Env} {below : List Frame} {s : State} {sargs : Array Value} {y : MethodName} {len W9 : Nat}
theorem vx_back {ws : List Cond} {rm : Room} {Pc : Array Value → State → Prop} {Qc : Array Value → State → Outcome → State → Prop} {XC : String → State → State → Prop} {mc ms : Nat} {free : Addr → Prop} {bytes : ByteArray} {maxL : Nat} {ret : Option FieldType}
    (hM : vx_Met l y ws rm Pc Qc XC mc ms free) (hblind : FrameBlind Pc) (hrc : rm.cells = mc) (hrs : rm.slots = ms)
    (hframes : rm.frames + 1 ≤ R.frames) (hlocals : W9 + (maxL + 11) + rm.locals ≤ R.locals)
    (hws : ∀ w ∈ ws, ∀ a' U, s.WarmedH U.vm → w.before a' U = true) (hcode : Cond.code y bytes maxL ret ∈ ws) (hinit : ∀ a' U, s.WarmedH U.vm → (Cond.initialized y.cls).before a' U = true) :
    vx_Back l R p e below s sargs y len W9 (PreOf R mc ms Pc) (PostOf Qc mc ms free) (vx_Post XC mc ms free) := by
  intro m meth c A g ig mk a X hg hsize hdg hW hn hp
  have h1 : (headSpec ws rm).pre.before a A.U = true := atoms_intro fun w hw => hws w hw _ _ X.warmed
  have h2 : (Cond.code y bytes maxL ret).before a A.U = true := hws _ hcode _ _ X.warmed
  have h3 : (Cond.initialized y.cls).before a A.U = true := hinit _ _ X.warmed
  have h4 : A.cells + (headSpec ws rm).room.cells ≤ R.cells := by rw [show (headSpec ws rm).room.cells = mc from hrc]; exact hp.1
  have h5 : A.slots + (headSpec ws rm).room.slots ≤ R.slots := by rw [show (headSpec ws rm).room.slots = ms from hrs]; exact hp.2.1
  have hPc : Pc a (A.U.calling g mk a) := hblind _ _ _ _ hp.2.2
  obtain ⟨U, Ls, c0, s0⟩ := A
  dsimp only [Pt.U, Pt.locs, Pt.cells, Pt.slots] at h1 h2 h3 h4 h5 X hn hPc ⊢
  obtain ⟨methY, cY, hmY, hcY, -, hlY, -, -, -, -⟩ := Cond.code_spec hn h2
  obtain ⟨kY, hkY, -⟩ := className_of_methodNamed hn
  have hinitY : kY.init = .initialized := Cond.initialized_spec (findClass_of_methodNamed hn) hkY h3
  have h : At U g.method c below := by rw [hg]; exact X.here
  have hlocals9 : W9 + (maxL + 11) + (headSpec ws rm).room.locals ≤ R.locals := hlocals
  have happ : (headSpec ws rm).appliesLoose y e.platform (U.calling g mk a) = true :=
    Spec.appliesLoose_calling (g := g) h hdg hn hkY hinitY
      (X.room_calling (g := g) (R' := (headSpec ws rm).room) hsize hmY hcY hframes (by rw [hlY]; omega) h4 h5) h1
  obtain ⟨mid, hmid⟩ := h.above
  have hfr : (U.setTop g).frames = (.java g :: mid) ++ below := by rw [State.frames_setTop' g h.top, hmid]; rfl
  obtain ⟨o, s₂, hsteps, -, hend, hq⟩ := Steps.callFree hM p X.admits X.cas X.clock (acts := []) hfr happ hPc trivial
  have hq' : vx_Q Qc XC mc ms free a (U.calling g mk a) o s₂ := hq
  rw [State.frames_setTop' g h.top] at hend
  obtain ⟨g₀, hg0⟩ := Option.isSome_iff_exists.mp h.top
  obtain ⟨r, hr⟩ := State.topJava?_eq_some.mp hg0
  have hr' : (({ U with heap := s₂.heap, slotsUsed := s₂.slotsUsed } : State).setVm s₂.vm).frames = .java g₀ :: r := hr
  rcases hq' with ⟨hqc, L, hfe, hL⟩ | ⟨q, rfl, E, ce, L, hx, hce, hcv, hcl, hW₂, hsm, hL⟩
  · obtain ⟨⟨v, rfl⟩, hW₂, e2, q2, q3, q4, q5, q6⟩ := id hfe
    have e3 : s₂ = ({ (U.calling g mk a).setFrames s₂.frames with heap := s₂.heap, slotsUsed := s₂.slotsUsed } : State).setVm s₂.vm := by
      have : s₂ = ({ s₂ with vm := (U.calling g mk a).vm } : State).setVm s₂.vm := rfl
      rw [e2] at this
      exact this
    obtain ⟨c₂, i₂, len₂, hc₂, hd₂, hf₂⟩ := hend
    have hW' : U.WarmedH s₂.vm := hW₂
    have hcc : c₂ = c := by
      have h1 : s₂.code? g.method = U.code? g.method := by
        rw [State.code?_eq, State.code?_eq, hW'.alike.method?]
      exact Option.some.inj (hc₂.symm.trans (h1.trans h.code))
    subst hcc
    have hlen : len₂ = len := by rw [hdg] at hd₂; cases hd₂; rfl
    subst hlen
    have hs₂ : s₂ = (({ U with heap := s₂.heap, slotsUsed := s₂.slotsUsed } : State).setVm s₂.vm).setTop { g with pc := g.pc + len₂, stack := v.toList ++ g.stack } := by
      refine e3.trans ?_
      rw [hf₂, State.calling_eq h.top, State.setFrames_setFrames, State.setTop_of_frames _ hr', hr]
      rfl
    have hsame : U.sameButNew ({ U with heap := s₂.heap, slotsUsed := s₂.slotsUsed } : State) L mc ms := by
      refine ⟨?_, q2, q3, q4, q5, q6⟩
      obtain ⟨t, ht, -⟩ := State.frames_cons hr
      show ({ U with heap := s₂.heap, slotsUsed := s₂.slotsUsed } : State) = { U.setFrames U.frames with heap := s₂.heap, slotsUsed := s₂.slotsUsed }
      rw [State.setFrames_self ht]
    subst hg
    refine Or.inl ⟨v, ⟨(({ U with heap := s₂.heap, slotsUsed := s₂.slotsUsed } : State).setVm s₂.vm), Ls ++ L, c0 + mc, s0 + ms⟩,
      ⟨X.admits, X.cas, X.clock, X.frames, X.room, X.hears, X.method, X.code, (X.here.setHeapUsed s₂.heap s₂.slotsUsed).setVm hW'.alike, X.tail, State.WarmedH.trans X.warmed hW', X.limits, X.bytes, X.same.trans (hsame.setVm s.vm)⟩,
      ⟨g, mk, s₂, L, rfl, rfl, hqc, rfl, hL, rfl, rfl⟩, ?_⟩
    show Steps p.tables e below _ ((({ U with heap := s₂.heap, slotsUsed := s₂.slotsUsed } : State).setVm s₂.vm).setTop { g with pc := g.pc + len₂, stack := v.toList ++ g.stack })
    rw [← hs₂]
    exact hsteps
  · obtain ⟨e2, q2, q3, q4, q5, q6⟩ := id hsm
    have e3 : s₂ = ({ (U.calling g mk a).setFrames s₂.frames with heap := s₂.heap, slotsUsed := s₂.slotsUsed } : State).setVm s₂.vm := by
      have : s₂ = ({ s₂ with vm := (U.calling g mk a).vm } : State).setVm s₂.vm := rfl
      rw [e2] at this
      exact this
    have hf₂ : s₂.frames = .throwing q :: .java g :: U.frames.tail := hend
    have hW' : U.WarmedH s₂.vm := hW₂
    have hs₂ : s₂ = ((({ U with heap := s₂.heap, slotsUsed := s₂.slotsUsed } : State).setVm s₂.vm).setTop g).pushFrame (.throwing q) := by
      refine e3.trans ?_
      rw [hf₂, State.calling_eq h.top, State.setFrames_setFrames, State.pushFrame, State.frames_setTop _ hr', State.setTop_of_frames _ hr', State.setFrames_setFrames, hr]
      rfl
    have hsame : U.sameButNew ({ U with heap := s₂.heap, slotsUsed := s₂.slotsUsed } : State) L mc ms := by
      refine ⟨?_, q2, q3, q4, q5, q6⟩
      obtain ⟨t, ht, -⟩ := State.frames_cons hr
      show ({ U with heap := s₂.heap, slotsUsed := s₂.slotsUsed } : State) = { U.setFrames U.frames with heap := s₂.heap, slotsUsed := s₂.slotsUsed }
      rw [State.setFrames_self ht]
    subst hg
    refine Or.inr ⟨q, ⟨(({ U with heap := s₂.heap, slotsUsed := s₂.slotsUsed } : State).setVm s₂.vm), Ls ++ L, c0 + mc, s0 + ms⟩,
      ⟨X.admits, X.cas, X.clock, X.frames, X.room, X.hears, X.method, X.code, (X.here.setHeapUsed s₂.heap s₂.slotsUsed).setVm hW'.alike, X.tail, State.WarmedH.trans X.warmed hW', X.limits, X.bytes, X.same.trans (hsame.setVm s.vm)⟩,
      ⟨g, mk, s₂, L, E, ce, rfl, rfl, hx, hce, hcv, hcl, rfl, hL, rfl, rfl⟩, ?_⟩
    show Steps p.tables e below _ (((({ U with heap := s₂.heap, slotsUsed := s₂.slotsUsed } : State).setVm s₂.vm).setTop g).pushFrame (.throwing q))
    rw [← hs₂]
    exact hsteps
end Payer
section Calls
variable {p : Program} {l : Launch} {e : Env} {R : Room} {s : State} {m : MethodId} {args : Array Value} {below : List Frame} {meth : Method} {c : Code} {T : State} {locs : List Loc} {cells slots : Nat}
theorem vx_callV (X : Stand p l e R s m args below meth c T locs cells slots) (hexec : p.tables.exec = Jvm.exec) {own C : String} {index : Nat} {y : MethodName} {bytes : ByteArray} {maxL : Nat} {ret : Option FieldType}
    (hown : s.vm.findClass own = some m.cls) (hlink : (Cond.methodLink own index y).before args s = true) (hinst : (Cond.instanceMethod y).before args s = true) (hsel : (Cond.selects C y y).before args s = true)
    (hcode : (Cond.code y bytes maxL ret).before args s = true) (hy : y.cls ≠ "java/lang/invoke/MethodHandle" ∧ y.cls ≠ "java/lang/invoke/VarHandle")
    {W9 : Nat} {Pre : Pt → Array Value → Prop} {Post : Pt → Array Value → Option Value → Pt → Prop} {PostX : Pt → Array Value → Addr → Pt → Prop} (hK : vx_Back l R p e below s args y 3 W9 Pre Post PostX)
    {b : Addr} {cellB : Cell} (hcell : T.heap[b]? = some cellB) (hobj : cellB.vm.isStatics = false) (hcls : s.vm.findClass C = some cellB.cls)
    {g : JFrame} (hg : g.method = m) (hsize : g.locals.size = c.maxLocals) {argsL rest : List Value} (hlen : ∀ sig, parseMethodDescriptor y.desc = some sig → argsL.length = sig.parameters.length)
    (hstack : g.stack = argsL.reverse ++ .ref b :: rest) (hW : 2 * g.monitorRoom + (rest.map fun v => v.category).sum ≤ W9) (hdg : decode c.code g.pc = .ok (.invokevirtual index, 3))
    (hpre : ∀ vm₁, s.WarmedH vm₁ → Pre ⟨T.setVm vm₁, locs, cells, slots⟩ (Value.ref b :: argsL).toArray) :
    (∃ (v : Option Value) (vm₁ : Vm) (B : Pt), s.WarmedH vm₁ ∧ Stand p l e R s m args below meth c B.U B.locs B.cells B.slots ∧ Post ⟨T.setVm vm₁, locs, cells, slots⟩ (Value.ref b :: argsL).toArray v B ∧
      ∀ target, Steps p.tables e below (B.U.setTop { g with pc := g.pc + 3, stack := v.toList ++ rest }) target → Steps p.tables e below (T.setTop g) target) ∨
    (∃ (q : Addr) (vm₁ : Vm) (B : Pt), s.WarmedH vm₁ ∧ Stand p l e R s m args below meth c B.U B.locs B.cells B.slots ∧ PostX ⟨T.setVm vm₁, locs, cells, slots⟩ (Value.ref b :: argsL).toArray q B ∧
      Steps p.tables e below (T.setTop g) ((B.U.setTop { g with stack := rest }).pushFrame (.throwing q))) := by
  obtain ⟨mk, methM, hnamed, hmethM, hstM, habM⟩ := Cond.instanceMethod_spec hinst
  obtain ⟨methM', cM, hmethM', -, -, -, -, -, -, hsigM⟩ := Cond.code_spec hnamed hcode
  cases hmethM.symm.trans hmethM'
  obtain ⟨c2, r2, m2, q1, q2, q3, q4, kP, hkP, hkPi⟩ := Cond.selects_spec hsel
  cases hcls.symm.trans q1
  cases (State.methodFound?_of_named hnamed hy).symm.trans q2
  cases hnamed.symm.trans q3
  have hselP : selectMethod e.platform s.vm cellB.cls mk = .method mk := by rw [Launch.admits_selectMethod X.admits]; exact q4
  obtain ⟨vm₁, X₁, hstep₁⟩ := X.invokevirtual hexec hown hlink hnamed hmethM hstM hkP hkPi hy (a := b) (cell := cellB) hcell
    (fun z h => by rw [h] at hobj; cases hobj) hselP hmethM habM hkP hkPi (g := g) hg (argsL := argsL) (rest := rest) (hlen _ hsigM) hstack hdg
  rcases hK m meth c ⟨T.setVm vm₁, locs, cells, slots⟩ { g with stack := rest } (.invokevirtual index) mk (Value.ref b :: argsL).toArray X₁ hg hsize hdg hW (X₁.named hnamed) (hpre vm₁ X₁.warmed) with ⟨v, B, X', hpost, hsteps⟩ | ⟨q, B, X', hpost, hsteps⟩
  · exact Or.inl ⟨v, vm₁, B, X₁.warmed, X', hpost, fun target h => hstep₁ _ fun acts => by rw [doInvoke_state]; exact hsteps.trans h⟩
  · exact Or.inr ⟨q, vm₁, B, X₁.warmed, X', hpost, hstep₁ _ fun acts => by rw [doInvoke_state]; exact hsteps⟩
theorem vx_callS (X : Stand p l e R s m args below meth c T locs cells slots) (hexec : p.tables.exec = Jvm.exec) {own : String} {index : Nat} {y : MethodName} {bytes : ByteArray} {maxL : Nat} {ret : Option FieldType}
    (hown : s.vm.findClass own = some m.cls) (hlink : (Cond.methodLink own index y).before args s = true) (hstat : (Cond.static y).before args s = true) (hinit : (Cond.initialized y.cls).before args s = true)
    (hcode : (Cond.code y bytes maxL ret).before args s = true) (hy : y.cls ≠ "java/lang/invoke/MethodHandle" ∧ y.cls ≠ "java/lang/invoke/VarHandle")
    {W9 : Nat} {Pre : Pt → Array Value → Prop} {Post : Pt → Array Value → Option Value → Pt → Prop} {PostX : Pt → Array Value → Addr → Pt → Prop} (hK : vx_Back l R p e below s args y 3 W9 Pre Post PostX)
    {g : JFrame} (hg : g.method = m) (hsize : g.locals.size = c.maxLocals) {argsL rest : List Value} (hlen : ∀ sig, parseMethodDescriptor y.desc = some sig → argsL.length = sig.parameters.length)
    (hstack : g.stack = argsL.reverse ++ rest) (hW : 2 * g.monitorRoom + (rest.map fun v => v.category).sum ≤ W9) (hdg : decode c.code g.pc = .ok (.invokestatic index, 3))
    (hpre : ∀ vm₁, s.WarmedH vm₁ → Pre ⟨T.setVm vm₁, locs, cells, slots⟩ argsL.toArray) :
    (∃ (v : Option Value) (vm₁ : Vm) (B : Pt), s.WarmedH vm₁ ∧ Stand p l e R s m args below meth c B.U B.locs B.cells B.slots ∧ Post ⟨T.setVm vm₁, locs, cells, slots⟩ argsL.toArray v B ∧
      ∀ target, Steps p.tables e below (B.U.setTop { g with pc := g.pc + 3, stack := v.toList ++ rest }) target → Steps p.tables e below (T.setTop g) target) ∨
    (∃ (q : Addr) (vm₁ : Vm) (B : Pt), s.WarmedH vm₁ ∧ Stand p l e R s m args below meth c B.U B.locs B.cells B.slots ∧ PostX ⟨T.setVm vm₁, locs, cells, slots⟩ argsL.toArray q B ∧
      Steps p.tables e below (T.setTop g) ((B.U.setTop { g with stack := rest }).pushFrame (.throwing q))) := by
  obtain ⟨mk, hnamed⟩ := Cond.code_named hcode
  obtain ⟨methM, cM, hmethM, -, -, -, -, -, -, hsigM⟩ := Cond.code_spec hnamed hcode
  have hstatic : methM.isStatic = true := Cond.static_spec hnamed hmethM hstat
  obtain ⟨kP, hkP, -⟩ := className_of_methodNamed hnamed
  have hinitP : kP.init = .initialized := Cond.initialized_spec (findClass_of_methodNamed hnamed) hkP hinit
  obtain ⟨vm₁, X₁, hstep₁⟩ := X.invokestatic hexec hown hlink hnamed hmethM hstatic hkP hinitP hy (g := g) hg (argsL := argsL) (rest := rest) (hlen _ hsigM) hstack hdg
  rcases hK m meth c ⟨T.setVm vm₁, locs, cells, slots⟩ { g with stack := rest } (.invokestatic index) mk argsL.toArray X₁ hg hsize hdg hW (X₁.named hnamed) (hpre vm₁ X₁.warmed) with ⟨v, B, X', hpost, hsteps⟩ | ⟨q, B, X', hpost, hsteps⟩
  · exact Or.inl ⟨v, vm₁, B, X₁.warmed, X', hpost, fun target h => hstep₁ _ fun acts => by rw [doInvoke_state]; exact hsteps.trans h⟩
  · exact Or.inr ⟨q, vm₁, B, X₁.warmed, X', hpost, hstep₁ _ fun acts => by rw [doInvoke_state]; exact hsteps⟩
end Calls
theorem vx_cls {s : State} {T : State} {vm₁ : Vm} {E : String} {k : ClassId} (hW : s.WarmedH vm₁) (h : (T.setVm vm₁).vm.findClass E = some k) : s.vm.findClass E = some k := by
  have h1 : vm₁.findClass E = some k := h
  rw [hW.alike.findClass] at h1
  exact h1
/-- the method's frame g, with q thrown over it -/
def vx_W (p : Program) (l : Launch) (e : Env) (R : Room) (s : State) (m : MethodId) (args : Array Value) (below : List Frame) (meth : Method) (c : Code) (H : Heap) (locs : List Loc) (cells slots : Nat) (Q : State → Prop) (g : JFrame) (q : Addr) : Prop :=
  ∀ T : State, T.heap = H → Stand p l e R s m args below meth c T locs cells slots → ∃ t, Steps p.tables e below ((T.setTop g).pushFrame (.throwing q)) t ∧ Q t
def vx_Run (p : Program) (l : Launch) (e : Env) (R : Room) (s : State) (m : MethodId) (args : Array Value) (below : List Frame) (meth : Method) (c : Code) (H : Heap) (locs : List Loc) (cells slots mc ms : Nat) (g : JFrame) (rest : List Value) (Qa : State → Outcome → State → Prop) (XC : String → State → State → Prop) (free : Addr → Prop) : Prop :=
  ∀ T : State, T.heap = H → Stand p l e R s m args below meth c T locs cells slots →
    (∃ (v : Option Value) (st₀ t T' : State) (L : List Loc), st₀.heap = H ∧ Stand p l e R s m args below meth c T' (locs ++ L) (cells + mc) (slots + ms) ∧ (∀ q ∈ L, free q.base) ∧ T'.heap = t.heap ∧ T'.vm = t.vm ∧ Qa st₀ (.returned v) t ∧
      Goes p e below T g T' { g with pc := g.pc + 3, stack := v.toList ++ rest }) ∨
    (∃ (q : Addr) (st₀ t T' : State) (L : List Loc) (E : String) (ce : Cell), st₀.heap = H ∧ Stand p l e R s m args below meth c T' (locs ++ L) (cells + mc) (slots + ms) ∧ (∀ z ∈ L, free z.base) ∧ T'.heap = t.heap ∧ T'.vm = t.vm ∧ XC E st₀ t ∧ t.heap[q]? = some ce ∧ ce.vm = .none ∧ s.vm.findClass E = some ce.cls ∧
      Steps p.tables e below (T.setTop g) ((T'.setTop { g with stack := rest }).pushFrame (.throwing q)))
def vx_X {S : Type} (px : S → Prop) (B : String → S → State → Prop) (A : Nat → Prop) : String → State → State → Prop := fun E st t => ∃ u : S, px u ∧ B E u t ∧ va_F A st t
section Runs
variable {p : Program} {l : Launch} {e : Env} {R : Room} {s : State} {m : MethodId} {args : Array Value} {below : List Frame} {meth : Method} {c : Code} {H : Heap} {locs : List Loc} {cells slots : Nat}
variable {y : MethodName} {bytes cc : ByteArray} {maxL nL mc ms n index : Nat} {ret : Option FieldType} {ws : List Cond} {rm : Room} {Pc : Array Value → State → Prop} {Qc : Array Value → State → Outcome → State → Prop} {XC : String → State → State → Prop} {free : Addr → Prop} {Ts : List Cond} {own C : String} {b : Addr} {As rest : List Value} {g : JFrame}
theorem vx_callBack (cb : CallB R s args own index y bytes maxL ret ws rm mc ms n) (hM : vx_Met l y ws rm Pc Qc XC mc ms free) (hbl : FrameBlind Pc) : vx_Back l R p e below s args y 3 8 (PreOf R mc ms Pc) (PostOf Qc mc ms free) (vx_Post XC mc ms free) := by
  obtain ⟨hrc, hrs, hfr, hlo, hws, hcw, -, hini, -⟩ := cb
  exact vx_back (bytes := bytes) (maxL := maxL) (ret := ret) hM hbl hrc hrs hfr hlo hws hcw (fun a' U hW => word_at hW (Or.inl (by first | rfl | simp [Cond.onTables, Cond.keeps, Cond.steady])) hini)
theorem vx_runV (S : CallFix p m c cc nL s args Ts own) (hM : vx_Met l y ws rm Pc Qc XC mc ms free) (cw : CallW R s args own C index y bytes maxL ret ws rm mc ms n) (hp : PreV s H C b Pc As)
    (hg : g.method = m) (hn : As.length = n) (hsize : g.locals.size = nL) (hstack : g.stack = As.reverse ++ .ref b :: rest) (hW : 2 * g.monitorRoom + (rest.map fun v => v.category).sum ≤ 8) (hdg : decode cc g.pc = .ok (.invokevirtual index, 3)) (hf : cells + mc ≤ R.cells ∧ slots + ms ≤ R.slots) :
    vx_Run p l e R s m args below meth c H locs cells slots mc ms g rest (Qc (Value.ref b :: As).toArray) XC free := by
  have hK : vx_Back l R p e below s args y 3 8 (PreOf R mc ms Pc) (PostOf Qc mc ms free) (vx_Post XC mc ms free) := vx_callBack cw.1 hM hp.1
  obtain ⟨⟨-, -, -, -, -, -, hcode, -, hy, hlen, hl⟩, hin, hse⟩ := cw
  obtain ⟨hx, hb, hml, ho, -⟩ := S
  obtain ⟨-, ⟨cellB, hcB, hoB, hclB⟩, hPc⟩ := hp
  intro T hT X
  rcases vx_callV X hx (C := C) (bytes := bytes) (maxL := maxL) (ret := ret) ho hl hin hse hcode hy hK (by rw [hT]; exact hcB) hoB hclB hg (hsize.trans hml.symm) (argsL := As) (rest := rest) (fun sig h => hn.trans (hlen sig h)) hstack hW (by rw [hb]; exact hdg)
    (fun vm₁ hW₁ => ⟨hf.1, hf.2, hPc (T.setVm vm₁) hT hW₁⟩) with ⟨v, vm₁, ⟨U', l2, c2, s2⟩, hW₁, X', ⟨g', mk, t, L, e1, e2, hq, h1, hL, h2, h3⟩, st⟩ | ⟨q, vm₁, ⟨U', l2, c2, s2⟩, hW₁, X', ⟨g', mk, t, L, E, ce, e1, e2, hq, hce, hcv, hcl, h1, hL, h2, h3⟩, st⟩
  · dsimp only [Pt.U, Pt.locs, Pt.cells, Pt.slots] at X' e1 e2 h1 h2 h3 st
    subst h1; subst h2; subst h3
    exact Or.inl ⟨v, (T.setVm vm₁).calling g' mk (Value.ref b :: As).toArray, t, U', L, hT, X', hL, e1, e2, hq, st⟩
  · dsimp only [Pt.U, Pt.locs, Pt.cells, Pt.slots] at X' e1 e2 h1 h2 h3 st hcl
    subst h1; subst h2; subst h3
    exact Or.inr ⟨q, (T.setVm vm₁).calling g' mk (Value.ref b :: As).toArray, t, U', L, E, ce, hT, X', hL, e1, e2, hq, hce, hcv, vx_cls hW₁ hcl, st⟩
theorem vx_runS (S : CallFix p m c cc nL s args Ts own) (hM : vx_Met l y ws rm Pc Qc XC mc ms free) (cw : CallB R s args own index y bytes maxL ret ws rm mc ms n ∧ (Cond.static y).before args s = true) (hp : PreS s H Pc As)
    (hg : g.method = m) (hn : As.length = n) (hsize : g.locals.size = nL) (hstack : g.stack = As.reverse ++ rest) (hW : 2 * g.monitorRoom + (rest.map fun v => v.category).sum ≤ 8) (hdg : decode cc g.pc = .ok (.invokestatic index, 3)) (hf : cells + mc ≤ R.cells ∧ slots + ms ≤ R.slots) :
    vx_Run p l e R s m args below meth c H locs cells slots mc ms g rest (Qc As.toArray) XC free := by
  have hK : vx_Back l R p e below s args y 3 8 (PreOf R mc ms Pc) (PostOf Qc mc ms free) (vx_Post XC mc ms free) := vx_callBack cw.1 hM hp.1
  obtain ⟨⟨-, -, -, -, -, -, hcode, hini, hy, hlen, hl⟩, hstt⟩ := cw
  obtain ⟨hx, hb, hml, ho, -⟩ := S
  intro T hT X
  rcases vx_callS X hx (bytes := bytes) (maxL := maxL) (ret := ret) ho hl hstt hini hcode hy hK hg (hsize.trans hml.symm) (argsL := As) (rest := rest) (fun sig h => hn.trans (hlen sig h)) hstack hW (by rw [hb]; exact hdg)
    (fun vm₁ hW₁ => ⟨hf.1, hf.2, hp.2 (T.setVm vm₁) hT hW₁⟩) with ⟨v, vm₁, ⟨U', l2, c2, s2⟩, hW₁, X', ⟨g', mk, t, L, e1, e2, hq, h1, hL, h2, h3⟩, st⟩ | ⟨q, vm₁, ⟨U', l2, c2, s2⟩, hW₁, X', ⟨g', mk, t, L, E, ce, e1, e2, hq, hce, hcv, hcl, h1, hL, h2, h3⟩, st⟩
  · dsimp only [Pt.U, Pt.locs, Pt.cells, Pt.slots] at X' e1 e2 h1 h2 h3 st
    subst h1; subst h2; subst h3
    exact Or.inl ⟨v, (T.setVm vm₁).calling g' mk As.toArray, t, U', L, hT, X', hL, e1, e2, hq, st⟩
  · dsimp only [Pt.U, Pt.locs, Pt.cells, Pt.slots] at X' e1 e2 h1 h2 h3 st hcl
    subst h1; subst h2; subst h3
    exact Or.inr ⟨q, (T.setVm vm₁).calling g' mk As.toArray, t, U', L, E, ce, hT, X', hL, e1, e2, hq, hce, hcv, vx_cls hW₁ hcl, st⟩
end Runs
section Rows
variable {p : Program} {l : Launch} {e : Env} {R : Room} {s : State} {m : MethodId} {args : Array Value} {below : List Frame} {meth : Method} {c : Code} {H : Heap} {locs : List Loc} {cells slots : Nat} {Q : State → Prop}
variable {mc ms : Nat} {free : Addr → Prop} {A0 A1 : Nat → Prop} {H0 : Heap} {a : Array Value} {pc : Nat} {ls : Array Slot} {st0 rest : List Value}
theorem vx_keep {st₀ t T' : State} {L : List Loc} (h0 : st₀.heap = H) (e1 : T'.heap = t.heap) (hS : va_S A0 H0 H locs) (hA : ∀ q, q < H.size → A1 q → A0 q) (hf : ∀ q, free q → A0 q) (hL : ∀ q ∈ L, free q.base) (hF : va_F A1 st₀ t) :
    H.size ≤ T'.heap.size ∧ (∀ q : Nat, q < H.size → ¬ A1 q → T'.heap[q]? = H[q]?) ∧ va_S A0 H0 T'.heap (locs ++ L) := by
  obtain ⟨hz, hk⟩ := hF
  rw [h0] at hz hk
  exact ⟨by rw [e1]; exact hz, fun q h1 h2 => by rw [e1]; exact hk q h1 h2,
    ⟨Nat.le_trans hS.1 (by rw [e1]; exact hz), fun q h1 h2 => by rw [e1, hk q (Nat.lt_of_lt_of_le h1 hS.1) (fun z => h2 (hA q (Nat.lt_of_lt_of_le h1 hS.1) z))]; exact hS.2.1 q h1 h2, fun q hq => by
      rcases List.mem_append.mp hq with h | h
      · exact hS.2.2 q h
      · exact hf _ (hL q h)⟩⟩
theorem vx_calli {S SX : Type} {post : Int32 → S → Prop} {px : SX → Prop} {B : S → State → Prop} {BX : String → SX → State → Prop} {AX : Nat → Prop} (hr : vx_Run p l e R s m args below meth c H locs cells slots mc ms (F0 m pc ls st0) rest (va_Qi post B A1 a) (vx_X px BX AX) free) (hS : va_S A0 H0 H locs) (hA : ∀ q, q < H.size → A1 q → A0 q) (hf : ∀ q, free q → A0 q) (hAX : ∀ q, q < H.size → AX q → A0 q)
    (kx : ∀ (E : String) (ce : Cell) (q9 : Addr) (u : SX) (t : State) (H1 : Heap) (locs1 : List Loc), t.heap = H1 → s.vm.Alike t.vm → px u → BX E u t → H.size ≤ H1.size → (∀ q : Nat, q < H.size → ¬ AX q → H1[q]? = H[q]?) → va_S A0 H0 H1 locs1 → H1[q9]? = some ce → ce.vm = .none → s.vm.findClass E = some ce.cls → vx_W p l e R s m args below meth c H1 locs1 (cells + mc) (slots + ms) Q (F0 m pc ls rest) q9)
    (kk : ∀ (r : Int32) (u : S) (t : State) (H1 : Heap) (locs1 : List Loc), t.heap = H1 → s.vm.Alike t.vm → post r u → B u t → H.size ≤ H1.size → (∀ q : Nat, q < H.size → ¬ A1 q → H1[q]? = H[q]?) → va_S A0 H0 H1 locs1 → W p l e R s m args below meth c H1 locs1 (cells + mc) (slots + ms) Q (F0 m (pc + 3) ls (.int r :: rest))) : W p l e R s m args below meth c H locs cells slots Q (F0 m pc ls st0) := by
  intro T hT X
  rcases hr T hT X with ⟨v, st₀, t, T', L, h0, X', hL, e1, e2, ⟨⟨r, u, hv, hp, hb⟩, hF⟩, st⟩ | ⟨q, st₀, t, T', L, E, ce, h0, X', hL, e1, e2, ⟨u, hp, hb, hF⟩, hce, hcv, hcl, st⟩
  · cases hv
    obtain ⟨k1, k2, k3⟩ := vx_keep h0 e1 hS hA hf hL hF
    obtain ⟨t2, a1, b1⟩ := kk r u t T'.heap (locs ++ L) e1.symm (by rw [← e2]; exact X'.warmed.alike) hp hb k1 k2 k3 T' rfl X'
    exact ⟨t2, st t2 a1, b1⟩
  · obtain ⟨k1, k2, k3⟩ := vx_keep h0 e1 hS hAX hf hL hF
    obtain ⟨t2, a1, b1⟩ := kx E ce q u t T'.heap (locs ++ L) e1.symm (by rw [← e2]; exact X'.warmed.alike) hp hb k1 k2 k3 (by rw [e1]; exact hce) hcv hcl T' rfl X'
    exact ⟨t2, st.trans a1, b1⟩
theorem vx_calll {S SX : Type} {post : Int64 → S → Prop} {px : SX → Prop} {B : S → State → Prop} {BX : String → SX → State → Prop} {AX : Nat → Prop} (hr : vx_Run p l e R s m args below meth c H locs cells slots mc ms (F0 m pc ls st0) rest (va_Ql post B A1 a) (vx_X px BX AX) free) (hS : va_S A0 H0 H locs) (hA : ∀ q, q < H.size → A1 q → A0 q) (hf : ∀ q, free q → A0 q) (hAX : ∀ q, q < H.size → AX q → A0 q)
    (kx : ∀ (E : String) (ce : Cell) (q9 : Addr) (u : SX) (t : State) (H1 : Heap) (locs1 : List Loc), t.heap = H1 → s.vm.Alike t.vm → px u → BX E u t → H.size ≤ H1.size → (∀ q : Nat, q < H.size → ¬ AX q → H1[q]? = H[q]?) → va_S A0 H0 H1 locs1 → H1[q9]? = some ce → ce.vm = .none → s.vm.findClass E = some ce.cls → vx_W p l e R s m args below meth c H1 locs1 (cells + mc) (slots + ms) Q (F0 m pc ls rest) q9)
    (kk : ∀ (r : Int64) (u : S) (t : State) (H1 : Heap) (locs1 : List Loc), t.heap = H1 → s.vm.Alike t.vm → post r u → B u t → H.size ≤ H1.size → (∀ q : Nat, q < H.size → ¬ A1 q → H1[q]? = H[q]?) → va_S A0 H0 H1 locs1 → W p l e R s m args below meth c H1 locs1 (cells + mc) (slots + ms) Q (F0 m (pc + 3) ls (.long r :: rest))) : W p l e R s m args below meth c H locs cells slots Q (F0 m pc ls st0) := by
  intro T hT X
  rcases hr T hT X with ⟨v, st₀, t, T', L, h0, X', hL, e1, e2, ⟨⟨r, u, hv, hp, hb⟩, hF⟩, st⟩ | ⟨q, st₀, t, T', L, E, ce, h0, X', hL, e1, e2, ⟨u, hp, hb, hF⟩, hce, hcv, hcl, st⟩
  · cases hv
    obtain ⟨k1, k2, k3⟩ := vx_keep h0 e1 hS hA hf hL hF
    obtain ⟨t2, a1, b1⟩ := kk r u t T'.heap (locs ++ L) e1.symm (by rw [← e2]; exact X'.warmed.alike) hp hb k1 k2 k3 T' rfl X'
    exact ⟨t2, st t2 a1, b1⟩
  · obtain ⟨k1, k2, k3⟩ := vx_keep h0 e1 hS hAX hf hL hF
    obtain ⟨t2, a1, b1⟩ := kx E ce q u t T'.heap (locs ++ L) e1.symm (by rw [← e2]; exact X'.warmed.alike) hp hb k1 k2 k3 (by rw [e1]; exact hce) hcv hcl T' rfl X'
    exact ⟨t2, st.trans a1, b1⟩
theorem vx_callf {S SX : Type} {post : UInt32 → S → Prop} {px : SX → Prop} {B : S → State → Prop} {BX : String → SX → State → Prop} {AX : Nat → Prop} (hr : vx_Run p l e R s m args below meth c H locs cells slots mc ms (F0 m pc ls st0) rest (va_Qf post B A1 a) (vx_X px BX AX) free) (hS : va_S A0 H0 H locs) (hA : ∀ q, q < H.size → A1 q → A0 q) (hf : ∀ q, free q → A0 q) (hAX : ∀ q, q < H.size → AX q → A0 q)
    (kx : ∀ (E : String) (ce : Cell) (q9 : Addr) (u : SX) (t : State) (H1 : Heap) (locs1 : List Loc), t.heap = H1 → s.vm.Alike t.vm → px u → BX E u t → H.size ≤ H1.size → (∀ q : Nat, q < H.size → ¬ AX q → H1[q]? = H[q]?) → va_S A0 H0 H1 locs1 → H1[q9]? = some ce → ce.vm = .none → s.vm.findClass E = some ce.cls → vx_W p l e R s m args below meth c H1 locs1 (cells + mc) (slots + ms) Q (F0 m pc ls rest) q9)
    (kk : ∀ (r : UInt32) (u : S) (t : State) (H1 : Heap) (locs1 : List Loc), t.heap = H1 → s.vm.Alike t.vm → post r u → B u t → H.size ≤ H1.size → (∀ q : Nat, q < H.size → ¬ A1 q → H1[q]? = H[q]?) → va_S A0 H0 H1 locs1 → W p l e R s m args below meth c H1 locs1 (cells + mc) (slots + ms) Q (F0 m (pc + 3) ls (.float r :: rest))) : W p l e R s m args below meth c H locs cells slots Q (F0 m pc ls st0) := by
  intro T hT X
  rcases hr T hT X with ⟨v, st₀, t, T', L, h0, X', hL, e1, e2, ⟨⟨r, u, hv, hp, hb⟩, hF⟩, st⟩ | ⟨q, st₀, t, T', L, E, ce, h0, X', hL, e1, e2, ⟨u, hp, hb, hF⟩, hce, hcv, hcl, st⟩
  · cases hv
    obtain ⟨k1, k2, k3⟩ := vx_keep h0 e1 hS hA hf hL hF
    obtain ⟨t2, a1, b1⟩ := kk r u t T'.heap (locs ++ L) e1.symm (by rw [← e2]; exact X'.warmed.alike) hp hb k1 k2 k3 T' rfl X'
    exact ⟨t2, st t2 a1, b1⟩
  · obtain ⟨k1, k2, k3⟩ := vx_keep h0 e1 hS hAX hf hL hF
    obtain ⟨t2, a1, b1⟩ := kx E ce q u t T'.heap (locs ++ L) e1.symm (by rw [← e2]; exact X'.warmed.alike) hp hb k1 k2 k3 (by rw [e1]; exact hce) hcv hcl T' rfl X'
    exact ⟨t2, st.trans a1, b1⟩
theorem vx_calld {S SX : Type} {post : UInt64 → S → Prop} {px : SX → Prop} {B : S → State → Prop} {BX : String → SX → State → Prop} {AX : Nat → Prop} (hr : vx_Run p l e R s m args below meth c H locs cells slots mc ms (F0 m pc ls st0) rest (va_Qd post B A1 a) (vx_X px BX AX) free) (hS : va_S A0 H0 H locs) (hA : ∀ q, q < H.size → A1 q → A0 q) (hf : ∀ q, free q → A0 q) (hAX : ∀ q, q < H.size → AX q → A0 q)
    (kx : ∀ (E : String) (ce : Cell) (q9 : Addr) (u : SX) (t : State) (H1 : Heap) (locs1 : List Loc), t.heap = H1 → s.vm.Alike t.vm → px u → BX E u t → H.size ≤ H1.size → (∀ q : Nat, q < H.size → ¬ AX q → H1[q]? = H[q]?) → va_S A0 H0 H1 locs1 → H1[q9]? = some ce → ce.vm = .none → s.vm.findClass E = some ce.cls → vx_W p l e R s m args below meth c H1 locs1 (cells + mc) (slots + ms) Q (F0 m pc ls rest) q9)
    (kk : ∀ (r : UInt64) (u : S) (t : State) (H1 : Heap) (locs1 : List Loc), t.heap = H1 → s.vm.Alike t.vm → post r u → B u t → H.size ≤ H1.size → (∀ q : Nat, q < H.size → ¬ A1 q → H1[q]? = H[q]?) → va_S A0 H0 H1 locs1 → W p l e R s m args below meth c H1 locs1 (cells + mc) (slots + ms) Q (F0 m (pc + 3) ls (.double r :: rest))) : W p l e R s m args below meth c H locs cells slots Q (F0 m pc ls st0) := by
  intro T hT X
  rcases hr T hT X with ⟨v, st₀, t, T', L, h0, X', hL, e1, e2, ⟨⟨r, u, hv, hp, hb⟩, hF⟩, st⟩ | ⟨q, st₀, t, T', L, E, ce, h0, X', hL, e1, e2, ⟨u, hp, hb, hF⟩, hce, hcv, hcl, st⟩
  · cases hv
    obtain ⟨k1, k2, k3⟩ := vx_keep h0 e1 hS hA hf hL hF
    obtain ⟨t2, a1, b1⟩ := kk r u t T'.heap (locs ++ L) e1.symm (by rw [← e2]; exact X'.warmed.alike) hp hb k1 k2 k3 T' rfl X'
    exact ⟨t2, st t2 a1, b1⟩
  · obtain ⟨k1, k2, k3⟩ := vx_keep h0 e1 hS hAX hf hL hF
    obtain ⟨t2, a1, b1⟩ := kx E ce q u t T'.heap (locs ++ L) e1.symm (by rw [← e2]; exact X'.warmed.alike) hp hb k1 k2 k3 (by rw [e1]; exact hce) hcv hcl T' rfl X'
    exact ⟨t2, st.trans a1, b1⟩
theorem vx_callv {S SX : Type} {post : S → Prop} {px : SX → Prop} {B : S → State → Prop} {BX : String → SX → State → Prop} {AX : Nat → Prop} (hr : vx_Run p l e R s m args below meth c H locs cells slots mc ms (F0 m pc ls st0) rest (va_Qv post B A1 a) (vx_X px BX AX) free) (hS : va_S A0 H0 H locs) (hA : ∀ q, q < H.size → A1 q → A0 q) (hf : ∀ q, free q → A0 q) (hAX : ∀ q, q < H.size → AX q → A0 q)
    (kx : ∀ (E : String) (ce : Cell) (q9 : Addr) (u : SX) (t : State) (H1 : Heap) (locs1 : List Loc), t.heap = H1 → s.vm.Alike t.vm → px u → BX E u t → H.size ≤ H1.size → (∀ q : Nat, q < H.size → ¬ AX q → H1[q]? = H[q]?) → va_S A0 H0 H1 locs1 → H1[q9]? = some ce → ce.vm = .none → s.vm.findClass E = some ce.cls → vx_W p l e R s m args below meth c H1 locs1 (cells + mc) (slots + ms) Q (F0 m pc ls rest) q9)
    (kk : ∀ (u : S) (t : State) (H1 : Heap) (locs1 : List Loc), t.heap = H1 → s.vm.Alike t.vm → post u → B u t → H.size ≤ H1.size → (∀ q : Nat, q < H.size → ¬ A1 q → H1[q]? = H[q]?) → va_S A0 H0 H1 locs1 → W p l e R s m args below meth c H1 locs1 (cells + mc) (slots + ms) Q (F0 m (pc + 3) ls (rest))) : W p l e R s m args below meth c H locs cells slots Q (F0 m pc ls st0) := by
  intro T hT X
  rcases hr T hT X with ⟨v, st₀, t, T', L, h0, X', hL, e1, e2, ⟨⟨u, hv, hp, hb⟩, hF⟩, st⟩ | ⟨q, st₀, t, T', L, E, ce, h0, X', hL, e1, e2, ⟨u, hp, hb, hF⟩, hce, hcv, hcl, st⟩
  · cases hv
    obtain ⟨k1, k2, k3⟩ := vx_keep h0 e1 hS hA hf hL hF
    obtain ⟨t2, a1, b1⟩ := kk u t T'.heap (locs ++ L) e1.symm (by rw [← e2]; exact X'.warmed.alike) hp hb k1 k2 k3 T' rfl X'
    exact ⟨t2, st t2 a1, b1⟩
  · obtain ⟨k1, k2, k3⟩ := vx_keep h0 e1 hS hAX hf hL hF
    obtain ⟨t2, a1, b1⟩ := kx E ce q u t T'.heap (locs ++ L) e1.symm (by rw [← e2]; exact X'.warmed.alike) hp hb k1 k2 k3 (by rw [e1]; exact hce) hcv hcl T' rfl X'
    exact ⟨t2, st.trans a1, b1⟩
end Rows
section Ends
variable {p : Program} {l : Launch} {e : Env} {R : Room} {s : State} {m : MethodId} {args : Array Value} {below : List Frame} {meth : Method} {c : Code} {H : Heap} {locs : List Loc} {cells slots : Nat} {Q : State → Prop}
variable {mc ms : Nat} {free : Addr → Prop} {A0 A1 : Nat → Prop} {H0 : Heap} {a : Array Value} {ls : Array Slot} {st0 rest : List Value}
variable {Qc : Array Value → State → Outcome → State → Prop} {XC : String → State → State → Prop}
/-- what a body that may throw owes at its end -/
def vx_MQ (below : List Frame) (Qc : Array Value → State → Outcome → State → Prop) (XC : String → State → State → Prop) (a : Array Value) (s : State) (mc ms : Nat) (free : Addr → Prop) : State → Prop := fun t =>
  ∃ o, t.status = .running ∧ Ended t below o ∧ vx_Q Qc XC mc ms free a s o t
theorem vx_ret {g : JFrame} {mc ms : Nat} (k : W p l e R s m args below meth c H locs cells slots (MQ below Qc args s mc ms free) g) : W p l e R s m args below meth c H locs cells slots (vx_MQ below Qc XC args s mc ms free) g := by
  intro T hT X
  obtain ⟨t, a1, o, b1, b2, b3, b4⟩ := k T hT X
  exact ⟨t, a1, o, b1, b2, Or.inl ⟨b3, b4⟩⟩
/-- not caught here: it goes on to the caller -/
theorem vx_widen {g : JFrame} {q : Addr} {k n : Nat} (h1 : cells ≤ k) (h2 : slots ≤ n) (kk : vx_W p l e R s m args below meth c H locs k n Q g q) : vx_W p l e R s m args below meth c H locs cells slots Q g q := fun T hT X => kk T hT (stand_widen X h1 h2)
theorem vx_out {pc : Nat} {E : String} {ce : Cell} {q : Addr} {mc ms : Nat} (hout : ∀ x ∈ c.exceptionTable.toList, covers x pc = false) (hlocks : meth.locks = false) (hcell : H[q]? = some ce) (hv : ce.vm = .none) (hcl : s.vm.findClass E = some ce.cls)
    (hx : ∀ t : State, t.heap = H → s.vm.Alike t.vm → XC E s t) (hf : ∀ z ∈ locs, free z.base) (hc : cells ≤ mc) (hs : slots ≤ ms) :
    vx_W p l e R s m args below meth c H locs cells slots (vx_MQ below Qc XC args s mc ms free) (F0 m pc ls rest) q := by
  intro T hT X
  obtain ⟨st1, hrun, hend, hW, hsm⟩ := X.leaveThrown q (g := F0 m pc ls rest) rfl rfl rfl hout hlocks
  have hcell9 : (T.setFrames (.throwing q :: below)).heap[q]? = some ce := by
    show T.heap[q]? = some ce
    rw [hT]; exact hcell
  exact ⟨_, st1, .threw q, hrun, hend, Or.inr ⟨q, rfl, E, ce, locs, hx _ hT hW.alike, hcell9, hv, hcl, hW, hsm.mono hc hs, hf⟩⟩
theorem vx_frame {U : State} {k n : Nat} (h : s.sameButNew ({ U with vm := s.vm } : State) locs k n) : s.heap.size ≤ U.heap.size ∧ ∀ q : Nat, q < s.heap.size → (∀ z ∈ locs, z.base ≠ q) → U.heap[q]? = s.heap[q]? := by
  obtain ⟨-, h2, -, -, -, h6⟩ := h
  refine ⟨h2, fun q hq hz => ?_⟩
  obtain ⟨c9, e1, e2, e3, e4⟩ := h6 q _ (Array.getElem?_eq_getElem hq)
  have hs : c9.slots = (s.heap[q]).slots := Array.ext_getElem? fun i => e4 i fun hm => hz _ hm rfl
  have h9 : c9 = s.heap[q] := by
    rw [hs] at e2
    exact e2
  have e5 : U.heap[q]? = some c9 := e1
  rw [e5, h9, Array.getElem?_eq_getElem hq]
/-- the words of a throw but the four that speak of the heap -/
def vx_no (w : Cond) : Bool := decide (w ≠ .isRef (.static Bundle.tN "UNASSIGNED_STACK" Bundle.steD)) && decide (w ≠ .isRef (.static Bundle.tN "SUPPRESSED_SENTINEL" Bundle.listD)) && decide (w ≠ .laysStatic Bundle.tN "UNASSIGNED_STACK" Bundle.steD) && decide (w ≠ .laysStatic Bundle.tN "SUPPRESSED_SENTINEL" Bundle.listD)
def vx_at0 (own : String) (ic : Nat) (X : String) (names : List String) : List Cond := (Bundle.ownAtoms0 own ic X names).filter vx_no
def vx_atS (own : String) (ic : Nat) (X : String) (names : List String) : List Cond := (Bundle.ownAtoms own ic X names).filter vx_no
/-- a word that the tables alone decide, or a good one -/
def vx_ot (w : Cond) : Bool := w.onTables || goodWord w
theorem vx_ot_at {args a' : Array Value} {s U : State} {w : Cond} (hW : s.WarmedH U.vm) (hvm : s.vm = U.vm) (hg : vx_ot w = true) (h : w.before args s = true) : w.before a' U = true := by
  simp only [vx_ot, Bool.or_eq_true] at hg
  rcases hg with hg | hg
  · exact va_tabs hg hvm h
  · exact word_at hW (good_of_word hg) h
/-- a list's words: the good ones out of the method's own list, the others by premises of their own -/
theorem vx_hat {args : Array Value} {s : State} {L B : List Cond} (h1 : ∀ w ∈ L.filter goodWord, w.before args s = true) (h2 : ∀ w ∈ L.filter (fun w => !goodWord w), w ∈ B) (h3 : ∀ w ∈ B, w.before args s = true) : ∀ w ∈ L, w.before args s = true := by
  intro w hw
  by_cases g : goodWord w = true
  · exact h1 w (List.mem_filter.mpr ⟨hw, g⟩)
  · refine h3 w (h2 w (List.mem_filter.mpr ⟨hw, ?_⟩))
    show (!goodWord w) = true
    cases hgw : goodWord w
    · rfl
    · exact absurd hgw g
theorem vx_c {args : Array Value} {s : State} {w : Cond} {B : List Cond} (h : w.before args s = true) (t : ∀ w ∈ B, w.before args s = true) : ∀ w' ∈ w :: B, w'.before args s = true := fun w' h' => (List.mem_cons.mp h').elim (fun e => by rw [e]; exact h) (t w')
theorem vx_n {args : Array Value} {s : State} : ∀ w ∈ ([] : List Cond), w.before args s = true := fun _ h => nomatch h
theorem vx_own {args : Array Value} {s : State} {L : List Cond} (h1 : ∀ w ∈ L.filter vx_no, w.before args s = true)
    (hU : (Cond.isRef (.static Bundle.tN "UNASSIGNED_STACK" Bundle.steD)).before args s = true) (hN : (Cond.isRef (.static Bundle.tN "SUPPRESSED_SENTINEL" Bundle.listD)).before args s = true)
    (lU : (Cond.laysStatic Bundle.tN "UNASSIGNED_STACK" Bundle.steD).before args s = true) (lN : (Cond.laysStatic Bundle.tN "SUPPRESSED_SENTINEL" Bundle.listD).before args s = true) : ∀ w ∈ L, w.before args s = true := by
  intro w hw
  by_cases e1 : w = .isRef (.static Bundle.tN "UNASSIGNED_STACK" Bundle.steD)
  · rw [e1]; exact hU
  · by_cases e2 : w = .isRef (.static Bundle.tN "SUPPRESSED_SENTINEL" Bundle.listD)
    · rw [e2]; exact hN
    · by_cases e3 : w = .laysStatic Bundle.tN "UNASSIGNED_STACK" Bundle.steD
      · rw [e3]; exact lU
      · by_cases e4 : w = .laysStatic Bundle.tN "SUPPRESSED_SENTINEL" Bundle.listD
        · rw [e4]; exact lN
        · exact h1 w (List.mem_filter.mpr ⟨hw, by unfold vx_no; rw [decide_eq_true e1, decide_eq_true e2, decide_eq_true e3, decide_eq_true e4]; rfl⟩)
/-- where a static field lies, its class's statics cell in H -/
def vx_L (C n d : String) (A : Nat → Prop) (U : State) (H : Heap) : Prop := ∃ (c : ClassId) (k : Class) (i : Nat) (f : Field) (a : Nat) (cell : Cell), U.vm.findClass C = some c ∧ U.fieldFound? C n d = some (c, k, i, f) ∧ f.isStatic = true ∧ k.statics = some a ∧ H[a]? = some cell ∧ cell.vm.isStatics = true ∧ cell.cls = c ∧ f.slot < cell.slots.size ∧ k.staticTypes[f.slot]? = some f.type ∧ ¬ A a
theorem vx_L.moved {C n d : String} {A : Nat → Prop} {u U : State} {H : Heap} (hvm : u.vm.Alike U.vm) (h : vx_L C n d A u H) : vx_L C n d A U H := by
  obtain ⟨c, k, i, f, a, cell, h1, h2, h3, h4, h5, h6, h7, h8, h9, h10⟩ := h
  obtain ⟨k', hi', he⟩ := State.fieldFound?_setVm hvm h2
  exact ⟨c, k', i, f, a, cell, by rw [hvm.findClass]; exact h1, hi', h3, by rw [he]; exact h4, h5, h6, h7, h8, by rw [he]; exact h9, h10⟩
theorem vx_L.kept {C n d : String} {A : Nat → Prop} {U : State} {H H1 : Heap} (h : vx_L C n d A U H) (hq : ∀ a : Nat, a < H.size → ¬ A a → H1[a]? = H[a]?) : vx_L C n d A U H1 := by
  obtain ⟨c, k, i, f, a, cell, h1, h2, h3, h4, h5, h6, h7, h8, h9, h10⟩ := h
  exact ⟨c, k, i, f, a, cell, h1, h2, h3, h4, by rw [hq a (Array.getElem?_eq_some_iff.mp h5).1 h10]; exact h5, h6, h7, h8, h9, h10⟩
theorem vx_L.narrow {C n d : String} {A B : Nat → Prop} {U : State} {H : Heap} (h : vx_L C n d A U H) (hAB : ∀ q, B q → A q) : vx_L C n d B U H := by
  obtain ⟨c, k, i, f, a, cell, h1, h2, h3, h4, h5, h6, h7, h8, h9, h10⟩ := h
  exact ⟨c, k, i, f, a, cell, h1, h2, h3, h4, h5, h6, h7, h8, h9, fun z => h10 (hAB _ z)⟩
theorem vx_L.word {C n d : String} {A : Nat → Prop} {s : State} {args : Array Value} (h : vx_L C n d A s s.heap) : (Cond.laysStatic C n d).before args s = true := by
  obtain ⟨c, k, i, f, a, cell, h1, h2, h3, h4, h5, h6, h7, h8, h9, -⟩ := h
  show (Cond.laysStatic C n d).holds args s none s [] = true
  exact Cond.laysStatic_of h1 h2 h3 h4 h5 h6 h7 h8 h9
/-- .. and what it holds: null or some reference -/
def vx_Zq (C n d : String) (A : Nat → Prop) (U : State) (H : Heap) : Prop := va_Zq C n d A U H ∧ vx_L C n d A U H
theorem vx_Zq.moved {C n d : String} {A : Nat → Prop} {u U : State} {H : Heap} (hvm : u.vm.Alike U.vm) (h : vx_Zq C n d A u H) : vx_Zq C n d A U H := ⟨va_Zq.moved hvm h.1, vx_L.moved hvm h.2⟩
theorem vx_Zq.kept {C n d : String} {A : Nat → Prop} {U : State} {H H1 : Heap} (h : vx_Zq C n d A U H) (hq : ∀ a : Nat, a < H.size → ¬ A a → H1[a]? = H[a]?) : vx_Zq C n d A U H1 := ⟨va_Zq.kept h.1 hq, vx_L.kept h.2 hq⟩
theorem vx_Zq.narrow {C n d : String} {A B : Nat → Prop} {U : State} {H : Heap} (h : vx_Zq C n d A U H) (hAB : ∀ q, B q → A q) : vx_Zq C n d B U H := ⟨va_Zq.narrow h.1 hAB, vx_L.narrow h.2 hAB⟩
theorem vx_Zqof {args : Array Value} {s : State} {C n d : String} {A : Nat → Prop} (hl : (Cond.laysStatic C n d).before args s = true) (hini : (Cond.initialized C).before args s = true) (h : (Cond.isRef (.static C n d)).before args s = true) (hA : ∀ a : Nat, a < s.heap.size → ¬ A a) : vx_Zq C n d A s s.heap := by
  refine ⟨va_Zqof hl hini h hA, ?_⟩
  obtain ⟨c, k, i, f, a, cell, h1, h2, h3, h4, h5, h6, h7, h8, h9⟩ := Cond.laysStatic_spec hl
  exact ⟨c, k, i, f, a, cell, h1, h2, h3, h4, h5, h6, h7, h8, h9, hA a (Array.getElem?_eq_some_iff.mp h5).1⟩
theorem vx_isRef {C n d : String} {v : Value} {A : Nat → Prop} {s : State} {args : Array Value} (h : va_Z C n d v A s s.heap) (hv : v.isRef = true) : (Cond.isRef (.static C n d)).before args s = true := by
  obtain ⟨cf, kf, fi, f, a, cell, h1, h2, h3, h4, h5, h6, h7, -⟩ := h
  have he : (Term.static C n d).eval args s none [] s = some v := by
    simp [Term.eval, State.fieldNamed?, h1, h2, h4, h5, h6, h7]
  simp only [Cond.before, Cond.holds, Cond.value, he]
  cases v <;> simp_all [Value.isRef]
theorem vx_isRefq {C n d : String} {A : Nat → Prop} {s : State} {args : Array Value} (h : va_Zq C n d A s s.heap) : (Cond.isRef (.static C n d)).before args s = true := by
  rcases h with h | ⟨t, h⟩
  · exact vx_isRef h rfl
  · exact vx_isRef h rfl
/-- the same frame, seen from here: as if the method were called anew in this heap -/
theorem vx_rebase {T : State} (X : Stand p l e R s m args below meth c T locs cells slots) {R' : Room} (hf : R'.frames ≤ R.frames) (hl : R'.locals ≤ R.locals) (hc : cells + R'.cells ≤ R.cells) (hs : slots + R'.slots ≤ R.slots) :
    Stand p l e R' ((T.setVm s.vm).setFrames (.invoking m args :: below)) m args below meth c T [] 0 0 := by
  have htop : (T.setVm s.vm).topJava?.isSome := X.here.top
  have hF : ((T.setVm s.vm).setFrames (.invoking m args :: below)).frames = .invoking m args :: below := State.frames_setFrames _ (State.cur_lt_of_top htop)
  obtain ⟨g₀, hg0⟩ := Option.isSome_iff_exists.mp htop
  obtain ⟨r, hr⟩ := State.topJava?_eq_some.mp hg0
  have hl9 : e.platform.stackLimits (T.setVm s.vm).me = e.platform.stackLimits s.me := X.limits
  have hb9 : (T.setVm s.vm).me.stackBytes = s.me.stackBytes := X.bytes
  refine ⟨X.admits, X.cas, X.clock, hF, ?_, X.hears, X.method, X.code, X.here, X.tail, X.warmed, ?_, ?_, ?_⟩
  · have h := X.room
    have hU : ((T.setVm s.vm).setFrames (.invoking m args :: below)).localsInUse = s.localsInUse := by
      rw [State.localsInUse_invoking hF (meth := meth) (c := c) X.method X.code, State.localsInUse_invoking X.frames X.method X.code]
    simp only [State.hasRoom, Bool.and_eq_true, decide_eq_true_eq] at h ⊢
    obtain ⟨⟨⟨⟨h1, h2, h3, h4, h5, h6⟩, h7⟩, h8⟩, h9⟩ := h
    rw [X.frames, List.length_cons] at h2 h3
    have q1 := X.heapSize
    have q2 := X.used
    simp only [hF, hU, List.length_cons, State.stackLimits_setFrames, State.stackBytes_setFrames, hl9, hb9]
    refine ⟨⟨⟨⟨by omega, by omega, by omega, by omega, by omega, h6⟩, ?_⟩, ?_⟩, X.book⟩
    · show T.heap.size + R'.cells ≤ e.platform.maxCells
      omega
    · show T.slotsUsed + R'.slots ≤ e.platform.maxSlots
      omega
  · rw [State.stackLimits_setFrames]; rfl
  · rw [State.stackBytes_setFrames]; rfl
  · refine ⟨?_, Nat.le_refl _, Nat.le_refl _, ?_, ?_, fun a c9 h9 => ⟨c9, h9, rfl, rfl, fun _ _ => rfl⟩⟩
    · obtain ⟨t, ht, -⟩ := State.frames_cons hr
      show T.setVm s.vm = { ((T.setVm s.vm).setFrames (.invoking m args :: below)).setFrames (T.setVm s.vm).frames with heap := T.heap, slotsUsed := T.slotsUsed }
      rw [State.setFrames_setFrames, State.setFrames_self ht]
      rfl
    · show T.slotsUsed = T.slotsUsed + ((T.heap.toList.drop T.heap.size).map (·.slots.size)).sum
      rw [List.drop_eq_nil_of_le (Nat.le_of_eq Array.length_toList)]
      rfl
    · show ((T.heap.toList.drop T.heap.size).map (·.slots.size)).sum ≤ 0
      rw [List.drop_eq_nil_of_le (Nat.le_of_eq Array.length_toList)]
      exact Nat.le_refl _
/-- 'throw new E()': new; dup; invokespecial; athrow -/
theorem vx_throw0 {cc : ByteArray} {pc : Nat} (hexec : p.tables.exec = Jvm.exec) (hb : c.code = cc) (hl : l.stackTraces = false) {own cls : String} {names : List String} {ik ic mc ms : Nat} {A : Nat → Prop}
    (hown : s.vm.findClass own = some m.cls) (hcls : Bundle.fit cls = true) (hnames : ∀ n ∈ names, Bundle.fit n = true)
    (hk : (Cond.classLink own ik cls).before args s = true) (hini : (Cond.initialized cls).before args s = true) (hat : ∀ w ∈ vx_at0 own ic cls names, w.before args s = true)
    (hgood : ∀ w ∈ Cond.classLink own ik cls :: Cond.initialized cls :: vx_at0 own ic cls names, vx_ot w = true)
    (hU : vx_Zq Bundle.tN "UNASSIGNED_STACK" Bundle.steD A s s.heap) (hN : vx_Zq Bundle.tN "SUPPRESSED_SENTINEL" Bundle.listD A s s.heap) (hS : va_S A s.heap H locs) (hsize : ls.size = c.maxLocals)
    (d0 : decode cc pc = .ok (.new ik, 3)) (d3 : decode cc (pc + 3) = .ok (.dup, 1)) (d4 : decode cc (pc + 4) = .ok (.invokespecial ic, 3)) (d7 : decode cc (pc + 7) = .ok (.athrow, 1))
    (hout : ∀ x ∈ c.exceptionTable.toList, covers x (pc + 7) = false)
    (hRframes : names.length + 3 < R.frames) (hRlocals : (rest.map fun v => v.category).sum + (13 * (names.length + 1) + 42) ≤ R.locals) (hRcells : cells + 1 ≤ R.cells) (hRslots : slots + 6 ≤ R.slots) (hlocks : meth.locks = false)
    (hx : ∀ t : State, s.vm.Alike t.vm → H.size ≤ t.heap.size → (∀ q : Nat, q < H.size → t.heap[q]? = H[q]?) → XC cls s t)
    (hf : ∀ z ∈ locs, free z.base) (hc : cells + 1 ≤ mc) (hs : slots + 6 ≤ ms) :
    W p l e R s m args below meth c H locs cells slots (vx_MQ below Qc XC args s mc ms free) (F0 m pc ls rest) := by
  intro T hT X
  have htr : e.platform.stackTraces = false := (show e.platform.stackTraces = l.stackTraces by rw [X.admits.platform]).trans hl
  have Y := vx_rebase X (R' := { frames := R.frames, locals := R.locals, cells := 1, slots := 6 }) (Nat.le_refl _) (Nat.le_refl _) hRcells hRslots
  obtain ⟨s', hA⟩ : ∃ z, z = (T.setVm s.vm).setFrames (.invoking m args :: below) := ⟨_, rfl⟩
  rw [← hA] at Y
  have hvm : s'.vm = s.vm := by rw [hA]; rfl
  have hhp : s'.heap = H := by rw [hA]; exact hT
  have hW0 : s.WarmedH s'.vm := by rw [hvm]; exact State.WarmedH.refl s
  have hat' : ∀ w ∈ vx_at0 own ic cls names, w.before args s' = true := fun w hw => vx_ot_at hW0 hvm.symm (hgood w (List.mem_cons_of_mem _ (List.mem_cons_of_mem _ hw))) (hat w hw)
  have hk' : (Cond.classLink own ik cls).before args s' = true := vx_ot_at hW0 hvm.symm (hgood _ List.mem_cons_self) hk
  have hini' : (Cond.initialized cls).before args s' = true := vx_ot_at hW0 hvm.symm (hgood _ (List.mem_cons_of_mem _ List.mem_cons_self)) hini
  have hU' : vx_Zq Bundle.tN "UNASSIGNED_STACK" Bundle.steD A s' s'.heap := by rw [hhp]; exact vx_Zq.moved hW0.alike (hU.kept hS.2.1)
  have hN' : vx_Zq Bundle.tN "SUPPRESSED_SENTINEL" Bundle.listD A s' s'.heap := by rw [hhp]; exact vx_Zq.moved hW0.alike (hN.kept hS.2.1)
  have h : ∀ w ∈ Bundle.ownAtoms0 own ic cls names, w.before args s' = true := vx_own hat' (vx_isRefq hU'.1) (vx_isRefq hN'.1) hU'.2.word hN'.2.word
  have hown' : s'.vm.findClass own = some m.cls := by rw [hvm]; exact hown
  have hins : (Cond.instantiable cls 6).before args s' = true := h _ (by simp [Bundle.ownAtoms0])
  obtain ⟨vm₁, cX, kX, hfX, hkX, -, -, X₁, st1⟩ := Y.newCold hexec (own := own) (C := cls) (index := ik) (n := 6) hown' hk' hins hini'
    (g := F0 m pc ls rest) rfl (by rw [hb]; exact d0) (Nat.le_refl _) (Nat.le_refl _)
  generalize hT1 : (T.setVm vm₁).pushCell { cls := cX, slots := kX.instanceTypes.map defaultValue, vm := .none } = T1 at X₁ st1
  have hcat : (Value.ref T.heap.size).category = 1 := rfl
  have hcellA : T1.heap[T.heap.size]? = some (freshCell cX kX) := by rw [← hT1]; exact State.heap_pushCell_size _ _
  have d3' : decode c.code (pc + 3) = .ok (.dup, 1) := by rw [hb]; exact d3
  obtain ⟨U, hsteps, hrun, hend, hW, hsame, ce, hce, hO⟩ := X₁.ctorThrow0 hexec htr (own := own) (cls := cls) (names := names) (ic := ic) hown' hcls hnames h (fun x hx => nomatch hx) hfX hkX hcellA (by rw [hhp, hT]; exact Nat.le_refl _)
    (g := { method := m, pc := pc + 4, locals := ls, stack := .ref T.heap.size :: .ref T.heap.size :: rest, locked := none }) rfl hsize rfl rfl (rest := rest) rfl
    (by rw [hb]; exact d4) (by rw [hb]; exact d7) hout hRframes (by simp only [List.map_cons, List.sum_cons, hcat]; omega) hlocks
  obtain ⟨f1, f2⟩ := vx_frame hsame
  rw [hhp] at f1 f2
  have hWs : s.WarmedH U.vm := State.WarmedH.trans hW0 hW
  have hcl : s.vm.findClass cls = some ce.cls := by
    have h9 := hO.cls
    rw [hvm] at h9
    exact h9
  have hall : s.sameButNew ({ U with vm := s.vm } : State) locs mc ms := by
    subst hA
    obtain ⟨e1, e2⟩ := hsame
    rw [State.setFrames_setFrames] at e1
    have h2 : (T.setVm s.vm).sameButNew ({ U with vm := s.vm } : State) [] (0 + 1) (0 + 6) := ⟨e1, e2⟩
    have h3 := X.same.trans h2
    rw [List.append_nil] at h3
    exact h3.mono hc hs
  refine ⟨U, ?_, .threw T.heap.size, hrun, hend, Or.inr ⟨T.heap.size, rfl, cls, ce, locs, hx U hWs.alike f1 (fun q hq => f2 q hq (fun z hz => nomatch hz)), hce, hO.vm, hcl, hWs, hall, hf⟩⟩
  refine st1 _ ?_
  show Steps p.tables e below (T1.setTop { method := m, pc := pc + 3, locals := ls, stack := .ref T.heap.size :: rest, locked := none }) _
  jvm_step X₁.here [X₁.here.top, hexec, d3', Value.category]
  exact hsteps
/-- 'throw new E("text")': new; dup; ldc; invokespecial; athrow -/
theorem vx_throwS {cc : ByteArray} {pc : Nat} (hexec : p.tables.exec = Jvm.exec) (hb : c.code = cc) (hl : l.stackTraces = false) {own cls text : String} {names : List String} {ik is ic mc ms sa : Nat} {A : Nat → Prop}
    (hown : s.vm.findClass own = some m.cls) (hcls : Bundle.fit cls = true) (hnames : ∀ n ∈ names, Bundle.fit n = true)
    (hk : (Cond.classLink own ik cls).before args s = true) (hini : (Cond.initialized cls).before args s = true) (hstr : vk_R own is text sa s) (hat : ∀ w ∈ vx_atS own ic cls names, w.before args s = true)
    (hgood : ∀ w ∈ Cond.classLink own ik cls :: Cond.initialized cls :: vx_atS own ic cls names, vx_ot w = true)
    (hU : vx_Zq Bundle.tN "UNASSIGNED_STACK" Bundle.steD A s s.heap) (hN : vx_Zq Bundle.tN "SUPPRESSED_SENTINEL" Bundle.listD A s s.heap) (hS : va_S A s.heap H locs) (hsize : ls.size = c.maxLocals)
    (d0 : decode cc pc = .ok (.new ik, 3)) (d3 : decode cc (pc + 3) = .ok (.dup, 1)) (d4 : decode cc (pc + 4) = .ok (.ldc is, 2)) (d6 : decode cc (pc + 6) = .ok (.invokespecial ic, 3)) (d9 : decode cc (pc + 9) = .ok (.athrow, 1))
    (hout : ∀ x ∈ c.exceptionTable.toList, covers x (pc + 9) = false)
    (hRframes : names.length + 3 < R.frames) (hRlocals : (rest.map fun v => v.category).sum + (13 * (names.length + 1) + 43) ≤ R.locals) (hRcells : cells + 1 ≤ R.cells) (hRslots : slots + 6 ≤ R.slots) (hlocks : meth.locks = false)
    (hx : ∀ t : State, s.vm.Alike t.vm → H.size ≤ t.heap.size → (∀ q : Nat, q < H.size → t.heap[q]? = H[q]?) → XC cls s t)
    (hf : ∀ z ∈ locs, free z.base) (hc : cells + 1 ≤ mc) (hs : slots + 6 ≤ ms) :
    W p l e R s m args below meth c H locs cells slots (vx_MQ below Qc XC args s mc ms free) (F0 m pc ls rest) := by
  intro T hT X
  have htr : e.platform.stackTraces = false := (show e.platform.stackTraces = l.stackTraces by rw [X.admits.platform]).trans hl
  have Y := vx_rebase X (R' := { frames := R.frames, locals := R.locals, cells := 1, slots := 6 }) (Nat.le_refl _) (Nat.le_refl _) hRcells hRslots
  obtain ⟨s', hA⟩ : ∃ z, z = (T.setVm s.vm).setFrames (.invoking m args :: below) := ⟨_, rfl⟩
  rw [← hA] at Y
  have hvm : s'.vm = s.vm := by rw [hA]; rfl
  have hhp : s'.heap = H := by rw [hA]; exact hT
  have hW0 : s.WarmedH s'.vm := by rw [hvm]; exact State.WarmedH.refl s
  have hat' : ∀ w ∈ vx_atS own ic cls names, w.before args s' = true := fun w hw => vx_ot_at hW0 hvm.symm (hgood w (List.mem_cons_of_mem _ (List.mem_cons_of_mem _ hw))) (hat w hw)
  have hk' : (Cond.classLink own ik cls).before args s' = true := vx_ot_at hW0 hvm.symm (hgood _ List.mem_cons_self) hk
  have hini' : (Cond.initialized cls).before args s' = true := vx_ot_at hW0 hvm.symm (hgood _ (List.mem_cons_of_mem _ List.mem_cons_self)) hini
  have hU' : vx_Zq Bundle.tN "UNASSIGNED_STACK" Bundle.steD A s' s'.heap := by rw [hhp]; exact vx_Zq.moved hW0.alike (hU.kept hS.2.1)
  have hN' : vx_Zq Bundle.tN "SUPPRESSED_SENTINEL" Bundle.listD A s' s'.heap := by rw [hhp]; exact vx_Zq.moved hW0.alike (hN.kept hS.2.1)
  have h : ∀ w ∈ Bundle.ownAtoms own ic cls names, w.before args s' = true := vx_own hat' (vx_isRefq hU'.1) (vx_isRefq hN'.1) hU'.2.word hN'.2.word
  have hown' : s'.vm.findClass own = some m.cls := by rw [hvm]; exact hown
  have hins : (Cond.instantiable cls 6).before args s' = true := h _ (by simp [Bundle.ownAtoms])
  obtain ⟨vm₁, cX, kX, hfX, hkX, -, -, X₁, st1⟩ := Y.newCold hexec (own := own) (C := cls) (index := ik) (n := 6) hown' hk' hins hini'
    (g := F0 m pc ls rest) rfl (by rw [hb]; exact d0) (Nat.le_refl _) (Nat.le_refl _)
  generalize hT1 : (T.setVm vm₁).pushCell { cls := cX, slots := kX.instanceTypes.map defaultValue, vm := .none } = T1 at X₁ st1
  have hcat : (Value.ref T.heap.size).category = 1 := rfl
  have hcellA : T1.heap[T.heap.size]? = some (freshCell cX kX) := by rw [← hT1]; exact State.heap_pushCell_size _ _
  have d3' : decode c.code (pc + 3) = .ok (.dup, 1) := by rw [hb]; exact d3
  have d4' : decode c.code (pc + 4) = .ok (.ldc is, 2) := by rw [hb]; exact d4
  have hstr' : vk_R own is text sa s' := vk_R.warm hW0 hstr
  obtain ⟨U, hsteps, hrun, hend, hW, hsame, ce, hce, hO⟩ := X₁.ctorThrowS hexec htr (own := own) (cls := cls) (names := names) (ic := ic) hown' hcls hnames h (fun x hx => nomatch hx) hfX hkX hcellA (by rw [hhp, hT]; exact Nat.le_refl _) (msg := .ref sa) rfl
    (g := { method := m, pc := pc + 6, locals := ls, stack := .ref sa :: .ref T.heap.size :: .ref T.heap.size :: rest, locked := none }) rfl hsize rfl rfl (rest := rest) rfl
    (by rw [hb]; exact d6) (by rw [hb]; exact d9) hout hRframes (by simp only [List.map_cons, List.sum_cons, hcat]; omega) hlocks
  obtain ⟨f1, f2⟩ := vx_frame hsame
  rw [hhp] at f1 f2
  have hWs : s.WarmedH U.vm := State.WarmedH.trans hW0 hW
  have hcl : s.vm.findClass cls = some ce.cls := by
    have h9 := hO.cls
    rw [hvm] at h9
    exact h9
  have hall : s.sameButNew ({ U with vm := s.vm } : State) locs mc ms := by
    subst hA
    obtain ⟨e1, e2⟩ := hsame
    rw [State.setFrames_setFrames] at e1
    have h2 : (T.setVm s.vm).sameButNew ({ U with vm := s.vm } : State) [] (0 + 1) (0 + 6) := ⟨e1, e2⟩
    have h3 := X.same.trans h2
    rw [List.append_nil] at h3
    exact h3.mono hc hs
  refine ⟨U, ?_, .threw T.heap.size, hrun, hend, Or.inr ⟨T.heap.size, rfl, cls, ce, locs, hx U hWs.alike f1 (fun q hq => f2 q hq (fun z hz => nomatch hz)), hce, hO.vm, hcl, hWs, hall, hf⟩⟩
  refine st1 _ ?_
  show Steps p.tables e below (T1.setTop { method := m, pc := pc + 3, locals := ls, stack := .ref T.heap.size :: rest, locked := none }) _
  jvm_step X₁.here [X₁.here.top, hexec, d3', Value.category]
  exact X₁.ldcString hexec (own := own) (text := text) (index := is) (a := sa) hown' hstr'.1 hstr'.2
    (g := { method := m, pc := pc + 4, locals := ls, stack := .ref T.heap.size :: .ref T.heap.size :: rest, locked := none }) rfl d4' _ hsteps
/-- 'throw new E("text")', the text by a wide index -/
theorem vx_throwSW {cc : ByteArray} {pc : Nat} (hexec : p.tables.exec = Jvm.exec) (hb : c.code = cc) (hl : l.stackTraces = false) {own cls text : String} {names : List String} {ik is ic mc ms sa : Nat} {A : Nat → Prop}
    (hown : s.vm.findClass own = some m.cls) (hcls : Bundle.fit cls = true) (hnames : ∀ n ∈ names, Bundle.fit n = true)
    (hk : (Cond.classLink own ik cls).before args s = true) (hini : (Cond.initialized cls).before args s = true) (hstr : vk_R own is text sa s) (hat : ∀ w ∈ vx_atS own ic cls names, w.before args s = true)
    (hgood : ∀ w ∈ Cond.classLink own ik cls :: Cond.initialized cls :: vx_atS own ic cls names, vx_ot w = true)
    (hU : vx_Zq Bundle.tN "UNASSIGNED_STACK" Bundle.steD A s s.heap) (hN : vx_Zq Bundle.tN "SUPPRESSED_SENTINEL" Bundle.listD A s s.heap) (hS : va_S A s.heap H locs) (hsize : ls.size = c.maxLocals)
    (d0 : decode cc pc = .ok (.new ik, 3)) (d3 : decode cc (pc + 3) = .ok (.dup, 1)) (d4 : decode cc (pc + 4) = .ok (.ldc_w is, 3)) (d7 : decode cc (pc + 7) = .ok (.invokespecial ic, 3)) (d10 : decode cc (pc + 10) = .ok (.athrow, 1))
    (hout : ∀ x ∈ c.exceptionTable.toList, covers x (pc + 10) = false)
    (hRframes : names.length + 3 < R.frames) (hRlocals : (rest.map fun v => v.category).sum + (13 * (names.length + 1) + 43) ≤ R.locals) (hRcells : cells + 1 ≤ R.cells) (hRslots : slots + 6 ≤ R.slots) (hlocks : meth.locks = false)
    (hx : ∀ t : State, s.vm.Alike t.vm → H.size ≤ t.heap.size → (∀ q : Nat, q < H.size → t.heap[q]? = H[q]?) → XC cls s t)
    (hf : ∀ z ∈ locs, free z.base) (hc : cells + 1 ≤ mc) (hs : slots + 6 ≤ ms) :
    W p l e R s m args below meth c H locs cells slots (vx_MQ below Qc XC args s mc ms free) (F0 m pc ls rest) := by
  intro T hT X
  have htr : e.platform.stackTraces = false := (show e.platform.stackTraces = l.stackTraces by rw [X.admits.platform]).trans hl
  have Y := vx_rebase X (R' := { frames := R.frames, locals := R.locals, cells := 1, slots := 6 }) (Nat.le_refl _) (Nat.le_refl _) hRcells hRslots
  obtain ⟨s', hA⟩ : ∃ z, z = (T.setVm s.vm).setFrames (.invoking m args :: below) := ⟨_, rfl⟩
  rw [← hA] at Y
  have hvm : s'.vm = s.vm := by rw [hA]; rfl
  have hhp : s'.heap = H := by rw [hA]; exact hT
  have hW0 : s.WarmedH s'.vm := by rw [hvm]; exact State.WarmedH.refl s
  have hat' : ∀ w ∈ vx_atS own ic cls names, w.before args s' = true := fun w hw => vx_ot_at hW0 hvm.symm (hgood w (List.mem_cons_of_mem _ (List.mem_cons_of_mem _ hw))) (hat w hw)
  have hk' : (Cond.classLink own ik cls).before args s' = true := vx_ot_at hW0 hvm.symm (hgood _ List.mem_cons_self) hk
  have hini' : (Cond.initialized cls).before args s' = true := vx_ot_at hW0 hvm.symm (hgood _ (List.mem_cons_of_mem _ List.mem_cons_self)) hini
  have hU' : vx_Zq Bundle.tN "UNASSIGNED_STACK" Bundle.steD A s' s'.heap := by rw [hhp]; exact vx_Zq.moved hW0.alike (hU.kept hS.2.1)
  have hN' : vx_Zq Bundle.tN "SUPPRESSED_SENTINEL" Bundle.listD A s' s'.heap := by rw [hhp]; exact vx_Zq.moved hW0.alike (hN.kept hS.2.1)
  have h : ∀ w ∈ Bundle.ownAtoms own ic cls names, w.before args s' = true := vx_own hat' (vx_isRefq hU'.1) (vx_isRefq hN'.1) hU'.2.word hN'.2.word
  have hown' : s'.vm.findClass own = some m.cls := by rw [hvm]; exact hown
  have hins : (Cond.instantiable cls 6).before args s' = true := h _ (by simp [Bundle.ownAtoms])
  obtain ⟨vm₁, cX, kX, hfX, hkX, -, -, X₁, st1⟩ := Y.newCold hexec (own := own) (C := cls) (index := ik) (n := 6) hown' hk' hins hini'
    (g := F0 m pc ls rest) rfl (by rw [hb]; exact d0) (Nat.le_refl _) (Nat.le_refl _)
  generalize hT1 : (T.setVm vm₁).pushCell { cls := cX, slots := kX.instanceTypes.map defaultValue, vm := .none } = T1 at X₁ st1
  have hcat : (Value.ref T.heap.size).category = 1 := rfl
  have hcellA : T1.heap[T.heap.size]? = some (freshCell cX kX) := by rw [← hT1]; exact State.heap_pushCell_size _ _
  have d3' : decode c.code (pc + 3) = .ok (.dup, 1) := by rw [hb]; exact d3
  have d4' : decode c.code (pc + 4) = .ok (.ldc_w is, 3) := by rw [hb]; exact d4
  have hstr' : vk_R own is text sa s' := vk_R.warm hW0 hstr
  obtain ⟨U, hsteps, hrun, hend, hW, hsame, ce, hce, hO⟩ := X₁.ctorThrowS hexec htr (own := own) (cls := cls) (names := names) (ic := ic) hown' hcls hnames h (fun x hx => nomatch hx) hfX hkX hcellA (by rw [hhp, hT]; exact Nat.le_refl _) (msg := .ref sa) rfl
    (g := { method := m, pc := pc + 7, locals := ls, stack := .ref sa :: .ref T.heap.size :: .ref T.heap.size :: rest, locked := none }) rfl hsize rfl rfl (rest := rest) rfl
    (by rw [hb]; exact d7) (by rw [hb]; exact d10) hout hRframes (by simp only [List.map_cons, List.sum_cons, hcat]; omega) hlocks
  obtain ⟨f1, f2⟩ := vx_frame hsame
  rw [hhp] at f1 f2
  have hWs : s.WarmedH U.vm := State.WarmedH.trans hW0 hW
  have hcl : s.vm.findClass cls = some ce.cls := by
    have h9 := hO.cls
    rw [hvm] at h9
    exact h9
  have hall : s.sameButNew ({ U with vm := s.vm } : State) locs mc ms := by
    subst hA
    obtain ⟨e1, e2⟩ := hsame
    rw [State.setFrames_setFrames] at e1
    have h2 : (T.setVm s.vm).sameButNew ({ U with vm := s.vm } : State) [] (0 + 1) (0 + 6) := ⟨e1, e2⟩
    have h3 := X.same.trans h2
    rw [List.append_nil] at h3
    exact h3.mono hc hs
  refine ⟨U, ?_, .threw T.heap.size, hrun, hend, Or.inr ⟨T.heap.size, rfl, cls, ce, locs, hx U hWs.alike f1 (fun q hq => f2 q hq (fun z hz => nomatch hz)), hce, hO.vm, hcl, hWs, hall, hf⟩⟩
  refine st1 _ ?_
  show Steps p.tables e below (T1.setTop { method := m, pc := pc + 3, locals := ls, stack := .ref T.heap.size :: rest, locked := none }) _
  jvm_step X₁.here [X₁.here.top, hexec, d3', Value.category]
  exact X₁.ldcStringW hexec (own := own) (text := text) (index := is) (a := sa) hown' hstr'.1 hstr'.2
    (g := { method := m, pc := pc + 4, locals := ls, stack := .ref T.heap.size :: .ref T.heap.size :: rest, locked := none }) rfl d4' _ hsteps
end Ends
section Bodies
variable {l : Launch}
theorem vx_ofW {y : MethodName} {ws ws' : List Cond} {rm : Room} {Pc : Array Value → State → Prop} {Qc : Array Value → State → Outcome → State → Prop} {XC : String → State → State → Prop} {mc ms : Nat} {free : Addr → Prop} {cc : ByteArray} {maxL : Nat} {ret : Option FieldType}
    (hy : plainName y.cls = true) (hw : ws = Cond.code y cc maxL ret :: ws')
    (body : ∀ p e s m args below meth c s₁, BodyLoose p l y (headSpec ws rm) cc maxL ret e s m args below meth c s₁ → c.maxLocals = maxL → (∀ x ∈ c.exceptionTable.toList, False) → Pc args s →
      W p l e (headSpec ws rm).room s m args below meth c s.heap [] 0 0 (vx_MQ below Qc XC args s mc ms free) (entryFrame m args maxL)) : vx_Met l y ws rm Pc Qc XC mc ms free := by
  refine MetFree.of_bodyS (code := cc) (maxLocals := maxL) (ret := ret) hy ?_ ?_
  · intro args s m h hn
    obtain ⟨meth, c, h1, h2, h3, h4, h5, h6, -, -⟩ := Cond.code_spec hn (atoms_spec (ws := ws) h _ (by rw [hw]; exact List.mem_cons_self))
    exact ⟨meth, c, h1, h2, h3, h4, h5, h6⟩
  · intro p e s m args below meth c s₁ B hml hP _
    have hh0 : s₁.heap = s.heap := by rw [B.state]; rfl
    have ht : ∀ x ∈ c.exceptionTable.toList, False := by
      obtain ⟨meth9, c9, h1, h2, -, -, -, -, h7, -⟩ := Cond.code_spec B.named (atoms_spec (ws := ws) B.pre _ (by rw [hw]; exact List.mem_cons_self))
      cases Option.some.inj (h1.symm.trans B.method)
      cases Option.some.inj (h2.symm.trans (Stand.of_body B).code)
      intro x hx
      rw [Array.isEmpty_iff.mp h7] at hx
      cases hx
    obtain ⟨t, a1, o, b1, b2, b3⟩ := body p e s m args below meth c s₁ B hml ht hP s₁ hh0 (Stand.of_body B)
    exact ⟨t, o, a1, b1, b2, b3⟩
/-- the table of a body with handlers -/
theorem vx_table {p : Program} {x y : MethodName} {S : Spec} {cc bytes : ByteArray} {maxL maxL' : Nat} {ret ret' : Option FieldType} {e : Env} {s s₁ : State} {m : MethodId} {args : Array Value} {below : List Frame} {meth : Method} {c : Code} {hh : List (Nat × Nat × Nat × Nat)}
    (B : BodyLoose p l y S cc maxL ret e s m args below meth c s₁) (h : (Cond.codeWith y bytes maxL' ret' hh).before args s = true) : c.exceptionTable.toList = tableOf hh := by
  obtain ⟨m9, meth9, c9, hn9, h1, h2, -, -, h6, -⟩ := Cond.codeWith_spec h
  cases Option.some.inj (hn9.symm.trans B.named)
  cases Option.some.inj (h1.symm.trans B.method)
  cases Option.some.inj (h2.symm.trans (Stand.of_body B).code)
  rw [← h6, table_eq]
end Bodies
end VXA
/-! ===== END ===== -/
/-! ===== BEGIN a static call of a method with an exception table ===== -/
section VXS
variable {p : Program} {l : Launch} {e : Env} {R : Room} {s : State} {m : MethodId} {args : Array Value} {below : List Frame} {meth : Method} {c : Code} {T : State} {H : Heap} {locs : List Loc} {cells slots : Nat}
abbrev vx_CSW (R : Room) (s : State) (args : Array Value) (own : String) (index : Nat) (y : MethodName) (bytes : ByteArray) (maxL : Nat) (ret : Option FieldType) (hh : List (Nat × Nat × Nat × Nat)) (ws : List Cond) (rm : Room) (mc ms n : Nat) : Prop :=
  (rm.cells = mc ∧ rm.slots = ms ∧ rm.frames + 1 ≤ R.frames ∧ 8 + (maxL + 11) + rm.locals ≤ R.locals ∧ (∀ w ∈ ws, ∀ (a' : Array Value) (U : State), s.WarmedH U.vm → w.before a' U = true) ∧ Cond.codeWith y bytes maxL ret hh ∈ ws) ∧
  (Cond.codeWith y bytes maxL ret hh).before args s = true ∧ (Cond.initialized y.cls).before args s = true ∧ (y.cls ≠ "java/lang/invoke/MethodHandle" ∧ y.cls ≠ "java/lang/invoke/VarHandle") ∧
  (∀ sig, parseMethodDescriptor y.desc = some sig → n = sig.parameters.length) ∧ (Cond.methodLink own index y).before args s = true ∧ (Cond.static y).before args s = true
theorem vx_cwSW {own : String} {index maxL mc ms : Nat} {y : MethodName} {bytes : ByteArray} {ret : Option FieldType} {hh : List (Nat × Nat × Nat × Nat)} {Ts ws ws' : List Cond} {rm : Room} (n : Nat) (ht : ∀ w ∈ Ts, w.before args s = true) (hT : GoodIn Ts (va_wsS own index y ws)) (hw : ws = Cond.codeWith y bytes maxL ret hh :: ws') (hrc : rm.cells = mc) (hrs : rm.slots = ms)
    (hd : y.cls ≠ "java/lang/invoke/MethodHandle" ∧ y.cls ≠ "java/lang/invoke/VarHandle" ∧ (parseMethodDescriptor y.desc).map (fun d => d.parameters.length) = some n) (hR : rm.frames + 1 ≤ R.frames ∧ 8 + (maxL + 11) + rm.locals ≤ R.locals) :
    vx_CSW R s args own index y bytes maxL ret hh ws rm mc ms n := by
  have ok : ∀ w ∈ va_wsS own index y ws, w.before args s = true := fun w h => ht w (hT w h).1
  have hG : GoodIn Ts ws := fun w h => hT w (by unfold va_wsS; exact List.mem_append_right _ h)
  have hc : Cond.codeWith y bytes maxL ret hh ∈ ws := by rw [hw]; exact List.mem_cons_self
  refine ⟨⟨hrc, hrs, hR.1, hR.2, pay_in ht hG, hc⟩, ht _ (hG _ hc).1, ok _ (by simp [va_wsS]), ⟨hd.1, hd.2.1⟩, fun sig h => ?_, ok _ (by simp [va_wsS]), ok _ (by simp [va_wsS])⟩
  have h2 := hd.2.2
  rw [h] at h2
  exact (Option.some.inj h2).symm
theorem vx_callSW (X : Stand p l e R s m args below meth c T locs cells slots) (hexec : p.tables.exec = Jvm.exec) {own : String} {index : Nat} {y : MethodName} {bytes : ByteArray} {maxL : Nat} {ret : Option FieldType} {hh : List (Nat × Nat × Nat × Nat)}
    (hown : s.vm.findClass own = some m.cls) (hlink : (Cond.methodLink own index y).before args s = true) (hstat : (Cond.static y).before args s = true) (hinit : (Cond.initialized y.cls).before args s = true)
    (hcode : (Cond.codeWith y bytes maxL ret hh).before args s = true) (hy : y.cls ≠ "java/lang/invoke/MethodHandle" ∧ y.cls ≠ "java/lang/invoke/VarHandle")
    {W9 : Nat} {Pre : Pt → Array Value → Prop} {Post : Pt → Array Value → Option Value → Pt → Prop} (hK : Back l R p e below s args y 3 W9 Pre Post)
    {g : JFrame} (hg : g.method = m) (hsize : g.locals.size = c.maxLocals) {argsL rest : List Value} (hlen : ∀ sig, parseMethodDescriptor y.desc = some sig → argsL.length = sig.parameters.length)
    (hstack : g.stack = argsL.reverse ++ rest) (hW : 2 * g.monitorRoom + (rest.map fun v => v.category).sum ≤ W9) (hdg : decode c.code g.pc = .ok (.invokestatic index, 3))
    (hpre : ∀ vm₁, s.WarmedH vm₁ → Pre ⟨T.setVm vm₁, locs, cells, slots⟩ argsL.toArray) :
    ∃ (v : Option Value) (vm₁ : Vm) (B : Pt), s.WarmedH vm₁ ∧ Stand p l e R s m args below meth c B.U B.locs B.cells B.slots ∧ Post ⟨T.setVm vm₁, locs, cells, slots⟩ argsL.toArray v B ∧
      ∀ target, Steps p.tables e below (B.U.setTop { g with pc := g.pc + 3, stack := v.toList ++ rest }) target → Steps p.tables e below (T.setTop g) target := by
  obtain ⟨mk, methM, cM, hnamed, hmethM, -, -, -, -, -, -, hsigM⟩ := Cond.codeWith_spec hcode
  have hstatic : methM.isStatic = true := Cond.static_spec hnamed hmethM hstat
  obtain ⟨kP, hkP, -⟩ := className_of_methodNamed hnamed
  have hinitP : kP.init = .initialized := Cond.initialized_spec (findClass_of_methodNamed hnamed) hkP hinit
  obtain ⟨vm₁, X₁, hstep₁⟩ := X.invokestatic hexec hown hlink hnamed hmethM hstatic hkP hinitP hy (g := g) hg (argsL := argsL) (rest := rest) (hlen _ hsigM) hstack hdg
  obtain ⟨v, B, X', hpost, hsteps⟩ := hK m meth c ⟨T.setVm vm₁, locs, cells, slots⟩ { g with stack := rest } (.invokestatic index) mk argsL.toArray X₁ hg hsize hdg hW (X₁.named hnamed) (hpre vm₁ X₁.warmed)
  exact ⟨v, vm₁, B, X₁.warmed, X', hpost, fun target h => hstep₁ _ fun acts => by rw [doInvoke_state]; exact hsteps.trans h⟩
theorem vx_runSW {y : MethodName} {bytes cc : ByteArray} {maxL nL mc ms n index : Nat} {ret : Option FieldType} {hh : List (Nat × Nat × Nat × Nat)} {ws : List Cond} {rm : Room} {Pc : Array Value → State → Prop} {Qc : Array Value → State → Outcome → State → Prop} {free : Addr → Prop} {Ts : List Cond} {own : String} {As rest : List Value} {g : JFrame}
    (S : CallFix p m c cc nL s args Ts own) (hM : Met l y ws rm Pc Qc mc ms free) (cw : vx_CSW R s args own index y bytes maxL ret hh ws rm mc ms n) (hp : PreS s H Pc As)
    (hg : g.method = m) (hn : As.length = n) (hsize : g.locals.size = nL) (hstack : g.stack = As.reverse ++ rest) (hW : 2 * g.monitorRoom + (rest.map fun v => v.category).sum ≤ 8) (hdg : decode cc g.pc = .ok (.invokestatic index, 3)) (hf : cells + mc ≤ R.cells ∧ slots + ms ≤ R.slots) :
    va_Run p l e R s m args below meth c H locs cells slots mc ms g rest (Qc As.toArray) (free) := by
  obtain ⟨⟨hrc, hrs, hfr, hlo, hws, hcw⟩, hcode, hini, hy, hlen, hl, hstt⟩ := cw
  have hK : Back l R p e below s args y 3 8 (PreOf R mc ms Pc) (PostOf Qc mc ms free) := va_backW (hh := hh) (bytes := bytes) (maxL := maxL) (ret := ret) hM hp.1 hrc hrs hfr hlo hws hcw (fun a' U hW => word_at hW (Or.inl (by first | rfl | simp [Cond.onTables, Cond.keeps, Cond.steady])) hini)
  obtain ⟨hx, hb, hml, ho, -⟩ := S
  intro T hT X
  obtain ⟨v, vm₁, ⟨U', l2, c2, s2⟩, hW₁, X', ⟨g', mk, t, L, e1, e2, hq, h1, hL, h2, h3⟩, st⟩ := vx_callSW X hx (hh := hh) (bytes := bytes) (maxL := maxL) (ret := ret) ho hl hstt hini hcode hy hK hg (hsize.trans hml.symm) (argsL := As) (rest := rest) (fun sig h => hn.trans (hlen sig h)) hstack hW (by rw [hb]; exact hdg)
    (fun vm₁ hW₁ => ⟨hf.1, hf.2, hp.2 (T.setVm vm₁) hT hW₁⟩)
  dsimp only [Pt.U, Pt.locs, Pt.cells, Pt.slots] at X' e1 e2 h1 h2 h3 st
  subst h1; subst h2; subst h3
  exact ⟨v, (T.setVm vm₁).calling g' mk As.toArray, t, U', L, hT, X', hL, e1, e2, hq, st⟩
/-- a thing of a world lies in the heap -/
theorem vx_lt {D : va_G} {cl : List vw_C} {ws : va_W} {H1 : Heap} (h : va_P D cl ws H1) {k : Nat} {q : Nat × va_E} (hk : ws[k]? = some q) : q.1 < H1.size := (h k q hk).lt
end VXS
/-! ===== END ===== -/
/-! ===== BEGIN methods with a table of their own: called by a name, returning or throwing ===== -/
section VXH
/-! vx_backW, vx_callVX, vx_callSX, vx_callVW, vx_runVW, vx_runVX, vx_runSX, vx_ofWH follow the same proofs as their sisters above (Free/Laws.lean, Shelf42/LK1.lean); vx_outP calls Shelf42/NT130.lean (outThrough). -/
section
variable {l : Launch} {R : Room} {p : Program} {e : Env} {below : List Frame} {s : State} {sargs : Array Value} {y : MethodName} {len W9 : Nat}
theorem vx_backW {ws : List Cond} {rm : Room} {Pc : Array Value → State → Prop} {Qc : Array Value → State → Outcome → State → Prop} {XC : String → State → State → Prop} {mc ms : Nat} {free : Addr → Prop} {bytes : ByteArray} {maxL : Nat} {ret : Option FieldType} {hh : List (Nat × Nat × Nat × Nat)}
    (hM : vx_Met l y ws rm Pc Qc XC mc ms free) (hblind : FrameBlind Pc) (hrc : rm.cells = mc) (hrs : rm.slots = ms)
    (hframes : rm.frames + 1 ≤ R.frames) (hlocals : W9 + (maxL + 11) + rm.locals ≤ R.locals)
    (hws : ∀ w ∈ ws, ∀ a' U, s.WarmedH U.vm → w.before a' U = true) (hcode : Cond.codeWith y bytes maxL ret hh ∈ ws) (hinit : ∀ a' U, s.WarmedH U.vm → (Cond.initialized y.cls).before a' U = true) :
    vx_Back l R p e below s sargs y len W9 (PreOf R mc ms Pc) (PostOf Qc mc ms free) (vx_Post XC mc ms free) := by
  intro m meth c A g ig mk a X hg hsize hdg hW hn hp
  have h1 : (headSpec ws rm).pre.before a A.U = true := atoms_intro fun w hw => hws w hw _ _ X.warmed
  have h2 : (Cond.codeWith y bytes maxL ret hh).before a A.U = true := hws _ hcode _ _ X.warmed
  have h3 : (Cond.initialized y.cls).before a A.U = true := hinit _ _ X.warmed
  have h4 : A.cells + (headSpec ws rm).room.cells ≤ R.cells := by rw [show (headSpec ws rm).room.cells = mc from hrc]; exact hp.1
  have h5 : A.slots + (headSpec ws rm).room.slots ≤ R.slots := by rw [show (headSpec ws rm).room.slots = ms from hrs]; exact hp.2.1
  have hPc : Pc a (A.U.calling g mk a) := hblind _ _ _ _ hp.2.2
  obtain ⟨U, Ls, c0, s0⟩ := A
  dsimp only [Pt.U, Pt.locs, Pt.cells, Pt.slots] at h1 h2 h3 h4 h5 X hn hPc ⊢
  obtain ⟨m9, methY, cY, hn9, hmY, hcY, -, hlY, -⟩ := Cond.codeWith_spec h2
  cases Option.some.inj (hn9.symm.trans hn)
  obtain ⟨kY, hkY, -⟩ := className_of_methodNamed hn
  have hinitY : kY.init = .initialized := Cond.initialized_spec (findClass_of_methodNamed hn) hkY h3
  have h : At U g.method c below := by rw [hg]; exact X.here
  have hlocals9 : W9 + (maxL + 11) + (headSpec ws rm).room.locals ≤ R.locals := hlocals
  have happ : (headSpec ws rm).appliesLoose y e.platform (U.calling g mk a) = true :=
    Spec.appliesLoose_calling (g := g) h hdg hn hkY hinitY
      (X.room_calling (g := g) (R' := (headSpec ws rm).room) hsize hmY hcY hframes (by rw [hlY]; omega) h4 h5) h1
  obtain ⟨mid, hmid⟩ := h.above
  have hfr : (U.setTop g).frames = (.java g :: mid) ++ below := by rw [State.frames_setTop' g h.top, hmid]; rfl
  obtain ⟨o, s₂, hsteps, -, hend, hq⟩ := Steps.callFree hM p X.admits X.cas X.clock (acts := []) hfr happ hPc trivial
  have hq' : vx_Q Qc XC mc ms free a (U.calling g mk a) o s₂ := hq
  rw [State.frames_setTop' g h.top] at hend
  obtain ⟨g₀, hg0⟩ := Option.isSome_iff_exists.mp h.top
  obtain ⟨r, hr⟩ := State.topJava?_eq_some.mp hg0
  have hr' : (({ U with heap := s₂.heap, slotsUsed := s₂.slotsUsed } : State).setVm s₂.vm).frames = .java g₀ :: r := hr
  rcases hq' with ⟨hqc, L, hfe, hL⟩ | ⟨q, rfl, E, ce, L, hx, hce, hcv, hcl, hW₂, hsm, hL⟩
  · obtain ⟨⟨v, rfl⟩, hW₂, e2, q2, q3, q4, q5, q6⟩ := id hfe
    have e3 : s₂ = ({ (U.calling g mk a).setFrames s₂.frames with heap := s₂.heap, slotsUsed := s₂.slotsUsed } : State).setVm s₂.vm := by
      have : s₂ = ({ s₂ with vm := (U.calling g mk a).vm } : State).setVm s₂.vm := rfl
      rw [e2] at this
      exact this
    obtain ⟨c₂, i₂, len₂, hc₂, hd₂, hf₂⟩ := hend
    have hW' : U.WarmedH s₂.vm := hW₂
    have hcc : c₂ = c := by
      have h1 : s₂.code? g.method = U.code? g.method := by
        rw [State.code?_eq, State.code?_eq, hW'.alike.method?]
      exact Option.some.inj (hc₂.symm.trans (h1.trans h.code))
    subst hcc
    have hlen : len₂ = len := by rw [hdg] at hd₂; cases hd₂; rfl
    subst hlen
    have hs₂ : s₂ = (({ U with heap := s₂.heap, slotsUsed := s₂.slotsUsed } : State).setVm s₂.vm).setTop { g with pc := g.pc + len₂, stack := v.toList ++ g.stack } := by
      refine e3.trans ?_
      rw [hf₂, State.calling_eq h.top, State.setFrames_setFrames, State.setTop_of_frames _ hr', hr]
      rfl
    have hsame : U.sameButNew ({ U with heap := s₂.heap, slotsUsed := s₂.slotsUsed } : State) L mc ms := by
      refine ⟨?_, q2, q3, q4, q5, q6⟩
      obtain ⟨t, ht, -⟩ := State.frames_cons hr
      show ({ U with heap := s₂.heap, slotsUsed := s₂.slotsUsed } : State) = { U.setFrames U.frames with heap := s₂.heap, slotsUsed := s₂.slotsUsed }
      rw [State.setFrames_self ht]
    subst hg
    refine Or.inl ⟨v, ⟨(({ U with heap := s₂.heap, slotsUsed := s₂.slotsUsed } : State).setVm s₂.vm), Ls ++ L, c0 + mc, s0 + ms⟩,
      ⟨X.admits, X.cas, X.clock, X.frames, X.room, X.hears, X.method, X.code, (X.here.setHeapUsed s₂.heap s₂.slotsUsed).setVm hW'.alike, X.tail, State.WarmedH.trans X.warmed hW', X.limits, X.bytes, X.same.trans (hsame.setVm s.vm)⟩,
      ⟨g, mk, s₂, L, rfl, rfl, hqc, rfl, hL, rfl, rfl⟩, ?_⟩
    show Steps p.tables e below _ ((({ U with heap := s₂.heap, slotsUsed := s₂.slotsUsed } : State).setVm s₂.vm).setTop { g with pc := g.pc + len₂, stack := v.toList ++ g.stack })
    rw [← hs₂]
    exact hsteps
  · obtain ⟨e2, q2, q3, q4, q5, q6⟩ := id hsm
    have e3 : s₂ = ({ (U.calling g mk a).setFrames s₂.frames with heap := s₂.heap, slotsUsed := s₂.slotsUsed } : State).setVm s₂.vm := by
      have : s₂ = ({ s₂ with vm := (U.calling g mk a).vm } : State).setVm s₂.vm := rfl
      rw [e2] at this
      exact this
    have hf₂ : s₂.frames = .throwing q :: .java g :: U.frames.tail := hend
    have hW' : U.WarmedH s₂.vm := hW₂
    have hs₂ : s₂ = ((({ U with heap := s₂.heap, slotsUsed := s₂.slotsUsed } : State).setVm s₂.vm).setTop g).pushFrame (.throwing q) := by
      refine e3.trans ?_
      rw [hf₂, State.calling_eq h.top, State.setFrames_setFrames, State.pushFrame, State.frames_setTop _ hr', State.setTop_of_frames _ hr', State.setFrames_setFrames, hr]
      rfl
    have hsame : U.sameButNew ({ U with heap := s₂.heap, slotsUsed := s₂.slotsUsed } : State) L mc ms := by
      refine ⟨?_, q2, q3, q4, q5, q6⟩
      obtain ⟨t, ht, -⟩ := State.frames_cons hr
      show ({ U with heap := s₂.heap, slotsUsed := s₂.slotsUsed } : State) = { U.setFrames U.frames with heap := s₂.heap, slotsUsed := s₂.slotsUsed }
      rw [State.setFrames_self ht]
    subst hg
    refine Or.inr ⟨q, ⟨(({ U with heap := s₂.heap, slotsUsed := s₂.slotsUsed } : State).setVm s₂.vm), Ls ++ L, c0 + mc, s0 + ms⟩,
      ⟨X.admits, X.cas, X.clock, X.frames, X.room, X.hears, X.method, X.code, (X.here.setHeapUsed s₂.heap s₂.slotsUsed).setVm hW'.alike, X.tail, State.WarmedH.trans X.warmed hW', X.limits, X.bytes, X.same.trans (hsame.setVm s.vm)⟩,
      ⟨g, mk, s₂, L, E, ce, rfl, rfl, hx, hce, hcv, hcl, rfl, hL, rfl, rfl⟩, ?_⟩
    show Steps p.tables e below _ (((({ U with heap := s₂.heap, slotsUsed := s₂.slotsUsed } : State).setVm s₂.vm).setTop g).pushFrame (.throwing q))
    rw [← hs₂]
    exact hsteps
end
variable {p : Program} {l : Launch} {e : Env} {R : Room} {s : State} {m : MethodId} {args : Array Value} {below : List Frame} {meth : Method} {c : Code} {T : State} {H : Heap} {locs : List Loc} {cells slots : Nat}
theorem vx_callVX (X : Stand p l e R s m args below meth c T locs cells slots) (hexec : p.tables.exec = Jvm.exec) {own C : String} {index : Nat} {y : MethodName} {bytes : ByteArray} {maxL : Nat} {ret : Option FieldType} {hh : List (Nat × Nat × Nat × Nat)}
    (hown : s.vm.findClass own = some m.cls) (hlink : (Cond.methodLink own index y).before args s = true) (hinst : (Cond.instanceMethod y).before args s = true) (hsel : (Cond.selects C y y).before args s = true)
    (hcode : (Cond.codeWith y bytes maxL ret hh).before args s = true) (hy : y.cls ≠ "java/lang/invoke/MethodHandle" ∧ y.cls ≠ "java/lang/invoke/VarHandle")
    {W9 : Nat} {Pre : Pt → Array Value → Prop} {Post : Pt → Array Value → Option Value → Pt → Prop} {PostX : Pt → Array Value → Addr → Pt → Prop} (hK : vx_Back l R p e below s args y 3 W9 Pre Post PostX)
    {b : Addr} {cellB : Cell} (hcell : T.heap[b]? = some cellB) (hobj : cellB.vm.isStatics = false) (hcls : s.vm.findClass C = some cellB.cls)
    {g : JFrame} (hg : g.method = m) (hsize : g.locals.size = c.maxLocals) {argsL rest : List Value} (hlen : ∀ sig, parseMethodDescriptor y.desc = some sig → argsL.length = sig.parameters.length)
    (hstack : g.stack = argsL.reverse ++ .ref b :: rest) (hW : 2 * g.monitorRoom + (rest.map fun v => v.category).sum ≤ W9) (hdg : decode c.code g.pc = .ok (.invokevirtual index, 3))
    (hpre : ∀ vm₁, s.WarmedH vm₁ → Pre ⟨T.setVm vm₁, locs, cells, slots⟩ (Value.ref b :: argsL).toArray) :
    (∃ (v : Option Value) (vm₁ : Vm) (B : Pt), s.WarmedH vm₁ ∧ Stand p l e R s m args below meth c B.U B.locs B.cells B.slots ∧ Post ⟨T.setVm vm₁, locs, cells, slots⟩ (Value.ref b :: argsL).toArray v B ∧
      ∀ target, Steps p.tables e below (B.U.setTop { g with pc := g.pc + 3, stack := v.toList ++ rest }) target → Steps p.tables e below (T.setTop g) target) ∨
    (∃ (q : Addr) (vm₁ : Vm) (B : Pt), s.WarmedH vm₁ ∧ Stand p l e R s m args below meth c B.U B.locs B.cells B.slots ∧ PostX ⟨T.setVm vm₁, locs, cells, slots⟩ (Value.ref b :: argsL).toArray q B ∧
      Steps p.tables e below (T.setTop g) ((B.U.setTop { g with stack := rest }).pushFrame (.throwing q))) := by
  obtain ⟨mk, methM, hnamed, hmethM, hstM, habM⟩ := Cond.instanceMethod_spec hinst
  obtain ⟨m8, methM', cM, hn8, hmethM', -, -, -, -, -, -, hsigM⟩ := Cond.codeWith_spec hcode
  cases Option.some.inj (hn8.symm.trans hnamed)
  cases hmethM.symm.trans hmethM'
  obtain ⟨c2, r2, m2, q1, q2, q3, q4, kP, hkP, hkPi⟩ := Cond.selects_spec hsel
  cases hcls.symm.trans q1
  cases (State.methodFound?_of_named hnamed hy).symm.trans q2
  cases hnamed.symm.trans q3
  have hselP : selectMethod e.platform s.vm cellB.cls mk = .method mk := by rw [Launch.admits_selectMethod X.admits]; exact q4
  obtain ⟨vm₁, X₁, hstep₁⟩ := X.invokevirtual hexec hown hlink hnamed hmethM hstM hkP hkPi hy (a := b) (cell := cellB) hcell
    (fun z h => by rw [h] at hobj; cases hobj) hselP hmethM habM hkP hkPi (g := g) hg (argsL := argsL) (rest := rest) (hlen _ hsigM) hstack hdg
  rcases hK m meth c ⟨T.setVm vm₁, locs, cells, slots⟩ { g with stack := rest } (.invokevirtual index) mk (Value.ref b :: argsL).toArray X₁ hg hsize hdg hW (X₁.named hnamed) (hpre vm₁ X₁.warmed) with ⟨v, B, X', hpost, hsteps⟩ | ⟨q, B, X', hpost, hsteps⟩
  · exact Or.inl ⟨v, vm₁, B, X₁.warmed, X', hpost, fun target h => hstep₁ _ fun acts => by rw [doInvoke_state]; exact hsteps.trans h⟩
  · exact Or.inr ⟨q, vm₁, B, X₁.warmed, X', hpost, hstep₁ _ fun acts => by rw [doInvoke_state]; exact hsteps⟩
theorem vx_callSX (X : Stand p l e R s m args below meth c T locs cells slots) (hexec : p.tables.exec = Jvm.exec) {own : String} {index : Nat} {y : MethodName} {bytes : ByteArray} {maxL : Nat} {ret : Option FieldType} {hh : List (Nat × Nat × Nat × Nat)}
    (hown : s.vm.findClass own = some m.cls) (hlink : (Cond.methodLink own index y).before args s = true) (hstat : (Cond.static y).before args s = true) (hinit : (Cond.initialized y.cls).before args s = true)
    (hcode : (Cond.codeWith y bytes maxL ret hh).before args s = true) (hy : y.cls ≠ "java/lang/invoke/MethodHandle" ∧ y.cls ≠ "java/lang/invoke/VarHandle")
    {W9 : Nat} {Pre : Pt → Array Value → Prop} {Post : Pt → Array Value → Option Value → Pt → Prop} {PostX : Pt → Array Value → Addr → Pt → Prop} (hK : vx_Back l R p e below s args y 3 W9 Pre Post PostX)
    {g : JFrame} (hg : g.method = m) (hsize : g.locals.size = c.maxLocals) {argsL rest : List Value} (hlen : ∀ sig, parseMethodDescriptor y.desc = some sig → argsL.length = sig.parameters.length)
    (hstack : g.stack = argsL.reverse ++ rest) (hW : 2 * g.monitorRoom + (rest.map fun v => v.category).sum ≤ W9) (hdg : decode c.code g.pc = .ok (.invokestatic index, 3))
    (hpre : ∀ vm₁, s.WarmedH vm₁ → Pre ⟨T.setVm vm₁, locs, cells, slots⟩ argsL.toArray) :
    (∃ (v : Option Value) (vm₁ : Vm) (B : Pt), s.WarmedH vm₁ ∧ Stand p l e R s m args below meth c B.U B.locs B.cells B.slots ∧ Post ⟨T.setVm vm₁, locs, cells, slots⟩ argsL.toArray v B ∧
      ∀ target, Steps p.tables e below (B.U.setTop { g with pc := g.pc + 3, stack := v.toList ++ rest }) target → Steps p.tables e below (T.setTop g) target) ∨
    (∃ (q : Addr) (vm₁ : Vm) (B : Pt), s.WarmedH vm₁ ∧ Stand p l e R s m args below meth c B.U B.locs B.cells B.slots ∧ PostX ⟨T.setVm vm₁, locs, cells, slots⟩ argsL.toArray q B ∧
      Steps p.tables e below (T.setTop g) ((B.U.setTop { g with stack := rest }).pushFrame (.throwing q))) := by
  obtain ⟨mk, methM, cM, hnamed, hmethM, -, -, -, -, -, -, hsigM⟩ := Cond.codeWith_spec hcode
  have hstatic : methM.isStatic = true := Cond.static_spec hnamed hmethM hstat
  obtain ⟨kP, hkP, -⟩ := className_of_methodNamed hnamed
  have hinitP : kP.init = .initialized := Cond.initialized_spec (findClass_of_methodNamed hnamed) hkP hinit
  obtain ⟨vm₁, X₁, hstep₁⟩ := X.invokestatic hexec hown hlink hnamed hmethM hstatic hkP hinitP hy (g := g) hg (argsL := argsL) (rest := rest) (hlen _ hsigM) hstack hdg
  rcases hK m meth c ⟨T.setVm vm₁, locs, cells, slots⟩ { g with stack := rest } (.invokestatic index) mk argsL.toArray X₁ hg hsize hdg hW (X₁.named hnamed) (hpre vm₁ X₁.warmed) with ⟨v, B, X', hpost, hsteps⟩ | ⟨q, B, X', hpost, hsteps⟩
  · exact Or.inl ⟨v, vm₁, B, X₁.warmed, X', hpost, fun target h => hstep₁ _ fun acts => by rw [doInvoke_state]; exact hsteps.trans h⟩
  · exact Or.inr ⟨q, vm₁, B, X₁.warmed, X', hpost, hstep₁ _ fun acts => by rw [doInvoke_state]; exact hsteps⟩
theorem vx_callVW (X : Stand p l e R s m args below meth c T locs cells slots) (hexec : p.tables.exec = Jvm.exec) {own C : String} {index : Nat} {y : MethodName} {bytes : ByteArray} {maxL : Nat} {ret : Option FieldType} {hh : List (Nat × Nat × Nat × Nat)}
    (hown : s.vm.findClass own = some m.cls) (hlink : (Cond.methodLink own index y).before args s = true) (hinst : (Cond.instanceMethod y).before args s = true) (hsel : (Cond.selects C y y).before args s = true)
    (hcode : (Cond.codeWith y bytes maxL ret hh).before args s = true) (hy : y.cls ≠ "java/lang/invoke/MethodHandle" ∧ y.cls ≠ "java/lang/invoke/VarHandle")
    {W9 : Nat} {Pre : Pt → Array Value → Prop} {Post : Pt → Array Value → Option Value → Pt → Prop} (hK : Back l R p e below s args y 3 W9 Pre Post)
    {b : Addr} {cellB : Cell} (hcell : T.heap[b]? = some cellB) (hobj : cellB.vm.isStatics = false) (hcls : s.vm.findClass C = some cellB.cls)
    {g : JFrame} (hg : g.method = m) (hsize : g.locals.size = c.maxLocals) {argsL rest : List Value} (hlen : ∀ sig, parseMethodDescriptor y.desc = some sig → argsL.length = sig.parameters.length)
    (hstack : g.stack = argsL.reverse ++ .ref b :: rest) (hW : 2 * g.monitorRoom + (rest.map fun v => v.category).sum ≤ W9) (hdg : decode c.code g.pc = .ok (.invokevirtual index, 3))
    (hpre : ∀ vm₁, s.WarmedH vm₁ → Pre ⟨T.setVm vm₁, locs, cells, slots⟩ (Value.ref b :: argsL).toArray) :
    ∃ (v : Option Value) (vm₁ : Vm) (B : Pt), s.WarmedH vm₁ ∧ Stand p l e R s m args below meth c B.U B.locs B.cells B.slots ∧ Post ⟨T.setVm vm₁, locs, cells, slots⟩ (Value.ref b :: argsL).toArray v B ∧
      ∀ target, Steps p.tables e below (B.U.setTop { g with pc := g.pc + 3, stack := v.toList ++ rest }) target → Steps p.tables e below (T.setTop g) target := by
  obtain ⟨mk, methM, hnamed, hmethM, hstM, habM⟩ := Cond.instanceMethod_spec hinst
  obtain ⟨m8, methM', cM, hn8, hmethM', -, -, -, -, -, -, hsigM⟩ := Cond.codeWith_spec hcode
  cases Option.some.inj (hn8.symm.trans hnamed)
  cases hmethM.symm.trans hmethM'
  obtain ⟨c2, r2, m2, q1, q2, q3, q4, kP, hkP, hkPi⟩ := Cond.selects_spec hsel
  cases hcls.symm.trans q1
  cases (State.methodFound?_of_named hnamed hy).symm.trans q2
  cases hnamed.symm.trans q3
  have hselP : selectMethod e.platform s.vm cellB.cls mk = .method mk := by rw [Launch.admits_selectMethod X.admits]; exact q4
  obtain ⟨vm₁, X₁, hstep₁⟩ := X.invokevirtual hexec hown hlink hnamed hmethM hstM hkP hkPi hy (a := b) (cell := cellB) hcell
    (fun z h => by rw [h] at hobj; cases hobj) hselP hmethM habM hkP hkPi (g := g) hg (argsL := argsL) (rest := rest) (hlen _ hsigM) hstack hdg
  obtain ⟨v, B, X', hpost, hsteps⟩ := hK m meth c ⟨T.setVm vm₁, locs, cells, slots⟩ { g with stack := rest } (.invokevirtual index) mk (Value.ref b :: argsL).toArray X₁ hg hsize hdg hW (X₁.named hnamed) (hpre vm₁ X₁.warmed)
  exact ⟨v, vm₁, B, X₁.warmed, X', hpost, fun target h => hstep₁ _ fun acts => by rw [doInvoke_state]; exact hsteps.trans h⟩
abbrev vx_CVW (R : Room) (s : State) (args : Array Value) (own C : String) (index : Nat) (y : MethodName) (bytes : ByteArray) (maxL : Nat) (ret : Option FieldType) (hh : List (Nat × Nat × Nat × Nat)) (ws : List Cond) (rm : Room) (mc ms n : Nat) : Prop :=
  (rm.cells = mc ∧ rm.slots = ms ∧ rm.frames + 1 ≤ R.frames ∧ 8 + (maxL + 11) + rm.locals ≤ R.locals ∧ (∀ w ∈ ws, ∀ (a' : Array Value) (U : State), s.WarmedH U.vm → w.before a' U = true) ∧ Cond.codeWith y bytes maxL ret hh ∈ ws) ∧
  (Cond.codeWith y bytes maxL ret hh).before args s = true ∧ (Cond.initialized y.cls).before args s = true ∧ (y.cls ≠ "java/lang/invoke/MethodHandle" ∧ y.cls ≠ "java/lang/invoke/VarHandle") ∧
  (∀ sig, parseMethodDescriptor y.desc = some sig → n = sig.parameters.length) ∧ (Cond.methodLink own index y).before args s = true ∧ (Cond.instanceMethod y).before args s = true ∧ (Cond.selects C y y).before args s = true
theorem vx_cwVW {own C : String} {index maxL mc ms : Nat} {y : MethodName} {bytes : ByteArray} {ret : Option FieldType} {hh : List (Nat × Nat × Nat × Nat)} {Ts ws ws' : List Cond} {rm : Room} (n : Nat) (ht : ∀ w ∈ Ts, w.before args s = true) (hT : GoodIn Ts (wsV own index C y ws)) (hw : ws = Cond.codeWith y bytes maxL ret hh :: ws') (hrc : rm.cells = mc) (hrs : rm.slots = ms)
    (hd : y.cls = C ∧ y.cls ≠ "java/lang/invoke/MethodHandle" ∧ y.cls ≠ "java/lang/invoke/VarHandle" ∧ (parseMethodDescriptor y.desc).map (fun d => d.parameters.length) = some n) (hR : rm.frames + 1 ≤ R.frames ∧ 8 + (maxL + 11) + rm.locals ≤ R.locals) :
    vx_CVW R s args own C index y bytes maxL ret hh ws rm mc ms n := by
  obtain ⟨hC, hd⟩ := hd
  subst hC
  have ok : ∀ w ∈ wsV own index y.cls y ws, w.before args s = true := fun w h => ht w (hT w h).1
  have hG : GoodIn Ts ws := fun w h => hT w (by unfold wsV; exact List.mem_append_right _ h)
  have hc : Cond.codeWith y bytes maxL ret hh ∈ ws := by rw [hw]; exact List.mem_cons_self
  refine ⟨⟨hrc, hrs, hR.1, hR.2, pay_in ht hG, hc⟩, ht _ (hG _ hc).1, ok _ (by simp [wsV]), ⟨hd.1, hd.2.1⟩, fun sig h => ?_, ok _ (by simp [wsV]), ok _ (by simp [wsV]), ok _ (by simp [wsV])⟩
  have h2 := hd.2.2
  rw [h] at h2
  exact (Option.some.inj h2).symm
theorem vx_runVW {y : MethodName} {bytes cc : ByteArray} {maxL nL mc ms n index : Nat} {ret : Option FieldType} {hh : List (Nat × Nat × Nat × Nat)} {ws : List Cond} {rm : Room} {Pc : Array Value → State → Prop} {Qc : Array Value → State → Outcome → State → Prop} {free : Addr → Prop} {Ts : List Cond} {own C : String} {b : Addr} {As rest : List Value} {g : JFrame}
    (S : CallFix p m c cc nL s args Ts own) (hM : Met l y ws rm Pc Qc mc ms free) (cw : vx_CVW R s args own C index y bytes maxL ret hh ws rm mc ms n) (hp : PreV s H C b Pc As)
    (hg : g.method = m) (hn : As.length = n) (hsize : g.locals.size = nL) (hstack : g.stack = As.reverse ++ .ref b :: rest) (hW : 2 * g.monitorRoom + (rest.map fun v => v.category).sum ≤ 8) (hdg : decode cc g.pc = .ok (.invokevirtual index, 3)) (hf : cells + mc ≤ R.cells ∧ slots + ms ≤ R.slots) :
    va_Run p l e R s m args below meth c H locs cells slots mc ms g rest (Qc (Value.ref b :: As).toArray) free := by
  obtain ⟨⟨hrc, hrs, hfr, hlo, hws, hcw⟩, hcode, hini, hy, hlen, hl, hin, hse⟩ := cw
  have hK : Back l R p e below s args y 3 8 (PreOf R mc ms Pc) (PostOf Qc mc ms free) := va_backW (hh := hh) (bytes := bytes) (maxL := maxL) (ret := ret) hM hp.1 hrc hrs hfr hlo hws hcw (fun a' U hW => word_at hW (Or.inl (by first | rfl | simp [Cond.onTables, Cond.keeps, Cond.steady])) hini)
  obtain ⟨hx, hb, hml, ho, -⟩ := S
  obtain ⟨-, ⟨cellB, hcB, hoB, hclB⟩, hPc⟩ := hp
  intro T hT X
  obtain ⟨v, vm₁, ⟨U', l2, c2, s2⟩, hW₁, X', ⟨g', mk, t, L, e1, e2, hq, h1, hL, h2, h3⟩, st⟩ := vx_callVW X hx (C := C) (hh := hh) (bytes := bytes) (maxL := maxL) (ret := ret) ho hl hin hse hcode hy hK (by rw [hT]; exact hcB) hoB hclB hg (hsize.trans hml.symm) (argsL := As) (rest := rest) (fun sig h => hn.trans (hlen sig h)) hstack hW (by rw [hb]; exact hdg)
    (fun vm₁ hW₁ => ⟨hf.1, hf.2, hPc (T.setVm vm₁) hT hW₁⟩)
  dsimp only [Pt.U, Pt.locs, Pt.cells, Pt.slots] at X' e1 e2 h1 h2 h3 st
  subst h1; subst h2; subst h3
  exact ⟨v, (T.setVm vm₁).calling g' mk (Value.ref b :: As).toArray, t, U', L, hT, X', hL, e1, e2, hq, st⟩
section
variable {y : MethodName} {bytes cc : ByteArray} {maxL nL mc ms n index : Nat} {ret : Option FieldType} {ws : List Cond} {rm : Room} {Pc : Array Value → State → Prop} {Qc : Array Value → State → Outcome → State → Prop} {XC : String → State → State → Prop} {free : Addr → Prop} {Ts : List Cond} {own C : String} {b : Addr} {As rest : List Value} {g : JFrame}
theorem vx_runVX {hh : List (Nat × Nat × Nat × Nat)} (S : CallFix p m c cc nL s args Ts own) (hM : vx_Met l y ws rm Pc Qc XC mc ms free) (cw : vx_CVW R s args own C index y bytes maxL ret hh ws rm mc ms n) (hp : PreV s H C b Pc As)
    (hg : g.method = m) (hn : As.length = n) (hsize : g.locals.size = nL) (hstack : g.stack = As.reverse ++ .ref b :: rest) (hW : 2 * g.monitorRoom + (rest.map fun v => v.category).sum ≤ 8) (hdg : decode cc g.pc = .ok (.invokevirtual index, 3)) (hf : cells + mc ≤ R.cells ∧ slots + ms ≤ R.slots) :
    vx_Run p l e R s m args below meth c H locs cells slots mc ms g rest (Qc (Value.ref b :: As).toArray) XC free := by
  obtain ⟨⟨hrc, hrs, hfr, hlo, hws, hcw⟩, hcode, hini, hy, hlen, hl, hin, hse⟩ := cw
  have hK : vx_Back l R p e below s args y 3 8 (PreOf R mc ms Pc) (PostOf Qc mc ms free) (vx_Post XC mc ms free) := vx_backW (hh := hh) (bytes := bytes) (maxL := maxL) (ret := ret) hM hp.1 hrc hrs hfr hlo hws hcw (fun a' U hW => word_at hW (Or.inl (by first | rfl | simp [Cond.onTables, Cond.keeps, Cond.steady])) hini)
  obtain ⟨hx, hb, hml, ho, -⟩ := S
  obtain ⟨-, ⟨cellB, hcB, hoB, hclB⟩, hPc⟩ := hp
  intro T hT X
  rcases vx_callVX X hx (C := C) (hh := hh) (bytes := bytes) (maxL := maxL) (ret := ret) ho hl hin hse hcode hy hK (by rw [hT]; exact hcB) hoB hclB hg (hsize.trans hml.symm) (argsL := As) (rest := rest) (fun sig h => hn.trans (hlen sig h)) hstack hW (by rw [hb]; exact hdg)
    (fun vm₁ hW₁ => ⟨hf.1, hf.2, hPc (T.setVm vm₁) hT hW₁⟩) with ⟨v, vm₁, ⟨U', l2, c2, s2⟩, hW₁, X', ⟨g', mk, t, L, e1, e2, hq, h1, hL, h2, h3⟩, st⟩ | ⟨q, vm₁, ⟨U', l2, c2, s2⟩, hW₁, X', ⟨g', mk, t, L, E, ce, e1, e2, hq, hce, hcv, hcl, h1, hL, h2, h3⟩, st⟩
  · dsimp only [Pt.U, Pt.locs, Pt.cells, Pt.slots] at X' e1 e2 h1 h2 h3 st
    subst h1; subst h2; subst h3
    exact Or.inl ⟨v, (T.setVm vm₁).calling g' mk (Value.ref b :: As).toArray, t, U', L, hT, X', hL, e1, e2, hq, st⟩
  · dsimp only [Pt.U, Pt.locs, Pt.cells, Pt.slots] at X' e1 e2 h1 h2 h3 st hcl
    subst h1; subst h2; subst h3
    exact Or.inr ⟨q, (T.setVm vm₁).calling g' mk (Value.ref b :: As).toArray, t, U', L, E, ce, hT, X', hL, e1, e2, hq, hce, hcv, vx_cls hW₁ hcl, st⟩
theorem vx_runSX {hh : List (Nat × Nat × Nat × Nat)} (S : CallFix p m c cc nL s args Ts own) (hM : vx_Met l y ws rm Pc Qc XC mc ms free) (cw : vx_CSW R s args own index y bytes maxL ret hh ws rm mc ms n) (hp : PreS s H Pc As)
    (hg : g.method = m) (hn : As.length = n) (hsize : g.locals.size = nL) (hstack : g.stack = As.reverse ++ rest) (hW : 2 * g.monitorRoom + (rest.map fun v => v.category).sum ≤ 8) (hdg : decode cc g.pc = .ok (.invokestatic index, 3)) (hf : cells + mc ≤ R.cells ∧ slots + ms ≤ R.slots) :
    vx_Run p l e R s m args below meth c H locs cells slots mc ms g rest (Qc As.toArray) XC free := by
  obtain ⟨⟨hrc, hrs, hfr, hlo, hws, hcw⟩, hcode, hini, hy, hlen, hl, hstt⟩ := cw
  have hK : vx_Back l R p e below s args y 3 8 (PreOf R mc ms Pc) (PostOf Qc mc ms free) (vx_Post XC mc ms free) := vx_backW (hh := hh) (bytes := bytes) (maxL := maxL) (ret := ret) hM hp.1 hrc hrs hfr hlo hws hcw (fun a' U hW => word_at hW (Or.inl (by first | rfl | simp [Cond.onTables, Cond.keeps, Cond.steady])) hini)
  obtain ⟨hx, hb, hml, ho, -⟩ := S
  intro T hT X
  rcases vx_callSX X hx (hh := hh) (bytes := bytes) (maxL := maxL) (ret := ret) ho hl hstt hini hcode hy hK hg (hsize.trans hml.symm) (argsL := As) (rest := rest) (fun sig h => hn.trans (hlen sig h)) hstack hW (by rw [hb]; exact hdg)
    (fun vm₁ hW₁ => ⟨hf.1, hf.2, hp.2 (T.setVm vm₁) hT hW₁⟩) with ⟨v, vm₁, ⟨U', l2, c2, s2⟩, hW₁, X', ⟨g', mk, t, L, e1, e2, hq, h1, hL, h2, h3⟩, st⟩ | ⟨q, vm₁, ⟨U', l2, c2, s2⟩, hW₁, X', ⟨g', mk, t, L, E, ce, e1, e2, hq, hce, hcv, hcl, h1, hL, h2, h3⟩, st⟩
  · dsimp only [Pt.U, Pt.locs, Pt.cells, Pt.slots] at X' e1 e2 h1 h2 h3 st
    subst h1; subst h2; subst h3
    exact Or.inl ⟨v, (T.setVm vm₁).calling g' mk As.toArray, t, U', L, hT, X', hL, e1, e2, hq, st⟩
  · dsimp only [Pt.U, Pt.locs, Pt.cells, Pt.slots] at X' e1 e2 h1 h2 h3 st hcl
    subst h1; subst h2; subst h3
    exact Or.inr ⟨q, (T.setVm vm₁).calling g' mk As.toArray, t, U', L, E, ce, hT, X', hL, e1, e2, hq, hce, hcv, vx_cls hW₁ hcl, st⟩
end
end VXH
theorem vx_ofWH {l : Launch} {y : MethodName} {ws ws' : List Cond} {rm : Room} {Pc : Array Value → State → Prop} {Qc : Array Value → State → Outcome → State → Prop} {XC : String → State → State → Prop} {mc ms : Nat} {free : Addr → Prop} {cc : ByteArray} {maxL : Nat} {ret : Option FieldType} {hh : List (Nat × Nat × Nat × Nat)}
    (hy : plainName y.cls = true) (hw : ws = Cond.codeWith y cc maxL ret hh :: ws')
    (body : ∀ p e s m args below meth c s₁, BodyLoose p l y (headSpec ws rm) cc maxL ret e s m args below meth c s₁ → c.maxLocals = maxL → Pc args s →
      W p l e (headSpec ws rm).room s m args below meth c s.heap [] 0 0 (vx_MQ below Qc XC args s mc ms free) (entryFrame m args maxL)) : vx_Met l y ws rm Pc Qc XC mc ms free := by
  refine MetFree.of_bodyS (code := cc) (maxLocals := maxL) (ret := ret) hy ?_ ?_
  · intro args s m h hn
    obtain ⟨m9, meth, c, hn9, h1, h2, h3, h4, -, h5, h6, -⟩ := Cond.codeWith_spec (atoms_spec (ws := ws) h _ (by rw [hw]; exact List.mem_cons_self))
    cases hn.symm.trans hn9
    exact ⟨meth, c, h1, h2, h3, h4, h5, h6⟩
  · intro p e s m args below meth c s₁ B hml hP _
    have hh0 : s₁.heap = s.heap := by rw [B.state]; rfl
    obtain ⟨t, a1, o, b1, b2, b3⟩ := body p e s m args below meth c s₁ B hml hP s₁ hh0 (Stand.of_body B)
    exact ⟨t, o, a1, b1, b2, b3⟩
/-! ===== END ===== -/
end
section
/-! ===== BEGIN printed: names, fields, word lists, decode rows ===== -/
def RX0 : String := "MatchCompile$Cases"
def TX0 : u_T := fun k => match k with
  | 0 => ("MatchCompile$Cases", "kinds", "LMatchCompile$Kinds;", true)
  | 1 => ("MatchCompile$Cases", "tree", "LMatchCompile$Tree;", true)
  | 2 => ("MatchCompile$Cases", "signs", "[I", true)
  | 3 => ("MatchCompile$Cases", "count", "I", false)
  | _ => ("MatchCompile$Cases", "shown", "I", false)
def tyX0 : Nat → FieldType := fun k => match k with
  | 0 => .object "MatchCompile$Kinds"
  | 1 => .object "MatchCompile$Tree"
  | 2 => .array .int
  | 3 => .int
  | _ => .int
abbrev wsX00 : List Cond := u_ws RX0 TX0 5
theorem nmX0 : ∀ a, a < 5 → ∀ b, b < 5 → a ≠ b → (TX0 a).2.1 ≠ (TX0 b).2.1 := by decide +kernel
theorem tyX0_ok : ∀ k, k < 5 → parseFieldDescriptor (TX0 k).2.2.1 = some (tyX0 k) := by decide +kernel
abbrev cX0_init : ByteArray := prog_2_method_1_code
def yX0_init : MethodName := ⟨RX0, "<init>", "(LMatchCompile$Kinds;LMatchCompile$Tree;)V"⟩
abbrev cX0_forget : ByteArray := prog_2_method_2_code
def yX0_forget : MethodName := ⟨RX0, "forget", "()V"⟩
abbrev cX0_shown : ByteArray := prog_2_method_3_code
def yX0_shown : MethodName := ⟨RX0, "shown", "()I"⟩
abbrev cX0_show : ByteArray := prog_2_method_4_code
def yX0_show : MethodName := ⟨RX0, "show", "(II)V"⟩
abbrev cX0_signAt : ByteArray := prog_2_method_5_code
def yX0_signAt : MethodName := ⟨RX0, "signAt", "(I)I"⟩
abbrev cX0_putFound : ByteArray := prog_2_method_6_code
def yX0_putFound : MethodName := ⟨RX0, "putFound", "(II)V"⟩
abbrev cX0_anyOf : ByteArray := prog_2_method_7_code
def yX0_anyOf : MethodName := ⟨RX0, "anyOf", "(I)I"⟩
def RX1 : String := "MatchCompile$Hand"
def TX1 : u_T := fun k => match k with
  | 0 => ("MatchCompile$Hand", "kinds", "LMatchCompile$Kinds;", true)
  | 1 => ("MatchCompile$Hand", "signs", "[I", true)
  | 2 => ("MatchCompile$Hand", "ends", "[I", true)
  | 3 => ("MatchCompile$Hand", "asked", "[I", true)
  | 4 => ("MatchCompile$Hand", "count", "I", false)
  | _ => ("MatchCompile$Hand", "askedCount", "I", false)
def tyX1 : Nat → FieldType := fun k => match k with
  | 0 => .object "MatchCompile$Kinds"
  | 1 => .array .int
  | 2 => .array .int
  | 3 => .array .int
  | 4 => .int
  | _ => .int
abbrev wsX10 : List Cond := u_ws RX1 TX1 6
theorem nmX1 : ∀ a, a < 6 → ∀ b, b < 6 → a ≠ b → (TX1 a).2.1 ≠ (TX1 b).2.1 := by decide +kernel
theorem tyX1_ok : ∀ k, k < 6 → parseFieldDescriptor (TX1 k).2.2.1 = some (tyX1 k) := by decide +kernel
abbrev cX1_init : ByteArray := prog_3_method_1_code
def yX1_init : MethodName := ⟨RX1, "<init>", "(ILMatchCompile$Kinds;)V"⟩
abbrev cX1_begin : ByteArray := prog_3_method_2_code
def yX1_begin : MethodName := ⟨RX1, "begin", "([II)V"⟩
abbrev cX1_count : ByteArray := prog_3_method_3_code
def yX1_count : MethodName := ⟨RX1, "count", "()I"⟩
abbrev cX1_isFull : ByteArray := prog_3_method_4_code
def yX1_isFull : MethodName := ⟨RX1, "isFull", "()Z"⟩
abbrev cX1_asks : ByteArray := prog_3_method_5_code
def yX1_asks : MethodName := ⟨RX1, "asks", "()Z"⟩
abbrev cX1_takesMaker : ByteArray := prog_3_method_6_code
def yX1_takesMaker : MethodName := ⟨RX1, "takesMaker", "(I)Z"⟩
abbrev cX1_put : ByteArray := prog_3_method_7_code
def yX1_put : MethodName := ⟨RX1, "put", "(I)I"⟩
abbrev cX1_signAt : ByteArray := prog_3_method_8_code
def yX1_signAt : MethodName := ⟨RX1, "signAt", "(I)I"⟩
abbrev cX1_endAt : ByteArray := prog_3_method_9_code
def yX1_endAt : MethodName := ⟨RX1, "endAt", "(I)I"⟩
abbrev cX1_findEnds : ByteArray := prog_3_method_10_code
def yX1_findEnds : MethodName := ⟨RX1, "findEnds", "()V"⟩
abbrev cX1_nextAsked : ByteArray := prog_3_method_11_code
def yX1_nextAsked : MethodName := ⟨RX1, "nextAsked", "()I"⟩
abbrev cX1_ask : ByteArray := prog_3_method_12_code
def yX1_ask : MethodName := ⟨RX1, "ask", "(I)V"⟩
def RX2 : String := "MatchCompile$Kinds"
def TX2 : u_T := fun k => match k with
  | 0 => ("MatchCompile$Kinds", "typeCount", "I", false)
  | 1 => ("MatchCompile$Kinds", "makerCount", "I", false)
  | 2 => ("MatchCompile$Kinds", "makersOfType", "[I", true)
  | 3 => ("MatchCompile$Kinds", "valued", "[Z", true)
  | 4 => ("MatchCompile$Kinds", "typeOfMaker", "[I", true)
  | 5 => ("MatchCompile$Kinds", "fieldCounts", "[I", true)
  | _ => ("MatchCompile$Kinds", "fieldTypes", "[I", true)
def tyX2 : Nat → FieldType := fun k => match k with
  | 0 => .int
  | 1 => .int
  | 2 => .array .int
  | 3 => .array .boolean
  | 4 => .array .int
  | 5 => .array .int
  | _ => .array .int
abbrev wsX20 : List Cond := u_ws RX2 TX2 7
theorem nmX2 : ∀ a, a < 7 → ∀ b, b < 7 → a ≠ b → (TX2 a).2.1 ≠ (TX2 b).2.1 := by decide +kernel
theorem tyX2_ok : ∀ k, k < 7 → parseFieldDescriptor (TX2 k).2.2.1 = some (tyX2 k) := by decide +kernel
abbrev cX2_init : ByteArray := prog_4_method_1_code
def yX2_init : MethodName := ⟨RX2, "<init>", "()V"⟩
abbrev cX2_typeCount : ByteArray := prog_4_method_2_code
def yX2_typeCount : MethodName := ⟨RX2, "typeCount", "()I"⟩
abbrev cX2_makerCount : ByteArray := prog_4_method_3_code
def yX2_makerCount : MethodName := ⟨RX2, "makerCount", "()I"⟩
abbrev cX2_hasType : ByteArray := prog_4_method_4_code
def yX2_hasType : MethodName := ⟨RX2, "hasType", "(I)Z"⟩
abbrev cX2_hasMaker : ByteArray := prog_4_method_5_code
def yX2_hasMaker : MethodName := ⟨RX2, "hasMaker", "(I)Z"⟩
abbrev cX2_hasRoomForMaker : ByteArray := prog_4_method_6_code
def yX2_hasRoomForMaker : MethodName := ⟨RX2, "hasRoomForMaker", "(I)Z"⟩
abbrev cX2_hasValue : ByteArray := prog_4_method_7_code
def yX2_hasValue : MethodName := ⟨RX2, "hasValue", "(I)Z"⟩
abbrev cX2_typeOf : ByteArray := prog_4_method_8_code
def yX2_typeOf : MethodName := ⟨RX2, "typeOf", "(I)I"⟩
abbrev cX2_fieldCount : ByteArray := prog_4_method_9_code
def yX2_fieldCount : MethodName := ⟨RX2, "fieldCount", "(I)I"⟩
abbrev cX2_fieldType : ByteArray := prog_4_method_10_code
def yX2_fieldType : MethodName := ⟨RX2, "fieldType", "(II)I"⟩
abbrev cX2_isDead : ByteArray := prog_4_method_11_code
def yX2_isDead : MethodName := ⟨RX2, "isDead", "(I)Z"⟩
abbrev cX2_addType : ByteArray := prog_4_method_12_code
def yX2_addType : MethodName := ⟨RX2, "addType", "()I"⟩
abbrev cX2_addMaker : ByteArray := prog_4_method_13_code
def yX2_addMaker : MethodName := ⟨RX2, "addMaker", "(IIIII)I"⟩
abbrev cX2_findValued : ByteArray := prog_4_method_14_code
def yX2_findValued : MethodName := ⟨RX2, "findValued", "()V"⟩
def RX3 : String := "MatchCompile$Rows"
def TX3 : u_T := fun k => match k with
  | 0 => ("MatchCompile$Rows", "signs", "[I", true)
  | 1 => ("MatchCompile$Rows", "ends", "[I", true)
  | _ => ("MatchCompile$Rows", "count", "I", false)
def tyX3 : Nat → FieldType := fun k => match k with
  | 0 => .array .int
  | 1 => .array .int
  | _ => .int
abbrev wsX30 : List Cond := u_ws RX3 TX3 3
theorem nmX3 : ∀ a, a < 3 → ∀ b, b < 3 → a ≠ b → (TX3 a).2.1 ≠ (TX3 b).2.1 := by decide +kernel
theorem tyX3_ok : ∀ k, k < 3 → parseFieldDescriptor (TX3 k).2.2.1 = some (tyX3 k) := by decide +kernel
abbrev cX3_init : ByteArray := prog_5_method_1_code
def yX3_init : MethodName := ⟨RX3, "<init>", "()V"⟩
abbrev cX3_clear : ByteArray := prog_5_method_2_code
def yX3_clear : MethodName := ⟨RX3, "clear", "()V"⟩
abbrev cX3_count : ByteArray := prog_5_method_3_code
def yX3_count : MethodName := ⟨RX3, "count", "()I"⟩
abbrev cX3_add : ByteArray := prog_5_method_4_code
def yX3_add : MethodName := ⟨RX3, "add", "(LMatchCompile$Hand;)I"⟩
abbrev cX3_startOf : ByteArray := prog_5_method_5_code
def yX3_startOf : MethodName := ⟨RX3, "startOf", "(I)I"⟩
abbrev cX3_signAt : ByteArray := prog_5_method_6_code
def yX3_signAt : MethodName := ⟨RX3, "signAt", "(I)I"⟩
abbrev cX3_endAt : ByteArray := prog_5_method_7_code
def yX3_endAt : MethodName := ⟨RX3, "endAt", "(I)I"⟩
def RX4 : String := "MatchCompile$Seats"
def TX4 : u_T := fun k => match k with
  | 0 => ("MatchCompile$Seats", "kinds", "LMatchCompile$Kinds;", true)
  | 1 => ("MatchCompile$Seats", "values", "LMatchCompile$Hand;", true)
  | 2 => ("MatchCompile$Seats", "seats", "[I", true)
  | _ => ("MatchCompile$Seats", "count", "I", false)
def tyX4 : Nat → FieldType := fun k => match k with
  | 0 => .object "MatchCompile$Kinds"
  | 1 => .object "MatchCompile$Hand"
  | 2 => .array .int
  | _ => .int
abbrev wsX40 : List Cond := u_ws RX4 TX4 4
theorem nmX4 : ∀ a, a < 4 → ∀ b, b < 4 → a ≠ b → (TX4 a).2.1 ≠ (TX4 b).2.1 := by decide +kernel
theorem tyX4_ok : ∀ k, k < 4 → parseFieldDescriptor (TX4 k).2.2.1 = some (tyX4 k) := by decide +kernel
abbrev cX4_init : ByteArray := prog_6_method_1_code
def yX4_init : MethodName := ⟨RX4, "<init>", "(LMatchCompile$Kinds;LMatchCompile$Hand;)V"⟩
abbrev cX4_begin : ByteArray := prog_6_method_2_code
def yX4_begin : MethodName := ⟨RX4, "begin", "(I)V"⟩
abbrev cX4_makerAt : ByteArray := prog_6_method_3_code
def yX4_makerAt : MethodName := ⟨RX4, "makerAt", "(I)I"⟩
abbrev cX4_openUp : ByteArray := prog_6_method_4_code
def yX4_openUp : MethodName := ⟨RX4, "openUp", "(II)V"⟩
abbrev cX4_makeGap : ByteArray := prog_6_method_5_code
def yX4_makeGap : MethodName := ⟨RX4, "makeGap", "(II)V"⟩
abbrev cX4_isSeat : ByteArray := prog_6_method_6_code
def yX4_isSeat : MethodName := ⟨RX4, "isSeat", "(I)Z"⟩
def RX5 : String := "MatchCompile$Tables"
def TX5 : u_T := fun k => match k with
  | 0 => ("MatchCompile$Tables", "kinds", "LMatchCompile$Kinds;", true)
  | 1 => ("MatchCompile$Tables", "rows", "LMatchCompile$Rows;", true)
  | 2 => ("MatchCompile$Tables", "room", "[I", false)
  | 3 => ("MatchCompile$Tables", "top", "I", false)
  | 4 => ("MatchCompile$Tables", "places", "I", false)
  | _ => ("MatchCompile$Tables", "lines", "I", false)
def tyX5 : Nat → FieldType := fun k => match k with
  | 0 => .object "MatchCompile$Kinds"
  | 1 => .object "MatchCompile$Rows"
  | 2 => .array .int
  | 3 => .int
  | 4 => .int
  | _ => .int
abbrev wsX50 : List Cond := u_ws RX5 TX5 6
theorem nmX5 : ∀ a, a < 6 → ∀ b, b < 6 → a ≠ b → (TX5 a).2.1 ≠ (TX5 b).2.1 := by decide +kernel
theorem tyX5_ok : ∀ k, k < 6 → parseFieldDescriptor (TX5 k).2.2.1 = some (tyX5 k) := by decide +kernel
abbrev cX5_init : ByteArray := prog_7_method_1_code
def yX5_init : MethodName := ⟨RX5, "<init>", "(LMatchCompile$Kinds;LMatchCompile$Rows;)V"⟩
abbrev cX5_begin : ByteArray := prog_7_method_2_code
def yX5_begin : MethodName := ⟨RX5, "begin", "([II)V"⟩
abbrev cX5_hasOpen : ByteArray := prog_7_method_3_code
def yX5_hasOpen : MethodName := ⟨RX5, "hasOpen", "()Z"⟩
abbrev cX5_drop : ByteArray := prog_7_method_4_code
def yX5_drop : MethodName := ⟨RX5, "drop", "()V"⟩
abbrev cX5_placeCount : ByteArray := prog_7_method_5_code
def yX5_placeCount : MethodName := ⟨RX5, "placeCount", "()I"⟩
abbrev cX5_lineCount : ByteArray := prog_7_method_6_code
def yX5_lineCount : MethodName := ⟨RX5, "lineCount", "()I"⟩
abbrev cX5_openNode : ByteArray := prog_7_method_7_code
def yX5_openNode : MethodName := ⟨RX5, "openNode", "()I"⟩
abbrev cX5_typeAt : ByteArray := prog_7_method_8_code
def yX5_typeAt : MethodName := ⟨RX5, "typeAt", "(I)I"⟩
abbrev cX5_firstRow : ByteArray := prog_7_method_9_code
def yX5_firstRow : MethodName := ⟨RX5, "firstRow", "()I"⟩
abbrev cX5_splitEithers : ByteArray := prog_7_method_10_code
def yX5_splitEithers : MethodName := ⟨RX5, "splitEithers", "()Z"⟩
abbrev cX5_firstTested : ByteArray := prog_7_method_11_code
def yX5_firstTested : MethodName := ⟨RX5, "firstTested", "()I"⟩
abbrev cX5_keepFor : ByteArray := prog_7_method_12_code
def yX5_keepFor : MethodName := ⟨RX5, "keepFor", "(II)V"⟩
abbrev cX5_nextBranch : ByteArray := prog_7_method_13_code
def yX5_nextBranch : MethodName := ⟨RX5, "nextBranch", "()I"⟩
abbrev cX5_openBranch : ByteArray := prog_7_method_14_code
def yX5_openBranch : MethodName := ⟨RX5, "openBranch", "(II)Z"⟩
abbrev cX5_pile : ByteArray := prog_7_method_15_code
def yX5_pile : MethodName := ⟨RX5, "pile", "(II)V"⟩
abbrev cX5_addLine : ByteArray := prog_7_method_16_code
def yX5_addLine : MethodName := ⟨RX5, "addLine", "(I)I"⟩
abbrev cX5_splitAt : ByteArray := prog_7_method_17_code
def yX5_splitAt : MethodName := ⟨RX5, "splitAt", "(II)Z"⟩
abbrev cX5_isEither : ByteArray := prog_7_method_18_code
def yX5_isEither : MethodName := ⟨RX5, "isEither", "(I)Z"⟩
abbrev cX5_doubleLine : ByteArray := prog_7_method_19_code
def yX5_doubleLine : MethodName := ⟨RX5, "doubleLine", "(I)V"⟩
abbrev cX5_copyAround : ByteArray := prog_7_method_20_code
def yX5_copyAround : MethodName := ⟨RX5, "copyAround", "(IIIII)V"⟩
abbrev cX5_putFields : ByteArray := prog_7_method_21_code
def yX5_putFields : MethodName := ⟨RX5, "putFields", "(III)V"⟩
abbrev cX5_cellOf : ByteArray := prog_7_method_22_code
def yX5_cellOf : MethodName := ⟨RX5, "cellOf", "(I)I"⟩
abbrev cX5_lineAt : ByteArray := prog_7_method_23_code
def yX5_lineAt : MethodName := ⟨RX5, "lineAt", "(I)I"⟩
abbrev cX5_head : ByteArray := prog_7_method_24_code
def yX5_head : MethodName := ⟨RX5, "head", "(I)I"⟩
abbrev cX5_get : ByteArray := prog_7_method_25_code
def yX5_get : MethodName := ⟨RX5, "get", "(I)I"⟩
abbrev cX5_set : ByteArray := prog_7_method_26_code
def yX5_set : MethodName := ⟨RX5, "set", "(II)V"⟩
abbrev cX5_copy : ByteArray := prog_7_method_27_code
def yX5_copy : MethodName := ⟨RX5, "copy", "(III)V"⟩
abbrev cX5_reserve : ByteArray := prog_7_method_28_code
def yX5_reserve : MethodName := ⟨RX5, "reserve", "(I)V"⟩
def RX6 : String := "MatchCompile$Tree"
def TX6 : u_T := fun k => match k with
  | 0 => ("MatchCompile$Tree", "cells", "[I", true)
  | 1 => ("MatchCompile$Tree", "count", "I", false)
  | 2 => ("MatchCompile$Tree", "failCount", "I", false)
  | _ => ("MatchCompile$Tree", "standing", "Z", false)
def tyX6 : Nat → FieldType := fun k => match k with
  | 0 => .array .int
  | 1 => .int
  | 2 => .int
  | _ => .boolean
abbrev wsX60 : List Cond := u_ws RX6 TX6 4
theorem nmX6 : ∀ a, a < 4 → ∀ b, b < 4 → a ≠ b → (TX6 a).2.1 ≠ (TX6 b).2.1 := by decide +kernel
theorem tyX6_ok : ∀ k, k < 4 → parseFieldDescriptor (TX6 k).2.2.1 = some (tyX6 k) := by decide +kernel
abbrev cX6_init : ByteArray := prog_8_method_1_code
def yX6_init : MethodName := ⟨RX6, "<init>", "()V"⟩
abbrev cX6_fell : ByteArray := prog_8_method_2_code
def yX6_fell : MethodName := ⟨RX6, "fell", "()V"⟩
abbrev cX6_stand : ByteArray := prog_8_method_3_code
def yX6_stand : MethodName := ⟨RX6, "stand", "()V"⟩
abbrev cX6_stands : ByteArray := prog_8_method_4_code
def yX6_stands : MethodName := ⟨RX6, "stands", "()Z"⟩
abbrev cX6_count : ByteArray := prog_8_method_5_code
def yX6_count : MethodName := ⟨RX6, "count", "()I"⟩
abbrev cX6_failCount : ByteArray := prog_8_method_6_code
def yX6_failCount : MethodName := ⟨RX6, "failCount", "()I"⟩
abbrev cX6_add : ByteArray := prog_8_method_7_code
def yX6_add : MethodName := ⟨RX6, "add", "(II)I"⟩
abbrev cX6_makeFail : ByteArray := prog_8_method_8_code
def yX6_makeFail : MethodName := ⟨RX6, "makeFail", "(I)V"⟩
abbrev cX6_makeLeaf : ByteArray := prog_8_method_9_code
def yX6_makeLeaf : MethodName := ⟨RX6, "makeLeaf", "(II)V"⟩
abbrev cX6_makeTest : ByteArray := prog_8_method_10_code
def yX6_makeTest : MethodName := ⟨RX6, "makeTest", "(IIII)V"⟩
abbrev cX6_kindOf : ByteArray := prog_8_method_11_code
def yX6_kindOf : MethodName := ⟨RX6, "kindOf", "(I)I"⟩
abbrev cX6_testedPlace : ByteArray := prog_8_method_12_code
def yX6_testedPlace : MethodName := ⟨RX6, "testedPlace", "(I)I"⟩
abbrev cX6_makerOf : ByteArray := prog_8_method_13_code
def yX6_makerOf : MethodName := ⟨RX6, "makerOf", "(I)I"⟩
abbrev cX6_tell : ByteArray := prog_8_method_14_code
def yX6_tell : MethodName := ⟨RX6, "tell", "(II)I"⟩
abbrev cX6_branchOf : ByteArray := prog_8_method_15_code
def yX6_branchOf : MethodName := ⟨RX6, "branchOf", "(II)I"⟩
abbrev cX6_branchTowards : ByteArray := prog_8_method_16_code
def yX6_branchTowards : MethodName := ⟨RX6, "branchTowards", "(II)I"⟩
abbrev cX6_failNode : ByteArray := prog_8_method_17_code
def yX6_failNode : MethodName := ⟨RX6, "failNode", "(I)I"⟩
abbrev cX6_hasLeafOf : ByteArray := prog_8_method_18_code
def yX6_hasLeafOf : MethodName := ⟨RX6, "hasLeafOf", "(I)Z"⟩
abbrev cX6_branchAt : ByteArray := prog_8_method_19_code
def yX6_branchAt : MethodName := ⟨RX6, "branchAt", "(II)I"⟩
abbrev cX6_hang : ByteArray := prog_8_method_20_code
def yX6_hang : MethodName := ⟨RX6, "hang", "(II)V"⟩
abbrev cX6_get : ByteArray := prog_8_method_21_code
def yX6_get : MethodName := ⟨RX6, "get", "(II)I"⟩
abbrev cX6_set : ByteArray := prog_8_method_22_code
def yX6_set : MethodName := ⟨RX6, "set", "(III)V"⟩
def RX7 : String := "MatchCompile"
def TX7 : u_T := fun k => match k with
  | 0 => ("MatchCompile", "kinds", "LMatchCompile$Kinds;", true)
  | 1 => ("MatchCompile", "columns", "[I", true)
  | 2 => ("MatchCompile", "columnCount", "I", false)
  | 3 => ("MatchCompile", "rows", "LMatchCompile$Rows;", true)
  | 4 => ("MatchCompile", "rowInHand", "LMatchCompile$Hand;", true)
  | 5 => ("MatchCompile", "valuesInHand", "LMatchCompile$Hand;", true)
  | 6 => ("MatchCompile", "tree", "LMatchCompile$Tree;", true)
  | 7 => ("MatchCompile", "tables", "LMatchCompile$Tables;", true)
  | 8 => ("MatchCompile", "cases", "LMatchCompile$Cases;", true)
  | _ => ("MatchCompile", "seats", "LMatchCompile$Seats;", true)
def tyX7 : Nat → FieldType := fun k => match k with
  | 0 => .object "MatchCompile$Kinds"
  | 1 => .array .int
  | 2 => .int
  | 3 => .object "MatchCompile$Rows"
  | 4 => .object "MatchCompile$Hand"
  | 5 => .object "MatchCompile$Hand"
  | 6 => .object "MatchCompile$Tree"
  | 7 => .object "MatchCompile$Tables"
  | 8 => .object "MatchCompile$Cases"
  | _ => .object "MatchCompile$Seats"
abbrev wsX70 : List Cond := u_ws RX7 TX7 10
theorem nmX7 : ∀ a, a < 10 → ∀ b, b < 10 → a ≠ b → (TX7 a).2.1 ≠ (TX7 b).2.1 := by decide +kernel
theorem tyX7_ok : ∀ k, k < 10 → parseFieldDescriptor (TX7 k).2.2.1 = some (tyX7 k) := by decide +kernel
abbrev cX7_init : ByteArray := prog_1_method_1_code
def yX7_init : MethodName := ⟨RX7, "<init>", "()V"⟩
abbrev cX7_type : ByteArray := prog_1_method_2_code
def yX7_type : MethodName := ⟨RX7, "type", "()I"⟩
abbrev cX7_maker : ByteArray := prog_1_method_3_code
def yX7_maker : MethodName := ⟨RX7, "maker", "(IIII)I"⟩
abbrev cX7_isEmpty : ByteArray := prog_1_method_4_code
def yX7_isEmpty : MethodName := ⟨RX7, "isEmpty", "(I)Z"⟩
abbrev cX7_match : ByteArray := prog_1_method_5_code
def yX7_match : MethodName := ⟨RX7, "match", "(III)V"⟩
abbrev cX7_sign : ByteArray := prog_1_method_6_code
def yX7_sign : MethodName := ⟨RX7, "sign", "(I)I"⟩
abbrev cX7_row : ByteArray := prog_1_method_7_code
def yX7_row : MethodName := ⟨RX7, "row", "()I"⟩
abbrev cX7_compile : ByteArray := prog_1_method_8_code
def yX7_compile : MethodName := ⟨RX7, "compile", "()I"⟩
abbrev cX7_node : ByteArray := prog_1_method_9_code
def yX7_node : MethodName := ⟨RX7, "node", "(II)I"⟩
abbrev cX7_missing : ByteArray := prog_1_method_10_code
def yX7_missing : MethodName := ⟨RX7, "missing", "()I"⟩
abbrev cX7_missingSign : ByteArray := prog_1_method_11_code
def yX7_missingSign : MethodName := ⟨RX7, "missingSign", "(II)I"⟩
abbrev cX7_isIdle : ByteArray := prog_1_method_12_code
def yX7_isIdle : MethodName := ⟨RX7, "isIdle", "(I)Z"⟩
abbrev cX7_give : ByteArray := prog_1_method_13_code
def yX7_give : MethodName := ⟨RX7, "give", "(I)I"⟩
abbrev cX7_answer : ByteArray := prog_1_method_14_code
def yX7_answer : MethodName := ⟨RX7, "answer", "()I"⟩
abbrev cX7_tests : ByteArray := prog_1_method_15_code
def yX7_tests : MethodName := ⟨RX7, "tests", "()I"⟩
abbrev cX7_empty : ByteArray := prog_1_method_16_code
def yX7_empty : MethodName := ⟨RX7, "empty", "()V"⟩
abbrev cX7_about : ByteArray := prog_1_method_17_code
def yX7_about : MethodName := ⟨RX7, "about", "(I)I"⟩
abbrev cX7_countTypes : ByteArray := prog_1_method_18_code
def yX7_countTypes : MethodName := ⟨RX7, "countTypes", "(III)I"⟩
abbrev cX7_beginMatch : ByteArray := prog_1_method_19_code
def yX7_beginMatch : MethodName := ⟨RX7, "beginMatch", "(IIII)V"⟩
abbrev cX7_refuseWithoutMatch : ByteArray := prog_1_method_20_code
def yX7_refuseWithoutMatch : MethodName := ⟨RX7, "refuseWithoutMatch", "()V"⟩
abbrev cX7_refuseWithoutWholeValues : ByteArray := prog_1_method_21_code
def yX7_refuseWithoutWholeValues : MethodName := ⟨RX7, "refuseWithoutWholeValues", "()V"⟩
abbrev cX7_rowTakesValues : ByteArray := prog_1_method_22_code
def yX7_rowTakesValues : MethodName := ⟨RX7, "rowTakesValues", "(I)Z"⟩
abbrev cX7_takes : ByteArray := prog_1_method_23_code
def yX7_takes : MethodName := ⟨RX7, "takes", "(III)Z"⟩
abbrev cX7_countTests : ByteArray := prog_1_method_24_code
def yX7_countTests : MethodName := ⟨RX7, "countTests", "()I"⟩
abbrev cX7_growTree : ByteArray := prog_1_method_25_code
def yX7_growTree : MethodName := ⟨RX7, "growTree", "()Z"⟩
abbrev cX7_addNode : ByteArray := prog_1_method_26_code
def yX7_addNode : MethodName := ⟨RX7, "addNode", "(II)Z"⟩
def RX8 : String := "MatchCompileModel"
def TX8 : u_T := fun k => match k with
  | 0 => ("MatchCompileModel", "thrown", "I", false)
  | 1 => ("MatchCompileModel", "types", "I", false)
  | 2 => ("MatchCompileModel", "makers", "I", false)
  | 3 => ("MatchCompileModel", "typeOf", "[I", true)
  | 4 => ("MatchCompileModel", "field", "[I", true)
  | 5 => ("MatchCompileModel", "has", "[Z", true)
  | 6 => ("MatchCompileModel", "columns", "I", false)
  | 7 => ("MatchCompileModel", "rows", "I", false)
  | 8 => ("MatchCompileModel", "signs", "I", false)
  | 9 => ("MatchCompileModel", "values", "I", false)
  | 10 => ("MatchCompileModel", "column", "[I", true)
  | 11 => ("MatchCompileModel", "rowSign", "[I", true)
  | 12 => ("MatchCompileModel", "rowSize", "[I", true)
  | 13 => ("MatchCompileModel", "hand", "[I", true)
  | 14 => ("MatchCompileModel", "value", "[I", true)
  | 15 => ("MatchCompileModel", "asked", "[I", true)
  | 16 => ("MatchCompileModel", "takes", "[Z", true)
  | 17 => ("MatchCompileModel", "places", "I", false)
  | 18 => ("MatchCompileModel", "lines", "I", false)
  | 19 => ("MatchCompileModel", "placeType", "[I", true)
  | 20 => ("MatchCompileModel", "lineRow", "[I", true)
  | 21 => ("MatchCompileModel", "at", "[I", true)
  | 22 => ("MatchCompileModel", "great", "Z", false)
  | 23 => ("MatchCompileModel", "wide", "[I", true)
  | 24 => ("MatchCompileModel", "nodes", "I", false)
  | 25 => ("MatchCompileModel", "waiting", "I", false)
  | 26 => ("MatchCompileModel", "kind", "[I", true)
  | 27 => ("MatchCompileModel", "tested", "[I", true)
  | 28 => ("MatchCompileModel", "testType", "[I", true)
  | 29 => ("MatchCompileModel", "wideOf", "[I", true)
  | 30 => ("MatchCompileModel", "leafRow", "[I", true)
  | 31 => ("MatchCompileModel", "parent", "[I", true)
  | 32 => ("MatchCompileModel", "made", "[I", true)
  | 33 => ("MatchCompileModel", "branches", "[I", true)
  | 34 => ("MatchCompileModel", "waitParent", "[I", true)
  | 35 => ("MatchCompileModel", "waitMaker", "[I", true)
  | 36 => ("MatchCompileModel", "way", "[I", true)
  | _ => ("MatchCompileModel", "told", "[I", true)
def tyX8 : Nat → FieldType := fun k => match k with
  | 0 => .int
  | 1 => .int
  | 2 => .int
  | 3 => .array .int
  | 4 => .array .int
  | 5 => .array .boolean
  | 6 => .int
  | 7 => .int
  | 8 => .int
  | 9 => .int
  | 10 => .array .int
  | 11 => .array .int
  | 12 => .array .int
  | 13 => .array .int
  | 14 => .array .int
  | 15 => .array .int
  | 16 => .array .boolean
  | 17 => .int
  | 18 => .int
  | 19 => .array .int
  | 20 => .array .int
  | 21 => .array .int
  | 22 => .boolean
  | 23 => .array .int
  | 24 => .int
  | 25 => .int
  | 26 => .array .int
  | 27 => .array .int
  | 28 => .array .int
  | 29 => .array .int
  | 30 => .array .int
  | 31 => .array .int
  | 32 => .array .int
  | 33 => .array .int
  | 34 => .array .int
  | 35 => .array .int
  | 36 => .array .int
  | _ => .array .int
abbrev wsX80 : List Cond := u_ws RX8 TX8 38
theorem nmX8 : ∀ a, a < 38 → ∀ b, b < 38 → a ≠ b → (TX8 a).2.1 ≠ (TX8 b).2.1 := by decide +kernel
theorem tyX8_ok : ∀ k, k < 38 → parseFieldDescriptor (TX8 k).2.2.1 = some (tyX8 k) := by decide +kernel
abbrev cX8_init : ByteArray := prog_10_method_1_code
def yX8_init : MethodName := ⟨RX8, "<init>", "()V"⟩
abbrev cX8_thrown : ByteArray := prog_10_method_2_code
def yX8_thrown : MethodName := ⟨RX8, "thrown", "()I"⟩
abbrev cX8_isType : ByteArray := prog_10_method_3_code
def yX8_isType : MethodName := ⟨RX8, "isType", "(I)Z"⟩
abbrev cX8_makersOf : ByteArray := prog_10_method_4_code
def yX8_makersOf : MethodName := ⟨RX8, "makersOf", "(I)I"⟩
abbrev cX8_fields : ByteArray := prog_10_method_5_code
def yX8_fields : MethodName := ⟨RX8, "fields", "(I)I"⟩
abbrev cX8_type : ByteArray := prog_10_method_6_code
def yX8_type : MethodName := ⟨RX8, "type", "()I"⟩
abbrev cX8_areTypes : ByteArray := prog_10_method_7_code
def yX8_areTypes : MethodName := ⟨RX8, "areTypes", "(III)Z"⟩
abbrev cX8_maker : ByteArray := prog_10_method_8_code
def yX8_maker : MethodName := ⟨RX8, "maker", "(IIII)I"⟩
abbrev cX8_find : ByteArray := prog_10_method_9_code
def yX8_find : MethodName := ⟨RX8, "find", "()V"⟩
abbrev cX8_isDead : ByteArray := prog_10_method_10_code
def yX8_isDead : MethodName := ⟨RX8, "isDead", "(I)Z"⟩
abbrev cX8_isEmpty : ByteArray := prog_10_method_11_code
def yX8_isEmpty : MethodName := ⟨RX8, "isEmpty", "(I)Z"⟩
abbrev cX8_forget : ByteArray := prog_10_method_12_code
def yX8_forget : MethodName := ⟨RX8, "forget", "()V"⟩
abbrev cX8_match : ByteArray := prog_10_method_13_code
def yX8_match : MethodName := ⟨RX8, "match", "(III)V"⟩
abbrev cX8_next : ByteArray := prog_10_method_14_code
def yX8_next : MethodName := ⟨RX8, "next", "([II)I"⟩
abbrev cX8_isMakerOf : ByteArray := prog_10_method_15_code
def yX8_isMakerOf : MethodName := ⟨RX8, "isMakerOf", "(II)Z"⟩
abbrev cX8_sign : ByteArray := prog_10_method_16_code
def yX8_sign : MethodName := ⟨RX8, "sign", "(I)I"⟩
abbrev cX8_row : ByteArray := prog_10_method_17_code
def yX8_row : MethodName := ⟨RX8, "row", "()I"⟩
abbrev cX8_give : ByteArray := prog_10_method_18_code
def yX8_give : MethodName := ⟨RX8, "give", "(I)I"⟩
abbrev cX8_empty : ByteArray := prog_10_method_19_code
def yX8_empty : MethodName := ⟨RX8, "empty", "()V"⟩
abbrev cX8_behind : ByteArray := prog_10_method_20_code
def yX8_behind : MethodName := ⟨RX8, "behind", "([II)I"⟩
abbrev cX8_rowTakes : ByteArray := prog_10_method_21_code
def yX8_rowTakes : MethodName := ⟨RX8, "rowTakes", "(I)Z"⟩
abbrev cX8_fieldsTake : ByteArray := prog_10_method_22_code
def yX8_fieldsTake : MethodName := ⟨RX8, "fieldsTake", "(II)Z"⟩
abbrev cX8_canAnswer : ByteArray := prog_10_method_23_code
def yX8_canAnswer : MethodName := ⟨RX8, "canAnswer", "()Z"⟩
abbrev cX8_answer : ByteArray := prog_10_method_24_code
def yX8_answer : MethodName := ⟨RX8, "answer", "()I"⟩
abbrev cX8_signOf : ByteArray := prog_10_method_25_code
def yX8_signOf : MethodName := ⟨RX8, "signOf", "(I)I"⟩
abbrev cX8_firstTable : ByteArray := prog_10_method_26_code
def yX8_firstTable : MethodName := ⟨RX8, "firstTable", "()V"⟩
abbrev cX8_part : ByteArray := prog_10_method_27_code
def yX8_part : MethodName := ⟨RX8, "part", "()V"⟩
abbrev cX8_doubled : ByteArray := prog_10_method_28_code
def yX8_doubled : MethodName := ⟨RX8, "doubled", "(III)V"⟩
abbrev cX8_branch : ByteArray := prog_10_method_29_code
def yX8_branch : MethodName := ⟨RX8, "branch", "(II)V"⟩
abbrev cX8_widen : ByteArray := prog_10_method_30_code
def yX8_widen : MethodName := ⟨RX8, "widen", "(IIIII)V"⟩
abbrev cX8_tableOf : ByteArray := prog_10_method_31_code
def yX8_tableOf : MethodName := ⟨RX8, "tableOf", "(II)V"⟩
abbrev cX8_begin : ByteArray := prog_10_method_32_code
def yX8_begin : MethodName := ⟨RX8, "begin", "(II)V"⟩
abbrev cX8_compile : ByteArray := prog_10_method_33_code
def yX8_compile : MethodName := ⟨RX8, "compile", "()I"⟩
abbrev cX8_isNode : ByteArray := prog_10_method_34_code
def yX8_isNode : MethodName := ⟨RX8, "isNode", "(I)Z"⟩
abbrev cX8_branchOf : ByteArray := prog_10_method_35_code
def yX8_branchOf : MethodName := ⟨RX8, "branchOf", "(II)I"⟩
abbrev cX8_node : ByteArray := prog_10_method_36_code
def yX8_node : MethodName := ⟨RX8, "node", "(II)I"⟩
abbrev cX8_missing : ByteArray := prog_10_method_37_code
def yX8_missing : MethodName := ⟨RX8, "missing", "()I"⟩
abbrev cX8_missingSign : ByteArray := prog_10_method_38_code
def yX8_missingSign : MethodName := ⟨RX8, "missingSign", "(II)I"⟩
abbrev cX8_tell : ByteArray := prog_10_method_39_code
def yX8_tell : MethodName := ⟨RX8, "tell", "(I)I"⟩
abbrev cX8_isIdle : ByteArray := prog_10_method_40_code
def yX8_isIdle : MethodName := ⟨RX8, "isIdle", "(I)Z"⟩
abbrev cX8_tests : ByteArray := prog_10_method_41_code
def yX8_tests : MethodName := ⟨RX8, "tests", "()I"⟩
abbrev cX8_about : ByteArray := prog_10_method_42_code
def yX8_about : MethodName := ⟨RX8, "about", "(I)I"⟩
def RJx8e188 : String := "java/lang/Cloneable"
def TJx8e188 : u_T := fun k => match k with
  | _ => ("", "", "", false)
def tyJx8e188 : Nat → FieldType := fun k => match k with
  | _ => .int
abbrev wsJx8e1880 : List Cond := u_ws RJx8e188 TJx8e188 0
theorem nmJx8e188 : ∀ a, a < 0 → ∀ b, b < 0 → a ≠ b → (TJx8e188 a).2.1 ≠ (TJx8e188 b).2.1 := by decide +kernel
theorem tyJx8e188_ok : ∀ k, k < 0 → parseFieldDescriptor (TJx8e188 k).2.2.1 = some (tyJx8e188 k) := by decide +kernel
def RJ9 : String := "java/lang/Math"
def TJ9 : u_T := fun k => match k with
  | _ => ("", "", "", false)
def tyJ9 : Nat → FieldType := fun k => match k with
  | _ => .int
abbrev wsJ90 : List Cond := u_ws RJ9 TJ9 0
theorem nmJ9 : ∀ a, a < 0 → ∀ b, b < 0 → a ≠ b → (TJ9 a).2.1 ≠ (TJ9 b).2.1 := by decide +kernel
theorem tyJ9_ok : ∀ k, k < 0 → parseFieldDescriptor (TJ9 k).2.2.1 = some (tyJ9 k) := by decide +kernel
abbrev cJ9_max_7cf53 : ByteArray := prog_16_method_65_code
def yJ9_max_7cf53 : MethodName := ⟨RJ9, "max", "(II)I"⟩
abbrev cJ9_min_7cf53 : ByteArray := prog_16_method_69_code
def yJ9_min_7cf53 : MethodName := ⟨RJ9, "min", "(II)I"⟩
def RJ0 : String := "java/lang/String"
def TJ0 : u_T := fun k => match k with
  | _ => ("", "", "", false)
def tyJ0 : Nat → FieldType := fun k => match k with
  | _ => .int
abbrev wsJ00 : List Cond := u_ws RJ0 TJ0 0
theorem nmJ0 : ∀ a, a < 0 → ∀ b, b < 0 → a ≠ b → (TJ0 a).2.1 ≠ (TJ0 b).2.1 := by decide +kernel
theorem tyJ0_ok : ∀ k, k < 0 → parseFieldDescriptor (TJ0 k).2.2.1 = some (tyJ0 k) := by decide +kernel
def RJ10 : String := "java/lang/System"
def TJ10 : u_T := fun k => match k with
  | _ => ("", "", "", false)
def tyJ10 : Nat → FieldType := fun k => match k with
  | _ => .int
abbrev wsJ100 : List Cond := u_ws RJ10 TJ10 0
theorem nmJ10 : ∀ a, a < 0 → ∀ b, b < 0 → a ≠ b → (TJ10 a).2.1 ≠ (TJ10 b).2.1 := by decide +kernel
theorem tyJ10_ok : ∀ k, k < 0 → parseFieldDescriptor (TJ10 k).2.2.1 = some (tyJ10 k) := by decide +kernel
def RJ7 : String := "java/util/Arrays"
def TJ7 : u_T := fun k => match k with
  | _ => ("", "", "", false)
def tyJ7 : Nat → FieldType := fun k => match k with
  | _ => .int
abbrev wsJ70 : List Cond := u_ws RJ7 TJ7 0
theorem nmJ7 : ∀ a, a < 0 → ∀ b, b < 0 → a ≠ b → (TJ7 a).2.1 ≠ (TJ7 b).2.1 := by decide +kernel
theorem tyJ7_ok : ∀ k, k < 0 → parseFieldDescriptor (TJ7 k).2.2.1 = some (tyJ7 k) := by decide +kernel
abbrev cJ7_copyOf_59c91 : ByteArray := prog_22_method_123_code
def yJ7_copyOf_59c91 : MethodName := ⟨RJ7, "copyOf", "([II)[I"⟩
def RL : String := "MatchCompileLaw"
abbrev cL_type : ByteArray := method_3_code
def yL_type : MethodName := ⟨RL, "type", "(LMatchCompile;[J)I"⟩
abbrev cL_maker : ByteArray := method_4_code
def yL_maker : MethodName := ⟨RL, "maker", "(LMatchCompile;IIII[J)I"⟩
abbrev cL_isEmpty : ByteArray := method_5_code
def yL_isEmpty : MethodName := ⟨RL, "isEmpty", "(LMatchCompile;I[J)I"⟩
abbrev cL_match : ByteArray := method_6_code
def yL_match : MethodName := ⟨RL, "match", "(LMatchCompile;III)I"⟩
abbrev cL_sign : ByteArray := method_7_code
def yL_sign : MethodName := ⟨RL, "sign", "(LMatchCompile;I[J)I"⟩
abbrev cL_row : ByteArray := method_8_code
def yL_row : MethodName := ⟨RL, "row", "(LMatchCompile;[J)I"⟩
abbrev cL_compile : ByteArray := method_9_code
def yL_compile : MethodName := ⟨RL, "compile", "(LMatchCompile;[J)I"⟩
abbrev cL_node : ByteArray := method_10_code
def yL_node : MethodName := ⟨RL, "node", "(LMatchCompile;II[J)I"⟩
abbrev cL_missingSign : ByteArray := method_11_code
def yL_missingSign : MethodName := ⟨RL, "missingSign", "(LMatchCompile;II[J)I"⟩
abbrev cL_isIdle : ByteArray := method_12_code
def yL_isIdle : MethodName := ⟨RL, "isIdle", "(LMatchCompile;I[J)I"⟩
abbrev cL_give : ByteArray := method_13_code
def yL_give : MethodName := ⟨RL, "give", "(LMatchCompile;I[J)I"⟩
abbrev cL_answer : ByteArray := method_14_code
def yL_answer : MethodName := ⟨RL, "answer", "(LMatchCompile;[J)I"⟩
abbrev cL_tests : ByteArray := method_15_code
def yL_tests : MethodName := ⟨RL, "tests", "(LMatchCompile;[J)I"⟩
abbrev cL_law : ByteArray := code
def yL_law : MethodName := ⟨RL, "law", "([I)Z"⟩
abbrev vwCl : List vw_C := [(RX0, TX0, 5), (RX1, TX1, 6), (RX2, TX2, 7), (RX3, TX3, 3), (RX4, TX4, 4), (RX5, TX5, 6), (RX6, TX6, 4), (RX7, TX7, 10), (RX8, TX8, 38)]
/-! THE CLAIM OUT OF ONE WALK OF THE LAW'S BODY. Your part is whole_start (and what it stands on); all else here is the same for every law, but numbers. -/
def R_law : String := "MatchCompileLaw"
def lw_P (b : Addr) (xs : List Int32) (args : Array Value) (s : State) : Prop := args = #[.ref b] ∧ s.IntsAt b xs ∧ xs.length ≤ 2560 ∧ (Jvm.Cond.and given_1 narrow_1).before args s = true
def lw_Q (_ : Array Value) (s : State) (o : Outcome) (t : State) : Prop := o = .returned (some (.int 1)) ∧ Framed s o t [] 601024 7293034
def lw_Z (below : List Frame) (a : Array Value) (s : State) : State → Prop := fun t => ∃ o, t.status = .running ∧ Ended t below o ∧ lw_Q a s o t
/-- the law's own end, with 1 on the stack, nothing written that was there before, its room as the claim has it -/
theorem lw_ret {p : Program} {l : Launch} {e : Env} {s : State} {m : MethodId} {below : List Frame} {meth : Method} {c : Code} {b : Nat} (hx : p.tables.exec = Jvm.exec) (hb : c.code = code) (hr : meth.sig.returnType = ret) (hlocks : meth.locks = false) {pc : Nat} {H : Heap} {ls : Array Slot} (hdg : decode code pc = .ok (.ireturn, 1)) : W p l e room_1 s m #[Value.ref b] below meth c H [] 601024 7293034 (lw_Z below #[Value.ref b] s) (F0 m pc ls [.int 1]) := by
  intro T hT X
  obtain ⟨fs, hret, hrun, hended, hW, hframe⟩ := X.leave (v := some (.int 1)) (hlocks := hlocks) (fun h => by rw [hr] at h; cases h)
  have hmeth' : T.vm.method? m = some meth := X.method'
  refine ⟨T.setFrames fs, ?_, .returned (some (.int 1)), hrun, hended, rfl, ⟨_, rfl⟩, hW, hframe⟩
  jvm_step X.here [X.here.top, hx, hb, hdg, hmeth', hr, ret, narrow_b1]
  (try refine ⟨rfl, ?_⟩); (try refine ⟨rfl, ?_⟩)
  first | (intro acts; rw [hret _ acts rfl rfl rfl]) | rw [hret _ _ rfl rfl rfl]
  exact Steps.refl _
/-- what holds at the law's entry: the machine, the code, the tables' words (any of lw_tbl by 'hts w (by decide +kernel)'), the script of L ints xs at the cell b, what the Statement gives of the start (any of its parts by flat_of_before) -/
def lw_At (p : Program) (s : State) (m : MethodId) (meth : Method) (c : Code) (b L : Nat) (xs : Nat → Int32) : Prop :=
  p.tables.exec = Jvm.exec ∧ c.code = code ∧ meth.sig.returnType = ret ∧ c.maxLocals = 7 ∧ s.vm.findClass R_law = some m.cls ∧ (∀ w ∈ lw_tbl, w.before #[Value.ref b] s = true) ∧ va_X b L xs s s.heap ∧ b < s.heap.size ∧ meth.locks = false ∧ (Jvm.Cond.and given_1 narrow_1).before #[Value.ref b] s = true
end
section
/-! THE SMALL MACHINE: decoded rows of a method, run over a memory of numbered cells (a cell's slots are ints; references are cell numbers). -/
abbrev Mem : Type := Nat → Nat → Int32
abbrev MV : Type := Int32 ⊕ Nat
/-- memory, cells made, slots made, which exception (0: it returned), the answer -/
abbrev Res : Type := Mem × Nat × Nat × Nat × Int32
abbrev PI : Type := Instr × Nat × Int32 × List Nat
abbrev Kt : Type := Nat → List (Option MV) → List MV → Mem → Nat → Nat → Option Res
def mm_stc (S : Mem) (c : Nat) (f : Nat → Int32) : Mem := fun x => if x = c then f else S x
def mm_put (S : Mem) (c k : Nat) (v : Int32) : Mem := mm_stc S c (upd (S c) k v)
/-- the cell that grows, and where its length is noted -/
def mm_RM : Nat := 22
/-- kinds of cells: (0, class), (1, length) ints, (2, length) booleans, (3, length) longs -/
def mm_KD : List (Nat × Nat) := [(0, 7), (0, 2), (1, 8), (2, 8), (1, 40), (1, 40), (1, 120), (1, 3), (0, 3), (1, 480), (1, 480), (0, 1), (1, 40), (1, 40), (1, 83), (0, 1), (1, 60), (1, 60), (1, 123), (0, 6), (1, 2700), (0, 5), (1, 0), (0, 0), (1, 340), (0, 4), (1, 40),
  (0, 8), (1, 40), (1, 120), (2, 8), (1, 3), (1, 480), (1, 12), (1, 40), (1, 60), (1, 300), (2, 28800), (1, 44), (1, 62), (1, 2728), (1, 44), (1, 301), (1, 301), (1, 301), (1, 301), (1, 301), (1, 301), (1, 301), (1, 301), (1, 2500), (1, 2500), (1, 301), (1, 400), (3, 1)]
/-- how many fields a class has -/
def mm_NF : List Nat := [5, 6, 7, 3, 4, 6, 4, 10, 38]
/-- a cell's fields: the cell that a field holds, if it holds one -/
def mm_RT : List (List (Option Nat)) := [[some 1, some 7, none, some 8, some 11, some 15, some 19, some 21, some 23, some 25],
  [none, none, some 2, some 3, some 4, some 5, some 6], [], [], [], [], [], [], [some 9, some 10, none], [], [],
  [some 1, some 12, some 13, some 14, none, none], [], [], [], [some 1, some 16, some 17, some 18, none, none], [], [], [],
  [some 20, none, none, none], [], [some 1, some 8, some 22, none, none, none], [], [some 1, some 19, some 24, none, none], [], [some 1, some 15, some 26, none], [],
  [none, none, none, some 28, some 29, some 30, none, none, none, none, some 31, some 32, some 33, some 34, some 35, some 36, some 37, none, none, some 38, some 39, some 40, none, some 41, none, none, some 42, some 43, some 44, some 45, some 46, some 47, some 48, some 49, some 50, some 51, some 52, some 53]]
def mm_rf (c k : Nat) : Option Nat := ((mm_RT[c]?.getD [])[k]?).getD none
def mm_fv (S : Mem) (c k : Nat) : MV := match mm_rf c k with
  | some t => .inr t
  | none => .inl (S c k)
def mm_len (S : Mem) (c n : Nat) : Nat := match Nat.beq c mm_RM with
  | true => (S 55 0).toNatClampNeg
  | false => n
def mm_cls (c ci : Nat) : Bool := match mm_KD[c]? with
  | some (0, q) => Nat.beq q ci
  | _ => false
def mm_noRm (st : List MV) : Bool := st.all (fun v => match v with
  | .inr c => !(Nat.beq c mm_RM)
  | .inl _ => true)
def mm_noRmL (L : List (Option MV)) : Bool := L.all (fun v => match v with
  | some (.inr c) => !(Nat.beq c mm_RM)
  | _ => true)
/-- an int array's cell, an index within: its number -/
def mm_arr (S : Mem) (tag c : Nat) (i : Int32) (k : Nat → Option Res) : Option Res := match mm_KD[c]? with
  | some (t, n) => if t = tag then (if i < 0 ∨ mm_len S c n ≤ i.toNatClampNeg then none else k i.toNatClampNeg) else none
  | none => none
def mm_lk : List (Int × Int) → List Nat → Nat → Int → Nat
  | (a, _) :: ps, t :: ts, d, k => if a = k then t else mm_lk ps ts d k
  | _, _, d, _ => d
def mm_psh (rc : Nat) (a : Int32) (r : List MV) : List MV := match rc with
  | 0 => r
  | _ + 1 => .inl a :: r
/-- one row -/
def mm_step (call : Nat → List MV → Mem → Option Res) (rt : Nat) (k : Kt) (j : Nat) (L : List (Option MV)) (S : Mem) (kc ks : Nat) (i : Instr) (x : Nat) (v : Int32) (ts : List Nat) (st : List MV) : Option Res :=
  match i, st with
  | .iconst _, r => k (j + 1) L (.inl v :: r) S kc ks
  | .bipush _, r => k (j + 1) L (.inl v :: r) S kc ks
  | .sipush _, r => k (j + 1) L (.inl v :: r) S kc ks
  | .iload_n _, r => match L[x]? with
    | some (some (.inl y)) => k (j + 1) L (.inl y :: r) S kc ks
    | _ => none
  | .iload _, r => match L[x]? with
    | some (some (.inl y)) => k (j + 1) L (.inl y :: r) S kc ks
    | _ => none
  | .aload_n _, r => match L[x]? with
    | some (some (.inr y)) => k (j + 1) L (.inr y :: r) S kc ks
    | _ => none
  | .istore_n _, .inl y :: r => match Nat.blt x L.length with
    | true => k (j + 1) (L.set x (some (.inl y))) r S kc ks
    | false => none
  | .istore _, .inl y :: r => match Nat.blt x L.length with
    | true => k (j + 1) (L.set x (some (.inl y))) r S kc ks
    | false => none
  | .iinc _ _, r => match L[x]? with
    | some (some (.inl y)) => k (j + 1) (L.set x (some (.inl (y + v)))) r S kc ks
    | _ => none
  | .iadd, .inl b :: .inl a :: r => k (j + 1) L (.inl (a + b) :: r) S kc ks
  | .isub, .inl b :: .inl a :: r => k (j + 1) L (.inl (a - b) :: r) S kc ks
  | .imul, .inl b :: .inl a :: r => k (j + 1) L (.inl (a * b) :: r) S kc ks
  | .dup, a :: r => k (j + 1) L (a :: a :: r) S kc ks
  | .dup2, b :: a :: r => k (j + 1) L (b :: a :: b :: a :: r) S kc ks
  | .goto _, r => k x L r S kc ks
  | .ifCond .eq _, .inl a :: r => if a = 0 then k x L r S kc ks else k (j + 1) L r S kc ks
  | .ifCond .ne _, .inl a :: r => if a = 0 then k (j + 1) L r S kc ks else k x L r S kc ks
  | .ifCond .lt _, .inl a :: r => if a < 0 then k x L r S kc ks else k (j + 1) L r S kc ks
  | .ifCond .ge _, .inl a :: r => if 0 ≤ a then k x L r S kc ks else k (j + 1) L r S kc ks
  | .ifCond .gt _, .inl a :: r => if 0 < a then k x L r S kc ks else k (j + 1) L r S kc ks
  | .ifCond .le _, .inl a :: r => if a ≤ 0 then k x L r S kc ks else k (j + 1) L r S kc ks
  | .if_icmp .eq _, .inl b :: .inl a :: r => if a = b then k x L r S kc ks else k (j + 1) L r S kc ks
  | .if_icmp .ne _, .inl b :: .inl a :: r => if a = b then k (j + 1) L r S kc ks else k x L r S kc ks
  | .if_icmp .lt _, .inl b :: .inl a :: r => if a < b then k x L r S kc ks else k (j + 1) L r S kc ks
  | .if_icmp .ge _, .inl b :: .inl a :: r => if b ≤ a then k x L r S kc ks else k (j + 1) L r S kc ks
  | .if_icmp .gt _, .inl b :: .inl a :: r => if b < a then k x L r S kc ks else k (j + 1) L r S kc ks
  | .if_icmp .le _, .inl b :: .inl a :: r => if a ≤ b then k x L r S kc ks else k (j + 1) L r S kc ks
  | .getfield _, .inr c :: r => match mm_cls c (ts.headD 99) with
    | true => k (j + 1) L (mm_fv S c x :: r) S kc ks
    | false => none
  | .putfield _, .inl a :: .inr c :: r => match mm_cls c (ts.headD 99), mm_rf c x with
    | true, none => (match ts with
      | [_] => k (j + 1) L r (mm_put S c x a) kc ks
      | _ => if a = 0 ∨ a = 1 then k (j + 1) L r (mm_put S c x a) kc ks else none)
    | _, _ => none
  | .iaload, .inl i :: .inr c :: r => mm_arr S 1 c i (fun q => k (j + 1) L (.inl (S c q) :: r) S kc ks)
  | .baload, .inl i :: .inr c :: r => mm_arr S 2 c i (fun q => k (j + 1) L (.inl (S c q) :: r) S kc ks)
  | .iastore, .inl a :: .inl i :: .inr c :: r => mm_arr S 1 c i (fun q => k (j + 1) L r (mm_put S c q a) kc ks)
  | .bastore, .inl a :: .inl i :: .inr c :: r => mm_arr S 2 c i (fun q => k (j + 1) L r (mm_put S c q (vp_nar .boolean a)) kc ks)
  | .arraylength, .inr c :: r => match mm_KD[c]? with
    | some (1, n) => k (j + 1) L (.inl (Int32.ofNat (mm_len S c n)) :: r) S kc ks
    | _ => none
  | .ireturn, [.inl a] => match rt with
    | 1 => some (S, kc, ks, 0, a)
    | 2 => if a = 0 ∨ a = 1 then some (S, kc, ks, 0, a) else none
    | _ => none
  | .return_, [] => match rt with
    | 0 => some (S, kc, ks, 0, 0)
    | _ => none
  | .tableswitch _ lo hi _, .inl a :: r => if a.toInt < lo ∨ hi < a.toInt then k x L r S kc ks else match ts[(a.toInt - lo).toNat]? with
    | some t => k t L r S kc ks
    | none => none
  | .lookupswitch _ ps, .inl a :: r => k (mm_lk ps.toList ts x a.toInt) L r S kc ks
  | .invokevirtual _, st => match ts with
    | [na, rc, cb] => match st.drop na with
      | .inr b :: r => match mm_cls b cb && mm_noRm r && Nat.ble r.length 8 with
        | true => (match call x (.inr b :: (st.take na).reverse) S with
          | some (S', c', s', 0, a) => k (j + 1) L (mm_psh rc a r) S' (kc + c') (ks + s')
          | some (S', c', s', e + 1, _) => some (S', kc + c', ks + s', e + 1, 0)
          | none => none)
        | false => none
      | _ => none
    | _ => none
  | .invokestatic _, st => match x, st with
    | 0, .inl b :: .inl a :: r => match Nat.ble r.length 8 with
      | true => k (j + 1) L (.inl (if b < a then b else a) :: r) S kc ks
      | false => none
    | 1, .inl b :: .inl a :: r => match Nat.ble r.length 8 with
      | true => k (j + 1) L (.inl (if a < b then b else a) :: r) S kc ks
      | false => none
    | 2, .inl n :: .inl dp :: .inr c1 :: .inl sp :: .inr c0 :: r => match mm_KD[c0]?, mm_KD[c1]? with
      | some (1, n0), some (1, n1) => if r.length ≤ 8 ∧ (¬ sp < 0) ∧ (¬ dp < 0) ∧ (¬ n < 0) ∧ sp.toNatClampNeg + n.toNatClampNeg ≤ mm_len S c0 n0 ∧ dp.toNatClampNeg + n.toNatClampNeg ≤ mm_len S c1 n1 then
          k (j + 1) L r (mm_stc S c1 (va_cpy (S c0) (S c1) sp.toNatClampNeg dp.toNatClampNeg n.toNatClampNeg)) kc ks else none
      | _, _ => none
    | _, _ => none
  | .new _, r => match x, Nat.ble r.length 8 with
    | 0, _ => none
    | x + 1, true => some (S, kc + 1, ks + 6, x + 1, 0)
    | _, _ => none
  | _, _ => none
def mm_runN (call : Nat → List MV → Mem → Option Res) (P : List PI) (rt : Nat) : Nat → Kt
  | 0 => fun _ _ _ _ _ _ => none
  | n + 1 => fun j L st S kc ks => match P[j]? with
    | some (i, x, v, ts) => mm_step call rt (mm_runN call P rt n) j L S kc ks i x v ts st
    | none => none
/-- what a walk has made so far never shrinks -/
theorem mm_mono_step {call : Nat → List MV → Mem → Option Res} {rt : Nat} {k : Kt} {j : Nat} {L : List (Option MV)} {S : Mem} {kc ks : Nat} {i : Instr} {x : Nat} {v : Int32} {ts : List Nat} {st : List MV} {r : Res}
    (hk : ∀ j L st S kc ks, k j L st S kc ks = some r → kc ≤ r.2.1 ∧ ks ≤ r.2.2.1) (h : mm_step call rt k j L S kc ks i x v ts st = some r) : kc ≤ r.2.1 ∧ ks ≤ r.2.2.1 := by
  unfold mm_step at h
  split at h
  all_goals (try unfold mm_arr at h)
  all_goals (repeat' (first | (cases h; done) | split at h))
  all_goals first
    | exact hk _ _ _ _ _ _ h
    | (cases h; exact ⟨Nat.le_refl _, Nat.le_refl _⟩)
    | (cases h; exact ⟨Nat.le_add_right _ _, Nat.le_add_right _ _⟩)
    | (have h9 := hk _ _ _ _ _ _ h; exact ⟨Nat.le_trans (Nat.le_add_right _ _) h9.1, Nat.le_trans (Nat.le_add_right _ _) h9.2⟩)
theorem mm_mono {call : Nat → List MV → Mem → Option Res} {P : List PI} {rt : Nat} {r : Res} : ∀ (n j : Nat) (L : List (Option MV)) (st : List MV) (S : Mem) (kc ks : Nat), mm_runN call P rt n j L st S kc ks = some r → kc ≤ r.2.1 ∧ ks ≤ r.2.2.1 := by
  intro n
  induction n with
  | zero => intro j L st S kc ks h; cases h
  | succ n ih =>
    intro j L st S kc ks h
    unfold mm_runN at h
    split at h
    · exact mm_mono_step ih h
    · cases h
end
section
/-- more steps change nothing -/
theorem mm_more_step {call : Nat → List MV → Mem → Option Res} {rt : Nat} {k k' : Kt} {j : Nat} {L : List (Option MV)} {S : Mem} {kc ks : Nat} {i : Instr} {x : Nat} {v : Int32} {ts : List Nat} {st : List MV} {r : Res}
    (hk : ∀ j L st S kc ks, k j L st S kc ks = some r → k' j L st S kc ks = some r) (h : mm_step call rt k j L S kc ks i x v ts st = some r) : mm_step call rt k' j L S kc ks i x v ts st = some r := by
  unfold mm_step at h ⊢
  split at h
  all_goals (try unfold mm_arr at h ⊢)
  all_goals (repeat' (first | (cases h; done) | split at h))
  all_goals first
    | exact hk _ _ _ _ _ _ h
    | (simp_all; done)
    | (simp only [*, if_true, if_false, reduceIte]; exact hk _ _ _ _ _ _ h)
    | skip
  all_goals (repeat' split)
  all_goals first
    | exact hk _ _ _ _ _ _ h
    | contradiction
    | (exfalso; omega)
theorem mm_more {call : Nat → List MV → Mem → Option Res} {P : List PI} {rt : Nat} {r : Res} : ∀ (n m j : Nat) (L : List (Option MV)) (st : List MV) (S : Mem) (kc ks : Nat), n ≤ m → mm_runN call P rt n j L st S kc ks = some r → mm_runN call P rt m j L st S kc ks = some r := by
  intro n
  induction n with
  | zero => intro m j L st S kc ks _ h; cases h
  | succ n ih =>
    intro m j L st S kc ks hm h
    cases m with
    | zero => exact absurd hm (by omega)
    | succ m =>
      unfold mm_runN at h ⊢
      split at h
      · rename_i i x v ts hj
        exact mm_more_step (fun j L st S kc ks h => ih m j L st S kc ks (by omega) h) h
      · cases h
/-- the run from a row on ends so -/
def mm_T (call : Nat → List MV → Mem → Option Res) (P : List PI) (rt j : Nat) (L : List (Option MV)) (st : List MV) (S : Mem) (kc ks : Nat) (r : Res) : Prop := ∃ n, mm_runN call P rt n j L st S kc ks = some r
theorem mm_T_one {call : Nat → List MV → Mem → Option Res} {P : List PI} {rt j : Nat} {L : List (Option MV)} {st : List MV} {S : Mem} {kc ks : Nat} {r r' : Res} (h : mm_T call P rt j L st S kc ks r) (h' : mm_T call P rt j L st S kc ks r') : r = r' := by
  obtain ⟨n, h⟩ := h
  obtain ⟨n', h'⟩ := h'
  have h1 := mm_more n (n + n') j L st S kc ks (by omega) h
  have h2 := mm_more n' (n + n') j L st S kc ks (by omega) h'
  exact Option.some.inj (h1.symm.trans h2)
/-- some steps on -/
theorem mm_T.on {call : Nat → List MV → Mem → Option Res} {P : List PI} {rt j j' : Nat} {L L' : List (Option MV)} {st st' : List MV} {S S' : Mem} {kc ks kc' ks' : Nat} {r : Res} (K q : Nat) (he : ∀ n, mm_runN call P rt (n + K) j L st S kc ks = mm_runN call P rt (n + q) j' L' st' S' kc' ks') (h : mm_T call P rt j' L' st' S' kc' ks' r) : mm_T call P rt j L st S kc ks r := by
  obtain ⟨n, h⟩ := h
  exact ⟨n + K, by rw [he n]; exact mm_more n (n + q) _ _ _ _ _ _ (by omega) h⟩
theorem mm_T.now {call : Nat → List MV → Mem → Option Res} {P : List PI} {rt j : Nat} {L : List (Option MV)} {st : List MV} {S : Mem} {kc ks : Nat} {r : Res} (K : Nat) (he : mm_runN call P rt (0 + K) j L st S kc ks = some r) : mm_T call P rt j L st S kc ks r := ⟨_, he⟩
end
section
/-- a row uses what follows it once, if at all -/
theorem mm_use {call : Nat → List MV → Mem → Option Res} {rt : Nat} {k : Kt} {j : Nat} {L : List (Option MV)} {S : Mem} {kc ks : Nat} {i : Instr} {x : Nat} {v : Int32} {ts : List Nat} {st : List MV} {r : Res}
    (h : mm_step call rt k j L S kc ks i x v ts st = some r) : (∃ j' L' st' S' kc' ks', k j' L' st' S' kc' ks' = some r ∧ ∀ k' : Kt, k' j' L' st' S' kc' ks' = some r → mm_step call rt k' j L S kc ks i x v ts st = some r) ∨ ∀ k' : Kt, mm_step call rt k' j L S kc ks i x v ts st = some r := by
  by_cases hu : ∃ j' L' st' S' kc' ks', k j' L' st' S' kc' ks' = some r ∧ ∀ k' : Kt, k' j' L' st' S' kc' ks' = some r → mm_step call rt k' j L S kc ks i x v ts st = some r
  · exact Or.inl hu
  · refine Or.inr fun k' => ?_
    have hn : ∀ j' L' st' S' kc' ks', k j' L' st' S' kc' ks' = some r → (∀ k' : Kt, k' j' L' st' S' kc' ks' = some r → mm_step call rt k' j L S kc ks i x v ts st = some r) → False := fun j' L' st' S' kc' ks' h1 h2 => hu ⟨j', L', st', S', kc', ks', h1, h2⟩
    clear hu
    unfold mm_step at h hn ⊢
    split at h
    all_goals (try unfold mm_arr at h hn ⊢)
    all_goals (repeat' (first | (cases h; done) | split at h))
    all_goals first
      | (exfalso; have hn9 := hn _ _ _ _ _ _ h; clear hn; refine hn9 (fun k' hk' => ?_); clear hn9 h; first | exact hk' | (simp_all; done) | (dsimp only; (repeat' split) <;> first | exact hk' | contradiction | (simp_all; done)))
      | (simp_all; done)
      | exact h
      | skip
    · rename_i xa b9 r9 e1 xb e2 xc S9 c9 s9 a9 e3
      exfalso
      refine hn _ _ _ _ _ _ h (fun k' hk' => ?_)
      dsimp only
      rw [e1]
      dsimp only
      rw [e2]
      dsimp only
      rw [e3]
      exact hk'
    · rename_i b9 a9 r9 xz e1 h1
      exfalso
      refine hn _ _ _ _ _ _ h (fun k' hk' => ?_)
      show (match Nat.ble r9.length 8 with | true => k' (j + 1) L (.inl (if b9 < a9 then b9 else a9) :: r9) S kc ks | false => none) = some r
      rw [e1, if_pos h1]
      exact hk'
    · rename_i b9 a9 r9 xz e1 h1
      exfalso
      refine hn _ _ _ _ _ _ h (fun k' hk' => ?_)
      show (match Nat.ble r9.length 8 with | true => k' (j + 1) L (.inl (if b9 < a9 then b9 else a9) :: r9) S kc ks | false => none) = some r
      rw [e1, if_neg h1]
      exact hk'
    · rename_i b9 a9 r9 xz e1 h1
      exfalso
      refine hn _ _ _ _ _ _ h (fun k' hk' => ?_)
      show (match Nat.ble r9.length 8 with | true => k' (j + 1) L (.inl (if a9 < b9 then b9 else a9) :: r9) S kc ks | false => none) = some r
      rw [e1, if_pos h1]
      exact hk'
    · rename_i b9 a9 r9 xz e1 h1
      exfalso
      refine hn _ _ _ _ _ _ h (fun k' hk' => ?_)
      show (match Nat.ble r9.length 8 with | true => k' (j + 1) L (.inl (if a9 < b9 then b9 else a9) :: r9) S kc ks | false => none) = some r
      rw [e1, if_neg h1]
      exact hk'
/-- where the walk from a row on ends, if it does -/
noncomputable def mm_E (call : Nat → List MV → Mem → Option Res) (P : List PI) (rt : Nat) : Kt := fun j L st S kc ks =>
  @dite (Option Res) (∃ r, mm_T call P rt j L st S kc ks r) (Classical.propDecidable _) (fun h => some (Classical.choose h)) (fun _ => none)
theorem mm_E_of {call : Nat → List MV → Mem → Option Res} {P : List PI} {rt j : Nat} {L : List (Option MV)} {st : List MV} {S : Mem} {kc ks : Nat} {r : Res} (h : mm_T call P rt j L st S kc ks r) : mm_E call P rt j L st S kc ks = some r := by
  unfold mm_E
  rw [dif_pos ⟨r, h⟩]
  exact congrArg some (mm_T_one (Classical.choose_spec (⟨r, h⟩ : ∃ r, mm_T call P rt j L st S kc ks r)) h)
theorem mm_E_to {call : Nat → List MV → Mem → Option Res} {P : List PI} {rt j : Nat} {L : List (Option MV)} {st : List MV} {S : Mem} {kc ks : Nat} {r : Res} (h : mm_E call P rt j L st S kc ks = some r) : mm_T call P rt j L st S kc ks r := by
  unfold mm_E at h
  split at h
  · rename_i h1
    rw [← Option.some.inj h]
    exact Classical.choose_spec h1
  · cases h
theorem mm_E_step {call : Nat → List MV → Mem → Option Res} {P : List PI} {rt j : Nat} {L : List (Option MV)} {st : List MV} {S : Mem} {kc ks : Nat} {i : Instr} {x : Nat} {v : Int32} {ts : List Nat} (hj : P[j]? = some (i, x, v, ts)) : mm_E call P rt j L st S kc ks = mm_step call rt (mm_E call P rt) j L S kc ks i x v ts st := by
  apply Option.ext
  intro r
  constructor
  · intro h
    obtain ⟨n, h⟩ := mm_E_to h
    cases n with
    | zero => cases h
    | succ n =>
      unfold mm_runN at h
      rw [hj] at h
      exact mm_more_step (fun j L st S kc ks h => mm_E_of ⟨n, h⟩) h
  · intro h
    rcases mm_use h with ⟨j', L', st', S', kc', ks', h1, h2⟩ | h1
    · obtain ⟨n, h1⟩ := mm_E_to h1
      refine mm_E_of ⟨n + 1, ?_⟩
      unfold mm_runN
      rw [hj]
      exact h2 _ h1
    · refine mm_E_of ⟨1, ?_⟩
      unfold mm_runN
      rw [hj]
      exact h1 _
/-- a walk up to the next cut -/
def mm_runC (call : Nat → List MV → Mem → Option Res) (P : List PI) (rt : Nat) (cuts : List Nat) (k : Kt) : Nat → Bool → Kt
  | 0, _ => fun j L st S kc ks => k j L st S kc ks
  | m + 1, f => fun j L st S kc ks => match f && cuts.contains j with
    | true => k j L st S kc ks
    | false => match P[j]? with
      | some (i, x, v, ts) => mm_step call rt (mm_runC call P rt cuts k m true) j L S kc ks i x v ts st
      | none => none
theorem mm_E_C {call : Nat → List MV → Mem → Option Res} {P : List PI} {rt : Nat} (cuts : List Nat) : ∀ (m : Nat) (f : Bool), mm_runC call P rt cuts (mm_E call P rt) m f = mm_E call P rt := by
  intro m
  induction m with
  | zero => intro f; rfl
  | succ m ih =>
    intro f
    funext j L st S kc ks
    unfold mm_runC
    split
    · rfl
    · cases hj : P[j]? with
      | none =>
        have : ∀ r, mm_E call P rt j L st S kc ks ≠ some r := by
          intro r h
          obtain ⟨n, h⟩ := mm_E_to h
          cases n with
          | zero => cases h
          | succ n => unfold mm_runN at h; rw [hj] at h; cases h
        cases he : mm_E call P rt j L st S kc ks with
        | none => rfl
        | some r => exact absurd he (this r)
      | some q =>
        obtain ⟨i, x, v, ts⟩ := q
        rw [mm_E_step hj, ih true]
theorem mm_E_eq {call : Nat → List MV → Mem → Option Res} {P : List PI} {rt : Nat} (cuts : List Nat) (K : Nat) {j : Nat} {L : List (Option MV)} {st : List MV} {S : Mem} {kc ks : Nat} {X : Option Res} (h : mm_runC call P rt cuts (mm_E call P rt) K false j L st S kc ks = X) : mm_E call P rt j L st S kc ks = X := by
  rw [← h, mm_E_C]
end
section
def pX0_forget : List PI := [(.aload_n 0, 0, 0, []), (.iconst (-1), 0, (-1), []), (.putfield 23, 4, 0, [0]), (.return_, 0, 0, [])]
def qX0_forget : List Nat := [0, 1, 2, 5]
def pX0_shown : List PI := [(.aload_n 0, 0, 0, []), (.getfield 23, 4, 0, [0]), (.ireturn, 0, 0, [])]
def qX0_shown : List Nat := [0, 1, 4]
def pX0_show : List PI := [(.aload_n 0, 0, 0, []), (.iload_n 1, 1, 0, []), (.putfield 23, 4, 0, [0]), (.aload_n 0, 0, 0, []), (.iload_n 2, 2, 0, []), (.aload_n 0, 0, 0, []), (.getfield 19, 2, 0, [0]), (.arraylength, 0, 0, []), (.invokestatic 27, 0, 0, []), (.putfield 33, 3, 0, [0]), (.iconst 0, 0, 0, []), (.istore_n 3, 3, 0, []), (.iload_n 3, 3, 0, []), (.aload_n 0, 0, 0, []), (.getfield 33, 3, 0, [0]), (.if_icmp .ge 16, 23, 0, []), (.aload_n 0, 0, 0, []), (.getfield 19, 2, 0, [0]), (.iload_n 3, 3, 0, []), (.iconst (-1), 0, (-1), []), (.iastore, 0, 0, []), (.iinc 3 1, 3, 1, []), (.goto (-18), 12, 0, []), (.aload_n 0, 0, 0, []), (.getfield 15, 1, 0, [0]), (.iload_n 1, 1, 0, []), (.invokevirtual 36, 83, 0, [1, 1, 6]), (.istore_n 3, 3, 0, []), (.iconst 0, 0, 0, []), (.istore 4, 4, 0, []), (.iconst 0, 0, 0, []), (.istore 5, 5, 0, []), (.iload 5, 5, 0, []), (.sipush 300, 0, 300, []), (.if_icmp .ge 59, 61, 0, []), (.iload 4, 4, 0, []), (.iload_n 3, 3, 0, []), (.if_icmp .eq 53, 61, 0, []), (.iload 4, 4, 0, []), (.iconst (-1), 0, (-1), []), (.if_icmp .eq 47, 61, 0, []), (.aload_n 0, 0, 0, []), (.getfield 15, 1, 0, [0]), (.iload 4, 4, 0, []), (.iload_n 3, 3, 0, []), (.invokevirtual 42, 82, 0, [2, 1, 6]), (.istore 6, 6, 0, []), (.aload_n 0, 0, 0, []), (.aload_n 0, 0, 0, []), (.getfield 15, 1, 0, [0]), (.iload 4, 4, 0, []), (.invokevirtual 45, 78, 0, [1, 1, 6]), (.aload_n 0, 0, 0, []), (.getfield 15, 1, 0, [0]), (.iload 6, 6, 0, []), (.invokevirtual 48, 79, 0, [1, 1, 6]), (.invokevirtual 51, 4, 0, [2, 0, 0]), (.iload 6, 6, 0, []), (.istore 4, 4, 0, []), (.iinc 5 1, 5, 1, []), (.goto (-61), 32, 0, []), (.return_, 0, 0, [])]
def qX0_show : List Nat := [0, 1, 2, 5, 6, 7, 8, 11, 12, 15, 18, 19, 20, 21, 22, 25, 28, 29, 32, 33, 34, 35, 38, 41, 42, 45, 46, 49, 50, 51, 53, 54, 56, 58, 61, 64, 66, 67, 70, 72, 73, 76, 77, 80, 82, 83, 86, 88, 89, 90, 93, 95, 98, 99, 102, 104, 107, 110, 112, 114, 117, 120]
def pX0_signAt : List PI := [(.iload_n 1, 1, 0, []), (.ifCond .lt 29, 16, 0, []), (.iload_n 1, 1, 0, []), (.aload_n 0, 0, 0, []), (.getfield 33, 3, 0, [0]), (.if_icmp .ge 21, 16, 0, []), (.iload_n 1, 1, 0, []), (.aload_n 0, 0, 0, []), (.getfield 19, 2, 0, [0]), (.arraylength, 0, 0, []), (.if_icmp .ge 12, 16, 0, []), (.aload_n 0, 0, 0, []), (.getfield 19, 2, 0, [0]), (.iload_n 1, 1, 0, []), (.iaload, 0, 0, []), (.goto 5, 17, 0, []), (.bipush (-3), 0, (-3), []), (.ireturn, 0, 0, [])]
def qX0_signAt : List Nat := [0, 1, 4, 5, 6, 9, 12, 13, 14, 17, 18, 21, 22, 25, 26, 27, 30, 32]
def pX0_putFound : List PI := [(.aload_n 0, 0, 0, []), (.iload_n 1, 1, 0, []), (.invokevirtual 55, 5, 0, [1, 1, 0]), (.istore_n 3, 3, 0, []), (.aload_n 0, 0, 0, []), (.getfield 9, 0, 0, [0]), (.iload_n 2, 2, 0, []), (.invokevirtual 58, 24, 0, [1, 1, 2]), (.istore 4, 4, 0, []), (.iload_n 3, 3, 0, []), (.iconst (-1), 0, (-1), []), (.if_icmp .eq 18, 20, 0, []), (.aload_n 0, 0, 0, []), (.getfield 33, 3, 0, [0]), (.iload 4, 4, 0, []), (.iadd, 0, 0, []), (.aload_n 0, 0, 0, []), (.getfield 19, 2, 0, [0]), (.arraylength, 0, 0, []), (.if_icmp .le 4, 21, 0, []), (.return_, 0, 0, []), (.aload_n 0, 0, 0, []), (.getfield 33, 3, 0, [0]), (.iconst 1, 0, 1, []), (.isub, 0, 0, []), (.istore 5, 5, 0, []), (.iload 5, 5, 0, []), (.iload_n 3, 3, 0, []), (.if_icmp .le 26, 41, 0, []), (.aload_n 0, 0, 0, []), (.getfield 19, 2, 0, [0]), (.iload 5, 5, 0, []), (.iload 4, 4, 0, []), (.iadd, 0, 0, []), (.aload_n 0, 0, 0, []), (.getfield 19, 2, 0, [0]), (.iload 5, 5, 0, []), (.iaload, 0, 0, []), (.iastore, 0, 0, []), (.iinc 5 (-1), 5, (-1), []), (.goto (-26), 26, 0, []), (.aload_n 0, 0, 0, []), (.getfield 19, 2, 0, [0]), (.iload_n 3, 3, 0, []), (.iload_n 2, 2, 0, []), (.iastore, 0, 0, []), (.iconst 1, 0, 1, []), (.istore 5, 5, 0, []), (.iload 5, 5, 0, []), (.iload 4, 4, 0, []), (.if_icmp .gt 19, 60, 0, []), (.aload_n 0, 0, 0, []), (.getfield 19, 2, 0, [0]), (.iload_n 3, 3, 0, []), (.iload 5, 5, 0, []), (.iadd, 0, 0, []), (.iconst (-1), 0, (-1), []), (.iastore, 0, 0, []), (.iinc 5 1, 5, 1, []), (.goto (-20), 48, 0, []), (.aload_n 0, 0, 0, []), (.dup, 0, 0, []), (.getfield 33, 3, 0, [0]), (.iload 4, 4, 0, []), (.iadd, 0, 0, []), (.putfield 33, 3, 0, [0]), (.return_, 0, 0, [])]
def qX0_putFound : List Nat := [0, 1, 2, 5, 6, 7, 10, 11, 14, 16, 17, 18, 21, 22, 25, 27, 28, 29, 32, 33, 36, 37, 38, 41, 42, 43, 45, 47, 48, 51, 52, 55, 57, 59, 60, 61, 64, 66, 67, 68, 71, 74, 75, 78, 79, 80, 81, 82, 84, 86, 88, 91, 92, 95, 96, 98, 99, 100, 101, 104, 107, 108, 109, 112, 114, 115, 118]
def pX0_anyOf : List PI := [(.iload_n 1, 1, 0, []), (.istore_n 2, 2, 0, []), (.iconst 0, 0, 0, []), (.istore_n 3, 3, 0, []), (.iload_n 3, 3, 0, []), (.aload_n 0, 0, 0, []), (.getfield 33, 3, 0, [0]), (.if_icmp .ge 37, 26, 0, []), (.iload_n 3, 3, 0, []), (.aload_n 0, 0, 0, []), (.getfield 19, 2, 0, [0]), (.arraylength, 0, 0, []), (.if_icmp .ge 28, 26, 0, []), (.aload_n 0, 0, 0, []), (.getfield 19, 2, 0, [0]), (.iload_n 3, 3, 0, []), (.iaload, 0, 0, []), (.iconst (-1), 0, (-1), []), (.if_icmp .ne 12, 24, 0, []), (.iload_n 2, 2, 0, []), (.ifCond .ne 5, 23, 0, []), (.iload_n 3, 3, 0, []), (.ireturn, 0, 0, []), (.iinc 2 (-1), 2, (-1), []), (.iinc 3 1, 3, 1, []), (.goto (-39), 4, 0, []), (.iconst (-1), 0, (-1), []), (.ireturn, 0, 0, [])]
def qX0_anyOf : List Nat := [0, 1, 2, 3, 4, 5, 6, 9, 12, 13, 14, 17, 18, 21, 22, 25, 26, 27, 28, 31, 32, 35, 36, 37, 40, 43, 46, 47]
def pX1_begin : List PI := [(.aload_n 0, 0, 0, []), (.iconst 0, 0, 0, []), (.putfield 31, 4, 0, [1]), (.aload_n 0, 0, 0, []), (.iconst 0, 0, 0, []), (.putfield 35, 5, 0, [1]), (.iload_n 2, 2, 0, []), (.aload_n 1, 1, 0, []), (.arraylength, 0, 0, []), (.invokestatic 38, 0, 0, []), (.iconst 1, 0, 1, []), (.isub, 0, 0, []), (.istore_n 3, 3, 0, []), (.iload_n 3, 3, 0, []), (.ifCond .lt 16, 22, 0, []), (.aload_n 0, 0, 0, []), (.aload_n 1, 1, 0, []), (.iload_n 3, 3, 0, []), (.iaload, 0, 0, []), (.invokevirtual 41, 16, 0, [1, 0, 1]), (.iinc 3 (-1), 3, (-1), []), (.goto (-14), 13, 0, []), (.return_, 0, 0, [])]
def qX1_begin : List Nat := [0, 1, 2, 5, 6, 7, 10, 11, 12, 13, 16, 17, 18, 19, 20, 23, 24, 25, 26, 27, 30, 33, 36]
def pX1_count : List PI := [(.aload_n 0, 0, 0, []), (.getfield 31, 4, 0, [1]), (.ireturn, 0, 0, [])]
def qX1_count : List Nat := [0, 1, 4]
def pX1_isFull : List PI := [(.aload_n 0, 0, 0, []), (.getfield 31, 4, 0, [1]), (.aload_n 0, 0, 0, []), (.getfield 21, 1, 0, [1]), (.arraylength, 0, 0, []), (.if_icmp .lt 7, 8, 0, []), (.iconst 1, 0, 1, []), (.goto 4, 9, 0, []), (.iconst 0, 0, 0, []), (.ireturn, 0, 0, [])]
def qX1_isFull : List Nat := [0, 1, 4, 5, 8, 9, 12, 13, 16, 17]
def pX1_asks : List PI := [(.aload_n 0, 0, 0, []), (.getfield 35, 5, 0, [1]), (.ifCond .le 7, 5, 0, []), (.iconst 1, 0, 1, []), (.goto 4, 6, 0, []), (.iconst 0, 0, 0, []), (.ireturn, 0, 0, [])]
def qX1_asks : List Nat := [0, 1, 4, 7, 8, 11, 12]
def pX1_takesMaker : List PI := [(.aload_n 0, 0, 0, []), (.invokevirtual 45, 9, 0, [0, 2, 1]), (.ifCond .eq 33, 17, 0, []), (.aload_n 0, 0, 0, []), (.getfield 9, 0, 0, [1]), (.iload_n 1, 1, 0, []), (.invokevirtual 49, 20, 0, [1, 2, 2]), (.ifCond .eq 22, 17, 0, []), (.aload_n 0, 0, 0, []), (.getfield 9, 0, 0, [1]), (.iload_n 1, 1, 0, []), (.invokevirtual 55, 23, 0, [1, 1, 2]), (.aload_n 0, 0, 0, []), (.invokevirtual 59, 15, 0, [0, 1, 1]), (.if_icmp .ne 7, 17, 0, []), (.iconst 1, 0, 1, []), (.goto 4, 18, 0, []), (.iconst 0, 0, 0, []), (.ireturn, 0, 0, [])]
def qX1_takesMaker : List Nat := [0, 1, 4, 7, 8, 11, 12, 15, 18, 19, 22, 23, 26, 27, 30, 33, 34, 37, 38]
def pX1_put : List PI := [(.aload_n 0, 0, 0, []), (.invokevirtual 63, 8, 0, [0, 2, 1]), (.ifCond .ne 10, 6, 0, []), (.aload_n 0, 0, 0, []), (.invokevirtual 45, 9, 0, [0, 2, 1]), (.ifCond .ne 8, 9, 0, []), (.aload_n 0, 0, 0, []), (.getfield 31, 4, 0, [1]), (.ireturn, 0, 0, []), (.aload_n 0, 0, 0, []), (.invokevirtual 59, 15, 0, [0, 1, 1]), (.istore_n 2, 2, 0, []), (.aload_n 0, 0, 0, []), (.dup, 0, 0, []), (.getfield 35, 5, 0, [1]), (.iconst 1, 0, 1, []), (.isub, 0, 0, []), (.putfield 35, 5, 0, [1]), (.aload_n 0, 0, 0, []), (.getfield 21, 1, 0, [1]), (.aload_n 0, 0, 0, []), (.getfield 31, 4, 0, [1]), (.iload_n 1, 1, 0, []), (.iastore, 0, 0, []), (.aload_n 0, 0, 0, []), (.dup, 0, 0, []), (.getfield 31, 4, 0, [1]), (.iconst 1, 0, 1, []), (.iadd, 0, 0, []), (.putfield 31, 4, 0, [1]), (.iload_n 1, 1, 0, []), (.bipush (-2), 0, (-2), []), (.if_icmp .ne 13, 39, 0, []), (.aload_n 0, 0, 0, []), (.iload_n 2, 2, 0, []), (.invokevirtual 41, 16, 0, [1, 0, 1]), (.aload_n 0, 0, 0, []), (.iload_n 2, 2, 0, []), (.invokevirtual 41, 16, 0, [1, 0, 1]), (.aload_n 0, 0, 0, []), (.getfield 9, 0, 0, [1]), (.iload_n 1, 1, 0, []), (.invokevirtual 66, 24, 0, [1, 1, 2]), (.iconst 1, 0, 1, []), (.isub, 0, 0, []), (.istore_n 3, 3, 0, []), (.iload_n 3, 3, 0, []), (.ifCond .lt 22, 57, 0, []), (.aload_n 0, 0, 0, []), (.aload_n 0, 0, 0, []), (.getfield 9, 0, 0, [1]), (.iload_n 1, 1, 0, []), (.iload_n 3, 3, 0, []), (.invokevirtual 69, 25, 0, [2, 1, 2]), (.invokevirtual 41, 16, 0, [1, 0, 1]), (.iinc 3 (-1), 3, (-1), []), (.goto (-20), 46, 0, []), (.aload_n 0, 0, 0, []), (.getfield 31, 4, 0, [1]), (.ireturn, 0, 0, [])]
def qX1_put : List Nat := [0, 1, 4, 7, 8, 11, 14, 15, 18, 19, 20, 23, 24, 25, 26, 29, 30, 31, 34, 35, 38, 39, 42, 43, 44, 45, 46, 49, 50, 51, 54, 55, 57, 60, 61, 62, 65, 66, 67, 70, 71, 74, 75, 78, 79, 80, 81, 82, 85, 86, 87, 90, 91, 92, 95, 98, 101, 104, 105, 108]
def pX1_signAt : List PI := [(.iload_n 1, 1, 0, []), (.ifCond .lt 29, 16, 0, []), (.iload_n 1, 1, 0, []), (.aload_n 0, 0, 0, []), (.getfield 31, 4, 0, [1]), (.if_icmp .ge 21, 16, 0, []), (.iload_n 1, 1, 0, []), (.aload_n 0, 0, 0, []), (.getfield 21, 1, 0, [1]), (.arraylength, 0, 0, []), (.if_icmp .ge 12, 16, 0, []), (.aload_n 0, 0, 0, []), (.getfield 21, 1, 0, [1]), (.iload_n 1, 1, 0, []), (.iaload, 0, 0, []), (.goto 5, 17, 0, []), (.bipush (-3), 0, (-3), []), (.ireturn, 0, 0, [])]
def qX1_signAt : List Nat := [0, 1, 4, 5, 6, 9, 12, 13, 14, 17, 18, 21, 22, 25, 26, 27, 30, 32]
def pX1_endAt : List PI := [(.iload_n 1, 1, 0, []), (.ifCond .lt 29, 16, 0, []), (.iload_n 1, 1, 0, []), (.aload_n 0, 0, 0, []), (.getfield 31, 4, 0, [1]), (.if_icmp .ge 21, 16, 0, []), (.iload_n 1, 1, 0, []), (.aload_n 0, 0, 0, []), (.getfield 25, 2, 0, [1]), (.arraylength, 0, 0, []), (.if_icmp .ge 12, 16, 0, []), (.aload_n 0, 0, 0, []), (.getfield 25, 2, 0, [1]), (.iload_n 1, 1, 0, []), (.iaload, 0, 0, []), (.goto 7, 18, 0, []), (.aload_n 0, 0, 0, []), (.getfield 31, 4, 0, [1]), (.ireturn, 0, 0, [])]
def qX1_endAt : List Nat := [0, 1, 4, 5, 6, 9, 12, 13, 14, 17, 18, 21, 22, 25, 26, 27, 30, 31, 34]
def pX1_findEnds : List PI := [(.aload_n 0, 0, 0, []), (.getfield 31, 4, 0, [1]), (.aload_n 0, 0, 0, []), (.getfield 25, 2, 0, [1]), (.arraylength, 0, 0, []), (.invokestatic 38, 0, 0, []), (.iconst 1, 0, 1, []), (.isub, 0, 0, []), (.istore_n 1, 1, 0, []), (.iload_n 1, 1, 0, []), (.ifCond .lt 70, 47, 0, []), (.aload_n 0, 0, 0, []), (.iload_n 1, 1, 0, []), (.invokevirtual 72, 12, 0, [1, 1, 1]), (.istore_n 2, 2, 0, []), (.iload_n 2, 2, 0, []), (.bipush (-2), 0, (-2), []), (.if_icmp .ne 7, 20, 0, []), (.iconst 2, 0, 2, []), (.goto 11, 24, 0, []), (.aload_n 0, 0, 0, []), (.getfield 9, 0, 0, [1]), (.iload_n 2, 2, 0, []), (.invokevirtual 66, 24, 0, [1, 1, 2]), (.istore_n 3, 3, 0, []), (.iload_n 1, 1, 0, []), (.iconst 1, 0, 1, []), (.iadd, 0, 0, []), (.istore 4, 4, 0, []), (.iconst 0, 0, 0, []), (.istore 5, 5, 0, []), (.iload 5, 5, 0, []), (.iload_n 3, 3, 0, []), (.if_icmp .ge 17, 40, 0, []), (.aload_n 0, 0, 0, []), (.iload 4, 4, 0, []), (.invokevirtual 75, 13, 0, [1, 1, 1]), (.istore 4, 4, 0, []), (.iinc 5 1, 5, 1, []), (.goto (-17), 31, 0, []), (.aload_n 0, 0, 0, []), (.getfield 25, 2, 0, [1]), (.iload_n 1, 1, 0, []), (.iload 4, 4, 0, []), (.iastore, 0, 0, []), (.iinc 1 (-1), 1, (-1), []), (.goto (-68), 9, 0, []), (.return_, 0, 0, [])]
def qX1_findEnds : List Nat := [0, 1, 4, 5, 8, 9, 12, 13, 14, 15, 16, 19, 20, 21, 24, 25, 26, 28, 31, 32, 35, 36, 39, 40, 43, 44, 45, 46, 47, 49, 50, 52, 54, 55, 58, 59, 61, 64, 66, 69, 72, 73, 76, 77, 79, 80, 83, 86]
def pX1_nextAsked : List PI := [(.aload_n 0, 0, 0, []), (.getfield 35, 5, 0, [1]), (.ifCond .le 29, 17, 0, []), (.aload_n 0, 0, 0, []), (.getfield 35, 5, 0, [1]), (.aload_n 0, 0, 0, []), (.getfield 28, 3, 0, [1]), (.arraylength, 0, 0, []), (.if_icmp .gt 17, 17, 0, []), (.aload_n 0, 0, 0, []), (.getfield 28, 3, 0, [1]), (.aload_n 0, 0, 0, []), (.getfield 35, 5, 0, [1]), (.iconst 1, 0, 1, []), (.isub, 0, 0, []), (.iaload, 0, 0, []), (.goto 4, 18, 0, []), (.iconst (-1), 0, (-1), []), (.ireturn, 0, 0, [])]
def qX1_nextAsked : List Nat := [0, 1, 4, 7, 8, 11, 12, 15, 16, 19, 20, 23, 24, 27, 28, 29, 30, 33, 34]
def pX1_ask : List PI := [(.aload_n 0, 0, 0, []), (.getfield 35, 5, 0, [1]), (.ifCond .lt 35, 21, 0, []), (.aload_n 0, 0, 0, []), (.getfield 35, 5, 0, [1]), (.aload_n 0, 0, 0, []), (.getfield 28, 3, 0, [1]), (.arraylength, 0, 0, []), (.if_icmp .ge 23, 21, 0, []), (.aload_n 0, 0, 0, []), (.getfield 28, 3, 0, [1]), (.aload_n 0, 0, 0, []), (.getfield 35, 5, 0, [1]), (.iload_n 1, 1, 0, []), (.iastore, 0, 0, []), (.aload_n 0, 0, 0, []), (.dup, 0, 0, []), (.getfield 35, 5, 0, [1]), (.iconst 1, 0, 1, []), (.iadd, 0, 0, []), (.putfield 35, 5, 0, [1]), (.return_, 0, 0, [])]
def qX1_ask : List Nat := [0, 1, 4, 7, 8, 11, 12, 15, 16, 19, 20, 23, 24, 27, 28, 29, 30, 31, 34, 35, 36, 39]
def pX2_typeCount : List PI := [(.aload_n 0, 0, 0, []), (.getfield 28, 0, 0, [2]), (.ireturn, 0, 0, [])]
def qX2_typeCount : List Nat := [0, 1, 4]
def pX2_makerCount : List PI := [(.aload_n 0, 0, 0, []), (.getfield 32, 1, 0, [2]), (.ireturn, 0, 0, [])]
def qX2_makerCount : List Nat := [0, 1, 4]
def pX2_hasType : List PI := [(.iload_n 1, 1, 0, []), (.ifCond .lt 21, 11, 0, []), (.iload_n 1, 1, 0, []), (.aload_n 0, 0, 0, []), (.getfield 28, 0, 0, [2]), (.if_icmp .ge 13, 11, 0, []), (.iload_n 1, 1, 0, []), (.bipush 8, 0, 8, []), (.if_icmp .ge 7, 11, 0, []), (.iconst 1, 0, 1, []), (.goto 4, 12, 0, []), (.iconst 0, 0, 0, []), (.ireturn, 0, 0, [])]
def qX2_hasType : List Nat := [0, 1, 4, 5, 6, 9, 12, 13, 15, 18, 19, 22, 23]
def pX2_hasMaker : List PI := [(.iload_n 1, 1, 0, []), (.ifCond .lt 21, 11, 0, []), (.iload_n 1, 1, 0, []), (.aload_n 0, 0, 0, []), (.getfield 32, 1, 0, [2]), (.if_icmp .ge 13, 11, 0, []), (.iload_n 1, 1, 0, []), (.bipush 40, 0, 40, []), (.if_icmp .ge 7, 11, 0, []), (.iconst 1, 0, 1, []), (.goto 4, 12, 0, []), (.iconst 0, 0, 0, []), (.ireturn, 0, 0, [])]
def qX2_hasMaker : List Nat := [0, 1, 4, 5, 6, 9, 12, 13, 15, 18, 19, 22, 23]
def pX2_hasRoomForMaker : List PI := [(.aload_n 0, 0, 0, []), (.iload_n 1, 1, 0, []), (.invokevirtual 35, 19, 0, [1, 2, 2]), (.ifCond .eq 27, 16, 0, []), (.aload_n 0, 0, 0, []), (.getfield 9, 2, 0, [2]), (.iload_n 1, 1, 0, []), (.iaload, 0, 0, []), (.bipush 8, 0, 8, []), (.if_icmp .ge 16, 16, 0, []), (.aload_n 0, 0, 0, []), (.getfield 32, 1, 0, [2]), (.bipush 40, 0, 40, []), (.if_icmp .ge 7, 16, 0, []), (.iconst 1, 0, 1, []), (.goto 4, 17, 0, []), (.iconst 0, 0, 0, []), (.ireturn, 0, 0, [])]
def qX2_hasRoomForMaker : List Nat := [0, 1, 2, 5, 8, 9, 12, 13, 14, 16, 19, 20, 23, 25, 28, 29, 32, 33]
def pX2_hasValue : List PI := [(.aload_n 0, 0, 0, []), (.iload_n 1, 1, 0, []), (.invokevirtual 35, 19, 0, [1, 2, 2]), (.ifCond .eq 16, 11, 0, []), (.aload_n 0, 0, 0, []), (.getfield 15, 3, 0, [2]), (.iload_n 1, 1, 0, []), (.baload, 0, 0, []), (.ifCond .eq 7, 11, 0, []), (.iconst 1, 0, 1, []), (.goto 4, 12, 0, []), (.iconst 0, 0, 0, []), (.ireturn, 0, 0, [])]
def qX2_hasValue : List Nat := [0, 1, 2, 5, 8, 9, 12, 13, 14, 17, 18, 21, 22]
def pX2_typeOf : List PI := [(.aload_n 0, 0, 0, []), (.iload_n 1, 1, 0, []), (.invokevirtual 39, 20, 0, [1, 2, 2]), (.ifCond .eq 12, 9, 0, []), (.aload_n 0, 0, 0, []), (.getfield 19, 4, 0, [2]), (.iload_n 1, 1, 0, []), (.iaload, 0, 0, []), (.goto 4, 10, 0, []), (.iconst (-1), 0, (-1), []), (.ireturn, 0, 0, [])]
def qX2_typeOf : List Nat := [0, 1, 2, 5, 8, 9, 12, 13, 14, 17, 18]
def pX2_fieldCount : List PI := [(.aload_n 0, 0, 0, []), (.iload_n 1, 1, 0, []), (.invokevirtual 39, 20, 0, [1, 2, 2]), (.ifCond .eq 12, 9, 0, []), (.aload_n 0, 0, 0, []), (.getfield 22, 5, 0, [2]), (.iload_n 1, 1, 0, []), (.iaload, 0, 0, []), (.goto 4, 10, 0, []), (.iconst 0, 0, 0, []), (.ireturn, 0, 0, [])]
def qX2_fieldCount : List Nat := [0, 1, 2, 5, 8, 9, 12, 13, 14, 17, 18]
def pX2_fieldType : List PI := [(.iload_n 2, 2, 0, []), (.ifCond .lt 21, 12, 0, []), (.iload_n 2, 2, 0, []), (.iconst 3, 0, 3, []), (.if_icmp .ge 16, 12, 0, []), (.iload_n 2, 2, 0, []), (.aload_n 0, 0, 0, []), (.iload_n 1, 1, 0, []), (.invokevirtual 42, 24, 0, [1, 1, 2]), (.if_icmp .ge 7, 12, 0, []), (.iconst 1, 0, 1, []), (.goto 4, 13, 0, []), (.iconst 0, 0, 0, []), (.istore_n 3, 3, 0, []), (.iload_n 3, 3, 0, []), (.ifCond .eq 16, 25, 0, []), (.aload_n 0, 0, 0, []), (.getfield 25, 6, 0, [2]), (.iload_n 1, 1, 0, []), (.iconst 3, 0, 3, []), (.imul, 0, 0, []), (.iload_n 2, 2, 0, []), (.iadd, 0, 0, []), (.iaload, 0, 0, []), (.goto 4, 26, 0, []), (.iconst (-1), 0, (-1), []), (.ireturn, 0, 0, [])]
def qX2_fieldType : List Nat := [0, 1, 4, 5, 6, 9, 10, 11, 12, 15, 18, 19, 22, 23, 24, 25, 28, 29, 32, 33, 34, 35, 36, 37, 38, 41, 42]
def pX2_isDead : List PI := [(.iconst 0, 0, 0, []), (.istore_n 2, 2, 0, []), (.iload_n 2, 2, 0, []), (.aload_n 0, 0, 0, []), (.iload_n 1, 1, 0, []), (.invokevirtual 42, 24, 0, [1, 1, 2]), (.if_icmp .ge 24, 18, 0, []), (.aload_n 0, 0, 0, []), (.aload_n 0, 0, 0, []), (.iload_n 1, 1, 0, []), (.iload_n 2, 2, 0, []), (.invokevirtual 46, 25, 0, [2, 1, 2]), (.invokevirtual 50, 22, 0, [1, 2, 2]), (.ifCond .ne 5, 16, 0, []), (.iconst 1, 0, 1, []), (.ireturn, 0, 0, []), (.iinc 2 1, 2, 1, []), (.goto (-27), 2, 0, []), (.iconst 0, 0, 0, []), (.ireturn, 0, 0, [])]
def qX2_isDead : List Nat := [0, 1, 2, 3, 4, 5, 8, 11, 12, 13, 14, 15, 18, 21, 24, 25, 26, 29, 32, 33]
def pX2_addType : List PI := [(.aload_n 0, 0, 0, []), (.getfield 28, 0, 0, [2]), (.istore_n 1, 1, 0, []), (.iload_n 1, 1, 0, []), (.bipush 8, 0, 8, []), (.if_icmp .ge 13, 12, 0, []), (.aload_n 0, 0, 0, []), (.dup, 0, 0, []), (.getfield 28, 0, 0, [2]), (.iconst 1, 0, 1, []), (.iadd, 0, 0, []), (.putfield 28, 0, 0, [2]), (.iload_n 1, 1, 0, []), (.ireturn, 0, 0, [])]
def qX2_addType : List Nat := [0, 1, 4, 5, 6, 8, 11, 12, 13, 16, 17, 18, 21, 22]
def pX2_addMaker : List PI := [(.aload_n 0, 0, 0, []), (.getfield 32, 1, 0, [2]), (.istore 6, 6, 0, []), (.aload_n 0, 0, 0, []), (.iload_n 1, 1, 0, []), (.invokevirtual 53, 21, 0, [1, 2, 2]), (.ifCond .ne 5, 9, 0, []), (.iconst (-1), 0, (-1), []), (.ireturn, 0, 0, []), (.aload_n 0, 0, 0, []), (.dup, 0, 0, []), (.getfield 32, 1, 0, [2]), (.iconst 1, 0, 1, []), (.iadd, 0, 0, []), (.putfield 32, 1, 0, [2]), (.aload_n 0, 0, 0, []), (.getfield 9, 2, 0, [2]), (.iload_n 1, 1, 0, []), (.dup2, 0, 0, []), (.iaload, 0, 0, []), (.iconst 1, 0, 1, []), (.iadd, 0, 0, []), (.iastore, 0, 0, []), (.aload_n 0, 0, 0, []), (.getfield 19, 4, 0, [2]), (.iload 6, 6, 0, []), (.iload_n 1, 1, 0, []), (.iastore, 0, 0, []), (.aload_n 0, 0, 0, []), (.getfield 22, 5, 0, [2]), (.iload 6, 6, 0, []), (.iload_n 2, 2, 0, []), (.iastore, 0, 0, []), (.aload_n 0, 0, 0, []), (.getfield 25, 6, 0, [2]), (.iload 6, 6, 0, []), (.iconst 3, 0, 3, []), (.imul, 0, 0, []), (.iload_n 3, 3, 0, []), (.iastore, 0, 0, []), (.aload_n 0, 0, 0, []), (.getfield 25, 6, 0, [2]), (.iload 6, 6, 0, []), (.iconst 3, 0, 3, []), (.imul, 0, 0, []), (.iconst 1, 0, 1, []), (.iadd, 0, 0, []), (.iload 4, 4, 0, []), (.iastore, 0, 0, []), (.aload_n 0, 0, 0, []), (.getfield 25, 6, 0, [2]), (.iload 6, 6, 0, []), (.iconst 3, 0, 3, []), (.imul, 0, 0, []), (.iconst 2, 0, 2, []), (.iadd, 0, 0, []), (.iload 5, 5, 0, []), (.iastore, 0, 0, []), (.aload_n 0, 0, 0, []), (.invokevirtual 56, 29, 0, [0, 0, 2]), (.iload 6, 6, 0, []), (.ireturn, 0, 0, [])]
def qX2_addMaker : List Nat := [0, 1, 4, 6, 7, 8, 11, 14, 15, 16, 17, 18, 21, 22, 23, 26, 27, 30, 31, 32, 33, 34, 35, 36, 37, 40, 42, 43, 44, 45, 48, 50, 51, 52, 53, 56, 58, 59, 60, 61, 62, 63, 66, 68, 69, 70, 71, 72, 74, 75, 76, 79, 81, 82, 83, 84, 85, 87, 88, 89, 92, 94]
def pX2_findValued : List PI := [(.iconst 1, 0, 1, []), (.istore_n 1, 1, 0, []), (.iconst 0, 0, 0, []), (.istore_n 2, 2, 0, []), (.iload_n 2, 2, 0, []), (.bipush 8, 0, 8, []), (.if_icmp .gt 75, 45, 0, []), (.iload_n 1, 1, 0, []), (.ifCond .eq 71, 45, 0, []), (.iconst 0, 0, 0, []), (.istore_n 1, 1, 0, []), (.iconst 0, 0, 0, []), (.istore_n 3, 3, 0, []), (.iload_n 3, 3, 0, []), (.aload_n 0, 0, 0, []), (.getfield 32, 1, 0, [2]), (.if_icmp .ge 53, 43, 0, []), (.aload_n 0, 0, 0, []), (.iload_n 3, 3, 0, []), (.invokevirtual 59, 23, 0, [1, 1, 2]), (.istore 4, 4, 0, []), (.aload_n 0, 0, 0, []), (.iload 4, 4, 0, []), (.invokevirtual 35, 19, 0, [1, 2, 2]), (.ifCond .eq 31, 41, 0, []), (.aload_n 0, 0, 0, []), (.getfield 15, 3, 0, [2]), (.iload 4, 4, 0, []), (.baload, 0, 0, []), (.ifCond .ne 21, 41, 0, []), (.aload_n 0, 0, 0, []), (.iload_n 3, 3, 0, []), (.invokevirtual 62, 26, 0, [1, 2, 2]), (.ifCond .ne 13, 41, 0, []), (.aload_n 0, 0, 0, []), (.getfield 15, 3, 0, [2]), (.iload 4, 4, 0, []), (.iconst 1, 0, 1, []), (.bastore, 0, 0, []), (.iconst 1, 0, 1, []), (.istore_n 1, 1, 0, []), (.iinc 3 1, 3, 1, []), (.goto (-55), 13, 0, []), (.iinc 2 1, 2, 1, []), (.goto (-75), 4, 0, []), (.return_, 0, 0, [])]
def qX2_findValued : List Nat := [0, 1, 2, 3, 4, 5, 7, 10, 11, 14, 15, 16, 17, 18, 19, 20, 23, 26, 27, 28, 31, 33, 34, 36, 39, 42, 43, 46, 48, 49, 52, 53, 54, 57, 60, 61, 64, 66, 67, 68, 69, 70, 73, 76, 79, 82]
def pX3_clear : List PI := [(.aload_n 0, 0, 0, []), (.iconst 0, 0, 0, []), (.putfield 18, 2, 0, [3]), (.return_, 0, 0, [])]
def qX3_clear : List Nat := [0, 1, 2, 5]
def pX3_count : List PI := [(.aload_n 0, 0, 0, []), (.getfield 18, 2, 0, [3]), (.ireturn, 0, 0, [])]
def qX3_count : List Nat := [0, 1, 4]
def pX3_add : List PI := [(.aload_n 0, 0, 0, []), (.getfield 18, 2, 0, [3]), (.istore_n 2, 2, 0, []), (.iload_n 2, 2, 0, []), (.ifCond .lt 9, 8, 0, []), (.iload_n 2, 2, 0, []), (.bipush 12, 0, 12, []), (.if_icmp .lt 5, 10, 0, []), (.iconst (-1), 0, (-1), []), (.ireturn, 0, 0, []), (.aload_n 1, 1, 0, []), (.invokevirtual 22, 14, 0, [0, 0, 1]), (.aload_n 0, 0, 0, []), (.iload_n 2, 2, 0, []), (.invokevirtual 27, 33, 0, [1, 1, 3]), (.istore_n 3, 3, 0, []), (.iconst 0, 0, 0, []), (.istore 4, 4, 0, []), (.iload 4, 4, 0, []), (.aload_n 1, 1, 0, []), (.invokevirtual 31, 7, 0, [0, 1, 1]), (.if_icmp .ge 48, 47, 0, []), (.iload 4, 4, 0, []), (.bipush 40, 0, 40, []), (.if_icmp .ge 41, 47, 0, []), (.aload_n 0, 0, 0, []), (.getfield 9, 0, 0, [3]), (.iload_n 3, 3, 0, []), (.iload 4, 4, 0, []), (.iadd, 0, 0, []), (.aload_n 1, 1, 0, []), (.iload 4, 4, 0, []), (.invokevirtual 34, 12, 0, [1, 1, 1]), (.iastore, 0, 0, []), (.aload_n 0, 0, 0, []), (.getfield 15, 1, 0, [3]), (.iload_n 3, 3, 0, []), (.iload 4, 4, 0, []), (.iadd, 0, 0, []), (.iload_n 3, 3, 0, []), (.aload_n 1, 1, 0, []), (.iload 4, 4, 0, []), (.invokevirtual 37, 13, 0, [1, 1, 1]), (.iadd, 0, 0, []), (.iastore, 0, 0, []), (.iinc 4 1, 4, 1, []), (.goto (-51), 18, 0, []), (.aload_n 0, 0, 0, []), (.dup, 0, 0, []), (.getfield 18, 2, 0, [3]), (.iconst 1, 0, 1, []), (.iadd, 0, 0, []), (.putfield 18, 2, 0, [3]), (.iload_n 2, 2, 0, []), (.ireturn, 0, 0, [])]
def qX3_add : List Nat := [0, 1, 4, 5, 6, 9, 10, 12, 15, 16, 17, 18, 21, 22, 23, 26, 27, 28, 30, 32, 33, 36, 39, 41, 43, 46, 47, 50, 51, 53, 54, 55, 57, 60, 61, 62, 65, 66, 68, 69, 70, 71, 73, 76, 77, 78, 81, 84, 85, 86, 89, 90, 91, 94, 95]
def pX3_startOf : List PI := [(.iload_n 1, 1, 0, []), (.bipush 40, 0, 40, []), (.imul, 0, 0, []), (.ireturn, 0, 0, [])]
def qX3_startOf : List Nat := [0, 1, 3, 4]
def pX3_signAt : List PI := [(.iload_n 1, 1, 0, []), (.ifCond .lt 21, 12, 0, []), (.iload_n 1, 1, 0, []), (.aload_n 0, 0, 0, []), (.getfield 9, 0, 0, [3]), (.arraylength, 0, 0, []), (.if_icmp .ge 12, 12, 0, []), (.aload_n 0, 0, 0, []), (.getfield 9, 0, 0, [3]), (.iload_n 1, 1, 0, []), (.iaload, 0, 0, []), (.goto 4, 13, 0, []), (.iconst (-1), 0, (-1), []), (.ireturn, 0, 0, [])]
def qX3_signAt : List Nat := [0, 1, 4, 5, 6, 9, 10, 13, 14, 17, 18, 19, 22, 23]
def pX3_endAt : List PI := [(.iload_n 1, 1, 0, []), (.ifCond .lt 21, 12, 0, []), (.iload_n 1, 1, 0, []), (.aload_n 0, 0, 0, []), (.getfield 15, 1, 0, [3]), (.arraylength, 0, 0, []), (.if_icmp .ge 12, 12, 0, []), (.aload_n 0, 0, 0, []), (.getfield 15, 1, 0, [3]), (.iload_n 1, 1, 0, []), (.iaload, 0, 0, []), (.goto 4, 13, 0, []), (.iload_n 1, 1, 0, []), (.ireturn, 0, 0, [])]
def qX3_endAt : List Nat := [0, 1, 4, 5, 6, 9, 10, 13, 14, 17, 18, 19, 22, 23]
def pX4_begin : List PI := [(.iconst 0, 0, 0, []), (.istore_n 2, 2, 0, []), (.aload_n 0, 0, 0, []), (.iload_n 1, 1, 0, []), (.aload_n 0, 0, 0, []), (.getfield 19, 2, 0, [4]), (.arraylength, 0, 0, []), (.invokestatic 23, 0, 0, []), (.putfield 29, 3, 0, [4]), (.iconst 0, 0, 0, []), (.istore_n 3, 3, 0, []), (.iload_n 3, 3, 0, []), (.aload_n 0, 0, 0, []), (.getfield 29, 3, 0, [4]), (.if_icmp .ge 25, 27, 0, []), (.aload_n 0, 0, 0, []), (.getfield 19, 2, 0, [4]), (.iload_n 3, 3, 0, []), (.iload_n 2, 2, 0, []), (.iastore, 0, 0, []), (.aload_n 0, 0, 0, []), (.getfield 15, 1, 0, [4]), (.iload_n 2, 2, 0, []), (.invokevirtual 33, 13, 0, [1, 1, 1]), (.istore_n 2, 2, 0, []), (.iinc 3 1, 3, 1, []), (.goto (-27), 11, 0, []), (.return_, 0, 0, [])]
def qX4_begin : List Nat := [0, 1, 2, 3, 4, 5, 8, 9, 12, 15, 16, 17, 18, 19, 22, 25, 26, 29, 30, 31, 32, 33, 36, 37, 40, 41, 44, 47]
def pX4_makerAt : List PI := [(.aload_n 0, 0, 0, []), (.iload_n 1, 1, 0, []), (.invokevirtual 39, 40, 0, [1, 2, 4]), (.ifCond .eq 19, 12, 0, []), (.aload_n 0, 0, 0, []), (.getfield 15, 1, 0, [4]), (.aload_n 0, 0, 0, []), (.getfield 19, 2, 0, [4]), (.iload_n 1, 1, 0, []), (.iaload, 0, 0, []), (.invokevirtual 43, 12, 0, [1, 1, 1]), (.goto 4, 13, 0, []), (.iconst (-1), 0, (-1), []), (.ireturn, 0, 0, [])]
def qX4_makerAt : List Nat := [0, 1, 2, 5, 8, 9, 12, 13, 16, 17, 18, 21, 24, 25]
def pX4_openUp : List PI := [(.aload_n 0, 0, 0, []), (.getfield 9, 0, 0, [4]), (.iload_n 2, 2, 0, []), (.invokevirtual 46, 24, 0, [1, 1, 2]), (.istore_n 3, 3, 0, []), (.aload_n 0, 0, 0, []), (.iload_n 1, 1, 0, []), (.invokevirtual 39, 40, 0, [1, 2, 4]), (.ifCond .eq 19, 19, 0, []), (.aload_n 0, 0, 0, []), (.getfield 29, 3, 0, [4]), (.iconst 1, 0, 1, []), (.isub, 0, 0, []), (.iload_n 3, 3, 0, []), (.iadd, 0, 0, []), (.aload_n 0, 0, 0, []), (.getfield 19, 2, 0, [4]), (.arraylength, 0, 0, []), (.if_icmp .le 4, 20, 0, []), (.return_, 0, 0, []), (.aload_n 0, 0, 0, []), (.getfield 19, 2, 0, [4]), (.iload_n 1, 1, 0, []), (.iaload, 0, 0, []), (.iconst 1, 0, 1, []), (.iadd, 0, 0, []), (.istore 4, 4, 0, []), (.aload_n 0, 0, 0, []), (.iload_n 1, 1, 0, []), (.iload_n 3, 3, 0, []), (.invokevirtual 51, 39, 0, [2, 0, 4]), (.iload_n 1, 1, 0, []), (.istore 5, 5, 0, []), (.iload 5, 5, 0, []), (.iload_n 1, 1, 0, []), (.iload_n 3, 3, 0, []), (.iadd, 0, 0, []), (.if_icmp .ge 39, 55, 0, []), (.iload 5, 5, 0, []), (.aload_n 0, 0, 0, []), (.getfield 19, 2, 0, [4]), (.arraylength, 0, 0, []), (.if_icmp .ge 29, 55, 0, []), (.aload_n 0, 0, 0, []), (.getfield 19, 2, 0, [4]), (.iload 5, 5, 0, []), (.iload 4, 4, 0, []), (.iastore, 0, 0, []), (.aload_n 0, 0, 0, []), (.getfield 15, 1, 0, [4]), (.iload 4, 4, 0, []), (.invokevirtual 33, 13, 0, [1, 1, 1]), (.istore 4, 4, 0, []), (.iinc 5 1, 5, 1, []), (.goto (-41), 33, 0, []), (.return_, 0, 0, [])]
def qX4_openUp : List Nat := [0, 1, 4, 5, 8, 9, 10, 11, 14, 17, 18, 21, 22, 23, 24, 25, 26, 29, 30, 33, 34, 35, 38, 39, 40, 41, 42, 44, 45, 46, 47, 50, 51, 53, 55, 56, 57, 58, 61, 63, 64, 67, 68, 71, 72, 75, 77, 79, 80, 81, 84, 86, 89, 91, 94, 97]
def pX4_makeGap : List PI := [(.iload_n 2, 2, 0, []), (.iconst 1, 0, 1, []), (.isub, 0, 0, []), (.istore_n 3, 3, 0, []), (.iload_n 3, 3, 0, []), (.ifCond .ge 42, 27, 0, []), (.iload_n 1, 1, 0, []), (.iconst 1, 0, 1, []), (.iadd, 0, 0, []), (.istore 4, 4, 0, []), (.iload 4, 4, 0, []), (.aload_n 0, 0, 0, []), (.getfield 29, 3, 0, [4]), (.if_icmp .ge 25, 26, 0, []), (.aload_n 0, 0, 0, []), (.getfield 19, 2, 0, [4]), (.iload 4, 4, 0, []), (.iconst 1, 0, 1, []), (.isub, 0, 0, []), (.aload_n 0, 0, 0, []), (.getfield 19, 2, 0, [4]), (.iload 4, 4, 0, []), (.iaload, 0, 0, []), (.iastore, 0, 0, []), (.iinc 4 1, 4, 1, []), (.goto (-28), 10, 0, []), (.goto 39, 47, 0, []), (.aload_n 0, 0, 0, []), (.getfield 29, 3, 0, [4]), (.iconst 1, 0, 1, []), (.isub, 0, 0, []), (.istore 4, 4, 0, []), (.iload 4, 4, 0, []), (.iload_n 1, 1, 0, []), (.if_icmp .le 25, 47, 0, []), (.aload_n 0, 0, 0, []), (.getfield 19, 2, 0, [4]), (.iload 4, 4, 0, []), (.iload_n 3, 3, 0, []), (.iadd, 0, 0, []), (.aload_n 0, 0, 0, []), (.getfield 19, 2, 0, [4]), (.iload 4, 4, 0, []), (.iaload, 0, 0, []), (.iastore, 0, 0, []), (.iinc 4 (-1), 4, (-1), []), (.goto (-25), 32, 0, []), (.aload_n 0, 0, 0, []), (.dup, 0, 0, []), (.getfield 29, 3, 0, [4]), (.iload_n 3, 3, 0, []), (.iadd, 0, 0, []), (.putfield 29, 3, 0, [4]), (.return_, 0, 0, [])]
def qX4_makeGap : List Nat := [0, 1, 2, 3, 4, 5, 8, 9, 10, 11, 13, 15, 16, 19, 22, 23, 26, 28, 29, 30, 31, 34, 36, 37, 38, 41, 44, 47, 48, 51, 52, 53, 55, 57, 58, 61, 62, 65, 67, 68, 69, 70, 73, 75, 76, 77, 80, 83, 84, 85, 88, 89, 90, 93]
def pX4_isSeat : List PI := [(.iload_n 1, 1, 0, []), (.ifCond .lt 24, 13, 0, []), (.iload_n 1, 1, 0, []), (.aload_n 0, 0, 0, []), (.getfield 29, 3, 0, [4]), (.if_icmp .ge 16, 13, 0, []), (.iload_n 1, 1, 0, []), (.aload_n 0, 0, 0, []), (.getfield 19, 2, 0, [4]), (.arraylength, 0, 0, []), (.if_icmp .ge 7, 13, 0, []), (.iconst 1, 0, 1, []), (.goto 4, 14, 0, []), (.iconst 0, 0, 0, []), (.ireturn, 0, 0, [])]
def qX4_isSeat : List Nat := [0, 1, 4, 5, 6, 9, 12, 13, 14, 17, 18, 21, 22, 25, 26]
def pX5_begin : List PI := [(.aload_n 0, 0, 0, []), (.iconst (-1), 0, (-1), []), (.putfield 23, 3, 0, [5]), (.aload_n 0, 0, 0, []), (.iconst 0, 0, 0, []), (.iload_n 2, 2, 0, []), (.aload_n 1, 1, 0, []), (.arraylength, 0, 0, []), (.invokestatic 27, 0, 0, []), (.invokevirtual 33, 54, 0, [2, 0, 5]), (.iconst 0, 0, 0, []), (.istore_n 3, 3, 0, []), (.iload_n 3, 3, 0, []), (.aload_n 0, 0, 0, []), (.getfield 37, 4, 0, [5]), (.if_icmp .ge 31, 33, 0, []), (.iload_n 3, 3, 0, []), (.aload_n 1, 1, 0, []), (.arraylength, 0, 0, []), (.if_icmp .ge 25, 33, 0, []), (.aload_n 0, 0, 0, []), (.aload_n 0, 0, 0, []), (.getfield 23, 3, 0, [5]), (.bipush 6, 0, 6, []), (.iadd, 0, 0, []), (.iload_n 3, 3, 0, []), (.iadd, 0, 0, []), (.aload_n 1, 1, 0, []), (.iload_n 3, 3, 0, []), (.iaload, 0, 0, []), (.invokevirtual 40, 65, 0, [2, 0, 5]), (.iinc 3 1, 3, 1, []), (.goto (-33), 12, 0, []), (.iconst 0, 0, 0, []), (.istore_n 3, 3, 0, []), (.iload_n 3, 3, 0, []), (.aload_n 0, 0, 0, []), (.getfield 15, 1, 0, [5]), (.invokevirtual 43, 31, 0, [0, 1, 3]), (.if_icmp .ge 72, 74, 0, []), (.aload_n 0, 0, 0, []), (.iload_n 3, 3, 0, []), (.invokevirtual 49, 55, 0, [1, 1, 5]), (.istore 4, 4, 0, []), (.aload_n 0, 0, 0, []), (.getfield 15, 1, 0, [5]), (.iload_n 3, 3, 0, []), (.invokevirtual 53, 33, 0, [1, 1, 3]), (.istore 5, 5, 0, []), (.iconst 0, 0, 0, []), (.istore 6, 6, 0, []), (.iload 6, 6, 0, []), (.aload_n 0, 0, 0, []), (.getfield 37, 4, 0, [5]), (.if_icmp .ge 37, 72, 0, []), (.aload_n 0, 0, 0, []), (.iload 4, 4, 0, []), (.iconst 1, 0, 1, []), (.iadd, 0, 0, []), (.iload 6, 6, 0, []), (.iadd, 0, 0, []), (.aload_n 0, 0, 0, []), (.iload 5, 5, 0, []), (.invokevirtual 56, 61, 0, [1, 1, 5]), (.invokevirtual 40, 65, 0, [2, 0, 5]), (.aload_n 0, 0, 0, []), (.getfield 15, 1, 0, [5]), (.iload 5, 5, 0, []), (.invokevirtual 59, 35, 0, [1, 1, 3]), (.istore 5, 5, 0, []), (.iinc 6 1, 6, 1, []), (.goto (-40), 51, 0, []), (.iinc 3 1, 3, 1, []), (.goto (-77), 35, 0, []), (.return_, 0, 0, [])]
def qX5_begin : List Nat := [0, 1, 2, 5, 6, 7, 8, 9, 10, 13, 16, 17, 18, 19, 20, 23, 26, 27, 28, 29, 32, 33, 34, 37, 39, 40, 41, 42, 43, 44, 45, 48, 51, 54, 55, 56, 57, 58, 61, 64, 67, 68, 69, 72, 74, 75, 78, 79, 82, 84, 85, 87, 89, 90, 93, 96, 97, 99, 100, 101, 103, 104, 105, 107, 110, 113, 114, 117, 119, 122, 124, 127, 130, 133, 136]
def pX5_hasOpen : List PI := [(.aload_n 0, 0, 0, []), (.getfield 23, 3, 0, [5]), (.ifCond .lt 7, 5, 0, []), (.iconst 1, 0, 1, []), (.goto 4, 6, 0, []), (.iconst 0, 0, 0, []), (.ireturn, 0, 0, [])]
def qX5_hasOpen : List Nat := [0, 1, 4, 7, 8, 11, 12]
def pX5_drop : List PI := [(.aload_n 0, 0, 0, []), (.aload_n 0, 0, 0, []), (.iconst 0, 0, 0, []), (.invokevirtual 62, 63, 0, [1, 1, 5]), (.putfield 23, 3, 0, [5]), (.aload_n 0, 0, 0, []), (.aload_n 0, 0, 0, []), (.iconst 1, 0, 1, []), (.invokevirtual 62, 63, 0, [1, 1, 5]), (.iconst 0, 0, 0, []), (.invokestatic 65, 1, 0, []), (.putfield 37, 4, 0, [5]), (.aload_n 0, 0, 0, []), (.aload_n 0, 0, 0, []), (.iconst 2, 0, 2, []), (.invokevirtual 62, 63, 0, [1, 1, 5]), (.iconst 0, 0, 0, []), (.invokestatic 65, 1, 0, []), (.putfield 68, 5, 0, [5]), (.return_, 0, 0, [])]
def qX5_drop : List Nat := [0, 1, 2, 3, 6, 9, 10, 11, 12, 15, 16, 19, 22, 23, 24, 25, 28, 29, 32, 35]
def pX5_placeCount : List PI := [(.aload_n 0, 0, 0, []), (.getfield 37, 4, 0, [5]), (.ireturn, 0, 0, [])]
def qX5_placeCount : List Nat := [0, 1, 4]
def pX5_lineCount : List PI := [(.aload_n 0, 0, 0, []), (.getfield 68, 5, 0, [5]), (.ireturn, 0, 0, [])]
def qX5_lineCount : List Nat := [0, 1, 4]
def pX5_openNode : List PI := [(.aload_n 0, 0, 0, []), (.iconst 3, 0, 3, []), (.invokevirtual 62, 63, 0, [1, 1, 5]), (.ireturn, 0, 0, [])]
def qX5_openNode : List Nat := [0, 1, 2, 5]
def pX5_typeAt : List PI := [(.aload_n 0, 0, 0, []), (.aload_n 0, 0, 0, []), (.getfield 23, 3, 0, [5]), (.bipush 6, 0, 6, []), (.iadd, 0, 0, []), (.iload_n 1, 1, 0, []), (.iadd, 0, 0, []), (.invokevirtual 71, 64, 0, [1, 1, 5]), (.ireturn, 0, 0, [])]
def qX5_typeAt : List Nat := [0, 1, 2, 5, 7, 8, 9, 10, 13]
def pX5_firstRow : List PI := [(.aload_n 0, 0, 0, []), (.aload_n 0, 0, 0, []), (.iconst 0, 0, 0, []), (.invokevirtual 74, 62, 0, [1, 1, 5]), (.invokevirtual 71, 64, 0, [1, 1, 5]), (.ireturn, 0, 0, [])]
def qX5_firstRow : List Nat := [0, 1, 2, 3, 6, 9]
def pX5_splitEithers : List PI := [(.aload_n 0, 0, 0, []), (.getfield 37, 4, 0, [5]), (.bipush 40, 0, 40, []), (.if_icmp .gt 12, 8, 0, []), (.aload_n 0, 0, 0, []), (.getfield 68, 5, 0, [5]), (.bipush 60, 0, 60, []), (.if_icmp .le 5, 10, 0, []), (.iconst 0, 0, 0, []), (.ireturn, 0, 0, []), (.iconst 0, 0, 0, []), (.istore_n 1, 1, 0, []), (.iload_n 1, 1, 0, []), (.aload_n 0, 0, 0, []), (.getfield 68, 5, 0, [5]), (.if_icmp .ge 36, 33, 0, []), (.iconst 0, 0, 0, []), (.istore_n 2, 2, 0, []), (.iload_n 2, 2, 0, []), (.aload_n 0, 0, 0, []), (.getfield 37, 4, 0, [5]), (.if_icmp .ge 20, 31, 0, []), (.aload_n 0, 0, 0, []), (.iload_n 1, 1, 0, []), (.iload_n 2, 2, 0, []), (.invokevirtual 77, 56, 0, [2, 2, 5]), (.ifCond .ne 5, 29, 0, []), (.iconst 0, 0, 0, []), (.ireturn, 0, 0, []), (.iinc 2 1, 2, 1, []), (.goto (-22), 18, 0, []), (.iinc 1 1, 1, 1, []), (.goto (-38), 12, 0, []), (.iconst 1, 0, 1, []), (.ireturn, 0, 0, [])]
def qX5_splitEithers : List Nat := [0, 1, 4, 6, 9, 10, 13, 15, 18, 19, 20, 21, 22, 23, 24, 27, 30, 31, 32, 33, 34, 37, 40, 41, 42, 43, 46, 49, 50, 51, 54, 57, 60, 63, 64]
def pX5_firstTested : List PI := [(.iconst 0, 0, 0, []), (.istore_n 1, 1, 0, []), (.iload_n 1, 1, 0, []), (.aload_n 0, 0, 0, []), (.getfield 37, 4, 0, [5]), (.if_icmp .ge 28, 21, 0, []), (.aload_n 0, 0, 0, []), (.aload_n 0, 0, 0, []), (.iconst 0, 0, 0, []), (.invokevirtual 74, 62, 0, [1, 1, 5]), (.iconst 1, 0, 1, []), (.iadd, 0, 0, []), (.iload_n 1, 1, 0, []), (.iadd, 0, 0, []), (.invokevirtual 71, 64, 0, [1, 1, 5]), (.iconst (-1), 0, (-1), []), (.if_icmp .eq 5, 19, 0, []), (.iload_n 1, 1, 0, []), (.ireturn, 0, 0, []), (.iinc 1 1, 1, 1, []), (.goto (-30), 2, 0, []), (.iconst (-1), 0, (-1), []), (.ireturn, 0, 0, [])]
def qX5_firstTested : List Nat := [0, 1, 2, 3, 4, 7, 10, 11, 12, 13, 16, 17, 18, 19, 20, 23, 24, 27, 28, 29, 32, 35, 36]
def pX5_keepFor : List PI := [(.aload_n 0, 0, 0, []), (.aload_n 0, 0, 0, []), (.getfield 23, 3, 0, [5]), (.iconst 1, 0, 1, []), (.iadd, 0, 0, []), (.aload_n 0, 0, 0, []), (.getfield 37, 4, 0, [5]), (.invokevirtual 40, 65, 0, [2, 0, 5]), (.aload_n 0, 0, 0, []), (.aload_n 0, 0, 0, []), (.getfield 23, 3, 0, [5]), (.iconst 2, 0, 2, []), (.iadd, 0, 0, []), (.aload_n 0, 0, 0, []), (.getfield 68, 5, 0, [5]), (.invokevirtual 40, 65, 0, [2, 0, 5]), (.aload_n 0, 0, 0, []), (.aload_n 0, 0, 0, []), (.getfield 23, 3, 0, [5]), (.iconst 3, 0, 3, []), (.iadd, 0, 0, []), (.iload_n 1, 1, 0, []), (.invokevirtual 40, 65, 0, [2, 0, 5]), (.aload_n 0, 0, 0, []), (.aload_n 0, 0, 0, []), (.getfield 23, 3, 0, [5]), (.iconst 4, 0, 4, []), (.iadd, 0, 0, []), (.iload_n 2, 2, 0, []), (.invokevirtual 40, 65, 0, [2, 0, 5]), (.aload_n 0, 0, 0, []), (.aload_n 0, 0, 0, []), (.getfield 23, 3, 0, [5]), (.iconst 5, 0, 5, []), (.iadd, 0, 0, []), (.iconst (-1), 0, (-1), []), (.invokevirtual 40, 65, 0, [2, 0, 5]), (.return_, 0, 0, [])]
def qX5_keepFor : List Nat := [0, 1, 2, 5, 6, 7, 8, 11, 14, 15, 16, 19, 20, 21, 22, 25, 28, 29, 30, 33, 34, 35, 36, 39, 40, 41, 44, 45, 46, 47, 50, 51, 52, 55, 56, 57, 58, 61]
def pX5_nextBranch : List PI := [(.aload_n 0, 0, 0, []), (.iconst 4, 0, 4, []), (.invokevirtual 62, 63, 0, [1, 1, 5]), (.istore_n 1, 1, 0, []), (.aload_n 0, 0, 0, []), (.iconst 5, 0, 5, []), (.invokevirtual 62, 63, 0, [1, 1, 5]), (.iconst 1, 0, 1, []), (.iadd, 0, 0, []), (.istore_n 2, 2, 0, []), (.iload_n 2, 2, 0, []), (.aload_n 0, 0, 0, []), (.getfield 9, 0, 0, [5]), (.invokevirtual 81, 18, 0, [0, 1, 2]), (.if_icmp .ge 45, 37, 0, []), (.aload_n 0, 0, 0, []), (.getfield 9, 0, 0, [5]), (.iload_n 2, 2, 0, []), (.invokevirtual 86, 23, 0, [1, 1, 2]), (.iload_n 1, 1, 0, []), (.if_icmp .ne 27, 35, 0, []), (.aload_n 0, 0, 0, []), (.getfield 9, 0, 0, [5]), (.iload_n 2, 2, 0, []), (.invokevirtual 89, 26, 0, [1, 2, 2]), (.ifCond .ne 16, 35, 0, []), (.aload_n 0, 0, 0, []), (.aload_n 0, 0, 0, []), (.getfield 23, 3, 0, [5]), (.iconst 5, 0, 5, []), (.iadd, 0, 0, []), (.iload_n 2, 2, 0, []), (.invokevirtual 40, 65, 0, [2, 0, 5]), (.iload_n 2, 2, 0, []), (.ireturn, 0, 0, []), (.iinc 2 1, 2, 1, []), (.goto (-50), 10, 0, []), (.iconst (-1), 0, (-1), []), (.ireturn, 0, 0, [])]
def qX5_nextBranch : List Nat := [0, 1, 2, 5, 6, 7, 8, 11, 12, 13, 14, 15, 16, 19, 22, 25, 26, 29, 30, 33, 34, 37, 38, 41, 42, 45, 48, 49, 50, 53, 54, 55, 56, 59, 60, 61, 64, 67, 68]
def pX5_openBranch : List PI := [(.aload_n 0, 0, 0, []), (.getfield 9, 0, 0, [5]), (.iload_n 1, 1, 0, []), (.invokevirtual 93, 24, 0, [1, 1, 2]), (.istore_n 3, 3, 0, []), (.aload_n 0, 0, 0, []), (.getfield 37, 4, 0, [5]), (.iconst 1, 0, 1, []), (.isub, 0, 0, []), (.iload_n 3, 3, 0, []), (.iadd, 0, 0, []), (.bipush 40, 0, 40, []), (.if_icmp .le 5, 15, 0, []), (.iconst 0, 0, 0, []), (.ireturn, 0, 0, []), (.aload_n 0, 0, 0, []), (.getfield 23, 3, 0, [5]), (.bipush 6, 0, 6, []), (.iadd, 0, 0, []), (.istore 4, 4, 0, []), (.aload_n 0, 0, 0, []), (.getfield 37, 4, 0, [5]), (.istore 5, 5, 0, []), (.aload_n 0, 0, 0, []), (.getfield 68, 5, 0, [5]), (.istore 6, 6, 0, []), (.aload_n 0, 0, 0, []), (.iconst 0, 0, 0, []), (.invokevirtual 74, 62, 0, [1, 1, 5]), (.istore 7, 7, 0, []), (.aload_n 0, 0, 0, []), (.aload_n 0, 0, 0, []), (.aload_n 0, 0, 0, []), (.getfield 68, 5, 0, [5]), (.invokevirtual 74, 62, 0, [1, 1, 5]), (.aload_n 0, 0, 0, []), (.getfield 37, 4, 0, [5]), (.iconst 1, 0, 1, []), (.isub, 0, 0, []), (.iload_n 3, 3, 0, []), (.iadd, 0, 0, []), (.invokevirtual 33, 54, 0, [2, 0, 5]), (.aload_n 0, 0, 0, []), (.iload 4, 4, 0, []), (.aload_n 0, 0, 0, []), (.getfield 23, 3, 0, [5]), (.bipush 6, 0, 6, []), (.iadd, 0, 0, []), (.iload_n 2, 2, 0, []), (.iload 5, 5, 0, []), (.iload_n 3, 3, 0, []), (.invokevirtual 96, 59, 0, [5, 0, 5]), (.iconst 0, 0, 0, []), (.istore 8, 8, 0, []), (.iload 8, 8, 0, []), (.iload_n 3, 3, 0, []), (.if_icmp .ge 35, 74, 0, []), (.aload_n 0, 0, 0, []), (.aload_n 0, 0, 0, []), (.getfield 23, 3, 0, [5]), (.bipush 6, 0, 6, []), (.iadd, 0, 0, []), (.iload_n 2, 2, 0, []), (.iadd, 0, 0, []), (.iload 8, 8, 0, []), (.iadd, 0, 0, []), (.aload_n 0, 0, 0, []), (.getfield 9, 0, 0, [5]), (.iload_n 1, 1, 0, []), (.iload 8, 8, 0, []), (.invokevirtual 100, 25, 0, [2, 1, 2]), (.invokevirtual 40, 65, 0, [2, 0, 5]), (.iinc 8 1, 8, 1, []), (.goto (-35), 54, 0, []), (.iconst 0, 0, 0, []), (.istore 8, 8, 0, []), (.iload 8, 8, 0, []), (.iload 6, 6, 0, []), (.if_icmp .ge 90, 130, 0, []), (.aload_n 0, 0, 0, []), (.iload 7, 7, 0, []), (.iconst 1, 0, 1, []), (.iadd, 0, 0, []), (.iload_n 2, 2, 0, []), (.iadd, 0, 0, []), (.invokevirtual 71, 64, 0, [1, 1, 5]), (.istore 9, 9, 0, []), (.iload 9, 9, 0, []), (.iconst (-1), 0, (-1), []), (.if_icmp .eq 16, 96, 0, []), (.aload_n 0, 0, 0, []), (.getfield 15, 1, 0, [5]), (.iload 9, 9, 0, []), (.invokevirtual 103, 34, 0, [1, 1, 3]), (.iload_n 1, 1, 0, []), (.if_icmp .ne 44, 122, 0, []), (.aload_n 0, 0, 0, []), (.aload_n 0, 0, 0, []), (.iload 7, 7, 0, []), (.invokevirtual 71, 64, 0, [1, 1, 5]), (.invokevirtual 49, 55, 0, [1, 1, 5]), (.istore 10, 10, 0, []), (.aload_n 0, 0, 0, []), (.iload 7, 7, 0, []), (.iconst 1, 0, 1, []), (.iadd, 0, 0, []), (.iload 10, 10, 0, []), (.iconst 1, 0, 1, []), (.iadd, 0, 0, []), (.iload_n 2, 2, 0, []), (.iload 5, 5, 0, []), (.iload_n 3, 3, 0, []), (.invokevirtual 96, 59, 0, [5, 0, 5]), (.aload_n 0, 0, 0, []), (.iload 10, 10, 0, []), (.iconst 1, 0, 1, []), (.iadd, 0, 0, []), (.iload_n 2, 2, 0, []), (.iadd, 0, 0, []), (.iload 9, 9, 0, []), (.iload_n 3, 3, 0, []), (.invokevirtual 106, 60, 0, [3, 0, 5]), (.iload 7, 7, 0, []), (.iload 5, 5, 0, []), (.iconst 1, 0, 1, []), (.iadd, 0, 0, []), (.iadd, 0, 0, []), (.istore 7, 7, 0, []), (.iinc 8 1, 8, 1, []), (.goto (-91), 76, 0, []), (.iconst 1, 0, 1, []), (.ireturn, 0, 0, [])]
def qX5_openBranch : List Nat := [0, 1, 4, 5, 8, 9, 10, 13, 14, 15, 16, 17, 19, 22, 23, 24, 25, 28, 30, 31, 33, 34, 37, 39, 40, 43, 45, 46, 47, 50, 52, 53, 54, 55, 58, 61, 62, 65, 66, 67, 68, 69, 72, 73, 75, 76, 79, 81, 82, 83, 85, 86, 89, 90, 92, 94, 95, 98, 99, 100, 103, 105, 106, 107, 108, 110, 111, 112, 115, 116, 118, 121, 124, 127, 130, 131, 133, 135, 137, 140, 141, 143, 144, 145, 146, 147, 150, 152, 154, 155, 158, 159, 162, 164, 167, 168, 171, 172, 173, 175, 178, 181, 183, 184, 186, 187, 188, 190, 191, 192, 193, 195, 196, 199, 200, 202, 203, 204, 205, 206, 208, 209, 212, 214, 216, 217, 218, 219, 221, 224, 227, 228]
def pX5_pile : List PI := [(.aload_n 0, 0, 0, []), (.iload_n 1, 1, 0, []), (.bipush 6, 0, 6, []), (.iadd, 0, 0, []), (.iload_n 2, 2, 0, []), (.iadd, 0, 0, []), (.invokevirtual 110, 67, 0, [1, 0, 5]), (.aload_n 0, 0, 0, []), (.iload_n 1, 1, 0, []), (.iconst 0, 0, 0, []), (.iadd, 0, 0, []), (.aload_n 0, 0, 0, []), (.getfield 23, 3, 0, [5]), (.invokevirtual 40, 65, 0, [2, 0, 5]), (.aload_n 0, 0, 0, []), (.iload_n 1, 1, 0, []), (.putfield 23, 3, 0, [5]), (.aload_n 0, 0, 0, []), (.iload_n 2, 2, 0, []), (.putfield 37, 4, 0, [5]), (.aload_n 0, 0, 0, []), (.iconst 0, 0, 0, []), (.putfield 68, 5, 0, [5]), (.return_, 0, 0, [])]
def qX5_pile : List Nat := [0, 1, 2, 4, 5, 6, 7, 10, 11, 12, 13, 14, 15, 18, 21, 22, 23, 26, 27, 28, 31, 32, 33, 36]
def pX5_addLine : List PI := [(.aload_n 0, 0, 0, []), (.aload_n 0, 0, 0, []), (.getfield 68, 5, 0, [5]), (.invokevirtual 74, 62, 0, [1, 1, 5]), (.istore_n 2, 2, 0, []), (.aload_n 0, 0, 0, []), (.dup, 0, 0, []), (.getfield 68, 5, 0, [5]), (.iconst 1, 0, 1, []), (.iadd, 0, 0, []), (.putfield 68, 5, 0, [5]), (.aload_n 0, 0, 0, []), (.aload_n 0, 0, 0, []), (.aload_n 0, 0, 0, []), (.getfield 68, 5, 0, [5]), (.invokevirtual 74, 62, 0, [1, 1, 5]), (.invokevirtual 110, 67, 0, [1, 0, 5]), (.aload_n 0, 0, 0, []), (.iload_n 2, 2, 0, []), (.iload_n 1, 1, 0, []), (.invokevirtual 40, 65, 0, [2, 0, 5]), (.iload_n 2, 2, 0, []), (.ireturn, 0, 0, [])]
def qX5_addLine : List Nat := [0, 1, 2, 5, 8, 9, 10, 11, 14, 15, 16, 19, 20, 21, 22, 25, 28, 31, 32, 33, 34, 37, 38]
def pX5_splitAt : List PI := [(.aload_n 0, 0, 0, []), (.iload_n 1, 1, 0, []), (.invokevirtual 74, 62, 0, [1, 1, 5]), (.iconst 1, 0, 1, []), (.iadd, 0, 0, []), (.iload_n 2, 2, 0, []), (.iadd, 0, 0, []), (.istore_n 3, 3, 0, []), (.aload_n 0, 0, 0, []), (.iload_n 3, 3, 0, []), (.invokevirtual 71, 64, 0, [1, 1, 5]), (.istore 4, 4, 0, []), (.iconst 0, 0, 0, []), (.istore 5, 5, 0, []), (.iload 5, 5, 0, []), (.bipush 60, 0, 60, []), (.if_icmp .ge 83, 60, 0, []), (.aload_n 0, 0, 0, []), (.iload 4, 4, 0, []), (.invokevirtual 114, 57, 0, [1, 2, 5]), (.ifCond .eq 74, 60, 0, []), (.aload_n 0, 0, 0, []), (.getfield 68, 5, 0, [5]), (.bipush 60, 0, 60, []), (.if_icmp .lt 5, 27, 0, []), (.iconst 0, 0, 0, []), (.ireturn, 0, 0, []), (.aload_n 0, 0, 0, []), (.iload_n 1, 1, 0, []), (.invokevirtual 117, 58, 0, [1, 0, 5]), (.iload 4, 4, 0, []), (.iconst 1, 0, 1, []), (.iadd, 0, 0, []), (.istore 6, 6, 0, []), (.aload_n 0, 0, 0, []), (.iload_n 3, 3, 0, []), (.aload_n 0, 0, 0, []), (.iload 6, 6, 0, []), (.invokevirtual 56, 61, 0, [1, 1, 5]), (.invokevirtual 40, 65, 0, [2, 0, 5]), (.aload_n 0, 0, 0, []), (.iload_n 3, 3, 0, []), (.aload_n 0, 0, 0, []), (.getfield 37, 4, 0, [5]), (.iadd, 0, 0, []), (.iconst 1, 0, 1, []), (.iadd, 0, 0, []), (.aload_n 0, 0, 0, []), (.aload_n 0, 0, 0, []), (.getfield 15, 1, 0, [5]), (.iload 6, 6, 0, []), (.invokevirtual 59, 35, 0, [1, 1, 3]), (.invokevirtual 56, 61, 0, [1, 1, 5]), (.invokevirtual 40, 65, 0, [2, 0, 5]), (.aload_n 0, 0, 0, []), (.iload_n 3, 3, 0, []), (.invokevirtual 71, 64, 0, [1, 1, 5]), (.istore 4, 4, 0, []), (.iinc 5 1, 5, 1, []), (.goto (-84), 14, 0, []), (.iconst 1, 0, 1, []), (.ireturn, 0, 0, [])]
def qX5_splitAt : List Nat := [0, 1, 2, 5, 6, 7, 8, 9, 10, 11, 12, 15, 17, 18, 20, 22, 24, 27, 28, 30, 33, 36, 37, 40, 42, 45, 46, 47, 48, 49, 52, 54, 55, 56, 58, 59, 60, 61, 63, 66, 69, 70, 71, 72, 75, 76, 77, 78, 79, 80, 83, 85, 88, 91, 94, 95, 96, 99, 101, 104, 107, 108]
def pX5_isEither : List PI := [(.iload_n 1, 1, 0, []), (.iconst (-1), 0, (-1), []), (.if_icmp .eq 20, 11, 0, []), (.aload_n 0, 0, 0, []), (.getfield 15, 1, 0, [5]), (.iload_n 1, 1, 0, []), (.invokevirtual 103, 34, 0, [1, 1, 3]), (.bipush (-2), 0, (-2), []), (.if_icmp .ne 7, 11, 0, []), (.iconst 1, 0, 1, []), (.goto 4, 12, 0, []), (.iconst 0, 0, 0, []), (.ireturn, 0, 0, [])]
def qX5_isEither : List Nat := [0, 1, 2, 5, 6, 9, 10, 13, 15, 18, 19, 22, 23]
def pX5_doubleLine : List PI := [(.aload_n 0, 0, 0, []), (.iload_n 1, 1, 0, []), (.invokevirtual 74, 62, 0, [1, 1, 5]), (.istore_n 2, 2, 0, []), (.aload_n 0, 0, 0, []), (.aload_n 0, 0, 0, []), (.getfield 68, 5, 0, [5]), (.invokevirtual 74, 62, 0, [1, 1, 5]), (.iload_n 2, 2, 0, []), (.isub, 0, 0, []), (.istore_n 3, 3, 0, []), (.aload_n 0, 0, 0, []), (.dup, 0, 0, []), (.getfield 68, 5, 0, [5]), (.iconst 1, 0, 1, []), (.iadd, 0, 0, []), (.putfield 68, 5, 0, [5]), (.aload_n 0, 0, 0, []), (.aload_n 0, 0, 0, []), (.aload_n 0, 0, 0, []), (.getfield 68, 5, 0, [5]), (.invokevirtual 74, 62, 0, [1, 1, 5]), (.invokevirtual 110, 67, 0, [1, 0, 5]), (.aload_n 0, 0, 0, []), (.iload_n 2, 2, 0, []), (.aload_n 0, 0, 0, []), (.iload_n 1, 1, 0, []), (.iconst 1, 0, 1, []), (.iadd, 0, 0, []), (.invokevirtual 74, 62, 0, [1, 1, 5]), (.iload_n 3, 3, 0, []), (.invokevirtual 120, 66, 0, [3, 0, 5]), (.return_, 0, 0, [])]
def qX5_doubleLine : List Nat := [0, 1, 2, 5, 6, 7, 8, 11, 14, 15, 16, 17, 18, 19, 22, 23, 24, 27, 28, 29, 30, 33, 36, 39, 40, 41, 42, 43, 44, 45, 48, 49, 52]
def pX5_copyAround : List PI := [(.aload_n 0, 0, 0, []), (.iload_n 1, 1, 0, []), (.iload_n 2, 2, 0, []), (.iload_n 3, 3, 0, []), (.invokevirtual 120, 66, 0, [3, 0, 5]), (.aload_n 0, 0, 0, []), (.iload_n 1, 1, 0, []), (.iload_n 3, 3, 0, []), (.iadd, 0, 0, []), (.iconst 1, 0, 1, []), (.iadd, 0, 0, []), (.iload_n 2, 2, 0, []), (.iload_n 3, 3, 0, []), (.iadd, 0, 0, []), (.iload 5, 5, 0, []), (.iadd, 0, 0, []), (.iload 4, 4, 0, []), (.iload_n 3, 3, 0, []), (.isub, 0, 0, []), (.iconst 1, 0, 1, []), (.isub, 0, 0, []), (.invokevirtual 120, 66, 0, [3, 0, 5]), (.return_, 0, 0, [])]
def qX5_copyAround : List Nat := [0, 1, 2, 3, 4, 7, 8, 9, 10, 11, 12, 13, 14, 15, 16, 18, 19, 21, 22, 23, 24, 25, 28]
def pX5_putFields : List PI := [(.iload_n 2, 2, 0, []), (.iconst 1, 0, 1, []), (.iadd, 0, 0, []), (.istore 4, 4, 0, []), (.iconst 0, 0, 0, []), (.istore 5, 5, 0, []), (.iload 5, 5, 0, []), (.iload_n 3, 3, 0, []), (.if_icmp .ge 51, 34, 0, []), (.iload_n 2, 2, 0, []), (.iconst (-1), 0, (-1), []), (.if_icmp .ne 15, 19, 0, []), (.aload_n 0, 0, 0, []), (.iload_n 1, 1, 0, []), (.iload 5, 5, 0, []), (.iadd, 0, 0, []), (.iconst (-1), 0, (-1), []), (.invokevirtual 40, 65, 0, [2, 0, 5]), (.goto 28, 32, 0, []), (.aload_n 0, 0, 0, []), (.iload_n 1, 1, 0, []), (.iload 5, 5, 0, []), (.iadd, 0, 0, []), (.aload_n 0, 0, 0, []), (.iload 4, 4, 0, []), (.invokevirtual 56, 61, 0, [1, 1, 5]), (.invokevirtual 40, 65, 0, [2, 0, 5]), (.aload_n 0, 0, 0, []), (.getfield 15, 1, 0, [5]), (.iload 4, 4, 0, []), (.invokevirtual 59, 35, 0, [1, 1, 3]), (.istore 4, 4, 0, []), (.iinc 5 1, 5, 1, []), (.goto (-51), 6, 0, []), (.return_, 0, 0, [])]
def qX5_putFields : List Nat := [0, 1, 2, 3, 5, 6, 8, 10, 11, 14, 15, 16, 19, 20, 21, 23, 24, 25, 28, 31, 32, 33, 35, 36, 37, 39, 42, 45, 46, 49, 51, 54, 56, 59, 62]
def pX5_cellOf : List PI := [(.aload_n 0, 0, 0, []), (.getfield 15, 1, 0, [5]), (.iload_n 1, 1, 0, []), (.invokevirtual 103, 34, 0, [1, 1, 3]), (.iconst (-1), 0, (-1), []), (.if_icmp .ne 7, 8, 0, []), (.iconst (-1), 0, (-1), []), (.goto 4, 9, 0, []), (.iload_n 1, 1, 0, []), (.ireturn, 0, 0, [])]
def qX5_cellOf : List Nat := [0, 1, 4, 5, 8, 9, 12, 13, 16, 17]
def pX5_lineAt : List PI := [(.aload_n 0, 0, 0, []), (.getfield 23, 3, 0, [5]), (.bipush 6, 0, 6, []), (.iadd, 0, 0, []), (.aload_n 0, 0, 0, []), (.getfield 37, 4, 0, [5]), (.iadd, 0, 0, []), (.iload_n 1, 1, 0, []), (.aload_n 0, 0, 0, []), (.getfield 37, 4, 0, [5]), (.iconst 1, 0, 1, []), (.iadd, 0, 0, []), (.imul, 0, 0, []), (.iadd, 0, 0, []), (.ireturn, 0, 0, [])]
def qX5_lineAt : List Nat := [0, 1, 4, 6, 7, 8, 11, 12, 13, 14, 17, 18, 19, 20, 21]
def pX5_head : List PI := [(.aload_n 0, 0, 0, []), (.getfield 23, 3, 0, [5]), (.ifCond .lt 16, 10, 0, []), (.aload_n 0, 0, 0, []), (.aload_n 0, 0, 0, []), (.getfield 23, 3, 0, [5]), (.iload_n 1, 1, 0, []), (.iadd, 0, 0, []), (.invokevirtual 71, 64, 0, [1, 1, 5]), (.goto 4, 11, 0, []), (.iconst (-1), 0, (-1), []), (.ireturn, 0, 0, [])]
def qX5_head : List Nat := [0, 1, 4, 7, 8, 9, 12, 13, 14, 17, 20, 21]
def pX5_get : List PI := [(.iload_n 1, 1, 0, []), (.ifCond .lt 21, 12, 0, []), (.iload_n 1, 1, 0, []), (.aload_n 0, 0, 0, []), (.getfield 19, 2, 0, [5]), (.arraylength, 0, 0, []), (.if_icmp .ge 12, 12, 0, []), (.aload_n 0, 0, 0, []), (.getfield 19, 2, 0, [5]), (.iload_n 1, 1, 0, []), (.iaload, 0, 0, []), (.goto 4, 13, 0, []), (.iconst (-1), 0, (-1), []), (.ireturn, 0, 0, [])]
def qX5_get : List Nat := [0, 1, 4, 5, 6, 9, 10, 13, 14, 17, 18, 19, 22, 23]
def pX5_set : List PI := [(.iload_n 1, 1, 0, []), (.ifCond .lt 19, 12, 0, []), (.iload_n 1, 1, 0, []), (.aload_n 0, 0, 0, []), (.getfield 19, 2, 0, [5]), (.arraylength, 0, 0, []), (.if_icmp .ge 10, 12, 0, []), (.aload_n 0, 0, 0, []), (.getfield 19, 2, 0, [5]), (.iload_n 1, 1, 0, []), (.iload_n 2, 2, 0, []), (.iastore, 0, 0, []), (.return_, 0, 0, [])]
def qX5_set : List Nat := [0, 1, 4, 5, 6, 9, 10, 13, 14, 17, 18, 19, 20]
def pX5_copy : List PI := [(.aload_n 0, 0, 0, []), (.getfield 19, 2, 0, [5]), (.arraylength, 0, 0, []), (.iload_n 3, 3, 0, []), (.isub, 0, 0, []), (.istore 4, 4, 0, []), (.iload_n 3, 3, 0, []), (.ifCond .le 37, 26, 0, []), (.iload_n 1, 1, 0, []), (.ifCond .lt 33, 26, 0, []), (.iload_n 1, 1, 0, []), (.iload 4, 4, 0, []), (.if_icmp .gt 27, 26, 0, []), (.iload_n 2, 2, 0, []), (.ifCond .lt 23, 26, 0, []), (.iload_n 2, 2, 0, []), (.iload 4, 4, 0, []), (.if_icmp .gt 17, 26, 0, []), (.aload_n 0, 0, 0, []), (.getfield 19, 2, 0, [5]), (.iload_n 1, 1, 0, []), (.aload_n 0, 0, 0, []), (.getfield 19, 2, 0, [5]), (.iload_n 2, 2, 0, []), (.iload_n 3, 3, 0, []), (.invokestatic 123, 2, 0, []), (.return_, 0, 0, [])]
def qX5_copy : List Nat := [0, 1, 4, 5, 6, 7, 9, 10, 13, 14, 17, 18, 20, 23, 24, 27, 28, 30, 33, 34, 37, 38, 39, 42, 43, 44, 47]
def pX6_fell : List PI := [(.aload_n 0, 0, 0, []), (.iconst 0, 0, 0, []), (.putfield 15, 1, 0, [6]), (.aload_n 0, 0, 0, []), (.iconst 0, 0, 0, []), (.putfield 19, 2, 0, [6]), (.aload_n 0, 0, 0, []), (.iconst 0, 0, 0, []), (.putfield 22, 3, 0, [6, 2]), (.return_, 0, 0, [])]
def qX6_fell : List Nat := [0, 1, 2, 5, 6, 7, 10, 11, 12, 15]
def pX6_stand : List PI := [(.aload_n 0, 0, 0, []), (.iconst 1, 0, 1, []), (.putfield 22, 3, 0, [6, 2]), (.return_, 0, 0, [])]
def qX6_stand : List Nat := [0, 1, 2, 5]
def pX6_stands : List PI := [(.aload_n 0, 0, 0, []), (.getfield 22, 3, 0, [6]), (.ireturn, 0, 0, [])]
def qX6_stands : List Nat := [0, 1, 4]
def pX6_count : List PI := [(.aload_n 0, 0, 0, []), (.getfield 15, 1, 0, [6]), (.ireturn, 0, 0, [])]
def qX6_count : List Nat := [0, 1, 4]
def pX6_failCount : List PI := [(.aload_n 0, 0, 0, []), (.getfield 19, 2, 0, [6]), (.ireturn, 0, 0, [])]
def qX6_failCount : List Nat := [0, 1, 4]
def pX6_add : List PI := [(.aload_n 0, 0, 0, []), (.getfield 15, 1, 0, [6]), (.istore_n 3, 3, 0, []), (.iload_n 3, 3, 0, []), (.ifCond .lt 10, 8, 0, []), (.iload_n 3, 3, 0, []), (.sipush 300, 0, 300, []), (.if_icmp .lt 5, 10, 0, []), (.iconst (-1), 0, (-1), []), (.ireturn, 0, 0, []), (.aload_n 0, 0, 0, []), (.dup, 0, 0, []), (.getfield 15, 1, 0, [6]), (.iconst 1, 0, 1, []), (.iadd, 0, 0, []), (.putfield 15, 1, 0, [6]), (.iconst 0, 0, 0, []), (.istore 4, 4, 0, []), (.iload 4, 4, 0, []), (.bipush 9, 0, 9, []), (.if_icmp .ge 17, 28, 0, []), (.aload_n 0, 0, 0, []), (.iload_n 3, 3, 0, []), (.iload 4, 4, 0, []), (.iconst (-1), 0, (-1), []), (.invokevirtual 26, 88, 0, [3, 0, 6]), (.iinc 4 1, 4, 1, []), (.goto (-18), 18, 0, []), (.aload_n 0, 0, 0, []), (.iload_n 3, 3, 0, []), (.bipush 7, 0, 7, []), (.iload_n 1, 1, 0, []), (.invokevirtual 26, 88, 0, [3, 0, 6]), (.aload_n 0, 0, 0, []), (.iload_n 3, 3, 0, []), (.bipush 8, 0, 8, []), (.iload_n 2, 2, 0, []), (.invokevirtual 26, 88, 0, [3, 0, 6]), (.iload_n 1, 1, 0, []), (.iconst (-1), 0, (-1), []), (.if_icmp .eq 9, 45, 0, []), (.aload_n 0, 0, 0, []), (.iload_n 3, 3, 0, []), (.iload_n 1, 1, 0, []), (.invokevirtual 30, 86, 0, [2, 0, 6]), (.iload_n 3, 3, 0, []), (.ireturn, 0, 0, [])]
def qX6_add : List Nat := [0, 1, 4, 5, 6, 9, 10, 13, 16, 17, 18, 19, 20, 23, 24, 25, 28, 29, 31, 33, 35, 38, 39, 40, 42, 43, 46, 49, 52, 53, 54, 56, 57, 60, 61, 62, 64, 65, 68, 69, 70, 73, 74, 75, 76, 79, 80]
def pX6_makeFail : List PI := [(.aload_n 0, 0, 0, []), (.iload_n 1, 1, 0, []), (.iconst 0, 0, 0, []), (.iconst 0, 0, 0, []), (.invokevirtual 26, 88, 0, [3, 0, 6]), (.aload_n 0, 0, 0, []), (.dup, 0, 0, []), (.getfield 19, 2, 0, [6]), (.iconst 1, 0, 1, []), (.iadd, 0, 0, []), (.putfield 19, 2, 0, [6]), (.return_, 0, 0, [])]
def qX6_makeFail : List Nat := [0, 1, 2, 3, 4, 7, 8, 9, 12, 13, 14, 17]
def pX6_makeLeaf : List PI := [(.aload_n 0, 0, 0, []), (.iload_n 1, 1, 0, []), (.iconst 0, 0, 0, []), (.iconst 1, 0, 1, []), (.invokevirtual 26, 88, 0, [3, 0, 6]), (.aload_n 0, 0, 0, []), (.iload_n 1, 1, 0, []), (.iconst 1, 0, 1, []), (.iload_n 2, 2, 0, []), (.invokevirtual 26, 88, 0, [3, 0, 6]), (.return_, 0, 0, [])]
def qX6_makeLeaf : List Nat := [0, 1, 2, 3, 4, 7, 8, 9, 10, 11, 14]
def pX6_makeTest : List PI := [(.aload_n 0, 0, 0, []), (.iload_n 1, 1, 0, []), (.iconst 0, 0, 0, []), (.iconst 2, 0, 2, []), (.invokevirtual 26, 88, 0, [3, 0, 6]), (.aload_n 0, 0, 0, []), (.iload_n 1, 1, 0, []), (.iconst 1, 0, 1, []), (.iload_n 2, 2, 0, []), (.invokevirtual 26, 88, 0, [3, 0, 6]), (.aload_n 0, 0, 0, []), (.iload_n 1, 1, 0, []), (.iconst 2, 0, 2, []), (.iload_n 3, 3, 0, []), (.invokevirtual 26, 88, 0, [3, 0, 6]), (.aload_n 0, 0, 0, []), (.iload_n 1, 1, 0, []), (.iconst 3, 0, 3, []), (.iload 4, 4, 0, []), (.invokevirtual 26, 88, 0, [3, 0, 6]), (.aload_n 0, 0, 0, []), (.iload_n 1, 1, 0, []), (.iconst 4, 0, 4, []), (.iconst 0, 0, 0, []), (.invokevirtual 26, 88, 0, [3, 0, 6]), (.return_, 0, 0, [])]
def qX6_makeTest : List Nat := [0, 1, 2, 3, 4, 7, 8, 9, 10, 11, 14, 15, 16, 17, 18, 21, 22, 23, 24, 26, 29, 30, 31, 32, 33, 36]
def pX6_kindOf : List PI := [(.aload_n 0, 0, 0, []), (.iload_n 1, 1, 0, []), (.iconst 0, 0, 0, []), (.invokevirtual 34, 87, 0, [2, 1, 6]), (.ireturn, 0, 0, [])]
def qX6_kindOf : List Nat := [0, 1, 2, 3, 6]
def pX6_testedPlace : List PI := [(.aload_n 0, 0, 0, []), (.iload_n 1, 1, 0, []), (.iconst 3, 0, 3, []), (.invokevirtual 34, 87, 0, [2, 1, 6]), (.ireturn, 0, 0, [])]
def qX6_testedPlace : List Nat := [0, 1, 2, 3, 6]
def pX6_makerOf : List PI := [(.aload_n 0, 0, 0, []), (.iload_n 1, 1, 0, []), (.bipush 8, 0, 8, []), (.invokevirtual 34, 87, 0, [2, 1, 6]), (.ireturn, 0, 0, [])]
def qX6_makerOf : List Nat := [0, 1, 2, 4, 7]
def pX6_tell : List PI := [(.iload_n 2, 2, 0, []), (.bipush 100, 0, 100, []), (.if_icmp .ne 11, 8, 0, []), (.aload_n 0, 0, 0, []), (.iload_n 1, 1, 0, []), (.bipush 7, 0, 7, []), (.invokevirtual 34, 87, 0, [2, 1, 6]), (.ireturn, 0, 0, []), (.iload_n 2, 2, 0, []), (.bipush 101, 0, 101, []), (.if_icmp .ne 11, 16, 0, []), (.aload_n 0, 0, 0, []), (.iload_n 1, 1, 0, []), (.bipush 8, 0, 8, []), (.invokevirtual 34, 87, 0, [2, 1, 6]), (.ireturn, 0, 0, []), (.iload_n 2, 2, 0, []), (.iconst 4, 0, 4, []), (.if_icmp .gt 10, 24, 0, []), (.aload_n 0, 0, 0, []), (.iload_n 1, 1, 0, []), (.iload_n 2, 2, 0, []), (.invokevirtual 34, 87, 0, [2, 1, 6]), (.ireturn, 0, 0, []), (.aload_n 0, 0, 0, []), (.iload_n 1, 1, 0, []), (.iload_n 2, 2, 0, []), (.iconst 5, 0, 5, []), (.isub, 0, 0, []), (.invokevirtual 38, 85, 0, [2, 1, 6]), (.ireturn, 0, 0, [])]
def qX6_tell : List Nat := [0, 1, 3, 6, 7, 8, 10, 13, 14, 15, 17, 20, 21, 22, 24, 27, 28, 29, 30, 33, 34, 35, 36, 39, 40, 41, 42, 43, 44, 45, 48]
def pX6_branchOf : List PI := [(.aload_n 0, 0, 0, []), (.iload_n 1, 1, 0, []), (.iconst 5, 0, 5, []), (.invokevirtual 34, 87, 0, [2, 1, 6]), (.istore_n 3, 3, 0, []), (.iconst 0, 0, 0, []), (.istore 4, 4, 0, []), (.iload 4, 4, 0, []), (.bipush 8, 0, 8, []), (.if_icmp .ge 35, 28, 0, []), (.iload_n 3, 3, 0, []), (.iconst (-1), 0, (-1), []), (.if_icmp .eq 30, 28, 0, []), (.aload_n 0, 0, 0, []), (.iload_n 3, 3, 0, []), (.bipush 8, 0, 8, []), (.invokevirtual 34, 87, 0, [2, 1, 6]), (.iload_n 2, 2, 0, []), (.if_icmp .ne 5, 21, 0, []), (.iload_n 3, 3, 0, []), (.ireturn, 0, 0, []), (.aload_n 0, 0, 0, []), (.iload_n 3, 3, 0, []), (.bipush 6, 0, 6, []), (.invokevirtual 34, 87, 0, [2, 1, 6]), (.istore_n 3, 3, 0, []), (.iinc 4 1, 4, 1, []), (.goto (-36), 7, 0, []), (.iconst (-1), 0, (-1), []), (.ireturn, 0, 0, [])]
def qX6_branchOf : List Nat := [0, 1, 2, 3, 6, 7, 8, 10, 12, 14, 17, 18, 19, 22, 23, 24, 26, 29, 30, 33, 34, 35, 36, 37, 39, 42, 43, 46, 49, 50]
def pX6_branchTowards : List PI := [(.iconst (-1), 0, (-1), []), (.istore_n 3, 3, 0, []), (.aload_n 0, 0, 0, []), (.iload_n 1, 1, 0, []), (.iconst 5, 0, 5, []), (.invokevirtual 34, 87, 0, [2, 1, 6]), (.istore 4, 4, 0, []), (.iconst 0, 0, 0, []), (.istore 5, 5, 0, []), (.iload 5, 5, 0, []), (.bipush 8, 0, 8, []), (.if_icmp .ge 34, 27, 0, []), (.iload 4, 4, 0, []), (.iconst (-1), 0, (-1), []), (.if_icmp .eq 28, 27, 0, []), (.iload 4, 4, 0, []), (.iload_n 2, 2, 0, []), (.if_icmp .gt 22, 27, 0, []), (.iload 4, 4, 0, []), (.istore_n 3, 3, 0, []), (.aload_n 0, 0, 0, []), (.iload 4, 4, 0, []), (.bipush 6, 0, 6, []), (.invokevirtual 34, 87, 0, [2, 1, 6]), (.istore 4, 4, 0, []), (.iinc 5 1, 5, 1, []), (.goto (-35), 9, 0, []), (.iload_n 3, 3, 0, []), (.ireturn, 0, 0, [])]
def qX6_branchTowards : List Nat := [0, 1, 2, 3, 4, 5, 8, 10, 11, 13, 15, 17, 20, 22, 23, 26, 28, 29, 32, 34, 35, 36, 38, 40, 43, 45, 48, 51, 52]
def pX6_failNode : List PI := [(.iload_n 1, 1, 0, []), (.istore_n 2, 2, 0, []), (.iconst 0, 0, 0, []), (.istore_n 3, 3, 0, []), (.iload_n 3, 3, 0, []), (.aload_n 0, 0, 0, []), (.getfield 15, 1, 0, [6]), (.if_icmp .ge 26, 19, 0, []), (.aload_n 0, 0, 0, []), (.iload_n 3, 3, 0, []), (.invokevirtual 41, 77, 0, [1, 1, 6]), (.ifCond .ne 12, 17, 0, []), (.iload_n 2, 2, 0, []), (.ifCond .ne 5, 16, 0, []), (.iload_n 3, 3, 0, []), (.ireturn, 0, 0, []), (.iinc 2 (-1), 2, (-1), []), (.iinc 3 1, 3, 1, []), (.goto (-28), 4, 0, []), (.iconst (-1), 0, (-1), []), (.ireturn, 0, 0, [])]
def qX6_failNode : List Nat := [0, 1, 2, 3, 4, 5, 6, 9, 12, 13, 14, 17, 20, 21, 24, 25, 26, 29, 32, 35, 36]
def pX6_hasLeafOf : List PI := [(.iconst 0, 0, 0, []), (.istore_n 2, 2, 0, []), (.iload_n 2, 2, 0, []), (.aload_n 0, 0, 0, []), (.getfield 15, 1, 0, [6]), (.if_icmp .ge 30, 21, 0, []), (.aload_n 0, 0, 0, []), (.iload_n 2, 2, 0, []), (.invokevirtual 41, 77, 0, [1, 1, 6]), (.iconst 1, 0, 1, []), (.if_icmp .ne 15, 19, 0, []), (.aload_n 0, 0, 0, []), (.iload_n 2, 2, 0, []), (.iconst 1, 0, 1, []), (.invokevirtual 34, 87, 0, [2, 1, 6]), (.iload_n 1, 1, 0, []), (.if_icmp .ne 5, 19, 0, []), (.iconst 1, 0, 1, []), (.ireturn, 0, 0, []), (.iinc 2 1, 2, 1, []), (.goto (-32), 2, 0, []), (.iconst 0, 0, 0, []), (.ireturn, 0, 0, [])]
def qX6_hasLeafOf : List Nat := [0, 1, 2, 3, 4, 7, 10, 11, 12, 15, 16, 19, 20, 21, 22, 25, 26, 29, 30, 31, 34, 37, 38]
def pX6_branchAt : List PI := [(.iload_n 2, 2, 0, []), (.aload_n 0, 0, 0, []), (.iload_n 1, 1, 0, []), (.iconst 4, 0, 4, []), (.invokevirtual 34, 87, 0, [2, 1, 6]), (.if_icmp .lt 5, 8, 0, []), (.iconst (-1), 0, (-1), []), (.ireturn, 0, 0, []), (.aload_n 0, 0, 0, []), (.iload_n 1, 1, 0, []), (.iconst 5, 0, 5, []), (.invokevirtual 34, 87, 0, [2, 1, 6]), (.istore_n 3, 3, 0, []), (.iconst 0, 0, 0, []), (.istore 4, 4, 0, []), (.iload 4, 4, 0, []), (.iload_n 2, 2, 0, []), (.if_icmp .ge 17, 25, 0, []), (.aload_n 0, 0, 0, []), (.iload_n 3, 3, 0, []), (.bipush 6, 0, 6, []), (.invokevirtual 34, 87, 0, [2, 1, 6]), (.istore_n 3, 3, 0, []), (.iinc 4 1, 4, 1, []), (.goto (-17), 15, 0, []), (.iload_n 3, 3, 0, []), (.ireturn, 0, 0, [])]
def qX6_branchAt : List Nat := [0, 1, 2, 3, 4, 7, 10, 11, 12, 13, 14, 15, 18, 19, 20, 22, 24, 25, 28, 29, 30, 32, 35, 36, 39, 42, 43]
def pX6_hang : List PI := [(.aload_n 0, 0, 0, []), (.iload_n 2, 2, 0, []), (.iconst 4, 0, 4, []), (.invokevirtual 34, 87, 0, [2, 1, 6]), (.istore_n 3, 3, 0, []), (.iload_n 3, 3, 0, []), (.ifCond .ne 13, 13, 0, []), (.aload_n 0, 0, 0, []), (.iload_n 2, 2, 0, []), (.iconst 5, 0, 5, []), (.iload_n 1, 1, 0, []), (.invokevirtual 26, 88, 0, [3, 0, 6]), (.goto 18, 23, 0, []), (.aload_n 0, 0, 0, []), (.aload_n 0, 0, 0, []), (.iload_n 2, 2, 0, []), (.iload_n 3, 3, 0, []), (.iconst 1, 0, 1, []), (.isub, 0, 0, []), (.invokevirtual 38, 85, 0, [2, 1, 6]), (.bipush 6, 0, 6, []), (.iload_n 1, 1, 0, []), (.invokevirtual 26, 88, 0, [3, 0, 6]), (.aload_n 0, 0, 0, []), (.iload_n 2, 2, 0, []), (.iconst 4, 0, 4, []), (.iload_n 3, 3, 0, []), (.iconst 1, 0, 1, []), (.iadd, 0, 0, []), (.invokevirtual 26, 88, 0, [3, 0, 6]), (.return_, 0, 0, [])]
def qX6_hang : List Nat := [0, 1, 2, 3, 6, 7, 8, 11, 12, 13, 14, 15, 18, 21, 22, 23, 24, 25, 26, 27, 30, 32, 33, 36, 37, 38, 39, 40, 41, 42, 45]
def pX6_get : List PI := [(.iload_n 1, 1, 0, []), (.ifCond .lt 25, 13, 0, []), (.iload_n 1, 1, 0, []), (.aload_n 0, 0, 0, []), (.getfield 15, 1, 0, [6]), (.if_icmp .ge 17, 13, 0, []), (.iload_n 2, 2, 0, []), (.ifCond .lt 13, 13, 0, []), (.iload_n 2, 2, 0, []), (.bipush 9, 0, 9, []), (.if_icmp .ge 7, 13, 0, []), (.iconst 1, 0, 1, []), (.goto 4, 14, 0, []), (.iconst 0, 0, 0, []), (.istore_n 3, 3, 0, []), (.iload_n 3, 3, 0, []), (.ifCond .eq 17, 26, 0, []), (.aload_n 0, 0, 0, []), (.getfield 11, 0, 0, [6]), (.iload_n 1, 1, 0, []), (.bipush 9, 0, 9, []), (.imul, 0, 0, []), (.iload_n 2, 2, 0, []), (.iadd, 0, 0, []), (.iaload, 0, 0, []), (.goto 4, 27, 0, []), (.iconst (-1), 0, (-1), []), (.ireturn, 0, 0, [])]
def qX6_get : List Nat := [0, 1, 4, 5, 6, 9, 12, 13, 16, 17, 19, 22, 23, 26, 27, 28, 29, 32, 33, 36, 37, 39, 40, 41, 42, 43, 46, 47]
def pX6_set : List PI := [(.iload_n 1, 1, 0, []), (.ifCond .lt 33, 20, 0, []), (.iload_n 1, 1, 0, []), (.aload_n 0, 0, 0, []), (.getfield 15, 1, 0, [6]), (.if_icmp .ge 25, 20, 0, []), (.iload_n 2, 2, 0, []), (.ifCond .lt 21, 20, 0, []), (.iload_n 2, 2, 0, []), (.bipush 9, 0, 9, []), (.if_icmp .ge 15, 20, 0, []), (.aload_n 0, 0, 0, []), (.getfield 11, 0, 0, [6]), (.iload_n 1, 1, 0, []), (.bipush 9, 0, 9, []), (.imul, 0, 0, []), (.iload_n 2, 2, 0, []), (.iadd, 0, 0, []), (.iload_n 3, 3, 0, []), (.iastore, 0, 0, []), (.return_, 0, 0, [])]
def qX6_set : List Nat := [0, 1, 4, 5, 6, 9, 12, 13, 16, 17, 19, 22, 23, 26, 27, 29, 30, 31, 32, 33, 34]
def pX7_type : List PI := [(.aload_n 0, 0, 0, []), (.getfield 12, 0, 0, [7]), (.invokevirtual 77, 17, 0, [0, 1, 2]), (.bipush 8, 0, 8, []), (.if_icmp .lt 13, 10, 0, []), (.new 81, 1, 0, [83, 85, 0]), (.dup, 0, 0, []), (.ldc 83, 0, 0, []), (.invokespecial 85, 0, 0, []), (.athrow, 0, 0, []), (.aload_n 0, 0, 0, []), (.getfield 12, 0, 0, [7]), (.invokevirtual 88, 27, 0, [0, 1, 2]), (.ireturn, 0, 0, [])]
def qX7_type : List Nat := [0, 1, 4, 7, 9, 12, 15, 16, 18, 21, 22, 23, 26, 29]
def pX7_maker : List PI := [(.aload_n 0, 0, 0, []), (.iload_n 2, 2, 0, []), (.iload_n 3, 3, 0, []), (.iload 4, 4, 0, []), (.invokevirtual 91, 105, 0, [3, 1, 7]), (.istore 5, 5, 0, []), (.aload_n 0, 0, 0, []), (.getfield 12, 0, 0, [7]), (.iload_n 1, 1, 0, []), (.invokevirtual 95, 19, 0, [1, 2, 2]), (.ifCond .eq 9, 14, 0, []), (.iload 5, 5, 0, []), (.iconst (-1), 0, (-1), []), (.if_icmp .ne 13, 19, 0, []), (.new 99, 3, 0, [101, 103, 0]), (.dup, 0, 0, []), (.ldc 101, 0, 0, []), (.invokespecial 103, 0, 0, []), (.athrow, 0, 0, []), (.aload_n 0, 0, 0, []), (.getfield 12, 0, 0, [7]), (.iload_n 1, 1, 0, []), (.invokevirtual 104, 21, 0, [1, 2, 2]), (.ifCond .ne 13, 29, 0, []), (.new 81, 1, 0, [107, 85, 0]), (.dup, 0, 0, []), (.ldc 107, 0, 0, []), (.invokespecial 85, 0, 0, []), (.athrow, 0, 0, []), (.aload_n 0, 0, 0, []), (.iconst 0, 0, 0, []), (.iconst (-1), 0, (-1), []), (.iconst (-1), 0, (-1), []), (.iconst (-1), 0, (-1), []), (.invokevirtual 109, 106, 0, [4, 0, 7]), (.aload_n 0, 0, 0, []), (.getfield 12, 0, 0, [7]), (.iload_n 1, 1, 0, []), (.iload 5, 5, 0, []), (.iload_n 2, 2, 0, []), (.iload_n 3, 3, 0, []), (.iload 4, 4, 0, []), (.invokevirtual 113, 28, 0, [5, 1, 2]), (.ireturn, 0, 0, [])]
def qX7_maker : List Nat := [0, 1, 2, 3, 5, 8, 10, 11, 14, 15, 18, 21, 23, 24, 27, 30, 31, 33, 36, 37, 38, 41, 42, 45, 48, 51, 52, 54, 57, 58, 59, 60, 61, 62, 63, 66, 67, 70, 71, 73, 74, 75, 77, 80]
def pX7_isEmpty : List PI := [(.aload_n 0, 0, 0, []), (.getfield 12, 0, 0, [7]), (.iload_n 1, 1, 0, []), (.invokevirtual 95, 19, 0, [1, 2, 2]), (.ifCond .ne 13, 10, 0, []), (.new 99, 3, 0, [101, 103, 0]), (.dup, 0, 0, []), (.ldc 101, 0, 0, []), (.invokespecial 103, 0, 0, []), (.athrow, 0, 0, []), (.aload_n 0, 0, 0, []), (.getfield 12, 0, 0, [7]), (.iload_n 1, 1, 0, []), (.invokevirtual 117, 22, 0, [1, 2, 2]), (.ifCond .ne 7, 17, 0, []), (.iconst 1, 0, 1, []), (.goto 4, 18, 0, []), (.iconst 0, 0, 0, []), (.ireturn, 0, 0, [])]
def qX7_isEmpty : List Nat := [0, 1, 4, 5, 8, 11, 14, 15, 17, 20, 21, 22, 25, 26, 29, 32, 33, 36, 37]
def pX7_match : List PI := [(.aload_n 0, 0, 0, []), (.iload_n 1, 1, 0, []), (.iload_n 2, 2, 0, []), (.iload_n 3, 3, 0, []), (.invokevirtual 91, 105, 0, [3, 1, 7]), (.istore 4, 4, 0, []), (.iload 4, 4, 0, []), (.iconst (-1), 0, (-1), []), (.if_icmp .eq 8, 11, 0, []), (.iload 4, 4, 0, []), (.ifCond .ne 13, 16, 0, []), (.new 99, 3, 0, [120, 103, 0]), (.dup, 0, 0, []), (.ldc 120, 0, 0, []), (.invokespecial 103, 0, 0, []), (.athrow, 0, 0, []), (.aload_n 0, 0, 0, []), (.iload 4, 4, 0, []), (.iload_n 1, 1, 0, []), (.iload_n 2, 2, 0, []), (.iload_n 3, 3, 0, []), (.invokevirtual 109, 106, 0, [4, 0, 7]), (.return_, 0, 0, [])]
def qX7_match : List Nat := [0, 1, 2, 3, 4, 7, 9, 11, 12, 15, 17, 20, 23, 24, 26, 29, 30, 31, 33, 34, 35, 36, 39]
def pX7_sign : List PI := [(.aload_n 0, 0, 0, []), (.invokevirtual 122, 107, 0, [0, 0, 7]), (.aload_n 0, 0, 0, []), (.getfield 36, 4, 0, [7]), (.invokevirtual 125, 8, 0, [0, 2, 1]), (.ifCond .eq 13, 11, 0, []), (.new 81, 1, 0, [129, 85, 0]), (.dup, 0, 0, []), (.ldc 129, 0, 0, []), (.invokespecial 85, 0, 0, []), (.athrow, 0, 0, []), (.aload_n 0, 0, 0, []), (.getfield 36, 4, 0, [7]), (.iload_n 1, 1, 0, []), (.invokevirtual 131, 10, 0, [1, 2, 1]), (.ifCond .ne 24, 26, 0, []), (.aload_n 0, 0, 0, []), (.getfield 36, 4, 0, [7]), (.invokevirtual 134, 9, 0, [0, 2, 1]), (.ifCond .eq 18, 28, 0, []), (.iload_n 1, 1, 0, []), (.iconst (-1), 0, (-1), []), (.if_icmp .eq 9, 26, 0, []), (.iload_n 1, 1, 0, []), (.bipush (-2), 0, (-2), []), (.if_icmp .ne 7, 28, 0, []), (.iconst 1, 0, 1, []), (.goto 4, 29, 0, []), (.iconst 0, 0, 0, []), (.istore_n 2, 2, 0, []), (.iload_n 2, 2, 0, []), (.ifCond .ne 13, 37, 0, []), (.new 137, 2, 0, [139, 141, 0]), (.dup, 0, 0, []), (.ldc 139, 0, 0, []), (.invokespecial 141, 0, 0, []), (.athrow, 0, 0, []), (.aload_n 0, 0, 0, []), (.getfield 36, 4, 0, [7]), (.iload_n 1, 1, 0, []), (.invokevirtual 142, 11, 0, [1, 1, 1]), (.ireturn, 0, 0, [])]
def qX7_sign : List Nat := [0, 1, 4, 5, 8, 11, 14, 17, 18, 20, 23, 24, 25, 28, 29, 32, 35, 36, 39, 42, 45, 46, 47, 50, 51, 53, 56, 57, 60, 61, 62, 63, 66, 69, 70, 72, 75, 76, 77, 80, 81, 84]
def pX7_row : List PI := [(.aload_n 0, 0, 0, []), (.invokevirtual 122, 107, 0, [0, 0, 7]), (.aload_n 0, 0, 0, []), (.getfield 27, 3, 0, [7]), (.invokevirtual 146, 31, 0, [0, 1, 3]), (.bipush 12, 0, 12, []), (.if_icmp .lt 13, 12, 0, []), (.new 81, 1, 0, [149, 85, 0]), (.dup, 0, 0, []), (.ldc 149, 0, 0, []), (.invokespecial 85, 0, 0, []), (.athrow, 0, 0, []), (.aload_n 0, 0, 0, []), (.getfield 36, 4, 0, [7]), (.invokevirtual 134, 9, 0, [0, 2, 1]), (.ifCond .eq 28, 28, 0, []), (.aload_n 0, 0, 0, []), (.getfield 36, 4, 0, [7]), (.aload_n 0, 0, 0, []), (.getfield 16, 1, 0, [7]), (.aload_n 0, 0, 0, []), (.getfield 20, 2, 0, [7]), (.invokevirtual 151, 6, 0, [2, 0, 1]), (.new 137, 2, 0, [155, 141, 0]), (.dup, 0, 0, []), (.ldc 155, 0, 0, []), (.invokespecial 141, 0, 0, []), (.athrow, 0, 0, []), (.aload_n 0, 0, 0, []), (.getfield 46, 6, 0, [7]), (.invokevirtual 157, 68, 0, [0, 0, 6]), (.aload_n 0, 0, 0, []), (.getfield 27, 3, 0, [7]), (.aload_n 0, 0, 0, []), (.getfield 36, 4, 0, [7]), (.invokevirtual 160, 32, 0, [1, 1, 3]), (.istore_n 1, 1, 0, []), (.aload_n 0, 0, 0, []), (.getfield 36, 4, 0, [7]), (.aload_n 0, 0, 0, []), (.getfield 16, 1, 0, [7]), (.aload_n 0, 0, 0, []), (.getfield 20, 2, 0, [7]), (.invokevirtual 151, 6, 0, [2, 0, 1]), (.iload_n 1, 1, 0, []), (.ireturn, 0, 0, [])]
def qX7_row : List Nat := [0, 1, 4, 5, 8, 11, 13, 16, 19, 20, 22, 25, 26, 27, 30, 33, 36, 37, 40, 41, 44, 45, 48, 51, 54, 55, 57, 60, 61, 62, 65, 68, 69, 72, 73, 76, 79, 80, 81, 84, 85, 88, 89, 92, 95, 96]
def pX7_compile : List PI := [(.aload_n 0, 0, 0, []), (.invokevirtual 122, 107, 0, [0, 0, 7]), (.aload_n 0, 0, 0, []), (.getfield 64, 8, 0, [7]), (.invokevirtual 164, 0, 0, [0, 0, 0]), (.aload_n 0, 0, 0, []), (.invokevirtual 167, 112, 0, [0, 2, 7]), (.istore_n 1, 1, 0, []), (.iload_n 1, 1, 0, []), (.ifCond .ne 20, 18, 0, []), (.aload_n 0, 0, 0, []), (.getfield 46, 6, 0, [7]), (.invokevirtual 157, 68, 0, [0, 0, 6]), (.new 170, 4, 0, [172, 174, 0]), (.dup, 0, 0, []), (.ldc 172, 0, 0, []), (.invokespecial 174, 0, 0, []), (.athrow, 0, 0, []), (.aload_n 0, 0, 0, []), (.getfield 46, 6, 0, [7]), (.invokevirtual 175, 69, 0, [0, 0, 6]), (.aload_n 0, 0, 0, []), (.getfield 46, 6, 0, [7]), (.invokevirtual 178, 71, 0, [0, 1, 6]), (.ireturn, 0, 0, [])]
def qX7_compile : List Nat := [0, 1, 4, 5, 8, 11, 12, 15, 16, 17, 20, 21, 24, 27, 30, 31, 33, 36, 37, 38, 41, 44, 45, 48, 51]
def pX7_node : List PI := [(.aload_n 0, 0, 0, []), (.getfield 46, 6, 0, [7]), (.invokevirtual 179, 70, 0, [0, 2, 6]), (.ifCond .eq 18, 11, 0, []), (.iload_n 1, 1, 0, []), (.ifCond .lt 14, 11, 0, []), (.iload_n 1, 1, 0, []), (.aload_n 0, 0, 0, []), (.getfield 46, 6, 0, [7]), (.invokevirtual 178, 71, 0, [0, 1, 6]), (.if_icmp .lt 13, 16, 0, []), (.new 182, 5, 0, [184, 186, 0]), (.dup, 0, 0, []), (.ldc 184, 0, 0, []), (.invokespecial 186, 0, 0, []), (.athrow, 0, 0, []), (.aload_n 0, 0, 0, []), (.getfield 46, 6, 0, [7]), (.iload_n 1, 1, 0, []), (.iload_n 2, 2, 0, []), (.invokevirtual 187, 80, 0, [2, 1, 6]), (.ireturn, 0, 0, [])]
def qX7_node : List Nat := [0, 1, 4, 7, 10, 11, 14, 15, 16, 19, 22, 25, 28, 29, 31, 34, 35, 36, 39, 40, 41, 44]
def pX7_missing : List PI := [(.aload_n 0, 0, 0, []), (.getfield 46, 6, 0, [7]), (.invokevirtual 179, 70, 0, [0, 2, 6]), (.ifCond .eq 13, 8, 0, []), (.aload_n 0, 0, 0, []), (.getfield 46, 6, 0, [7]), (.invokevirtual 191, 72, 0, [0, 1, 6]), (.goto 4, 9, 0, []), (.iconst (-1), 0, (-1), []), (.ireturn, 0, 0, [])]
def qX7_missing : List Nat := [0, 1, 4, 7, 10, 11, 14, 17, 20, 21]
def pX7_missingSign : List PI := [(.aload_n 0, 0, 0, []), (.getfield 46, 6, 0, [7]), (.invokevirtual 179, 70, 0, [0, 2, 6]), (.ifCond .eq 18, 11, 0, []), (.iload_n 1, 1, 0, []), (.ifCond .lt 14, 11, 0, []), (.iload_n 1, 1, 0, []), (.aload_n 0, 0, 0, []), (.getfield 46, 6, 0, [7]), (.invokevirtual 191, 72, 0, [0, 1, 6]), (.if_icmp .lt 13, 16, 0, []), (.new 182, 5, 0, [194, 186, 0]), (.dup, 0, 0, []), (.ldc 194, 0, 0, []), (.invokespecial 186, 0, 0, []), (.athrow, 0, 0, []), (.aload_n 0, 0, 0, []), (.getfield 64, 8, 0, [7]), (.invokevirtual 196, 1, 0, [0, 1, 0]), (.iload_n 1, 1, 0, []), (.if_icmp .eq 15, 27, 0, []), (.aload_n 0, 0, 0, []), (.getfield 64, 8, 0, [7]), (.iload_n 1, 1, 0, []), (.aload_n 0, 0, 0, []), (.getfield 20, 2, 0, [7]), (.invokevirtual 199, 2, 0, [2, 0, 0]), (.aload_n 0, 0, 0, []), (.getfield 64, 8, 0, [7]), (.iload_n 2, 2, 0, []), (.invokevirtual 203, 3, 0, [1, 1, 0]), (.ireturn, 0, 0, [])]
def qX7_missingSign : List Nat := [0, 1, 4, 7, 10, 11, 14, 15, 16, 19, 22, 25, 28, 29, 31, 34, 35, 36, 39, 42, 43, 46, 47, 50, 51, 52, 55, 58, 59, 62, 63, 66]
def pX7_isIdle : List PI := [(.aload_n 0, 0, 0, []), (.getfield 46, 6, 0, [7]), (.invokevirtual 179, 70, 0, [0, 2, 6]), (.ifCond .eq 18, 11, 0, []), (.iload_n 1, 1, 0, []), (.ifCond .lt 14, 11, 0, []), (.iload_n 1, 1, 0, []), (.aload_n 0, 0, 0, []), (.getfield 27, 3, 0, [7]), (.invokevirtual 146, 31, 0, [0, 1, 3]), (.if_icmp .lt 13, 16, 0, []), (.new 182, 5, 0, [206, 186, 0]), (.dup, 0, 0, []), (.ldc 206, 0, 0, []), (.invokespecial 186, 0, 0, []), (.athrow, 0, 0, []), (.aload_n 0, 0, 0, []), (.getfield 46, 6, 0, [7]), (.iload_n 1, 1, 0, []), (.invokevirtual 208, 84, 0, [1, 2, 6]), (.ifCond .ne 7, 23, 0, []), (.iconst 1, 0, 1, []), (.goto 4, 24, 0, []), (.iconst 0, 0, 0, []), (.ireturn, 0, 0, [])]
def qX7_isIdle : List Nat := [0, 1, 4, 7, 10, 11, 14, 15, 16, 19, 22, 25, 28, 29, 31, 34, 35, 36, 39, 40, 43, 46, 47, 50, 51]
def pX7_give : List PI := [(.aload_n 0, 0, 0, []), (.invokevirtual 122, 107, 0, [0, 0, 7]), (.aload_n 0, 0, 0, []), (.getfield 40, 5, 0, [7]), (.invokevirtual 125, 8, 0, [0, 2, 1]), (.ifCond .eq 13, 11, 0, []), (.new 81, 1, 0, [211, 85, 0]), (.dup, 0, 0, []), (.ldc 211, 0, 0, []), (.invokespecial 85, 0, 0, []), (.athrow, 0, 0, []), (.aload_n 0, 0, 0, []), (.getfield 40, 5, 0, [7]), (.iload_n 1, 1, 0, []), (.invokevirtual 131, 10, 0, [1, 2, 1]), (.ifCond .ne 13, 21, 0, []), (.new 137, 2, 0, [213, 141, 0]), (.dup, 0, 0, []), (.ldc 213, 0, 0, []), (.invokespecial 141, 0, 0, []), (.athrow, 0, 0, []), (.aload_n 0, 0, 0, []), (.getfield 40, 5, 0, [7]), (.iload_n 1, 1, 0, []), (.invokevirtual 142, 11, 0, [1, 1, 1]), (.ireturn, 0, 0, [])]
def qX7_give : List Nat := [0, 1, 4, 5, 8, 11, 14, 17, 18, 20, 23, 24, 25, 28, 29, 32, 35, 38, 39, 41, 44, 45, 46, 49, 50, 53]
def pX7_answer : List PI := [(.aload_n 0, 0, 0, []), (.invokevirtual 215, 108, 0, [0, 0, 7]), (.aload_n 0, 0, 0, []), (.getfield 40, 5, 0, [7]), (.invokevirtual 218, 14, 0, [0, 0, 1]), (.iconst 0, 0, 0, []), (.istore_n 1, 1, 0, []), (.iload_n 1, 1, 0, []), (.aload_n 0, 0, 0, []), (.getfield 27, 3, 0, [7]), (.invokevirtual 146, 31, 0, [0, 1, 3]), (.if_icmp .ge 19, 20, 0, []), (.aload_n 0, 0, 0, []), (.iload_n 1, 1, 0, []), (.invokevirtual 221, 109, 0, [1, 2, 7]), (.ifCond .eq 5, 18, 0, []), (.iload_n 1, 1, 0, []), (.ireturn, 0, 0, []), (.iinc 1 1, 1, 1, []), (.goto (-24), 7, 0, []), (.iconst (-1), 0, (-1), []), (.ireturn, 0, 0, [])]
def qX7_answer : List Nat := [0, 1, 4, 5, 8, 11, 12, 13, 14, 15, 18, 21, 24, 25, 26, 29, 32, 33, 34, 37, 40, 41]
def pX7_tests : List PI := [(.aload_n 0, 0, 0, []), (.invokevirtual 215, 108, 0, [0, 0, 7]), (.aload_n 0, 0, 0, []), (.getfield 46, 6, 0, [7]), (.invokevirtual 179, 70, 0, [0, 2, 6]), (.ifCond .ne 13, 11, 0, []), (.new 182, 5, 0, [224, 186, 0]), (.dup, 0, 0, []), (.ldc 224, 0, 0, []), (.invokespecial 186, 0, 0, []), (.athrow, 0, 0, []), (.aload_n 0, 0, 0, []), (.getfield 40, 5, 0, [7]), (.invokevirtual 218, 14, 0, [0, 0, 1]), (.aload_n 0, 0, 0, []), (.invokevirtual 226, 111, 0, [0, 1, 7]), (.ireturn, 0, 0, [])]
def qX7_tests : List Nat := [0, 1, 4, 5, 8, 11, 14, 17, 18, 20, 23, 24, 25, 28, 31, 32, 35]
def pX7_empty : List PI := [(.aload_n 0, 0, 0, []), (.getfield 40, 5, 0, [7]), (.aload_n 0, 0, 0, []), (.getfield 16, 1, 0, [7]), (.aload_n 0, 0, 0, []), (.getfield 20, 2, 0, [7]), (.invokevirtual 151, 6, 0, [2, 0, 1]), (.return_, 0, 0, [])]
def qX7_empty : List Nat := [0, 1, 4, 5, 8, 9, 12, 15]
def pX7_about : List PI := [(.iload_n 1, 1, 0, []), (.tableswitch 110 0 6 #[43, 51, 59, 64, 72, 80, 88], 35, 0, [2, 6, 10, 13, 17, 21, 25]), (.aload_n 0, 0, 0, []), (.getfield 12, 0, 0, [7]), (.invokevirtual 77, 17, 0, [0, 1, 2]), (.ireturn, 0, 0, []), (.aload_n 0, 0, 0, []), (.getfield 12, 0, 0, [7]), (.invokevirtual 229, 18, 0, [0, 1, 2]), (.ireturn, 0, 0, []), (.aload_n 0, 0, 0, []), (.getfield 20, 2, 0, [7]), (.ireturn, 0, 0, []), (.aload_n 0, 0, 0, []), (.getfield 27, 3, 0, [7]), (.invokevirtual 146, 31, 0, [0, 1, 3]), (.ireturn, 0, 0, []), (.aload_n 0, 0, 0, []), (.getfield 36, 4, 0, [7]), (.invokevirtual 232, 7, 0, [0, 1, 1]), (.ireturn, 0, 0, []), (.aload_n 0, 0, 0, []), (.getfield 40, 5, 0, [7]), (.invokevirtual 232, 7, 0, [0, 1, 1]), (.ireturn, 0, 0, []), (.aload_n 0, 0, 0, []), (.getfield 46, 6, 0, [7]), (.invokevirtual 179, 70, 0, [0, 2, 6]), (.ifCond .eq 13, 33, 0, []), (.aload_n 0, 0, 0, []), (.getfield 46, 6, 0, [7]), (.invokevirtual 178, 71, 0, [0, 1, 6]), (.goto 4, 34, 0, []), (.iconst (-1), 0, (-1), []), (.ireturn, 0, 0, []), (.iconst (-1), 0, (-1), []), (.ireturn, 0, 0, [])]
def qX7_about : List Nat := [0, 1, 44, 45, 48, 51, 52, 53, 56, 59, 60, 61, 64, 65, 66, 69, 72, 73, 74, 77, 80, 81, 82, 85, 88, 89, 90, 93, 96, 99, 100, 103, 106, 109, 110, 111, 112]
def pX7_countTypes : List PI := [(.iload_n 1, 1, 0, []), (.iconst (-1), 0, (-1), []), (.if_icmp .ne 5, 5, 0, []), (.iconst 0, 0, 0, []), (.ireturn, 0, 0, []), (.aload_n 0, 0, 0, []), (.getfield 12, 0, 0, [7]), (.iload_n 1, 1, 0, []), (.invokevirtual 95, 19, 0, [1, 2, 2]), (.ifCond .ne 5, 12, 0, []), (.iconst (-1), 0, (-1), []), (.ireturn, 0, 0, []), (.iload_n 2, 2, 0, []), (.iconst (-1), 0, (-1), []), (.if_icmp .ne 5, 17, 0, []), (.iconst 1, 0, 1, []), (.ireturn, 0, 0, []), (.aload_n 0, 0, 0, []), (.getfield 12, 0, 0, [7]), (.iload_n 2, 2, 0, []), (.invokevirtual 95, 19, 0, [1, 2, 2]), (.ifCond .ne 5, 24, 0, []), (.iconst (-1), 0, (-1), []), (.ireturn, 0, 0, []), (.iload_n 3, 3, 0, []), (.iconst (-1), 0, (-1), []), (.if_icmp .ne 5, 29, 0, []), (.iconst 2, 0, 2, []), (.ireturn, 0, 0, []), (.aload_n 0, 0, 0, []), (.getfield 12, 0, 0, [7]), (.iload_n 3, 3, 0, []), (.invokevirtual 95, 19, 0, [1, 2, 2]), (.ifCond .eq 7, 36, 0, []), (.iconst 3, 0, 3, []), (.goto 4, 37, 0, []), (.iconst (-1), 0, (-1), []), (.ireturn, 0, 0, [])]
def qX7_countTypes : List Nat := [0, 1, 2, 5, 6, 7, 8, 11, 12, 15, 18, 19, 20, 21, 22, 25, 26, 27, 28, 31, 32, 35, 38, 39, 40, 41, 42, 45, 46, 47, 48, 51, 52, 55, 58, 59, 62, 63]
def pX7_beginMatch : List PI := [(.aload_n 0, 0, 0, []), (.iload_n 1, 1, 0, []), (.putfield 20, 2, 0, [7]), (.aload_n 0, 0, 0, []), (.getfield 16, 1, 0, [7]), (.iconst 0, 0, 0, []), (.iload_n 2, 2, 0, []), (.iastore, 0, 0, []), (.aload_n 0, 0, 0, []), (.getfield 16, 1, 0, [7]), (.iconst 1, 0, 1, []), (.iload_n 3, 3, 0, []), (.iastore, 0, 0, []), (.aload_n 0, 0, 0, []), (.getfield 16, 1, 0, [7]), (.iconst 2, 0, 2, []), (.iload 4, 4, 0, []), (.iastore, 0, 0, []), (.aload_n 0, 0, 0, []), (.getfield 27, 3, 0, [7]), (.invokevirtual 233, 30, 0, [0, 0, 3]), (.aload_n 0, 0, 0, []), (.getfield 46, 6, 0, [7]), (.invokevirtual 157, 68, 0, [0, 0, 6]), (.aload_n 0, 0, 0, []), (.getfield 36, 4, 0, [7]), (.aload_n 0, 0, 0, []), (.getfield 16, 1, 0, [7]), (.aload_n 0, 0, 0, []), (.getfield 20, 2, 0, [7]), (.invokevirtual 151, 6, 0, [2, 0, 1]), (.aload_n 0, 0, 0, []), (.getfield 40, 5, 0, [7]), (.aload_n 0, 0, 0, []), (.getfield 16, 1, 0, [7]), (.aload_n 0, 0, 0, []), (.getfield 20, 2, 0, [7]), (.invokevirtual 151, 6, 0, [2, 0, 1]), (.return_, 0, 0, [])]
def qX7_beginMatch : List Nat := [0, 1, 2, 5, 6, 9, 10, 11, 12, 13, 16, 17, 18, 19, 20, 23, 24, 26, 27, 28, 31, 34, 35, 38, 41, 42, 45, 46, 49, 50, 53, 56, 57, 60, 61, 64, 65, 68, 71]
def pX7_refuseWithoutMatch : List PI := [(.aload_n 0, 0, 0, []), (.getfield 20, 2, 0, [7]), (.ifCond .ne 13, 8, 0, []), (.new 81, 1, 0, [236, 85, 0]), (.dup, 0, 0, []), (.ldc 236, 0, 0, []), (.invokespecial 85, 0, 0, []), (.athrow, 0, 0, []), (.return_, 0, 0, [])]
def qX7_refuseWithoutMatch : List Nat := [0, 1, 4, 7, 10, 11, 13, 16, 17]
def pX7_refuseWithoutWholeValues : List PI := [(.aload_n 0, 0, 0, []), (.invokevirtual 122, 107, 0, [0, 0, 7]), (.aload_n 0, 0, 0, []), (.getfield 40, 5, 0, [7]), (.invokevirtual 134, 9, 0, [0, 2, 1]), (.ifCond .eq 13, 11, 0, []), (.new 137, 2, 0, [238, 141, 0]), (.dup, 0, 0, []), (.ldc 238, 0, 0, []), (.invokespecial 141, 0, 0, []), (.athrow, 0, 0, []), (.return_, 0, 0, [])]
def qX7_refuseWithoutWholeValues : List Nat := [0, 1, 4, 5, 8, 11, 14, 17, 18, 20, 23, 24]
def pX7_rowTakesValues : List PI := [(.aload_n 0, 0, 0, []), (.getfield 27, 3, 0, [7]), (.iload_n 1, 1, 0, []), (.invokevirtual 240, 33, 0, [1, 1, 3]), (.istore_n 2, 2, 0, []), (.iconst 0, 0, 0, []), (.istore_n 3, 3, 0, []), (.iconst 0, 0, 0, []), (.istore 4, 4, 0, []), (.iload 4, 4, 0, []), (.aload_n 0, 0, 0, []), (.getfield 20, 2, 0, [7]), (.if_icmp .ge 39, 33, 0, []), (.aload_n 0, 0, 0, []), (.iload_n 2, 2, 0, []), (.iload_n 3, 3, 0, []), (.iconst 0, 0, 0, []), (.invokevirtual 243, 110, 0, [3, 2, 7]), (.ifCond .ne 5, 21, 0, []), (.iconst 0, 0, 0, []), (.ireturn, 0, 0, []), (.aload_n 0, 0, 0, []), (.getfield 27, 3, 0, [7]), (.iload_n 2, 2, 0, []), (.invokevirtual 247, 35, 0, [1, 1, 3]), (.istore_n 2, 2, 0, []), (.aload_n 0, 0, 0, []), (.getfield 40, 5, 0, [7]), (.iload_n 3, 3, 0, []), (.invokevirtual 250, 13, 0, [1, 1, 1]), (.istore_n 3, 3, 0, []), (.iinc 4 1, 4, 1, []), (.goto (-42), 9, 0, []), (.iconst 1, 0, 1, []), (.ireturn, 0, 0, [])]
def qX7_rowTakesValues : List Nat := [0, 1, 4, 5, 8, 9, 10, 11, 12, 14, 16, 17, 20, 23, 24, 25, 26, 27, 30, 33, 34, 35, 36, 39, 40, 43, 44, 45, 48, 49, 52, 53, 56, 59, 60]
def pX7_takes : List PI := [(.aload_n 0, 0, 0, []), (.getfield 27, 3, 0, [7]), (.iload_n 1, 1, 0, []), (.invokevirtual 251, 34, 0, [1, 1, 3]), (.istore 4, 4, 0, []), (.iload 4, 4, 0, []), (.iconst (-1), 0, (-1), []), (.if_icmp .ne 5, 10, 0, []), (.iconst 1, 0, 1, []), (.ireturn, 0, 0, []), (.iload_n 3, 3, 0, []), (.bipush 40, 0, 40, []), (.if_icmp .lt 5, 15, 0, []), (.iconst 0, 0, 0, []), (.ireturn, 0, 0, []), (.iload_n 1, 1, 0, []), (.iconst 1, 0, 1, []), (.iadd, 0, 0, []), (.istore 5, 5, 0, []), (.iload 4, 4, 0, []), (.bipush (-2), 0, (-2), []), (.if_icmp .ne 42, 45, 0, []), (.aload_n 0, 0, 0, []), (.iload 5, 5, 0, []), (.iload_n 2, 2, 0, []), (.iload_n 3, 3, 0, []), (.iconst 1, 0, 1, []), (.iadd, 0, 0, []), (.invokevirtual 243, 110, 0, [3, 2, 7]), (.ifCond .ne 23, 41, 0, []), (.aload_n 0, 0, 0, []), (.aload_n 0, 0, 0, []), (.getfield 27, 3, 0, [7]), (.iload 5, 5, 0, []), (.invokevirtual 247, 35, 0, [1, 1, 3]), (.iload_n 2, 2, 0, []), (.iload_n 3, 3, 0, []), (.iconst 1, 0, 1, []), (.iadd, 0, 0, []), (.invokevirtual 243, 110, 0, [3, 2, 7]), (.ifCond .eq 7, 43, 0, []), (.iconst 1, 0, 1, []), (.goto 4, 44, 0, []), (.iconst 0, 0, 0, []), (.ireturn, 0, 0, []), (.iload 4, 4, 0, []), (.aload_n 0, 0, 0, []), (.getfield 40, 5, 0, [7]), (.iload_n 2, 2, 0, []), (.invokevirtual 252, 12, 0, [1, 1, 1]), (.if_icmp .eq 5, 53, 0, []), (.iconst 0, 0, 0, []), (.ireturn, 0, 0, []), (.iload_n 2, 2, 0, []), (.iconst 1, 0, 1, []), (.iadd, 0, 0, []), (.istore 6, 6, 0, []), (.aload_n 0, 0, 0, []), (.getfield 12, 0, 0, [7]), (.iload 4, 4, 0, []), (.invokevirtual 253, 24, 0, [1, 1, 2]), (.istore 7, 7, 0, []), (.iconst 0, 0, 0, []), (.istore 8, 8, 0, []), (.iload 8, 8, 0, []), (.iload 7, 7, 0, []), (.if_icmp .ge 47, 89, 0, []), (.aload_n 0, 0, 0, []), (.iload 5, 5, 0, []), (.iload 6, 6, 0, []), (.iload_n 3, 3, 0, []), (.iconst 1, 0, 1, []), (.iadd, 0, 0, []), (.invokevirtual 243, 110, 0, [3, 2, 7]), (.ifCond .ne 5, 77, 0, []), (.iconst 0, 0, 0, []), (.ireturn, 0, 0, []), (.aload_n 0, 0, 0, []), (.getfield 27, 3, 0, [7]), (.iload 5, 5, 0, []), (.invokevirtual 247, 35, 0, [1, 1, 3]), (.istore 5, 5, 0, []), (.aload_n 0, 0, 0, []), (.getfield 40, 5, 0, [7]), (.iload 6, 6, 0, []), (.invokevirtual 250, 13, 0, [1, 1, 1]), (.istore 6, 6, 0, []), (.iinc 8 1, 8, 1, []), (.goto (-48), 64, 0, []), (.iconst 1, 0, 1, []), (.ireturn, 0, 0, [])]
def qX7_takes : List Nat := [0, 1, 4, 5, 8, 10, 12, 13, 16, 17, 18, 19, 21, 24, 25, 26, 27, 28, 29, 31, 33, 35, 38, 39, 41, 42, 43, 44, 45, 48, 51, 52, 53, 56, 58, 61, 62, 63, 64, 65, 68, 71, 72, 75, 76, 77, 79, 80, 83, 84, 87, 90, 91, 92, 93, 94, 95, 97, 98, 101, 103, 106, 108, 109, 111, 113, 115, 118, 119, 121, 123, 124, 125, 126, 129, 132, 133, 134, 135, 138, 140, 143, 145, 146, 149, 151, 154, 156, 159, 162, 163]
def pX7_countTests : List PI := [(.aload_n 0, 0, 0, []), (.getfield 73, 9, 0, [7]), (.aload_n 0, 0, 0, []), (.getfield 20, 2, 0, [7]), (.invokevirtual 256, 36, 0, [1, 0, 4]), (.iconst 0, 0, 0, []), (.istore_n 1, 1, 0, []), (.iconst 0, 0, 0, []), (.istore_n 2, 2, 0, []), (.iload_n 2, 2, 0, []), (.sipush 300, 0, 300, []), (.if_icmp .ge 61, 41, 0, []), (.aload_n 0, 0, 0, []), (.getfield 46, 6, 0, [7]), (.iload_n 1, 1, 0, []), (.invokevirtual 259, 77, 0, [1, 1, 6]), (.iconst 2, 0, 2, []), (.if_icmp .ne 49, 41, 0, []), (.aload_n 0, 0, 0, []), (.getfield 46, 6, 0, [7]), (.iload_n 1, 1, 0, []), (.invokevirtual 262, 78, 0, [1, 1, 6]), (.istore_n 3, 3, 0, []), (.aload_n 0, 0, 0, []), (.getfield 73, 9, 0, [7]), (.iload_n 3, 3, 0, []), (.invokevirtual 265, 37, 0, [1, 1, 4]), (.istore 4, 4, 0, []), (.aload_n 0, 0, 0, []), (.getfield 46, 6, 0, [7]), (.iload_n 1, 1, 0, []), (.iload 4, 4, 0, []), (.invokevirtual 268, 81, 0, [2, 1, 6]), (.istore_n 1, 1, 0, []), (.aload_n 0, 0, 0, []), (.getfield 73, 9, 0, [7]), (.iload_n 3, 3, 0, []), (.iload 4, 4, 0, []), (.invokevirtual 271, 38, 0, [2, 0, 4]), (.iinc 2 1, 2, 1, []), (.goto (-62), 9, 0, []), (.iload_n 2, 2, 0, []), (.ireturn, 0, 0, [])]
def qX7_countTests : List Nat := [0, 1, 4, 5, 8, 11, 12, 13, 14, 15, 16, 19, 22, 23, 26, 27, 30, 31, 34, 35, 38, 39, 42, 43, 44, 47, 48, 51, 53, 54, 57, 58, 60, 63, 64, 65, 68, 69, 71, 74, 77, 80, 81]
def pX7_growTree : List PI := [(.aload_n 0, 0, 0, []), (.getfield 46, 6, 0, [7]), (.invokevirtual 157, 68, 0, [0, 0, 6]), (.aload_n 0, 0, 0, []), (.getfield 55, 7, 0, [7]), (.aload_n 0, 0, 0, []), (.getfield 16, 1, 0, [7]), (.aload_n 0, 0, 0, []), (.getfield 20, 2, 0, [7]), (.invokevirtual 274, 41, 0, [2, 0, 5]), (.aload_n 0, 0, 0, []), (.iconst (-1), 0, (-1), []), (.iconst (-1), 0, (-1), []), (.invokevirtual 275, 113, 0, [2, 2, 7]), (.istore_n 1, 1, 0, []), (.iconst 0, 0, 0, []), (.istore_n 2, 2, 0, []), (.iload_n 2, 2, 0, []), (.sipush 600, 0, 600, []), (.if_icmp .gt 91, 61, 0, []), (.iload_n 1, 1, 0, []), (.ifCond .eq 87, 61, 0, []), (.aload_n 0, 0, 0, []), (.getfield 55, 7, 0, [7]), (.invokevirtual 279, 42, 0, [0, 2, 5]), (.ifCond .eq 77, 61, 0, []), (.aload_n 0, 0, 0, []), (.getfield 55, 7, 0, [7]), (.invokevirtual 282, 52, 0, [0, 1, 5]), (.istore_n 3, 3, 0, []), (.iload_n 3, 3, 0, []), (.iconst (-1), 0, (-1), []), (.if_icmp .ne 13, 37, 0, []), (.aload_n 0, 0, 0, []), (.getfield 55, 7, 0, [7]), (.invokevirtual 285, 43, 0, [0, 0, 5]), (.goto 48, 59, 0, []), (.aload_n 0, 0, 0, []), (.getfield 55, 7, 0, [7]), (.invokevirtual 288, 46, 0, [0, 1, 5]), (.istore 4, 4, 0, []), (.aload_n 0, 0, 0, []), (.getfield 55, 7, 0, [7]), (.iload_n 3, 3, 0, []), (.aload_n 0, 0, 0, []), (.getfield 46, 6, 0, [7]), (.iload 4, 4, 0, []), (.invokevirtual 262, 78, 0, [1, 1, 6]), (.invokevirtual 291, 53, 0, [2, 2, 5]), (.ifCond .eq 17, 57, 0, []), (.aload_n 0, 0, 0, []), (.iload 4, 4, 0, []), (.iload_n 3, 3, 0, []), (.invokevirtual 275, 113, 0, [2, 2, 7]), (.ifCond .eq 7, 57, 0, []), (.iconst 1, 0, 1, []), (.goto 4, 58, 0, []), (.iconst 0, 0, 0, []), (.istore_n 1, 1, 0, []), (.iinc 2 1, 2, 1, []), (.goto (-92), 17, 0, []), (.iload_n 1, 1, 0, []), (.ireturn, 0, 0, [])]
def qX7_growTree : List Nat := [0, 1, 4, 7, 8, 11, 12, 15, 16, 19, 22, 23, 24, 25, 28, 29, 30, 31, 32, 35, 38, 39, 42, 43, 46, 49, 52, 53, 56, 59, 60, 61, 62, 65, 66, 69, 72, 75, 76, 79, 82, 84, 85, 88, 89, 90, 93, 95, 98, 101, 104, 105, 107, 108, 111, 114, 115, 118, 119, 120, 123, 126, 127]
def pX7_addNode : List PI := [(.aload_n 0, 0, 0, []), (.getfield 46, 6, 0, [7]), (.invokevirtual 178, 71, 0, [0, 1, 6]), (.sipush 300, 0, 300, []), (.if_icmp .ge 13, 9, 0, []), (.aload_n 0, 0, 0, []), (.getfield 55, 7, 0, [7]), (.invokevirtual 294, 49, 0, [0, 2, 5]), (.ifCond .ne 5, 11, 0, []), (.iconst 0, 0, 0, []), (.ireturn, 0, 0, []), (.aload_n 0, 0, 0, []), (.getfield 46, 6, 0, [7]), (.iload_n 1, 1, 0, []), (.iload_n 2, 2, 0, []), (.invokevirtual 297, 73, 0, [2, 1, 6]), (.istore_n 3, 3, 0, []), (.aload_n 0, 0, 0, []), (.getfield 55, 7, 0, [7]), (.invokevirtual 299, 45, 0, [0, 1, 5]), (.ifCond .ne 20, 30, 0, []), (.aload_n 0, 0, 0, []), (.getfield 46, 6, 0, [7]), (.iload_n 3, 3, 0, []), (.invokevirtual 302, 74, 0, [1, 0, 6]), (.aload_n 0, 0, 0, []), (.getfield 55, 7, 0, [7]), (.invokevirtual 285, 43, 0, [0, 0, 5]), (.iconst 1, 0, 1, []), (.ireturn, 0, 0, []), (.aload_n 0, 0, 0, []), (.getfield 55, 7, 0, [7]), (.invokevirtual 305, 50, 0, [0, 1, 5]), (.istore 4, 4, 0, []), (.iload 4, 4, 0, []), (.iconst (-1), 0, (-1), []), (.if_icmp .ne 27, 49, 0, []), (.aload_n 0, 0, 0, []), (.getfield 46, 6, 0, [7]), (.iload_n 3, 3, 0, []), (.aload_n 0, 0, 0, []), (.getfield 55, 7, 0, [7]), (.invokevirtual 308, 48, 0, [0, 1, 5]), (.invokevirtual 311, 75, 0, [2, 0, 6]), (.aload_n 0, 0, 0, []), (.getfield 55, 7, 0, [7]), (.invokevirtual 285, 43, 0, [0, 0, 5]), (.iconst 1, 0, 1, []), (.ireturn, 0, 0, []), (.aload_n 0, 0, 0, []), (.getfield 55, 7, 0, [7]), (.iload 4, 4, 0, []), (.invokevirtual 314, 47, 0, [1, 1, 5]), (.istore 5, 5, 0, []), (.aload_n 0, 0, 0, []), (.getfield 46, 6, 0, [7]), (.iload_n 3, 3, 0, []), (.iload 5, 5, 0, []), (.aload_n 0, 0, 0, []), (.getfield 55, 7, 0, [7]), (.invokevirtual 317, 44, 0, [0, 1, 5]), (.iload 4, 4, 0, []), (.invokevirtual 320, 76, 0, [4, 0, 6]), (.aload_n 0, 0, 0, []), (.getfield 55, 7, 0, [7]), (.iload_n 3, 3, 0, []), (.iload 5, 5, 0, []), (.invokevirtual 323, 51, 0, [2, 0, 5]), (.iconst 1, 0, 1, []), (.ireturn, 0, 0, [])]
def qX7_addNode : List Nat := [0, 1, 4, 7, 10, 13, 14, 17, 20, 23, 24, 25, 26, 29, 30, 31, 34, 35, 36, 39, 42, 45, 46, 49, 50, 53, 54, 57, 60, 61, 62, 63, 66, 69, 71, 73, 74, 77, 78, 81, 82, 83, 86, 89, 92, 93, 96, 99, 100, 101, 102, 105, 107, 110, 112, 113, 116, 117, 119, 120, 123, 126, 128, 131, 132, 135, 136, 138, 141, 142]
def pX8_thrown : List PI := [(.aload_n 0, 0, 0, []), (.getfield 93, 0, 0, [8]), (.ireturn, 0, 0, [])]
def qX8_thrown : List Nat := [0, 1, 4]
def pX8_isType : List PI := [(.iload_n 1, 1, 0, []), (.ifCond .lt 15, 8, 0, []), (.iload_n 1, 1, 0, []), (.aload_n 0, 0, 0, []), (.getfield 96, 1, 0, [8]), (.if_icmp .ge 7, 8, 0, []), (.iconst 1, 0, 1, []), (.goto 4, 9, 0, []), (.iconst 0, 0, 0, []), (.ireturn, 0, 0, [])]
def qX8_isType : List Nat := [0, 1, 4, 5, 6, 9, 12, 13, 16, 17]
def pX8_makersOf : List PI := [(.iconst 0, 0, 0, []), (.istore_n 2, 2, 0, []), (.iconst 0, 0, 0, []), (.istore_n 3, 3, 0, []), (.iload_n 3, 3, 0, []), (.aload_n 0, 0, 0, []), (.getfield 99, 2, 0, [8]), (.if_icmp .ge 27, 22, 0, []), (.iload_n 2, 2, 0, []), (.aload_n 0, 0, 0, []), (.getfield 7, 3, 0, [8]), (.iload_n 3, 3, 0, []), (.iaload, 0, 0, []), (.iload_n 1, 1, 0, []), (.if_icmp .ne 7, 17, 0, []), (.iconst 1, 0, 1, []), (.goto 4, 18, 0, []), (.iconst 0, 0, 0, []), (.iadd, 0, 0, []), (.istore_n 2, 2, 0, []), (.iinc 3 1, 3, 1, []), (.goto (-29), 4, 0, []), (.iload_n 2, 2, 0, []), (.ireturn, 0, 0, [])]
def qX8_makersOf : List Nat := [0, 1, 2, 3, 4, 5, 6, 9, 12, 13, 14, 17, 18, 19, 20, 23, 24, 27, 28, 29, 30, 33, 36, 37]
def pX8_fields : List PI := [(.aload_n 0, 0, 0, []), (.getfield 13, 4, 0, [8]), (.iconst 3, 0, 3, []), (.iload_n 1, 1, 0, []), (.imul, 0, 0, []), (.iaload, 0, 0, []), (.iconst (-1), 0, (-1), []), (.if_icmp .ne 7, 10, 0, []), (.iconst 0, 0, 0, []), (.goto 40, 35, 0, []), (.aload_n 0, 0, 0, []), (.getfield 13, 4, 0, [8]), (.iconst 3, 0, 3, []), (.iload_n 1, 1, 0, []), (.imul, 0, 0, []), (.iconst 1, 0, 1, []), (.iadd, 0, 0, []), (.iaload, 0, 0, []), (.iconst (-1), 0, (-1), []), (.if_icmp .ne 7, 22, 0, []), (.iconst 1, 0, 1, []), (.goto 22, 35, 0, []), (.aload_n 0, 0, 0, []), (.getfield 13, 4, 0, [8]), (.iconst 3, 0, 3, []), (.iload_n 1, 1, 0, []), (.imul, 0, 0, []), (.iconst 2, 0, 2, []), (.iadd, 0, 0, []), (.iaload, 0, 0, []), (.iconst (-1), 0, (-1), []), (.if_icmp .ne 7, 34, 0, []), (.iconst 2, 0, 2, []), (.goto 4, 35, 0, []), (.iconst 3, 0, 3, []), (.ireturn, 0, 0, [])]
def qX8_fields : List Nat := [0, 1, 4, 5, 6, 7, 8, 9, 12, 13, 16, 17, 20, 21, 22, 23, 24, 25, 26, 27, 30, 31, 34, 35, 38, 39, 40, 41, 42, 43, 44, 45, 48, 49, 52, 53]
def pX8_type : List PI := [(.aload_n 0, 0, 0, []), (.aload_n 0, 0, 0, []), (.getfield 96, 1, 0, [8]), (.bipush 8, 0, 8, []), (.if_icmp .ne 7, 7, 0, []), (.iconst 1, 0, 1, []), (.goto 4, 8, 0, []), (.iconst 0, 0, 0, []), (.putfield 93, 0, 0, [8]), (.aload_n 0, 0, 0, []), (.getfield 93, 0, 0, [8]), (.ifCond .le 5, 14, 0, []), (.iconst 0, 0, 0, []), (.ireturn, 0, 0, []), (.aload_n 0, 0, 0, []), (.dup, 0, 0, []), (.getfield 96, 1, 0, [8]), (.iconst 1, 0, 1, []), (.iadd, 0, 0, []), (.putfield 96, 1, 0, [8]), (.aload_n 0, 0, 0, []), (.getfield 96, 1, 0, [8]), (.iconst 1, 0, 1, []), (.isub, 0, 0, []), (.ireturn, 0, 0, [])]
def qX8_type : List Nat := [0, 1, 2, 5, 7, 10, 11, 14, 15, 18, 19, 22, 25, 26, 27, 28, 29, 32, 33, 34, 37, 38, 41, 42, 43]
def pX8_areTypes : List PI := [(.iload_n 1, 1, 0, []), (.iconst (-1), 0, (-1), []), (.if_icmp .eq 37, 21, 0, []), (.aload_n 0, 0, 0, []), (.iload_n 1, 1, 0, []), (.invokevirtual 102, 115, 0, [1, 2, 8]), (.ifCond .eq 33, 23, 0, []), (.iload_n 2, 2, 0, []), (.iconst (-1), 0, (-1), []), (.if_icmp .eq 24, 21, 0, []), (.aload_n 0, 0, 0, []), (.iload_n 2, 2, 0, []), (.invokevirtual 102, 115, 0, [1, 2, 8]), (.ifCond .eq 20, 23, 0, []), (.iload_n 3, 3, 0, []), (.iconst (-1), 0, (-1), []), (.if_icmp .eq 11, 21, 0, []), (.aload_n 0, 0, 0, []), (.iload_n 3, 3, 0, []), (.invokevirtual 102, 115, 0, [1, 2, 8]), (.ifCond .eq 7, 23, 0, []), (.iconst 1, 0, 1, []), (.goto 4, 24, 0, []), (.iconst 0, 0, 0, []), (.ireturn, 0, 0, [])]
def qX8_areTypes : List Nat := [0, 1, 2, 5, 6, 7, 10, 13, 14, 15, 18, 19, 20, 23, 26, 27, 28, 31, 32, 33, 36, 39, 40, 43, 44]
def pX8_maker : List PI := [(.aload_n 0, 0, 0, []), (.aload_n 0, 0, 0, []), (.iload_n 1, 1, 0, []), (.invokevirtual 102, 115, 0, [1, 2, 8]), (.ifCond .eq 14, 11, 0, []), (.aload_n 0, 0, 0, []), (.iload_n 2, 2, 0, []), (.iload_n 3, 3, 0, []), (.iload 4, 4, 0, []), (.invokevirtual 106, 119, 0, [3, 2, 8]), (.ifCond .ne 7, 13, 0, []), (.iconst 1, 0, 1, []), (.goto 27, 25, 0, []), (.aload_n 0, 0, 0, []), (.getfield 99, 2, 0, [8]), (.bipush 40, 0, 40, []), (.if_icmp .eq 13, 22, 0, []), (.aload_n 0, 0, 0, []), (.iload_n 1, 1, 0, []), (.invokevirtual 110, 116, 0, [1, 1, 8]), (.bipush 8, 0, 8, []), (.if_icmp .ne 7, 24, 0, []), (.iconst 2, 0, 2, []), (.goto 4, 25, 0, []), (.iconst 0, 0, 0, []), (.putfield 93, 0, 0, [8]), (.aload_n 0, 0, 0, []), (.getfield 93, 0, 0, [8]), (.ifCond .le 5, 31, 0, []), (.iconst 0, 0, 0, []), (.ireturn, 0, 0, []), (.aload_n 0, 0, 0, []), (.getfield 7, 3, 0, [8]), (.aload_n 0, 0, 0, []), (.getfield 99, 2, 0, [8]), (.iload_n 1, 1, 0, []), (.iastore, 0, 0, []), (.aload_n 0, 0, 0, []), (.getfield 13, 4, 0, [8]), (.iconst 3, 0, 3, []), (.aload_n 0, 0, 0, []), (.getfield 99, 2, 0, [8]), (.imul, 0, 0, []), (.iload_n 2, 2, 0, []), (.iastore, 0, 0, []), (.aload_n 0, 0, 0, []), (.getfield 13, 4, 0, [8]), (.iconst 3, 0, 3, []), (.aload_n 0, 0, 0, []), (.getfield 99, 2, 0, [8]), (.imul, 0, 0, []), (.iconst 1, 0, 1, []), (.iadd, 0, 0, []), (.iload_n 2, 2, 0, []), (.iconst (-1), 0, (-1), []), (.if_icmp .ne 7, 58, 0, []), (.iconst (-1), 0, (-1), []), (.goto 4, 59, 0, []), (.iload_n 3, 3, 0, []), (.iastore, 0, 0, []), (.aload_n 0, 0, 0, []), (.getfield 13, 4, 0, [8]), (.iconst 3, 0, 3, []), (.aload_n 0, 0, 0, []), (.getfield 99, 2, 0, [8]), (.imul, 0, 0, []), (.iconst 2, 0, 2, []), (.iadd, 0, 0, []), (.iload_n 2, 2, 0, []), (.iconst (-1), 0, (-1), []), (.if_icmp .eq 8, 74, 0, []), (.iload_n 3, 3, 0, []), (.iconst (-1), 0, (-1), []), (.if_icmp .ne 7, 76, 0, []), (.iconst (-1), 0, (-1), []), (.goto 5, 77, 0, []), (.iload 4, 4, 0, []), (.iastore, 0, 0, []), (.aload_n 0, 0, 0, []), (.dup, 0, 0, []), (.getfield 99, 2, 0, [8]), (.iconst 1, 0, 1, []), (.iadd, 0, 0, []), (.putfield 99, 2, 0, [8]), (.aload_n 0, 0, 0, []), (.iconst 0, 0, 0, []), (.putfield 114, 6, 0, [8]), (.aload_n 0, 0, 0, []), (.invokevirtual 117, 124, 0, [0, 0, 8]), (.aload_n 0, 0, 0, []), (.getfield 99, 2, 0, [8]), (.iconst 1, 0, 1, []), (.isub, 0, 0, []), (.ireturn, 0, 0, [])]
def qX8_maker : List Nat := [0, 1, 2, 3, 6, 9, 10, 11, 12, 14, 17, 20, 21, 24, 25, 28, 30, 33, 34, 35, 38, 40, 43, 44, 47, 48, 51, 52, 55, 58, 59, 60, 61, 64, 65, 68, 69, 70, 71, 74, 75, 76, 79, 80, 81, 82, 83, 86, 87, 88, 91, 92, 93, 94, 95, 96, 99, 100, 103, 104, 105, 106, 109, 110, 111, 114, 115, 116, 117, 118, 119, 122, 123, 124, 127, 128, 131, 133, 134, 135, 136, 139, 140, 141, 144, 145, 146, 149, 150, 153, 154, 157, 158, 159]
def pX8_find : List PI := [(.iconst 0, 0, 0, []), (.istore_n 1, 1, 0, []), (.iload_n 1, 1, 0, []), (.bipush 8, 0, 8, []), (.if_icmp .ge 16, 12, 0, []), (.aload_n 0, 0, 0, []), (.getfield 16, 5, 0, [8]), (.iload_n 1, 1, 0, []), (.iconst 0, 0, 0, []), (.bastore, 0, 0, []), (.iinc 1 1, 1, 1, []), (.goto (-16), 2, 0, []), (.iconst 0, 0, 0, []), (.istore_n 1, 1, 0, []), (.iload_n 1, 1, 0, []), (.aload_n 0, 0, 0, []), (.getfield 96, 1, 0, [8]), (.if_icmp .ge 63, 50, 0, []), (.iconst 0, 0, 0, []), (.istore_n 2, 2, 0, []), (.iload_n 2, 2, 0, []), (.aload_n 0, 0, 0, []), (.getfield 99, 2, 0, [8]), (.if_icmp .ge 47, 48, 0, []), (.aload_n 0, 0, 0, []), (.getfield 16, 5, 0, [8]), (.aload_n 0, 0, 0, []), (.getfield 7, 3, 0, [8]), (.iload_n 2, 2, 0, []), (.iaload, 0, 0, []), (.aload_n 0, 0, 0, []), (.getfield 16, 5, 0, [8]), (.aload_n 0, 0, 0, []), (.getfield 7, 3, 0, [8]), (.iload_n 2, 2, 0, []), (.iaload, 0, 0, []), (.baload, 0, 0, []), (.ifCond .ne 11, 42, 0, []), (.aload_n 0, 0, 0, []), (.iload_n 2, 2, 0, []), (.invokevirtual 120, 122, 0, [1, 2, 8]), (.ifCond .ne 7, 44, 0, []), (.iconst 1, 0, 1, []), (.goto 4, 45, 0, []), (.iconst 0, 0, 0, []), (.bastore, 0, 0, []), (.iinc 2 1, 2, 1, []), (.goto (-49), 20, 0, []), (.iinc 1 1, 1, 1, []), (.goto (-65), 14, 0, []), (.return_, 0, 0, [])]
def qX8_find : List Nat := [0, 1, 2, 3, 5, 8, 9, 12, 13, 14, 15, 18, 21, 22, 23, 24, 25, 28, 31, 32, 33, 34, 35, 38, 41, 42, 45, 46, 49, 50, 51, 52, 55, 56, 59, 60, 61, 62, 65, 66, 67, 70, 73, 74, 77, 78, 79, 82, 85, 88, 91]
def pX8_isDead : List PI := [(.iconst 0, 0, 0, []), (.istore_n 2, 2, 0, []), (.iconst 0, 0, 0, []), (.istore_n 3, 3, 0, []), (.iload_n 3, 3, 0, []), (.aload_n 0, 0, 0, []), (.iload_n 1, 1, 0, []), (.invokevirtual 123, 117, 0, [1, 1, 8]), (.if_icmp .ge 37, 29, 0, []), (.iload_n 2, 2, 0, []), (.ifCond .ne 21, 23, 0, []), (.aload_n 0, 0, 0, []), (.getfield 16, 5, 0, [8]), (.aload_n 0, 0, 0, []), (.getfield 13, 4, 0, [8]), (.iconst 3, 0, 3, []), (.iload_n 1, 1, 0, []), (.imul, 0, 0, []), (.iload_n 3, 3, 0, []), (.iadd, 0, 0, []), (.iaload, 0, 0, []), (.baload, 0, 0, []), (.ifCond .ne 7, 25, 0, []), (.iconst 1, 0, 1, []), (.goto 4, 26, 0, []), (.iconst 0, 0, 0, []), (.istore_n 2, 2, 0, []), (.iinc 3 1, 3, 1, []), (.goto (-40), 4, 0, []), (.iload_n 2, 2, 0, []), (.ireturn, 0, 0, [])]
def qX8_isDead : List Nat := [0, 1, 2, 3, 4, 5, 6, 7, 10, 13, 14, 17, 18, 21, 22, 25, 26, 27, 28, 29, 30, 31, 32, 35, 36, 39, 40, 41, 44, 47, 48]
def pX8_isEmpty : List PI := [(.aload_n 0, 0, 0, []), (.aload_n 0, 0, 0, []), (.iload_n 1, 1, 0, []), (.invokevirtual 102, 115, 0, [1, 2, 8]), (.ifCond .eq 7, 7, 0, []), (.iconst 0, 0, 0, []), (.goto 4, 8, 0, []), (.iconst 1, 0, 1, []), (.putfield 93, 0, 0, [8]), (.aload_n 0, 0, 0, []), (.getfield 93, 0, 0, [8]), (.ifCond .le 5, 14, 0, []), (.iconst 0, 0, 0, []), (.ireturn, 0, 0, []), (.aload_n 0, 0, 0, []), (.invokevirtual 126, 121, 0, [0, 0, 8]), (.aload_n 0, 0, 0, []), (.getfield 16, 5, 0, [8]), (.iload_n 1, 1, 0, []), (.baload, 0, 0, []), (.ifCond .ne 7, 23, 0, []), (.iconst 1, 0, 1, []), (.goto 4, 24, 0, []), (.iconst 0, 0, 0, []), (.ireturn, 0, 0, [])]
def qX8_isEmpty : List Nat := [0, 1, 2, 3, 6, 9, 10, 13, 14, 17, 18, 21, 24, 25, 26, 27, 30, 31, 34, 35, 36, 39, 40, 43, 44]
def pX8_forget : List PI := [(.aload_n 0, 0, 0, []), (.iconst 0, 0, 0, []), (.putfield 129, 7, 0, [8]), (.aload_n 0, 0, 0, []), (.iconst 0, 0, 0, []), (.putfield 132, 8, 0, [8]), (.aload_n 0, 0, 0, []), (.iconst 0, 0, 0, []), (.putfield 135, 9, 0, [8]), (.aload_n 0, 0, 0, []), (.iconst (-1), 0, (-1), []), (.putfield 53, 24, 0, [8]), (.return_, 0, 0, [])]
def qX8_forget : List Nat := [0, 1, 2, 5, 6, 7, 10, 11, 12, 15, 16, 17, 20]
def pX8_match : List PI := [(.aload_n 0, 0, 0, []), (.iload_n 1, 1, 0, []), (.iconst (-1), 0, (-1), []), (.if_icmp .eq 13, 10, 0, []), (.aload_n 0, 0, 0, []), (.iload_n 1, 1, 0, []), (.iload_n 2, 2, 0, []), (.iload_n 3, 3, 0, []), (.invokevirtual 106, 119, 0, [3, 2, 8]), (.ifCond .ne 7, 12, 0, []), (.iconst 1, 0, 1, []), (.goto 4, 13, 0, []), (.iconst 0, 0, 0, []), (.putfield 93, 0, 0, [8]), (.aload_n 0, 0, 0, []), (.getfield 93, 0, 0, [8]), (.ifCond .le 4, 18, 0, []), (.return_, 0, 0, []), (.aload_n 0, 0, 0, []), (.getfield 20, 10, 0, [8]), (.iconst 0, 0, 0, []), (.iload_n 1, 1, 0, []), (.iastore, 0, 0, []), (.aload_n 0, 0, 0, []), (.getfield 20, 10, 0, [8]), (.iconst 1, 0, 1, []), (.iload_n 2, 2, 0, []), (.iastore, 0, 0, []), (.aload_n 0, 0, 0, []), (.getfield 20, 10, 0, [8]), (.iconst 2, 0, 2, []), (.iload_n 3, 3, 0, []), (.iastore, 0, 0, []), (.aload_n 0, 0, 0, []), (.iload_n 2, 2, 0, []), (.iconst (-1), 0, (-1), []), (.if_icmp .ne 7, 39, 0, []), (.iconst 1, 0, 1, []), (.goto 13, 45, 0, []), (.iload_n 3, 3, 0, []), (.iconst (-1), 0, (-1), []), (.if_icmp .ne 7, 44, 0, []), (.iconst 2, 0, 2, []), (.goto 4, 45, 0, []), (.iconst 3, 0, 3, []), (.putfield 114, 6, 0, [8]), (.aload_n 0, 0, 0, []), (.invokevirtual 117, 124, 0, [0, 0, 8]), (.return_, 0, 0, [])]
def qX8_match : List Nat := [0, 1, 2, 3, 6, 7, 8, 9, 10, 13, 16, 17, 20, 21, 24, 25, 28, 31, 32, 33, 36, 37, 38, 39, 40, 43, 44, 45, 46, 47, 50, 51, 52, 53, 54, 55, 56, 59, 60, 63, 64, 65, 68, 69, 72, 73, 76, 77, 80]
def pX8_next : List PI := [(.iconst 0, 0, 0, []), (.istore_n 3, 3, 0, []), (.aload_n 0, 0, 0, []), (.getfield 114, 6, 0, [8]), (.iconst 1, 0, 1, []), (.isub, 0, 0, []), (.istore 4, 4, 0, []), (.iload 4, 4, 0, []), (.ifCond .lt 25, 20, 0, []), (.aload_n 0, 0, 0, []), (.getfield 35, 15, 0, [8]), (.iload_n 3, 3, 0, []), (.aload_n 0, 0, 0, []), (.getfield 20, 10, 0, [8]), (.iload 4, 4, 0, []), (.iaload, 0, 0, []), (.iastore, 0, 0, []), (.iinc 3 1, 3, 1, []), (.iinc 4 (-1), 4, (-1), []), (.goto (-24), 7, 0, []), (.iconst 0, 0, 0, []), (.istore 4, 4, 0, []), (.iload 4, 4, 0, []), (.iload_n 2, 2, 0, []), (.if_icmp .ge 110, 80, 0, []), (.iinc 3 (-1), 3, (-1), []), (.aload_n 0, 0, 0, []), (.getfield 35, 15, 0, [8]), (.iload_n 3, 3, 0, []), (.iaload, 0, 0, []), (.istore 5, 5, 0, []), (.aload_n 1, 1, 0, []), (.iload 4, 4, 0, []), (.iaload, 0, 0, []), (.istore 6, 6, 0, []), (.iconst 0, 0, 0, []), (.istore 7, 7, 0, []), (.iload 6, 6, 0, []), (.bipush (-2), 0, (-2), []), (.if_icmp .ne 26, 51, 0, []), (.iload 7, 7, 0, []), (.iconst 2, 0, 2, []), (.if_icmp .ge 20, 51, 0, []), (.aload_n 0, 0, 0, []), (.getfield 35, 15, 0, [8]), (.iload_n 3, 3, 0, []), (.iload 5, 5, 0, []), (.iastore, 0, 0, []), (.iinc 3 1, 3, 1, []), (.iinc 7 1, 7, 1, []), (.goto (-27), 37, 0, []), (.iload 6, 6, 0, []), (.ifCond .ge 7, 55, 0, []), (.iconst (-1), 0, (-1), []), (.goto 11, 60, 0, []), (.aload_n 0, 0, 0, []), (.iload 6, 6, 0, []), (.invokevirtual 123, 117, 0, [1, 1, 8]), (.iconst 1, 0, 1, []), (.isub, 0, 0, []), (.istore 7, 7, 0, []), (.iload 7, 7, 0, []), (.ifCond .lt 30, 78, 0, []), (.aload_n 0, 0, 0, []), (.getfield 35, 15, 0, [8]), (.iload_n 3, 3, 0, []), (.aload_n 0, 0, 0, []), (.getfield 13, 4, 0, [8]), (.iconst 3, 0, 3, []), (.iload 6, 6, 0, []), (.imul, 0, 0, []), (.iload 7, 7, 0, []), (.iadd, 0, 0, []), (.iaload, 0, 0, []), (.iastore, 0, 0, []), (.iinc 3 1, 3, 1, []), (.iinc 7 (-1), 7, (-1), []), (.goto (-29), 61, 0, []), (.iinc 4 1, 4, 1, []), (.goto (-110), 22, 0, []), (.iload_n 3, 3, 0, []), (.ifCond .ne 7, 84, 0, []), (.iconst (-1), 0, (-1), []), (.goto 11, 90, 0, []), (.aload_n 0, 0, 0, []), (.getfield 35, 15, 0, [8]), (.iload_n 3, 3, 0, []), (.iconst 1, 0, 1, []), (.isub, 0, 0, []), (.iaload, 0, 0, []), (.ireturn, 0, 0, [])]
def qX8_next : List Nat := [0, 1, 2, 3, 6, 7, 8, 10, 12, 15, 16, 19, 20, 21, 24, 26, 27, 28, 31, 34, 37, 38, 40, 42, 43, 46, 49, 50, 53, 54, 55, 57, 58, 60, 61, 63, 64, 66, 68, 70, 73, 75, 76, 79, 80, 83, 84, 86, 87, 90, 93, 96, 98, 101, 102, 105, 106, 108, 111, 112, 113, 115, 117, 120, 121, 124, 125, 126, 129, 130, 132, 133, 135, 136, 137, 138, 141, 144, 147, 150, 153, 154, 157, 158, 161, 162, 165, 166, 167, 168, 169]
def pX8_isMakerOf : List PI := [(.iload_n 2, 2, 0, []), (.iconst (-1), 0, (-1), []), (.if_icmp .eq 29, 17, 0, []), (.iload_n 1, 1, 0, []), (.ifCond .lt 25, 17, 0, []), (.iload_n 1, 1, 0, []), (.aload_n 0, 0, 0, []), (.getfield 99, 2, 0, [8]), (.if_icmp .ge 17, 17, 0, []), (.aload_n 0, 0, 0, []), (.getfield 7, 3, 0, [8]), (.iload_n 1, 1, 0, []), (.iaload, 0, 0, []), (.iload_n 2, 2, 0, []), (.if_icmp .ne 7, 17, 0, []), (.iconst 1, 0, 1, []), (.goto 4, 18, 0, []), (.iconst 0, 0, 0, []), (.ireturn, 0, 0, [])]
def qX8_isMakerOf : List Nat := [0, 1, 2, 5, 6, 9, 10, 11, 14, 17, 18, 21, 22, 23, 24, 27, 28, 31, 32]
def pX8_sign : List PI := [(.aload_n 0, 0, 0, []), (.aload_n 0, 0, 0, []), (.getfield 114, 6, 0, [8]), (.ifCond .eq 12, 8, 0, []), (.aload_n 0, 0, 0, []), (.getfield 132, 8, 0, [8]), (.bipush 40, 0, 40, []), (.if_icmp .ne 7, 10, 0, []), (.iconst 1, 0, 1, []), (.goto 4, 11, 0, []), (.iconst 0, 0, 0, []), (.putfield 93, 0, 0, [8]), (.aload_n 0, 0, 0, []), (.getfield 93, 0, 0, [8]), (.ifCond .le 5, 17, 0, []), (.iconst 0, 0, 0, []), (.ireturn, 0, 0, []), (.aload_n 0, 0, 0, []), (.aload_n 0, 0, 0, []), (.getfield 29, 13, 0, [8]), (.aload_n 0, 0, 0, []), (.getfield 132, 8, 0, [8]), (.invokevirtual 138, 126, 0, [2, 1, 8]), (.istore_n 2, 2, 0, []), (.aload_n 0, 0, 0, []), (.iload_n 2, 2, 0, []), (.iconst (-1), 0, (-1), []), (.if_icmp .eq 14, 34, 0, []), (.iload_n 1, 1, 0, []), (.iconst (-1), 0, (-1), []), (.if_icmp .eq 18, 39, 0, []), (.iload_n 1, 1, 0, []), (.bipush (-2), 0, (-2), []), (.if_icmp .eq 12, 39, 0, []), (.aload_n 0, 0, 0, []), (.iload_n 1, 1, 0, []), (.iload_n 2, 2, 0, []), (.invokevirtual 142, 127, 0, [2, 2, 8]), (.ifCond .eq 7, 41, 0, []), (.iconst 0, 0, 0, []), (.goto 4, 42, 0, []), (.iconst 2, 0, 2, []), (.putfield 93, 0, 0, [8]), (.aload_n 0, 0, 0, []), (.getfield 93, 0, 0, [8]), (.ifCond .le 5, 48, 0, []), (.iconst 0, 0, 0, []), (.ireturn, 0, 0, []), (.aload_n 0, 0, 0, []), (.getfield 29, 13, 0, [8]), (.aload_n 0, 0, 0, []), (.getfield 132, 8, 0, [8]), (.iload_n 1, 1, 0, []), (.iastore, 0, 0, []), (.aload_n 0, 0, 0, []), (.dup, 0, 0, []), (.getfield 132, 8, 0, [8]), (.iconst 1, 0, 1, []), (.iadd, 0, 0, []), (.putfield 132, 8, 0, [8]), (.aload_n 0, 0, 0, []), (.getfield 132, 8, 0, [8]), (.ireturn, 0, 0, [])]
def qX8_sign : List Nat := [0, 1, 2, 5, 8, 9, 12, 14, 17, 18, 21, 22, 25, 26, 29, 32, 33, 34, 35, 36, 39, 40, 43, 46, 47, 48, 49, 50, 53, 54, 55, 58, 59, 61, 64, 65, 66, 67, 70, 73, 74, 77, 78, 81, 82, 85, 88, 89, 90, 91, 94, 95, 98, 99, 100, 101, 102, 105, 106, 107, 110, 111, 114]
def pX8_row : List PI := [(.aload_n 0, 0, 0, []), (.aload_n 0, 0, 0, []), (.getfield 114, 6, 0, [8]), (.ifCond .eq 12, 8, 0, []), (.aload_n 0, 0, 0, []), (.getfield 129, 7, 0, [8]), (.bipush 12, 0, 12, []), (.if_icmp .ne 7, 10, 0, []), (.iconst 1, 0, 1, []), (.goto 4, 11, 0, []), (.iconst 0, 0, 0, []), (.putfield 93, 0, 0, [8]), (.aload_n 0, 0, 0, []), (.getfield 93, 0, 0, [8]), (.ifCond .le 5, 17, 0, []), (.iconst 0, 0, 0, []), (.ireturn, 0, 0, []), (.aload_n 0, 0, 0, []), (.getfield 132, 8, 0, [8]), (.istore_n 1, 1, 0, []), (.aload_n 0, 0, 0, []), (.aload_n 0, 0, 0, []), (.aload_n 0, 0, 0, []), (.getfield 29, 13, 0, [8]), (.iload_n 1, 1, 0, []), (.invokevirtual 138, 126, 0, [2, 1, 8]), (.iconst (-1), 0, (-1), []), (.if_icmp .ne 7, 30, 0, []), (.iconst 0, 0, 0, []), (.goto 4, 31, 0, []), (.iconst 2, 0, 2, []), (.putfield 93, 0, 0, [8]), (.aload_n 0, 0, 0, []), (.iconst 0, 0, 0, []), (.putfield 132, 8, 0, [8]), (.aload_n 0, 0, 0, []), (.getfield 93, 0, 0, [8]), (.ifCond .le 5, 40, 0, []), (.iconst 0, 0, 0, []), (.ireturn, 0, 0, []), (.iconst 0, 0, 0, []), (.istore_n 2, 2, 0, []), (.iload_n 2, 2, 0, []), (.iload_n 1, 1, 0, []), (.if_icmp .ge 29, 60, 0, []), (.aload_n 0, 0, 0, []), (.getfield 23, 11, 0, [8]), (.bipush 40, 0, 40, []), (.aload_n 0, 0, 0, []), (.getfield 129, 7, 0, [8]), (.imul, 0, 0, []), (.iload_n 2, 2, 0, []), (.iadd, 0, 0, []), (.aload_n 0, 0, 0, []), (.getfield 29, 13, 0, [8]), (.iload_n 2, 2, 0, []), (.iaload, 0, 0, []), (.iastore, 0, 0, []), (.iinc 2 1, 2, 1, []), (.goto (-28), 42, 0, []), (.aload_n 0, 0, 0, []), (.getfield 26, 12, 0, [8]), (.aload_n 0, 0, 0, []), (.getfield 129, 7, 0, [8]), (.iload_n 1, 1, 0, []), (.iastore, 0, 0, []), (.aload_n 0, 0, 0, []), (.dup, 0, 0, []), (.getfield 129, 7, 0, [8]), (.iconst 1, 0, 1, []), (.iadd, 0, 0, []), (.putfield 129, 7, 0, [8]), (.aload_n 0, 0, 0, []), (.iconst (-1), 0, (-1), []), (.putfield 53, 24, 0, [8]), (.aload_n 0, 0, 0, []), (.getfield 129, 7, 0, [8]), (.iconst 1, 0, 1, []), (.isub, 0, 0, []), (.ireturn, 0, 0, [])]
def qX8_row : List Nat := [0, 1, 2, 5, 8, 9, 12, 14, 17, 18, 21, 22, 25, 26, 29, 32, 33, 34, 35, 38, 39, 40, 41, 42, 45, 46, 49, 50, 53, 54, 57, 58, 61, 62, 63, 66, 67, 70, 73, 74, 75, 76, 77, 78, 79, 82, 83, 86, 88, 89, 92, 93, 94, 95, 96, 99, 100, 101, 102, 105, 108, 109, 112, 113, 116, 117, 118, 119, 120, 123, 124, 125, 128, 129, 130, 133, 134, 137, 138, 139]
def pX8_give : List PI := [(.aload_n 0, 0, 0, []), (.aload_n 0, 0, 0, []), (.getfield 114, 6, 0, [8]), (.ifCond .eq 12, 8, 0, []), (.aload_n 0, 0, 0, []), (.getfield 135, 9, 0, [8]), (.bipush 60, 0, 60, []), (.if_icmp .ne 7, 10, 0, []), (.iconst 1, 0, 1, []), (.goto 4, 11, 0, []), (.iconst 0, 0, 0, []), (.putfield 93, 0, 0, [8]), (.aload_n 0, 0, 0, []), (.getfield 93, 0, 0, [8]), (.ifCond .le 5, 17, 0, []), (.iconst 0, 0, 0, []), (.ireturn, 0, 0, []), (.aload_n 0, 0, 0, []), (.aload_n 0, 0, 0, []), (.iload_n 1, 1, 0, []), (.aload_n 0, 0, 0, []), (.aload_n 0, 0, 0, []), (.getfield 32, 14, 0, [8]), (.aload_n 0, 0, 0, []), (.getfield 135, 9, 0, [8]), (.invokevirtual 138, 126, 0, [2, 1, 8]), (.invokevirtual 142, 127, 0, [2, 2, 8]), (.ifCond .eq 7, 30, 0, []), (.iconst 0, 0, 0, []), (.goto 4, 31, 0, []), (.iconst 2, 0, 2, []), (.putfield 93, 0, 0, [8]), (.aload_n 0, 0, 0, []), (.getfield 93, 0, 0, [8]), (.ifCond .le 5, 37, 0, []), (.iconst 0, 0, 0, []), (.ireturn, 0, 0, []), (.aload_n 0, 0, 0, []), (.getfield 32, 14, 0, [8]), (.aload_n 0, 0, 0, []), (.getfield 135, 9, 0, [8]), (.iload_n 1, 1, 0, []), (.iastore, 0, 0, []), (.aload_n 0, 0, 0, []), (.dup, 0, 0, []), (.getfield 135, 9, 0, [8]), (.iconst 1, 0, 1, []), (.iadd, 0, 0, []), (.putfield 135, 9, 0, [8]), (.aload_n 0, 0, 0, []), (.getfield 135, 9, 0, [8]), (.ireturn, 0, 0, [])]
def qX8_give : List Nat := [0, 1, 2, 5, 8, 9, 12, 14, 17, 18, 21, 22, 25, 26, 29, 32, 33, 34, 35, 36, 37, 38, 39, 42, 43, 46, 49, 52, 55, 56, 59, 60, 63, 64, 67, 70, 71, 72, 73, 76, 77, 80, 81, 82, 83, 84, 87, 88, 89, 92, 93, 96]
def pX8_empty : List PI := [(.aload_n 0, 0, 0, []), (.iconst 0, 0, 0, []), (.putfield 93, 0, 0, [8]), (.aload_n 0, 0, 0, []), (.iconst 0, 0, 0, []), (.putfield 135, 9, 0, [8]), (.return_, 0, 0, [])]
def qX8_empty : List Nat := [0, 1, 2, 5, 6, 7, 10]
def pX8_behind : List PI := [(.iload_n 2, 2, 0, []), (.istore_n 3, 3, 0, []), (.iconst 1, 0, 1, []), (.istore 4, 4, 0, []), (.iload 4, 4, 0, []), (.ifCond .le 48, 30, 0, []), (.aload_n 1, 1, 0, []), (.iload_n 3, 3, 0, []), (.iaload, 0, 0, []), (.istore 5, 5, 0, []), (.iload 4, 4, 0, []), (.iload 5, 5, 0, []), (.bipush (-2), 0, (-2), []), (.if_icmp .ne 7, 16, 0, []), (.iconst 1, 0, 1, []), (.goto 21, 26, 0, []), (.iload 5, 5, 0, []), (.iconst (-1), 0, (-1), []), (.if_icmp .ne 7, 21, 0, []), (.iconst (-1), 0, (-1), []), (.goto 11, 26, 0, []), (.aload_n 0, 0, 0, []), (.iload 5, 5, 0, []), (.invokevirtual 123, 117, 0, [1, 1, 8]), (.iconst 1, 0, 1, []), (.isub, 0, 0, []), (.iadd, 0, 0, []), (.istore 4, 4, 0, []), (.iinc 3 1, 3, 1, []), (.goto (-47), 4, 0, []), (.iload_n 3, 3, 0, []), (.ireturn, 0, 0, [])]
def qX8_behind : List Nat := [0, 1, 2, 3, 5, 7, 10, 11, 12, 13, 15, 17, 19, 21, 24, 25, 28, 30, 31, 34, 35, 38, 39, 41, 44, 45, 46, 47, 49, 52, 55, 56]
def pX8_rowTakes : List PI := [(.bipush 40, 0, 40, []), (.iload_n 1, 1, 0, []), (.imul, 0, 0, []), (.aload_n 0, 0, 0, []), (.getfield 26, 12, 0, [8]), (.iload_n 1, 1, 0, []), (.iaload, 0, 0, []), (.iadd, 0, 0, []), (.iconst 1, 0, 1, []), (.isub, 0, 0, []), (.istore_n 2, 2, 0, []), (.iload_n 2, 2, 0, []), (.bipush 40, 0, 40, []), (.iload_n 1, 1, 0, []), (.imul, 0, 0, []), (.if_icmp .lt 128, 86, 0, []), (.aload_n 0, 0, 0, []), (.getfield 23, 11, 0, [8]), (.iload_n 2, 2, 0, []), (.iaload, 0, 0, []), (.istore_n 3, 3, 0, []), (.iconst 0, 0, 0, []), (.istore 4, 4, 0, []), (.iload 4, 4, 0, []), (.aload_n 0, 0, 0, []), (.getfield 135, 9, 0, [8]), (.if_icmp .ge 103, 84, 0, []), (.aload_n 0, 0, 0, []), (.getfield 38, 16, 0, [8]), (.bipush 60, 0, 60, []), (.iload_n 2, 2, 0, []), (.imul, 0, 0, []), (.iload 4, 4, 0, []), (.iadd, 0, 0, []), (.iload_n 3, 3, 0, []), (.iconst (-1), 0, (-1), []), (.if_icmp .eq 75, 78, 0, []), (.iload_n 3, 3, 0, []), (.bipush (-2), 0, (-2), []), (.if_icmp .ne 48, 67, 0, []), (.aload_n 0, 0, 0, []), (.getfield 38, 16, 0, [8]), (.bipush 60, 0, 60, []), (.iload_n 2, 2, 0, []), (.iconst 1, 0, 1, []), (.iadd, 0, 0, []), (.imul, 0, 0, []), (.iload 4, 4, 0, []), (.iadd, 0, 0, []), (.baload, 0, 0, []), (.ifCond .ne 52, 78, 0, []), (.aload_n 0, 0, 0, []), (.getfield 38, 16, 0, [8]), (.bipush 60, 0, 60, []), (.aload_n 0, 0, 0, []), (.aload_n 0, 0, 0, []), (.getfield 23, 11, 0, [8]), (.iload_n 2, 2, 0, []), (.iconst 1, 0, 1, []), (.iadd, 0, 0, []), (.invokevirtual 146, 132, 0, [2, 1, 8]), (.imul, 0, 0, []), (.iload 4, 4, 0, []), (.iadd, 0, 0, []), (.baload, 0, 0, []), (.ifCond .eq 31, 80, 0, []), (.goto 24, 78, 0, []), (.iload_n 3, 3, 0, []), (.aload_n 0, 0, 0, []), (.getfield 32, 14, 0, [8]), (.iload 4, 4, 0, []), (.iaload, 0, 0, []), (.if_icmp .ne 17, 80, 0, []), (.aload_n 0, 0, 0, []), (.iload_n 2, 2, 0, []), (.iload 4, 4, 0, []), (.invokevirtual 149, 134, 0, [2, 2, 8]), (.ifCond .eq 7, 80, 0, []), (.iconst 1, 0, 1, []), (.goto 4, 81, 0, []), (.iconst 0, 0, 0, []), (.bastore, 0, 0, []), (.iinc 4 1, 4, 1, []), (.goto (-106), 23, 0, []), (.iinc 2 (-1), 2, (-1), []), (.goto (-130), 11, 0, []), (.bipush 40, 0, 40, []), (.iload_n 1, 1, 0, []), (.imul, 0, 0, []), (.istore_n 2, 2, 0, []), (.iconst 0, 0, 0, []), (.istore_n 3, 3, 0, []), (.iconst 1, 0, 1, []), (.istore 4, 4, 0, []), (.iconst 0, 0, 0, []), (.istore 5, 5, 0, []), (.iload 5, 5, 0, []), (.aload_n 0, 0, 0, []), (.getfield 114, 6, 0, [8]), (.if_icmp .ge 55, 129, 0, []), (.iload 4, 4, 0, []), (.ifCond .eq 21, 113, 0, []), (.aload_n 0, 0, 0, []), (.getfield 38, 16, 0, [8]), (.bipush 60, 0, 60, []), (.iload_n 2, 2, 0, []), (.imul, 0, 0, []), (.iload_n 3, 3, 0, []), (.iadd, 0, 0, []), (.baload, 0, 0, []), (.ifCond .eq 7, 113, 0, []), (.iconst 1, 0, 1, []), (.goto 4, 114, 0, []), (.iconst 0, 0, 0, []), (.istore 4, 4, 0, []), (.aload_n 0, 0, 0, []), (.aload_n 0, 0, 0, []), (.getfield 23, 11, 0, [8]), (.iload_n 2, 2, 0, []), (.invokevirtual 146, 132, 0, [2, 1, 8]), (.istore_n 2, 2, 0, []), (.aload_n 0, 0, 0, []), (.aload_n 0, 0, 0, []), (.getfield 32, 14, 0, [8]), (.iload_n 3, 3, 0, []), (.invokevirtual 146, 132, 0, [2, 1, 8]), (.istore_n 3, 3, 0, []), (.iinc 5 1, 5, 1, []), (.goto (-58), 96, 0, []), (.iload 4, 4, 0, []), (.ireturn, 0, 0, [])]
def qX8_rowTakes : List Nat := [0, 2, 3, 4, 5, 8, 9, 10, 11, 12, 13, 14, 15, 17, 18, 19, 22, 23, 26, 27, 28, 29, 30, 32, 34, 35, 38, 41, 42, 45, 47, 48, 49, 51, 52, 53, 54, 57, 58, 60, 63, 64, 67, 69, 70, 71, 72, 73, 75, 76, 77, 80, 81, 84, 86, 87, 88, 91, 92, 93, 94, 97, 98, 100, 101, 102, 105, 108, 109, 110, 113, 115, 116, 119, 120, 121, 123, 126, 129, 130, 133, 134, 135, 138, 141, 144, 147, 149, 150, 151, 152, 153, 154, 155, 157, 158, 160, 162, 163, 166, 169, 171, 174, 175, 178, 180, 181, 182, 183, 184, 185, 188, 189, 192, 193, 195, 196, 197, 200, 201, 204, 205, 206, 207, 210, 211, 214, 215, 218, 221, 223]
def pX8_fieldsTake : List PI := [(.iload_n 1, 1, 0, []), (.iconst 1, 0, 1, []), (.iadd, 0, 0, []), (.istore_n 3, 3, 0, []), (.iload_n 2, 2, 0, []), (.iconst 1, 0, 1, []), (.iadd, 0, 0, []), (.istore 4, 4, 0, []), (.iconst 1, 0, 1, []), (.istore 5, 5, 0, []), (.iconst 0, 0, 0, []), (.istore 6, 6, 0, []), (.iload 6, 6, 0, []), (.aload_n 0, 0, 0, []), (.aload_n 0, 0, 0, []), (.getfield 32, 14, 0, [8]), (.iload_n 2, 2, 0, []), (.iaload, 0, 0, []), (.invokevirtual 123, 117, 0, [1, 1, 8]), (.if_icmp .ge 58, 49, 0, []), (.iload 5, 5, 0, []), (.ifCond .eq 22, 33, 0, []), (.aload_n 0, 0, 0, []), (.getfield 38, 16, 0, [8]), (.bipush 60, 0, 60, []), (.iload_n 3, 3, 0, []), (.imul, 0, 0, []), (.iload 4, 4, 0, []), (.iadd, 0, 0, []), (.baload, 0, 0, []), (.ifCond .eq 7, 33, 0, []), (.iconst 1, 0, 1, []), (.goto 4, 34, 0, []), (.iconst 0, 0, 0, []), (.istore 5, 5, 0, []), (.aload_n 0, 0, 0, []), (.aload_n 0, 0, 0, []), (.getfield 23, 11, 0, [8]), (.iload_n 3, 3, 0, []), (.invokevirtual 146, 132, 0, [2, 1, 8]), (.istore_n 3, 3, 0, []), (.aload_n 0, 0, 0, []), (.aload_n 0, 0, 0, []), (.getfield 32, 14, 0, [8]), (.iload 4, 4, 0, []), (.invokevirtual 146, 132, 0, [2, 1, 8]), (.istore 4, 4, 0, []), (.iinc 6 1, 6, 1, []), (.goto (-67), 12, 0, []), (.iload 5, 5, 0, []), (.ireturn, 0, 0, [])]
def qX8_fieldsTake : List Nat := [0, 1, 2, 3, 4, 5, 6, 7, 9, 10, 12, 13, 15, 17, 18, 19, 22, 23, 24, 27, 30, 32, 35, 36, 39, 41, 42, 43, 45, 46, 47, 50, 51, 54, 55, 57, 58, 59, 62, 63, 66, 67, 68, 69, 72, 74, 77, 79, 82, 85, 87]
def pX8_canAnswer : List PI := [(.aload_n 0, 0, 0, []), (.aload_n 0, 0, 0, []), (.getfield 114, 6, 0, [8]), (.ifCond .ne 7, 6, 0, []), (.iconst 1, 0, 1, []), (.goto 24, 17, 0, []), (.aload_n 0, 0, 0, []), (.aload_n 0, 0, 0, []), (.getfield 32, 14, 0, [8]), (.aload_n 0, 0, 0, []), (.getfield 135, 9, 0, [8]), (.invokevirtual 138, 126, 0, [2, 1, 8]), (.iconst (-1), 0, (-1), []), (.if_icmp .eq 7, 16, 0, []), (.iconst 2, 0, 2, []), (.goto 4, 17, 0, []), (.iconst 0, 0, 0, []), (.putfield 93, 0, 0, [8]), (.aload_n 0, 0, 0, []), (.getfield 93, 0, 0, [8]), (.ifCond .ne 7, 23, 0, []), (.iconst 1, 0, 1, []), (.goto 4, 24, 0, []), (.iconst 0, 0, 0, []), (.ireturn, 0, 0, [])]
def qX8_canAnswer : List Nat := [0, 1, 2, 5, 8, 9, 12, 13, 14, 17, 18, 21, 24, 25, 28, 29, 32, 33, 36, 37, 40, 43, 44, 47, 48]
def pX8_answer : List PI := [(.aload_n 0, 0, 0, []), (.invokevirtual 152, 135, 0, [0, 2, 8]), (.ifCond .ne 5, 5, 0, []), (.iconst 0, 0, 0, []), (.ireturn, 0, 0, []), (.iconst 0, 0, 0, []), (.istore_n 1, 1, 0, []), (.iload_n 1, 1, 0, []), (.aload_n 0, 0, 0, []), (.getfield 129, 7, 0, [8]), (.if_icmp .ge 19, 19, 0, []), (.aload_n 0, 0, 0, []), (.iload_n 1, 1, 0, []), (.invokevirtual 156, 133, 0, [1, 2, 8]), (.ifCond .eq 5, 17, 0, []), (.iload_n 1, 1, 0, []), (.ireturn, 0, 0, []), (.iinc 1 1, 1, 1, []), (.goto (-21), 7, 0, []), (.iconst (-1), 0, (-1), []), (.ireturn, 0, 0, [])]
def qX8_answer : List Nat := [0, 1, 4, 7, 8, 9, 10, 11, 12, 13, 16, 19, 20, 21, 24, 27, 28, 29, 32, 35, 36]
def pX8_signOf : List PI := [(.iload_n 1, 1, 0, []), (.iconst (-1), 0, (-1), []), (.if_icmp .ne 7, 5, 0, []), (.iconst (-1), 0, (-1), []), (.goto 9, 9, 0, []), (.aload_n 0, 0, 0, []), (.getfield 23, 11, 0, [8]), (.iload_n 1, 1, 0, []), (.iaload, 0, 0, []), (.ireturn, 0, 0, [])]
def qX8_signOf : List Nat := [0, 1, 2, 5, 6, 9, 10, 13, 14, 15]
def pX8_firstTable : List PI := [(.aload_n 0, 0, 0, []), (.aload_n 0, 0, 0, []), (.getfield 114, 6, 0, [8]), (.putfield 159, 17, 0, [8]), (.aload_n 0, 0, 0, []), (.aload_n 0, 0, 0, []), (.getfield 129, 7, 0, [8]), (.putfield 162, 18, 0, [8]), (.aload_n 0, 0, 0, []), (.iconst 0, 0, 0, []), (.putfield 165, 22, 0, [8, 2]), (.iconst 0, 0, 0, []), (.istore_n 1, 1, 0, []), (.iload_n 1, 1, 0, []), (.aload_n 0, 0, 0, []), (.getfield 114, 6, 0, [8]), (.if_icmp .ge 21, 27, 0, []), (.aload_n 0, 0, 0, []), (.getfield 41, 19, 0, [8]), (.iload_n 1, 1, 0, []), (.aload_n 0, 0, 0, []), (.getfield 20, 10, 0, [8]), (.iload_n 1, 1, 0, []), (.iaload, 0, 0, []), (.iastore, 0, 0, []), (.iinc 1 1, 1, 1, []), (.goto (-23), 13, 0, []), (.iconst 0, 0, 0, []), (.istore_n 1, 1, 0, []), (.iload_n 1, 1, 0, []), (.aload_n 0, 0, 0, []), (.getfield 129, 7, 0, [8]), (.if_icmp .ge 59, 67, 0, []), (.aload_n 0, 0, 0, []), (.getfield 44, 20, 0, [8]), (.iload_n 1, 1, 0, []), (.iload_n 1, 1, 0, []), (.iastore, 0, 0, []), (.bipush 40, 0, 40, []), (.iload_n 1, 1, 0, []), (.imul, 0, 0, []), (.istore_n 2, 2, 0, []), (.iconst 0, 0, 0, []), (.istore_n 3, 3, 0, []), (.iload_n 3, 3, 0, []), (.aload_n 0, 0, 0, []), (.getfield 114, 6, 0, [8]), (.if_icmp .ge 31, 65, 0, []), (.aload_n 0, 0, 0, []), (.getfield 47, 21, 0, [8]), (.bipush 44, 0, 44, []), (.iload_n 1, 1, 0, []), (.imul, 0, 0, []), (.iload_n 3, 3, 0, []), (.iadd, 0, 0, []), (.iload_n 2, 2, 0, []), (.iastore, 0, 0, []), (.aload_n 0, 0, 0, []), (.aload_n 0, 0, 0, []), (.getfield 23, 11, 0, [8]), (.iload_n 2, 2, 0, []), (.invokevirtual 146, 132, 0, [2, 1, 8]), (.istore_n 2, 2, 0, []), (.iinc 3 1, 3, 1, []), (.goto (-33), 44, 0, []), (.iinc 1 1, 1, 1, []), (.goto (-61), 29, 0, []), (.aload_n 0, 0, 0, []), (.invokevirtual 169, 139, 0, [0, 0, 8]), (.return_, 0, 0, [])]
def qX8_firstTable : List Nat := [0, 1, 2, 5, 8, 9, 10, 13, 16, 17, 18, 21, 22, 23, 24, 25, 28, 31, 32, 35, 36, 37, 40, 41, 42, 43, 46, 49, 50, 51, 52, 53, 56, 59, 60, 63, 64, 65, 66, 68, 69, 70, 71, 72, 73, 74, 75, 78, 81, 82, 85, 87, 88, 89, 90, 91, 92, 93, 94, 95, 98, 99, 102, 103, 106, 109, 112, 115, 116, 119]
def pX8_part : List PI := [(.iconst 1, 0, 1, []), (.istore_n 1, 1, 0, []), (.iload_n 1, 1, 0, []), (.ifCond .eq 117, 64, 0, []), (.aload_n 0, 0, 0, []), (.getfield 165, 22, 0, [8]), (.ifCond .ne 110, 64, 0, []), (.iconst 0, 0, 0, []), (.istore_n 1, 1, 0, []), (.iconst 0, 0, 0, []), (.istore_n 2, 2, 0, []), (.iload_n 2, 2, 0, []), (.aload_n 0, 0, 0, []), (.getfield 162, 18, 0, [8]), (.if_icmp .ge 95, 63, 0, []), (.iload_n 1, 1, 0, []), (.ifCond .ne 91, 63, 0, []), (.iconst 0, 0, 0, []), (.istore_n 3, 3, 0, []), (.iload_n 3, 3, 0, []), (.aload_n 0, 0, 0, []), (.getfield 159, 17, 0, [8]), (.if_icmp .ge 75, 61, 0, []), (.iload_n 1, 1, 0, []), (.ifCond .ne 71, 61, 0, []), (.aload_n 0, 0, 0, []), (.getfield 47, 21, 0, [8]), (.bipush 44, 0, 44, []), (.iload_n 2, 2, 0, []), (.imul, 0, 0, []), (.iload_n 3, 3, 0, []), (.iadd, 0, 0, []), (.iaload, 0, 0, []), (.istore 4, 4, 0, []), (.aload_n 0, 0, 0, []), (.iload 4, 4, 0, []), (.invokevirtual 172, 137, 0, [1, 1, 8]), (.bipush (-2), 0, (-2), []), (.if_icmp .eq 6, 40, 0, []), (.goto 38, 59, 0, []), (.iconst 1, 0, 1, []), (.istore_n 1, 1, 0, []), (.aload_n 0, 0, 0, []), (.aload_n 0, 0, 0, []), (.getfield 162, 18, 0, [8]), (.bipush 60, 0, 60, []), (.if_icmp .ne 7, 49, 0, []), (.iconst 1, 0, 1, []), (.goto 4, 50, 0, []), (.iconst 0, 0, 0, []), (.putfield 165, 22, 0, [8, 2]), (.aload_n 0, 0, 0, []), (.getfield 165, 22, 0, [8]), (.ifCond .ne 11, 59, 0, []), (.aload_n 0, 0, 0, []), (.iload_n 2, 2, 0, []), (.iload_n 3, 3, 0, []), (.iload 4, 4, 0, []), (.invokevirtual 175, 140, 0, [3, 0, 8]), (.iinc 3 1, 3, 1, []), (.goto (-77), 19, 0, []), (.iinc 2 1, 2, 1, []), (.goto (-97), 11, 0, []), (.goto (-115), 2, 0, []), (.return_, 0, 0, [])]
def qX8_part : List Nat := [0, 1, 2, 3, 6, 7, 10, 13, 14, 15, 16, 17, 18, 19, 22, 25, 26, 29, 30, 31, 32, 33, 36, 39, 40, 43, 44, 47, 49, 50, 51, 52, 53, 54, 56, 57, 59, 62, 64, 67, 70, 71, 72, 73, 74, 77, 79, 82, 83, 86, 87, 90, 91, 94, 97, 98, 99, 100, 102, 105, 108, 111, 114, 117, 120]
def pX8_doubled : List PI := [(.aload_n 0, 0, 0, []), (.getfield 162, 18, 0, [8]), (.istore 4, 4, 0, []), (.iload 4, 4, 0, []), (.iload_n 1, 1, 0, []), (.if_icmp .le 71, 44, 0, []), (.aload_n 0, 0, 0, []), (.getfield 44, 20, 0, [8]), (.iload 4, 4, 0, []), (.aload_n 0, 0, 0, []), (.getfield 44, 20, 0, [8]), (.iload 4, 4, 0, []), (.iconst 1, 0, 1, []), (.isub, 0, 0, []), (.iaload, 0, 0, []), (.iastore, 0, 0, []), (.iconst 0, 0, 0, []), (.istore 5, 5, 0, []), (.iload 5, 5, 0, []), (.aload_n 0, 0, 0, []), (.getfield 159, 17, 0, [8]), (.if_icmp .ge 37, 42, 0, []), (.aload_n 0, 0, 0, []), (.getfield 47, 21, 0, [8]), (.bipush 44, 0, 44, []), (.iload 4, 4, 0, []), (.imul, 0, 0, []), (.iload 5, 5, 0, []), (.iadd, 0, 0, []), (.aload_n 0, 0, 0, []), (.getfield 47, 21, 0, [8]), (.bipush 44, 0, 44, []), (.iload 4, 4, 0, []), (.iconst 1, 0, 1, []), (.isub, 0, 0, []), (.imul, 0, 0, []), (.iload 5, 5, 0, []), (.iadd, 0, 0, []), (.iaload, 0, 0, []), (.iastore, 0, 0, []), (.iinc 5 1, 5, 1, []), (.goto (-40), 18, 0, []), (.iinc 4 (-1), 4, (-1), []), (.goto (-71), 3, 0, []), (.aload_n 0, 0, 0, []), (.dup, 0, 0, []), (.getfield 162, 18, 0, [8]), (.iconst 1, 0, 1, []), (.iadd, 0, 0, []), (.putfield 162, 18, 0, [8]), (.aload_n 0, 0, 0, []), (.getfield 47, 21, 0, [8]), (.bipush 44, 0, 44, []), (.iload_n 1, 1, 0, []), (.imul, 0, 0, []), (.iload_n 2, 2, 0, []), (.iadd, 0, 0, []), (.iload_n 3, 3, 0, []), (.iconst 1, 0, 1, []), (.iadd, 0, 0, []), (.iastore, 0, 0, []), (.aload_n 0, 0, 0, []), (.getfield 47, 21, 0, [8]), (.bipush 44, 0, 44, []), (.iload_n 1, 1, 0, []), (.iconst 1, 0, 1, []), (.iadd, 0, 0, []), (.imul, 0, 0, []), (.iload_n 2, 2, 0, []), (.iadd, 0, 0, []), (.aload_n 0, 0, 0, []), (.aload_n 0, 0, 0, []), (.getfield 23, 11, 0, [8]), (.iload_n 3, 3, 0, []), (.iconst 1, 0, 1, []), (.iadd, 0, 0, []), (.invokevirtual 146, 132, 0, [2, 1, 8]), (.iastore, 0, 0, []), (.return_, 0, 0, [])]
def qX8_doubled : List Nat := [0, 1, 4, 6, 8, 9, 12, 13, 16, 18, 19, 22, 24, 25, 26, 27, 28, 29, 31, 33, 34, 37, 40, 41, 44, 46, 48, 49, 51, 52, 53, 56, 58, 60, 61, 62, 63, 65, 66, 67, 68, 71, 74, 77, 80, 81, 82, 85, 86, 87, 90, 91, 94, 96, 97, 98, 99, 100, 101, 102, 103, 104, 105, 108, 110, 111, 112, 113, 114, 115, 116, 117, 118, 121, 122, 123, 124, 127, 128]
def pX8_branch : List PI := [(.aload_n 0, 0, 0, []), (.iload_n 2, 2, 0, []), (.invokevirtual 123, 117, 0, [1, 1, 8]), (.istore_n 3, 3, 0, []), (.iconst 0, 0, 0, []), (.istore 4, 4, 0, []), (.aload_n 0, 0, 0, []), (.aload_n 0, 0, 0, []), (.getfield 165, 22, 0, [8]), (.ifCond .ne 16, 18, 0, []), (.aload_n 0, 0, 0, []), (.getfield 159, 17, 0, [8]), (.iload_n 3, 3, 0, []), (.iadd, 0, 0, []), (.iconst 1, 0, 1, []), (.isub, 0, 0, []), (.bipush 40, 0, 40, []), (.if_icmp .le 7, 20, 0, []), (.iconst 1, 0, 1, []), (.goto 4, 21, 0, []), (.iconst 0, 0, 0, []), (.putfield 165, 22, 0, [8, 2]), (.aload_n 0, 0, 0, []), (.getfield 165, 22, 0, [8]), (.ifCond .eq 4, 26, 0, []), (.return_, 0, 0, []), (.iconst 0, 0, 0, []), (.istore 5, 5, 0, []), (.iload 5, 5, 0, []), (.aload_n 0, 0, 0, []), (.getfield 162, 18, 0, [8]), (.if_icmp .ge 85, 75, 0, []), (.aload_n 0, 0, 0, []), (.getfield 47, 21, 0, [8]), (.bipush 44, 0, 44, []), (.iload 5, 5, 0, []), (.imul, 0, 0, []), (.iload_n 1, 1, 0, []), (.iadd, 0, 0, []), (.iaload, 0, 0, []), (.istore 6, 6, 0, []), (.aload_n 0, 0, 0, []), (.iload 6, 6, 0, []), (.invokevirtual 172, 137, 0, [1, 1, 8]), (.istore 7, 7, 0, []), (.iload 7, 7, 0, []), (.iconst (-1), 0, (-1), []), (.if_icmp .eq 12, 52, 0, []), (.iload 7, 7, 0, []), (.iload_n 2, 2, 0, []), (.if_icmp .eq 6, 52, 0, []), (.goto 42, 73, 0, []), (.aload_n 0, 0, 0, []), (.getfield 44, 20, 0, [8]), (.iload 4, 4, 0, []), (.aload_n 0, 0, 0, []), (.getfield 44, 20, 0, [8]), (.iload 5, 5, 0, []), (.iaload, 0, 0, []), (.iastore, 0, 0, []), (.aload_n 0, 0, 0, []), (.iload 5, 5, 0, []), (.iload 4, 4, 0, []), (.iload_n 1, 1, 0, []), (.iload_n 3, 3, 0, []), (.iload 7, 7, 0, []), (.iconst (-1), 0, (-1), []), (.if_icmp .ne 7, 70, 0, []), (.iconst (-1), 0, (-1), []), (.goto 5, 71, 0, []), (.iload 6, 6, 0, []), (.invokevirtual 179, 142, 0, [5, 0, 8]), (.iinc 4 1, 4, 1, []), (.iinc 5 1, 5, 1, []), (.goto (-88), 28, 0, []), (.aload_n 0, 0, 0, []), (.iload 4, 4, 0, []), (.putfield 162, 18, 0, [8]), (.iload_n 3, 3, 0, []), (.ifCond .le 12, 85, 0, []), (.aload_n 0, 0, 0, []), (.getfield 159, 17, 0, [8]), (.iconst 1, 0, 1, []), (.isub, 0, 0, []), (.goto 4, 86, 0, []), (.iconst (-1), 0, (-1), []), (.istore 5, 5, 0, []), (.iload 5, 5, 0, []), (.iload_n 1, 1, 0, []), (.if_icmp .le 27, 104, 0, []), (.aload_n 0, 0, 0, []), (.getfield 41, 19, 0, [8]), (.iload 5, 5, 0, []), (.iload_n 3, 3, 0, []), (.iadd, 0, 0, []), (.iconst 1, 0, 1, []), (.isub, 0, 0, []), (.aload_n 0, 0, 0, []), (.getfield 41, 19, 0, [8]), (.iload 5, 5, 0, []), (.iaload, 0, 0, []), (.iastore, 0, 0, []), (.iinc 5 (-1), 5, (-1), []), (.goto (-27), 87, 0, []), (.iload_n 1, 1, 0, []), (.istore 5, 5, 0, []), (.iload_n 3, 3, 0, []), (.ifCond .ne 36, 126, 0, []), (.iload 5, 5, 0, []), (.iconst 1, 0, 1, []), (.iadd, 0, 0, []), (.aload_n 0, 0, 0, []), (.getfield 159, 17, 0, [8]), (.if_icmp .ge 25, 126, 0, []), (.aload_n 0, 0, 0, []), (.getfield 41, 19, 0, [8]), (.iload 5, 5, 0, []), (.aload_n 0, 0, 0, []), (.getfield 41, 19, 0, [8]), (.iload 5, 5, 0, []), (.iconst 1, 0, 1, []), (.iadd, 0, 0, []), (.iaload, 0, 0, []), (.iastore, 0, 0, []), (.iinc 5 1, 5, 1, []), (.goto (-34), 106, 0, []), (.iconst 0, 0, 0, []), (.istore 5, 5, 0, []), (.iload 5, 5, 0, []), (.iload_n 3, 3, 0, []), (.if_icmp .ge 29, 147, 0, []), (.aload_n 0, 0, 0, []), (.getfield 41, 19, 0, [8]), (.iload_n 1, 1, 0, []), (.iload 5, 5, 0, []), (.iadd, 0, 0, []), (.aload_n 0, 0, 0, []), (.getfield 13, 4, 0, [8]), (.iconst 3, 0, 3, []), (.iload_n 2, 2, 0, []), (.imul, 0, 0, []), (.iload 5, 5, 0, []), (.iadd, 0, 0, []), (.iaload, 0, 0, []), (.iastore, 0, 0, []), (.iinc 5 1, 5, 1, []), (.goto (-29), 128, 0, []), (.aload_n 0, 0, 0, []), (.dup, 0, 0, []), (.getfield 159, 17, 0, [8]), (.iload_n 3, 3, 0, []), (.iconst 1, 0, 1, []), (.isub, 0, 0, []), (.iadd, 0, 0, []), (.putfield 159, 17, 0, [8]), (.aload_n 0, 0, 0, []), (.invokevirtual 169, 139, 0, [0, 0, 8]), (.return_, 0, 0, [])]
def qX8_branch : List Nat := [0, 1, 2, 5, 6, 7, 9, 10, 11, 14, 17, 18, 21, 22, 23, 24, 25, 27, 30, 31, 34, 35, 38, 39, 42, 45, 46, 47, 49, 51, 52, 55, 58, 59, 62, 64, 66, 67, 68, 69, 70, 72, 73, 75, 78, 80, 82, 83, 86, 88, 89, 92, 95, 96, 99, 101, 102, 105, 107, 108, 109, 110, 112, 114, 115, 116, 118, 119, 122, 123, 126, 128, 131, 134, 137, 140, 141, 143, 146, 147, 150, 151, 154, 155, 156, 159, 160, 162, 164, 165, 168, 169, 172, 174, 175, 176, 177, 178, 179, 182, 184, 185, 186, 189, 192, 193, 195, 196, 199, 201, 202, 203, 204, 207, 210, 211, 214, 216, 217, 220, 222, 223, 224, 225, 226, 229, 232, 233, 235, 237, 238, 241, 242, 245, 246, 248, 249, 250, 253, 254, 255, 256, 258, 259, 260, 261, 264, 267, 268, 269, 272, 273, 274, 275, 276, 279, 280, 283]
def pX8_widen : List PI := [(.iconst 0, 0, 0, []), (.istore 6, 6, 0, []), (.iload 6, 6, 0, []), (.aload_n 0, 0, 0, []), (.getfield 159, 17, 0, [8]), (.if_icmp .ge 28, 20, 0, []), (.aload_n 0, 0, 0, []), (.getfield 50, 23, 0, [8]), (.iload 6, 6, 0, []), (.aload_n 0, 0, 0, []), (.getfield 47, 21, 0, [8]), (.bipush 44, 0, 44, []), (.iload_n 1, 1, 0, []), (.imul, 0, 0, []), (.iload 6, 6, 0, []), (.iadd, 0, 0, []), (.iaload, 0, 0, []), (.iastore, 0, 0, []), (.iinc 6 1, 6, 1, []), (.goto (-31), 2, 0, []), (.iconst 0, 0, 0, []), (.istore 6, 6, 0, []), (.iload 6, 6, 0, []), (.iload_n 3, 3, 0, []), (.if_icmp .ge 28, 39, 0, []), (.aload_n 0, 0, 0, []), (.getfield 47, 21, 0, [8]), (.bipush 44, 0, 44, []), (.iload_n 2, 2, 0, []), (.imul, 0, 0, []), (.iload 6, 6, 0, []), (.iadd, 0, 0, []), (.aload_n 0, 0, 0, []), (.getfield 50, 23, 0, [8]), (.iload 6, 6, 0, []), (.iaload, 0, 0, []), (.iastore, 0, 0, []), (.iinc 6 1, 6, 1, []), (.goto (-28), 22, 0, []), (.iload 5, 5, 0, []), (.iconst (-1), 0, (-1), []), (.if_icmp .ne 7, 44, 0, []), (.iconst (-1), 0, (-1), []), (.goto 7, 47, 0, []), (.iload 5, 5, 0, []), (.iconst 1, 0, 1, []), (.iadd, 0, 0, []), (.istore 6, 6, 0, []), (.iconst 0, 0, 0, []), (.istore 7, 7, 0, []), (.iload 7, 7, 0, []), (.iload 4, 4, 0, []), (.if_icmp .ge 47, 77, 0, []), (.aload_n 0, 0, 0, []), (.getfield 47, 21, 0, [8]), (.bipush 44, 0, 44, []), (.iload_n 2, 2, 0, []), (.imul, 0, 0, []), (.iload_n 3, 3, 0, []), (.iadd, 0, 0, []), (.iload 7, 7, 0, []), (.iadd, 0, 0, []), (.iload 6, 6, 0, []), (.iastore, 0, 0, []), (.iload 6, 6, 0, []), (.iconst (-1), 0, (-1), []), (.if_icmp .ne 7, 69, 0, []), (.iconst (-1), 0, (-1), []), (.goto 13, 74, 0, []), (.aload_n 0, 0, 0, []), (.aload_n 0, 0, 0, []), (.getfield 23, 11, 0, [8]), (.iload 6, 6, 0, []), (.invokevirtual 146, 132, 0, [2, 1, 8]), (.istore 6, 6, 0, []), (.iinc 7 1, 7, 1, []), (.goto (-48), 50, 0, []), (.iload_n 3, 3, 0, []), (.iconst 1, 0, 1, []), (.iadd, 0, 0, []), (.istore 7, 7, 0, []), (.iload 7, 7, 0, []), (.aload_n 0, 0, 0, []), (.getfield 159, 17, 0, [8]), (.if_icmp .ge 33, 103, 0, []), (.aload_n 0, 0, 0, []), (.getfield 47, 21, 0, [8]), (.bipush 44, 0, 44, []), (.iload_n 2, 2, 0, []), (.imul, 0, 0, []), (.iload 7, 7, 0, []), (.iadd, 0, 0, []), (.iload 4, 4, 0, []), (.iadd, 0, 0, []), (.iconst 1, 0, 1, []), (.isub, 0, 0, []), (.aload_n 0, 0, 0, []), (.getfield 50, 23, 0, [8]), (.iload 7, 7, 0, []), (.iaload, 0, 0, []), (.iastore, 0, 0, []), (.iinc 7 1, 7, 1, []), (.goto (-36), 81, 0, []), (.return_, 0, 0, [])]
def qX8_widen : List Nat := [0, 1, 3, 5, 6, 9, 12, 13, 16, 18, 19, 22, 24, 25, 26, 28, 29, 30, 31, 34, 37, 38, 40, 42, 43, 46, 47, 50, 52, 53, 54, 56, 57, 58, 61, 63, 64, 65, 68, 71, 73, 74, 77, 78, 81, 83, 84, 85, 87, 88, 90, 92, 94, 97, 98, 101, 103, 104, 105, 106, 107, 109, 110, 112, 113, 115, 116, 119, 120, 123, 124, 125, 128, 130, 133, 135, 138, 141, 142, 143, 144, 146, 148, 149, 152, 155, 156, 159, 161, 162, 163, 165, 166, 168, 169, 170, 171, 172, 175, 177, 178, 179, 182, 185]
def pX8_tableOf : List PI := [(.iconst 0, 0, 0, []), (.istore_n 3, 3, 0, []), (.iload_n 1, 1, 0, []), (.istore 4, 4, 0, []), (.iload 4, 4, 0, []), (.iconst (-1), 0, (-1), []), (.if_icmp .eq 26, 19, 0, []), (.aload_n 0, 0, 0, []), (.getfield 87, 36, 0, [8]), (.iload_n 3, 3, 0, []), (.iload 4, 4, 0, []), (.iastore, 0, 0, []), (.iinc 3 1, 3, 1, []), (.aload_n 0, 0, 0, []), (.getfield 72, 31, 0, [8]), (.iload 4, 4, 0, []), (.iaload, 0, 0, []), (.istore 4, 4, 0, []), (.goto (-26), 4, 0, []), (.aload_n 0, 0, 0, []), (.invokevirtual 183, 138, 0, [0, 0, 8]), (.iload_n 3, 3, 0, []), (.iconst 1, 0, 1, []), (.isub, 0, 0, []), (.istore 4, 4, 0, []), (.iload 4, 4, 0, []), (.ifCond .lt 55, 54, 0, []), (.aload_n 0, 0, 0, []), (.getfield 165, 22, 0, [8]), (.ifCond .ne 48, 54, 0, []), (.aload_n 0, 0, 0, []), (.aload_n 0, 0, 0, []), (.getfield 60, 27, 0, [8]), (.aload_n 0, 0, 0, []), (.getfield 87, 36, 0, [8]), (.iload 4, 4, 0, []), (.iaload, 0, 0, []), (.iaload, 0, 0, []), (.iload 4, 4, 0, []), (.ifCond .le 20, 50, 0, []), (.aload_n 0, 0, 0, []), (.getfield 75, 32, 0, [8]), (.aload_n 0, 0, 0, []), (.getfield 87, 36, 0, [8]), (.iload 4, 4, 0, []), (.iconst 1, 0, 1, []), (.isub, 0, 0, []), (.iaload, 0, 0, []), (.iaload, 0, 0, []), (.goto 4, 51, 0, []), (.iload_n 2, 2, 0, []), (.invokevirtual 186, 141, 0, [2, 0, 8]), (.iinc 4 (-1), 4, (-1), []), (.goto (-54), 25, 0, []), (.return_, 0, 0, [])]
def qX8_tableOf : List Nat := [0, 1, 2, 3, 5, 7, 8, 11, 12, 15, 16, 18, 19, 22, 23, 26, 28, 29, 31, 34, 35, 38, 39, 40, 41, 43, 45, 48, 49, 52, 55, 56, 57, 60, 61, 64, 66, 67, 68, 70, 73, 74, 77, 78, 81, 83, 84, 85, 86, 87, 90, 91, 94, 97, 100]
def pX8_begin : List PI := [(.aload_n 0, 0, 0, []), (.iload_n 1, 1, 0, []), (.iload_n 2, 2, 0, []), (.invokevirtual 190, 143, 0, [2, 0, 8]), (.aload_n 0, 0, 0, []), (.getfield 165, 22, 0, [8]), (.ifCond .ne 13, 11, 0, []), (.aload_n 0, 0, 0, []), (.getfield 53, 24, 0, [8]), (.sipush 300, 0, 300, []), (.if_icmp .ne 9, 15, 0, []), (.aload_n 0, 0, 0, []), (.iconst 1, 0, 1, []), (.putfield 165, 22, 0, [8, 2]), (.return_, 0, 0, []), (.aload_n 0, 0, 0, []), (.getfield 53, 24, 0, [8]), (.istore_n 3, 3, 0, []), (.aload_n 0, 0, 0, []), (.dup, 0, 0, []), (.getfield 53, 24, 0, [8]), (.iconst 1, 0, 1, []), (.iadd, 0, 0, []), (.putfield 53, 24, 0, [8]), (.aload_n 0, 0, 0, []), (.getfield 72, 31, 0, [8]), (.iload_n 3, 3, 0, []), (.iload_n 1, 1, 0, []), (.iastore, 0, 0, []), (.aload_n 0, 0, 0, []), (.getfield 75, 32, 0, [8]), (.iload_n 3, 3, 0, []), (.iload_n 2, 2, 0, []), (.iastore, 0, 0, []), (.aload_n 0, 0, 0, []), (.getfield 78, 33, 0, [8]), (.iload_n 3, 3, 0, []), (.iconst 0, 0, 0, []), (.iastore, 0, 0, []), (.aload_n 0, 0, 0, []), (.getfield 66, 29, 0, [8]), (.iload_n 3, 3, 0, []), (.aload_n 0, 0, 0, []), (.getfield 159, 17, 0, [8]), (.iastore, 0, 0, []), (.iconst 0, 0, 0, []), (.istore 4, 4, 0, []), (.aload_n 0, 0, 0, []), (.getfield 162, 18, 0, [8]), (.ifCond .le 33, 64, 0, []), (.iload 4, 4, 0, []), (.aload_n 0, 0, 0, []), (.getfield 159, 17, 0, [8]), (.if_icmp .ge 24, 64, 0, []), (.aload_n 0, 0, 0, []), (.aload_n 0, 0, 0, []), (.getfield 47, 21, 0, [8]), (.iload 4, 4, 0, []), (.iaload, 0, 0, []), (.invokevirtual 172, 137, 0, [1, 1, 8]), (.iconst (-1), 0, (-1), []), (.if_icmp .ne 9, 64, 0, []), (.iinc 4 1, 4, 1, []), (.goto (-34), 47, 0, []), (.aload_n 0, 0, 0, []), (.getfield 57, 26, 0, [8]), (.iload_n 3, 3, 0, []), (.aload_n 0, 0, 0, []), (.getfield 162, 18, 0, [8]), (.ifCond .ne 7, 72, 0, []), (.iconst 0, 0, 0, []), (.goto 17, 79, 0, []), (.iload 4, 4, 0, []), (.aload_n 0, 0, 0, []), (.getfield 159, 17, 0, [8]), (.if_icmp .ne 7, 78, 0, []), (.iconst 1, 0, 1, []), (.goto 4, 79, 0, []), (.iconst 2, 0, 2, []), (.iastore, 0, 0, []), (.aload_n 0, 0, 0, []), (.getfield 69, 30, 0, [8]), (.iload_n 3, 3, 0, []), (.aload_n 0, 0, 0, []), (.getfield 57, 26, 0, [8]), (.iload_n 3, 3, 0, []), (.iaload, 0, 0, []), (.iconst 1, 0, 1, []), (.if_icmp .ne 12, 94, 0, []), (.aload_n 0, 0, 0, []), (.getfield 44, 20, 0, [8]), (.iconst 0, 0, 0, []), (.iaload, 0, 0, []), (.goto 4, 95, 0, []), (.iconst (-1), 0, (-1), []), (.iastore, 0, 0, []), (.aload_n 0, 0, 0, []), (.getfield 57, 26, 0, [8]), (.iload_n 3, 3, 0, []), (.iaload, 0, 0, []), (.iconst 2, 0, 2, []), (.if_icmp .eq 4, 103, 0, []), (.return_, 0, 0, []), (.aload_n 0, 0, 0, []), (.getfield 60, 27, 0, [8]), (.iload_n 3, 3, 0, []), (.iload 4, 4, 0, []), (.iastore, 0, 0, []), (.aload_n 0, 0, 0, []), (.getfield 63, 28, 0, [8]), (.iload_n 3, 3, 0, []), (.aload_n 0, 0, 0, []), (.getfield 41, 19, 0, [8]), (.iload 4, 4, 0, []), (.iaload, 0, 0, []), (.iastore, 0, 0, []), (.aload_n 0, 0, 0, []), (.getfield 99, 2, 0, [8]), (.iconst 1, 0, 1, []), (.isub, 0, 0, []), (.istore 5, 5, 0, []), (.iload 5, 5, 0, []), (.ifCond .lt 78, 165, 0, []), (.aload_n 0, 0, 0, []), (.getfield 7, 3, 0, [8]), (.iload 5, 5, 0, []), (.iaload, 0, 0, []), (.aload_n 0, 0, 0, []), (.getfield 63, 28, 0, [8]), (.iload_n 3, 3, 0, []), (.iaload, 0, 0, []), (.if_icmp .ne 56, 163, 0, []), (.aload_n 0, 0, 0, []), (.iload 5, 5, 0, []), (.invokevirtual 120, 122, 0, [1, 2, 8]), (.ifCond .eq 6, 137, 0, []), (.goto 44, 163, 0, []), (.aload_n 0, 0, 0, []), (.getfield 81, 34, 0, [8]), (.aload_n 0, 0, 0, []), (.getfield 193, 25, 0, [8]), (.iload_n 3, 3, 0, []), (.iastore, 0, 0, []), (.aload_n 0, 0, 0, []), (.getfield 84, 35, 0, [8]), (.aload_n 0, 0, 0, []), (.getfield 193, 25, 0, [8]), (.iload 5, 5, 0, []), (.iastore, 0, 0, []), (.aload_n 0, 0, 0, []), (.dup, 0, 0, []), (.getfield 193, 25, 0, [8]), (.iconst 1, 0, 1, []), (.iadd, 0, 0, []), (.putfield 193, 25, 0, [8]), (.aload_n 0, 0, 0, []), (.getfield 78, 33, 0, [8]), (.iload_n 3, 3, 0, []), (.dup2, 0, 0, []), (.iaload, 0, 0, []), (.iconst 1, 0, 1, []), (.iadd, 0, 0, []), (.iastore, 0, 0, []), (.iinc 5 (-1), 5, (-1), []), (.goto (-77), 121, 0, []), (.return_, 0, 0, [])]
def qX8_begin : List Nat := [0, 1, 2, 3, 6, 7, 10, 13, 14, 17, 20, 23, 24, 25, 28, 29, 30, 33, 34, 35, 36, 39, 40, 41, 44, 45, 48, 49, 50, 51, 52, 55, 56, 57, 58, 59, 62, 63, 64, 65, 66, 69, 70, 71, 74, 75, 76, 78, 79, 82, 85, 87, 88, 91, 94, 95, 96, 99, 101, 102, 105, 106, 109, 112, 115, 116, 119, 120, 121, 124, 127, 128, 131, 133, 134, 137, 140, 141, 144, 145, 146, 147, 150, 151, 152, 155, 156, 157, 158, 161, 162, 165, 166, 167, 170, 171, 172, 173, 176, 177, 178, 179, 182, 183, 184, 187, 188, 190, 191, 192, 195, 196, 197, 200, 202, 203, 204, 205, 208, 209, 210, 212, 214, 217, 218, 221, 223, 224, 225, 228, 229, 230, 233, 234, 236, 239, 242, 245, 246, 249, 250, 253, 254, 255, 256, 259, 260, 263, 265, 266, 267, 268, 271, 272, 273, 276, 277, 280, 281, 282, 283, 284, 285, 286, 289, 292]
def pX8_compile : List PI := [(.aload_n 0, 0, 0, []), (.aload_n 0, 0, 0, []), (.getfield 114, 6, 0, [8]), (.ifCond .ne 7, 6, 0, []), (.iconst 1, 0, 1, []), (.goto 4, 7, 0, []), (.iconst 0, 0, 0, []), (.putfield 93, 0, 0, [8]), (.aload_n 0, 0, 0, []), (.getfield 93, 0, 0, [8]), (.ifCond .le 5, 13, 0, []), (.iconst 0, 0, 0, []), (.ireturn, 0, 0, []), (.aload_n 0, 0, 0, []), (.invokevirtual 126, 121, 0, [0, 0, 8]), (.aload_n 0, 0, 0, []), (.iconst 0, 0, 0, []), (.putfield 53, 24, 0, [8]), (.aload_n 0, 0, 0, []), (.iconst 0, 0, 0, []), (.putfield 193, 25, 0, [8]), (.aload_n 0, 0, 0, []), (.iconst 0, 0, 0, []), (.putfield 165, 22, 0, [8, 2]), (.aload_n 0, 0, 0, []), (.iconst (-1), 0, (-1), []), (.iconst (-1), 0, (-1), []), (.invokevirtual 196, 144, 0, [2, 0, 8]), (.aload_n 0, 0, 0, []), (.getfield 193, 25, 0, [8]), (.ifCond .le 45, 53, 0, []), (.aload_n 0, 0, 0, []), (.getfield 165, 22, 0, [8]), (.ifCond .ne 38, 53, 0, []), (.aload_n 0, 0, 0, []), (.dup, 0, 0, []), (.getfield 193, 25, 0, [8]), (.iconst 1, 0, 1, []), (.isub, 0, 0, []), (.putfield 193, 25, 0, [8]), (.aload_n 0, 0, 0, []), (.aload_n 0, 0, 0, []), (.getfield 81, 34, 0, [8]), (.aload_n 0, 0, 0, []), (.getfield 193, 25, 0, [8]), (.iaload, 0, 0, []), (.aload_n 0, 0, 0, []), (.getfield 84, 35, 0, [8]), (.aload_n 0, 0, 0, []), (.getfield 193, 25, 0, [8]), (.iaload, 0, 0, []), (.invokevirtual 196, 144, 0, [2, 0, 8]), (.goto (-46), 28, 0, []), (.aload_n 0, 0, 0, []), (.getfield 165, 22, 0, [8]), (.ifCond .ne 8, 59, 0, []), (.aload_n 0, 0, 0, []), (.getfield 53, 24, 0, [8]), (.ireturn, 0, 0, []), (.aload_n 0, 0, 0, []), (.iconst (-1), 0, (-1), []), (.putfield 53, 24, 0, [8]), (.aload_n 0, 0, 0, []), (.iconst 2, 0, 2, []), (.putfield 93, 0, 0, [8]), (.iconst 0, 0, 0, []), (.ireturn, 0, 0, [])]
def qX8_compile : List Nat := [0, 1, 2, 5, 8, 9, 12, 13, 16, 17, 20, 23, 24, 25, 26, 29, 30, 31, 34, 35, 36, 39, 40, 41, 44, 45, 46, 47, 50, 51, 54, 57, 58, 61, 64, 65, 66, 69, 70, 71, 74, 75, 76, 79, 80, 83, 84, 85, 88, 89, 92, 93, 96, 99, 100, 103, 106, 107, 110, 111, 112, 113, 116, 117, 118, 121, 122]
def pX8_isNode : List PI := [(.aload_n 0, 0, 0, []), (.iload_n 1, 1, 0, []), (.ifCond .lt 15, 9, 0, []), (.iload_n 1, 1, 0, []), (.aload_n 0, 0, 0, []), (.getfield 53, 24, 0, [8]), (.if_icmp .ge 7, 9, 0, []), (.iconst 0, 0, 0, []), (.goto 4, 10, 0, []), (.iconst 1, 0, 1, []), (.putfield 93, 0, 0, [8]), (.aload_n 0, 0, 0, []), (.getfield 93, 0, 0, [8]), (.ifCond .ne 7, 16, 0, []), (.iconst 1, 0, 1, []), (.goto 4, 17, 0, []), (.iconst 0, 0, 0, []), (.ireturn, 0, 0, [])]
def qX8_isNode : List Nat := [0, 1, 2, 5, 6, 7, 10, 13, 14, 17, 18, 21, 22, 25, 28, 29, 32, 33]
def pX8_branchOf : List PI := [(.iconst 0, 0, 0, []), (.istore_n 3, 3, 0, []), (.iload_n 1, 1, 0, []), (.iconst 1, 0, 1, []), (.iadd, 0, 0, []), (.istore 4, 4, 0, []), (.iload 4, 4, 0, []), (.aload_n 0, 0, 0, []), (.getfield 53, 24, 0, [8]), (.if_icmp .ge 34, 25, 0, []), (.aload_n 0, 0, 0, []), (.getfield 72, 31, 0, [8]), (.iload 4, 4, 0, []), (.iaload, 0, 0, []), (.iload_n 1, 1, 0, []), (.if_icmp .eq 6, 17, 0, []), (.goto 14, 23, 0, []), (.iload_n 3, 3, 0, []), (.iload_n 2, 2, 0, []), (.if_icmp .ne 6, 22, 0, []), (.iload 4, 4, 0, []), (.ireturn, 0, 0, []), (.iinc 3 1, 3, 1, []), (.iinc 4 1, 4, 1, []), (.goto (-37), 6, 0, []), (.iconst (-1), 0, (-1), []), (.ireturn, 0, 0, [])]
def qX8_branchOf : List Nat := [0, 1, 2, 3, 4, 5, 7, 9, 10, 13, 16, 17, 20, 22, 23, 24, 27, 30, 31, 32, 35, 37, 38, 41, 44, 47, 48]
def pX8_node : List PI := [(.aload_n 0, 0, 0, []), (.iload_n 1, 1, 0, []), (.invokevirtual 199, 146, 0, [1, 2, 8]), (.ifCond .ne 5, 6, 0, []), (.iconst 0, 0, 0, []), (.ireturn, 0, 0, []), (.aload_n 0, 0, 0, []), (.getfield 57, 26, 0, [8]), (.iload_n 1, 1, 0, []), (.iaload, 0, 0, []), (.iconst 2, 0, 2, []), (.if_icmp .ne 7, 14, 0, []), (.iconst 1, 0, 1, []), (.goto 4, 15, 0, []), (.iconst 0, 0, 0, []), (.istore_n 3, 3, 0, []), (.iload_n 2, 2, 0, []), (.lookupswitch 151 #[(0, 65), (1, 72), (2, 92), (3, 107), (4, 122), (100, 137), (101, 144)], 72, 0, [18, 23, 35, 44, 53, 62, 67]), (.aload_n 0, 0, 0, []), (.getfield 57, 26, 0, [8]), (.iload_n 1, 1, 0, []), (.iaload, 0, 0, []), (.ireturn, 0, 0, []), (.iload_n 3, 3, 0, []), (.ifCond .eq 12, 30, 0, []), (.aload_n 0, 0, 0, []), (.getfield 63, 28, 0, [8]), (.iload_n 1, 1, 0, []), (.iaload, 0, 0, []), (.goto 9, 34, 0, []), (.aload_n 0, 0, 0, []), (.getfield 69, 30, 0, [8]), (.iload_n 1, 1, 0, []), (.iaload, 0, 0, []), (.ireturn, 0, 0, []), (.iload_n 3, 3, 0, []), (.ifCond .eq 12, 42, 0, []), (.aload_n 0, 0, 0, []), (.getfield 66, 29, 0, [8]), (.iload_n 1, 1, 0, []), (.iaload, 0, 0, []), (.goto 4, 43, 0, []), (.iconst (-1), 0, (-1), []), (.ireturn, 0, 0, []), (.iload_n 3, 3, 0, []), (.ifCond .eq 12, 51, 0, []), (.aload_n 0, 0, 0, []), (.getfield 60, 27, 0, [8]), (.iload_n 1, 1, 0, []), (.iaload, 0, 0, []), (.goto 4, 52, 0, []), (.iconst (-1), 0, (-1), []), (.ireturn, 0, 0, []), (.iload_n 3, 3, 0, []), (.ifCond .eq 12, 60, 0, []), (.aload_n 0, 0, 0, []), (.getfield 78, 33, 0, [8]), (.iload_n 1, 1, 0, []), (.iaload, 0, 0, []), (.goto 4, 61, 0, []), (.iconst (-1), 0, (-1), []), (.ireturn, 0, 0, []), (.aload_n 0, 0, 0, []), (.getfield 72, 31, 0, [8]), (.iload_n 1, 1, 0, []), (.iaload, 0, 0, []), (.ireturn, 0, 0, []), (.aload_n 0, 0, 0, []), (.getfield 75, 32, 0, [8]), (.iload_n 1, 1, 0, []), (.iaload, 0, 0, []), (.ireturn, 0, 0, []), (.iload_n 2, 2, 0, []), (.iconst 5, 0, 5, []), (.if_icmp .lt 13, 80, 0, []), (.iload_n 2, 2, 0, []), (.bipush 12, 0, 12, []), (.if_icmp .gt 7, 80, 0, []), (.iload_n 3, 3, 0, []), (.ifCond .ne 7, 82, 0, []), (.iconst (-1), 0, (-1), []), (.goto 11, 88, 0, []), (.aload_n 0, 0, 0, []), (.iload_n 1, 1, 0, []), (.iload_n 2, 2, 0, []), (.iconst 5, 0, 5, []), (.isub, 0, 0, []), (.invokevirtual 202, 147, 0, [2, 1, 8]), (.ireturn, 0, 0, [])]
def qX8_node : List Nat := [0, 1, 2, 5, 8, 9, 10, 11, 14, 15, 16, 17, 20, 21, 24, 25, 26, 27, 92, 93, 96, 97, 98, 99, 100, 103, 104, 107, 108, 109, 112, 113, 116, 117, 118, 119, 120, 123, 124, 127, 128, 129, 132, 133, 134, 135, 138, 139, 142, 143, 144, 147, 148, 149, 150, 153, 154, 157, 158, 159, 162, 163, 164, 165, 168, 169, 170, 171, 172, 175, 176, 177, 178, 179, 180, 183, 184, 186, 189, 190, 193, 194, 197, 198, 199, 200, 201, 202, 205]
def pX8_missing : List PI := [(.aload_n 0, 0, 0, []), (.iconst 0, 0, 0, []), (.putfield 93, 0, 0, [8]), (.iconst 0, 0, 0, []), (.istore_n 1, 1, 0, []), (.iconst 0, 0, 0, []), (.istore_n 2, 2, 0, []), (.iload_n 2, 2, 0, []), (.aload_n 0, 0, 0, []), (.getfield 53, 24, 0, [8]), (.if_icmp .ge 26, 24, 0, []), (.iload_n 1, 1, 0, []), (.aload_n 0, 0, 0, []), (.getfield 57, 26, 0, [8]), (.iload_n 2, 2, 0, []), (.iaload, 0, 0, []), (.ifCond .ne 7, 19, 0, []), (.iconst 1, 0, 1, []), (.goto 4, 20, 0, []), (.iconst 0, 0, 0, []), (.iadd, 0, 0, []), (.istore_n 1, 1, 0, []), (.iinc 2 1, 2, 1, []), (.goto (-28), 7, 0, []), (.aload_n 0, 0, 0, []), (.getfield 53, 24, 0, [8]), (.iconst (-1), 0, (-1), []), (.if_icmp .ne 7, 30, 0, []), (.iconst (-1), 0, (-1), []), (.goto 4, 31, 0, []), (.iload_n 1, 1, 0, []), (.ireturn, 0, 0, [])]
def qX8_missing : List Nat := [0, 1, 2, 5, 6, 7, 8, 9, 10, 11, 14, 17, 18, 19, 22, 23, 24, 27, 28, 31, 32, 33, 34, 37, 40, 41, 44, 45, 48, 49, 52, 53]
def pX8_missingSign : List PI := [(.aload_n 0, 0, 0, []), (.iload_n 1, 1, 0, []), (.ifCond .lt 15, 9, 0, []), (.iload_n 1, 1, 0, []), (.aload_n 0, 0, 0, []), (.invokevirtual 206, 149, 0, [0, 1, 8]), (.if_icmp .ge 7, 9, 0, []), (.iconst 0, 0, 0, []), (.goto 4, 10, 0, []), (.iconst 1, 0, 1, []), (.putfield 93, 0, 0, [8]), (.aload_n 0, 0, 0, []), (.getfield 93, 0, 0, [8]), (.ifCond .le 5, 16, 0, []), (.iconst 0, 0, 0, []), (.ireturn, 0, 0, []), (.iconst 0, 0, 0, []), (.istore_n 3, 3, 0, []), (.iload_n 1, 1, 0, []), (.istore 4, 4, 0, []), (.aload_n 0, 0, 0, []), (.getfield 57, 26, 0, [8]), (.iload_n 3, 3, 0, []), (.iaload, 0, 0, []), (.ifCond .ne 8, 27, 0, []), (.iload 4, 4, 0, []), (.ifCond .le 28, 40, 0, []), (.iload 4, 4, 0, []), (.aload_n 0, 0, 0, []), (.getfield 57, 26, 0, [8]), (.iload_n 3, 3, 0, []), (.iaload, 0, 0, []), (.ifCond .ne 7, 35, 0, []), (.iconst 1, 0, 1, []), (.goto 4, 36, 0, []), (.iconst 0, 0, 0, []), (.isub, 0, 0, []), (.istore 4, 4, 0, []), (.iinc 3 1, 3, 1, []), (.goto (-36), 20, 0, []), (.aload_n 0, 0, 0, []), (.iload_n 3, 3, 0, []), (.invokevirtual 210, 151, 0, [1, 1, 8]), (.istore 5, 5, 0, []), (.iload_n 2, 2, 0, []), (.ifCond .lt 18, 54, 0, []), (.iload_n 2, 2, 0, []), (.iload 5, 5, 0, []), (.if_icmp .ge 12, 54, 0, []), (.aload_n 0, 0, 0, []), (.getfield 90, 37, 0, [8]), (.iload_n 2, 2, 0, []), (.iaload, 0, 0, []), (.goto 5, 55, 0, []), (.bipush (-3), 0, (-3), []), (.ireturn, 0, 0, [])]
def qX8_missingSign : List Nat := [0, 1, 2, 5, 6, 7, 10, 13, 14, 17, 18, 21, 22, 25, 28, 29, 30, 31, 32, 33, 35, 36, 39, 40, 41, 44, 46, 49, 51, 52, 55, 56, 57, 60, 61, 64, 65, 66, 68, 71, 74, 75, 76, 79, 81, 82, 85, 86, 88, 91, 92, 95, 96, 97, 100, 102]
def pX8_tell : List PI := [(.iconst 0, 0, 0, []), (.istore_n 2, 2, 0, []), (.iload_n 1, 1, 0, []), (.istore_n 3, 3, 0, []), (.aload_n 0, 0, 0, []), (.getfield 72, 31, 0, [8]), (.iload_n 3, 3, 0, []), (.iaload, 0, 0, []), (.iconst (-1), 0, (-1), []), (.if_icmp .eq 23, 22, 0, []), (.aload_n 0, 0, 0, []), (.getfield 87, 36, 0, [8]), (.iload_n 2, 2, 0, []), (.iload_n 3, 3, 0, []), (.iastore, 0, 0, []), (.iinc 2 1, 2, 1, []), (.aload_n 0, 0, 0, []), (.getfield 72, 31, 0, [8]), (.iload_n 3, 3, 0, []), (.iaload, 0, 0, []), (.istore_n 3, 3, 0, []), (.goto (-27), 4, 0, []), (.aload_n 0, 0, 0, []), (.getfield 114, 6, 0, [8]), (.istore_n 3, 3, 0, []), (.iconst 0, 0, 0, []), (.istore 4, 4, 0, []), (.iload 4, 4, 0, []), (.aload_n 0, 0, 0, []), (.getfield 114, 6, 0, [8]), (.if_icmp .ge 17, 38, 0, []), (.aload_n 0, 0, 0, []), (.getfield 90, 37, 0, [8]), (.iload 4, 4, 0, []), (.iconst (-1), 0, (-1), []), (.iastore, 0, 0, []), (.iinc 4 1, 4, 1, []), (.goto (-20), 27, 0, []), (.iload_n 2, 2, 0, []), (.iconst 1, 0, 1, []), (.isub, 0, 0, []), (.istore 4, 4, 0, []), (.iload 4, 4, 0, []), (.ifCond .lt 172, 135, 0, []), (.aload_n 0, 0, 0, []), (.getfield 60, 27, 0, [8]), (.aload_n 0, 0, 0, []), (.getfield 72, 31, 0, [8]), (.aload_n 0, 0, 0, []), (.getfield 87, 36, 0, [8]), (.iload 4, 4, 0, []), (.iaload, 0, 0, []), (.iaload, 0, 0, []), (.iaload, 0, 0, []), (.istore 5, 5, 0, []), (.iconst 0, 0, 0, []), (.istore 6, 6, 0, []), (.aload_n 0, 0, 0, []), (.getfield 90, 37, 0, [8]), (.iload 6, 6, 0, []), (.iaload, 0, 0, []), (.iconst (-1), 0, (-1), []), (.if_icmp .ne 8, 65, 0, []), (.iload 5, 5, 0, []), (.ifCond .le 30, 79, 0, []), (.iload 5, 5, 0, []), (.aload_n 0, 0, 0, []), (.getfield 90, 37, 0, [8]), (.iload 6, 6, 0, []), (.iaload, 0, 0, []), (.iconst (-1), 0, (-1), []), (.if_icmp .ne 7, 74, 0, []), (.iconst 1, 0, 1, []), (.goto 4, 75, 0, []), (.iconst 0, 0, 0, []), (.isub, 0, 0, []), (.istore 5, 5, 0, []), (.iinc 6 1, 6, 1, []), (.goto (-40), 57, 0, []), (.aload_n 0, 0, 0, []), (.getfield 75, 32, 0, [8]), (.aload_n 0, 0, 0, []), (.getfield 87, 36, 0, [8]), (.iload 4, 4, 0, []), (.iaload, 0, 0, []), (.iaload, 0, 0, []), (.istore 7, 7, 0, []), (.aload_n 0, 0, 0, []), (.iload 7, 7, 0, []), (.invokevirtual 123, 117, 0, [1, 1, 8]), (.istore 8, 8, 0, []), (.iload_n 3, 3, 0, []), (.iconst 1, 0, 1, []), (.isub, 0, 0, []), (.istore 9, 9, 0, []), (.iload 9, 9, 0, []), (.iload 6, 6, 0, []), (.if_icmp .le 26, 110, 0, []), (.aload_n 0, 0, 0, []), (.getfield 90, 37, 0, [8]), (.iload 9, 9, 0, []), (.iload 8, 8, 0, []), (.iadd, 0, 0, []), (.aload_n 0, 0, 0, []), (.getfield 90, 37, 0, [8]), (.iload 9, 9, 0, []), (.iaload, 0, 0, []), (.iastore, 0, 0, []), (.iinc 9 (-1), 9, (-1), []), (.goto (-27), 95, 0, []), (.aload_n 0, 0, 0, []), (.getfield 90, 37, 0, [8]), (.iload 6, 6, 0, []), (.iload 7, 7, 0, []), (.iastore, 0, 0, []), (.iconst 1, 0, 1, []), (.istore 9, 9, 0, []), (.iload 9, 9, 0, []), (.iload 8, 8, 0, []), (.if_icmp .gt 20, 129, 0, []), (.aload_n 0, 0, 0, []), (.getfield 90, 37, 0, [8]), (.iload 6, 6, 0, []), (.iload 9, 9, 0, []), (.iadd, 0, 0, []), (.iconst (-1), 0, (-1), []), (.iastore, 0, 0, []), (.iinc 9 1, 9, 1, []), (.goto (-21), 117, 0, []), (.iload_n 3, 3, 0, []), (.iload 8, 8, 0, []), (.iadd, 0, 0, []), (.istore_n 3, 3, 0, []), (.iinc 4 (-1), 4, (-1), []), (.goto (-171), 42, 0, []), (.iload_n 3, 3, 0, []), (.ireturn, 0, 0, [])]
def qX8_tell : List Nat := [0, 1, 2, 3, 4, 5, 8, 9, 10, 11, 14, 15, 18, 19, 20, 21, 24, 25, 28, 29, 30, 31, 34, 35, 38, 39, 40, 42, 44, 45, 48, 51, 52, 55, 57, 58, 59, 62, 65, 66, 67, 68, 70, 72, 75, 76, 79, 80, 83, 84, 87, 89, 90, 91, 92, 94, 95, 97, 98, 101, 103, 104, 105, 108, 110, 113, 115, 116, 119, 121, 122, 123, 126, 127, 130, 131, 132, 134, 137, 140, 141, 144, 145, 148, 150, 151, 152, 154, 155, 157, 160, 162, 163, 164, 165, 167, 169, 171, 174, 175, 178, 180, 182, 183, 184, 187, 189, 190, 191, 194, 197, 198, 201, 203, 205, 206, 207, 209, 211, 213, 216, 217, 220, 222, 224, 225, 226, 227, 230, 233, 234, 236, 237, 238, 241, 244, 245]
def pX8_isIdle : List PI := [(.aload_n 0, 0, 0, []), (.iload_n 1, 1, 0, []), (.ifCond .lt 23, 13, 0, []), (.iload_n 1, 1, 0, []), (.aload_n 0, 0, 0, []), (.getfield 129, 7, 0, [8]), (.if_icmp .ge 15, 13, 0, []), (.aload_n 0, 0, 0, []), (.getfield 53, 24, 0, [8]), (.iconst (-1), 0, (-1), []), (.if_icmp .eq 7, 13, 0, []), (.iconst 0, 0, 0, []), (.goto 4, 14, 0, []), (.iconst 1, 0, 1, []), (.putfield 93, 0, 0, [8]), (.aload_n 0, 0, 0, []), (.getfield 93, 0, 0, [8]), (.ifCond .le 5, 20, 0, []), (.iconst 0, 0, 0, []), (.ireturn, 0, 0, []), (.iconst 1, 0, 1, []), (.istore_n 2, 2, 0, []), (.iconst 0, 0, 0, []), (.istore_n 3, 3, 0, []), (.iload_n 3, 3, 0, []), (.aload_n 0, 0, 0, []), (.getfield 53, 24, 0, [8]), (.if_icmp .ge 39, 48, 0, []), (.iload_n 2, 2, 0, []), (.ifCond .eq 27, 44, 0, []), (.aload_n 0, 0, 0, []), (.getfield 57, 26, 0, [8]), (.iload_n 3, 3, 0, []), (.iaload, 0, 0, []), (.iconst 1, 0, 1, []), (.if_icmp .ne 13, 42, 0, []), (.aload_n 0, 0, 0, []), (.getfield 69, 30, 0, [8]), (.iload_n 3, 3, 0, []), (.iaload, 0, 0, []), (.iload_n 1, 1, 0, []), (.if_icmp .eq 7, 44, 0, []), (.iconst 1, 0, 1, []), (.goto 4, 45, 0, []), (.iconst 0, 0, 0, []), (.istore_n 2, 2, 0, []), (.iinc 3 1, 3, 1, []), (.goto (-41), 24, 0, []), (.iload_n 2, 2, 0, []), (.ireturn, 0, 0, [])]
def qX8_isIdle : List Nat := [0, 1, 2, 5, 6, 7, 10, 13, 14, 17, 18, 21, 22, 25, 26, 29, 30, 33, 36, 37, 38, 39, 40, 41, 42, 43, 44, 47, 50, 51, 54, 55, 58, 59, 60, 61, 64, 65, 68, 69, 70, 71, 74, 75, 78, 79, 80, 83, 86, 87]
def pX8_tests : List PI := [(.aload_n 0, 0, 0, []), (.invokevirtual 152, 135, 0, [0, 2, 8]), (.ifCond .ne 5, 5, 0, []), (.iconst 0, 0, 0, []), (.ireturn, 0, 0, []), (.aload_n 0, 0, 0, []), (.getfield 53, 24, 0, [8]), (.iconst (-1), 0, (-1), []), (.if_icmp .ne 10, 14, 0, []), (.aload_n 0, 0, 0, []), (.iconst 3, 0, 3, []), (.putfield 93, 0, 0, [8]), (.iconst 0, 0, 0, []), (.ireturn, 0, 0, []), (.iconst 0, 0, 0, []), (.istore_n 1, 1, 0, []), (.iconst 0, 0, 0, []), (.istore_n 2, 2, 0, []), (.aload_n 0, 0, 0, []), (.getfield 114, 6, 0, [8]), (.istore_n 3, 3, 0, []), (.iconst 0, 0, 0, []), (.istore 4, 4, 0, []), (.iconst 0, 0, 0, []), (.istore 5, 5, 0, []), (.iload 5, 5, 0, []), (.aload_n 0, 0, 0, []), (.getfield 114, 6, 0, [8]), (.if_icmp .ge 30, 42, 0, []), (.aload_n 0, 0, 0, []), (.getfield 50, 23, 0, [8]), (.iload 5, 5, 0, []), (.iload 4, 4, 0, []), (.iastore, 0, 0, []), (.aload_n 0, 0, 0, []), (.aload_n 0, 0, 0, []), (.getfield 32, 14, 0, [8]), (.iload 4, 4, 0, []), (.invokevirtual 146, 132, 0, [2, 1, 8]), (.istore 4, 4, 0, []), (.iinc 5 1, 5, 1, []), (.goto (-33), 25, 0, []), (.aload_n 0, 0, 0, []), (.getfield 57, 26, 0, [8]), (.iload_n 1, 1, 0, []), (.iaload, 0, 0, []), (.iconst 2, 0, 2, []), (.if_icmp .ne 215, 164, 0, []), (.iinc 2 1, 2, 1, []), (.aload_n 0, 0, 0, []), (.getfield 60, 27, 0, [8]), (.iload_n 1, 1, 0, []), (.iaload, 0, 0, []), (.istore 5, 5, 0, []), (.aload_n 0, 0, 0, []), (.getfield 50, 23, 0, [8]), (.iload 5, 5, 0, []), (.iaload, 0, 0, []), (.istore 6, 6, 0, []), (.aload_n 0, 0, 0, []), (.getfield 32, 14, 0, [8]), (.iload 6, 6, 0, []), (.iaload, 0, 0, []), (.istore 7, 7, 0, []), (.aload_n 0, 0, 0, []), (.iload 7, 7, 0, []), (.invokevirtual 123, 117, 0, [1, 1, 8]), (.istore 8, 8, 0, []), (.iload_n 3, 3, 0, []), (.iconst 1, 0, 1, []), (.isub, 0, 0, []), (.istore 9, 9, 0, []), (.iload 8, 8, 0, []), (.iconst 1, 0, 1, []), (.if_icmp .le 35, 92, 0, []), (.iload 9, 9, 0, []), (.iload 5, 5, 0, []), (.if_icmp .le 28, 92, 0, []), (.aload_n 0, 0, 0, []), (.getfield 50, 23, 0, [8]), (.iload 9, 9, 0, []), (.iload 8, 8, 0, []), (.iadd, 0, 0, []), (.iconst 1, 0, 1, []), (.isub, 0, 0, []), (.aload_n 0, 0, 0, []), (.getfield 50, 23, 0, [8]), (.iload 9, 9, 0, []), (.iaload, 0, 0, []), (.iastore, 0, 0, []), (.iinc 9 (-1), 9, (-1), []), (.goto (-35), 72, 0, []), (.iload 5, 5, 0, []), (.istore 9, 9, 0, []), (.iload 8, 8, 0, []), (.ifCond .ne 33, 113, 0, []), (.iload 9, 9, 0, []), (.iconst 1, 0, 1, []), (.iadd, 0, 0, []), (.iload_n 3, 3, 0, []), (.if_icmp .ge 25, 113, 0, []), (.aload_n 0, 0, 0, []), (.getfield 50, 23, 0, [8]), (.iload 9, 9, 0, []), (.aload_n 0, 0, 0, []), (.getfield 50, 23, 0, [8]), (.iload 9, 9, 0, []), (.iconst 1, 0, 1, []), (.iadd, 0, 0, []), (.iaload, 0, 0, []), (.iastore, 0, 0, []), (.iinc 9 1, 9, 1, []), (.goto (-32), 94, 0, []), (.iload 6, 6, 0, []), (.iconst 1, 0, 1, []), (.iadd, 0, 0, []), (.istore 9, 9, 0, []), (.iconst 0, 0, 0, []), (.istore 10, 10, 0, []), (.iload 10, 10, 0, []), (.iload 8, 8, 0, []), (.if_icmp .ge 33, 137, 0, []), (.aload_n 0, 0, 0, []), (.getfield 50, 23, 0, [8]), (.iload 5, 5, 0, []), (.iload 10, 10, 0, []), (.iadd, 0, 0, []), (.iload 9, 9, 0, []), (.iastore, 0, 0, []), (.aload_n 0, 0, 0, []), (.aload_n 0, 0, 0, []), (.getfield 32, 14, 0, [8]), (.iload 9, 9, 0, []), (.invokevirtual 146, 132, 0, [2, 1, 8]), (.istore 9, 9, 0, []), (.iinc 10 1, 10, 1, []), (.goto (-34), 119, 0, []), (.iload_n 3, 3, 0, []), (.iload 8, 8, 0, []), (.iconst 1, 0, 1, []), (.isub, 0, 0, []), (.iadd, 0, 0, []), (.istore_n 3, 3, 0, []), (.iload_n 1, 1, 0, []), (.iconst 1, 0, 1, []), (.iadd, 0, 0, []), (.istore 10, 10, 0, []), (.aload_n 0, 0, 0, []), (.getfield 72, 31, 0, [8]), (.iload 10, 10, 0, []), (.iaload, 0, 0, []), (.iload_n 1, 1, 0, []), (.if_icmp .ne 15, 159, 0, []), (.aload_n 0, 0, 0, []), (.getfield 75, 32, 0, [8]), (.iload 10, 10, 0, []), (.iaload, 0, 0, []), (.iload 7, 7, 0, []), (.if_icmp .eq 9, 161, 0, []), (.iinc 10 1, 10, 1, []), (.goto (-26), 147, 0, []), (.iload 10, 10, 0, []), (.istore_n 1, 1, 0, []), (.goto (-219), 42, 0, []), (.iload_n 2, 2, 0, []), (.ireturn, 0, 0, [])]
def qX8_tests : List Nat := [0, 1, 4, 7, 8, 9, 10, 13, 14, 17, 18, 19, 22, 23, 24, 25, 26, 27, 28, 29, 32, 33, 34, 36, 37, 39, 41, 42, 45, 48, 49, 52, 54, 56, 57, 58, 59, 62, 64, 67, 69, 72, 75, 76, 79, 80, 81, 82, 85, 88, 89, 92, 93, 94, 96, 97, 100, 102, 103, 105, 106, 109, 111, 112, 114, 115, 117, 120, 122, 123, 124, 125, 127, 129, 130, 133, 135, 137, 140, 141, 144, 146, 148, 149, 150, 151, 152, 155, 157, 158, 159, 162, 165, 167, 169, 171, 174, 176, 177, 178, 179, 182, 183, 186, 188, 189, 192, 194, 195, 196, 197, 198, 201, 204, 206, 207, 208, 210, 211, 213, 215, 217, 220, 221, 224, 226, 228, 229, 231, 232, 233, 234, 237, 239, 242, 244, 247, 250, 251, 253, 254, 255, 256, 257, 258, 259, 260, 262, 263, 266, 268, 269, 270, 273, 274, 277, 279, 280, 282, 285, 288, 291, 293, 294, 297, 298]
def pX8_about : List PI := [(.aload_n 0, 0, 0, []), (.iconst 0, 0, 0, []), (.putfield 93, 0, 0, [8]), (.iload_n 1, 1, 0, []), (.tableswitch 77 0 6 #[42, 47, 52, 57, 62, 67, 72], 26, 0, [5, 8, 11, 14, 17, 20, 23]), (.aload_n 0, 0, 0, []), (.getfield 96, 1, 0, [8]), (.ireturn, 0, 0, []), (.aload_n 0, 0, 0, []), (.getfield 99, 2, 0, [8]), (.ireturn, 0, 0, []), (.aload_n 0, 0, 0, []), (.getfield 114, 6, 0, [8]), (.ireturn, 0, 0, []), (.aload_n 0, 0, 0, []), (.getfield 129, 7, 0, [8]), (.ireturn, 0, 0, []), (.aload_n 0, 0, 0, []), (.getfield 132, 8, 0, [8]), (.ireturn, 0, 0, []), (.aload_n 0, 0, 0, []), (.getfield 135, 9, 0, [8]), (.ireturn, 0, 0, []), (.aload_n 0, 0, 0, []), (.getfield 53, 24, 0, [8]), (.ireturn, 0, 0, []), (.iconst (-1), 0, (-1), []), (.ireturn, 0, 0, [])]
def qX8_about : List Nat := [0, 1, 2, 5, 6, 48, 49, 52, 53, 54, 57, 58, 59, 62, 63, 64, 67, 68, 69, 72, 73, 74, 77, 78, 79, 82, 83, 84]
/-- a method: its class, name, bytes, locals, answer (0 none, 1 an int, 2 a boolean), arguments, rows, where each row stands -/
abbrev MI : Type := Nat × MethodName × ByteArray × Nat × Nat × Nat × List PI × List Nat
def mm_MT0 : List MI := [(0, yX0_forget, cX0_forget, 1, 0, 0, pX0_forget, qX0_forget),
  (0, yX0_shown, cX0_shown, 1, 1, 0, pX0_shown, qX0_shown),
  (0, yX0_show, cX0_show, 7, 0, 2, pX0_show, qX0_show),
  (0, yX0_signAt, cX0_signAt, 2, 1, 1, pX0_signAt, qX0_signAt),
  (0, yX0_putFound, cX0_putFound, 6, 0, 2, pX0_putFound, qX0_putFound),
  (0, yX0_anyOf, cX0_anyOf, 4, 1, 1, pX0_anyOf, qX0_anyOf),
  (1, yX1_begin, cX1_begin, 4, 0, 2, pX1_begin, qX1_begin),
  (1, yX1_count, cX1_count, 1, 1, 0, pX1_count, qX1_count),
  (1, yX1_isFull, cX1_isFull, 1, 2, 0, pX1_isFull, qX1_isFull),
  (1, yX1_asks, cX1_asks, 1, 2, 0, pX1_asks, qX1_asks),
  (1, yX1_takesMaker, cX1_takesMaker, 2, 2, 1, pX1_takesMaker, qX1_takesMaker),
  (1, yX1_put, cX1_put, 4, 1, 1, pX1_put, qX1_put),
  (1, yX1_signAt, cX1_signAt, 2, 1, 1, pX1_signAt, qX1_signAt),
  (1, yX1_endAt, cX1_endAt, 2, 1, 1, pX1_endAt, qX1_endAt),
  (1, yX1_findEnds, cX1_findEnds, 6, 0, 0, pX1_findEnds, qX1_findEnds),
  (1, yX1_nextAsked, cX1_nextAsked, 1, 1, 0, pX1_nextAsked, qX1_nextAsked),
  (1, yX1_ask, cX1_ask, 2, 0, 1, pX1_ask, qX1_ask),
  (2, yX2_typeCount, cX2_typeCount, 1, 1, 0, pX2_typeCount, qX2_typeCount),
  (2, yX2_makerCount, cX2_makerCount, 1, 1, 0, pX2_makerCount, qX2_makerCount),
  (2, yX2_hasType, cX2_hasType, 2, 2, 1, pX2_hasType, qX2_hasType)]
def mm_MT1 : List MI := [(2, yX2_hasMaker, cX2_hasMaker, 2, 2, 1, pX2_hasMaker, qX2_hasMaker),
  (2, yX2_hasRoomForMaker, cX2_hasRoomForMaker, 2, 2, 1, pX2_hasRoomForMaker, qX2_hasRoomForMaker),
  (2, yX2_hasValue, cX2_hasValue, 2, 2, 1, pX2_hasValue, qX2_hasValue),
  (2, yX2_typeOf, cX2_typeOf, 2, 1, 1, pX2_typeOf, qX2_typeOf),
  (2, yX2_fieldCount, cX2_fieldCount, 2, 1, 1, pX2_fieldCount, qX2_fieldCount),
  (2, yX2_fieldType, cX2_fieldType, 4, 1, 2, pX2_fieldType, qX2_fieldType),
  (2, yX2_isDead, cX2_isDead, 3, 2, 1, pX2_isDead, qX2_isDead),
  (2, yX2_addType, cX2_addType, 2, 1, 0, pX2_addType, qX2_addType),
  (2, yX2_addMaker, cX2_addMaker, 7, 1, 5, pX2_addMaker, qX2_addMaker),
  (2, yX2_findValued, cX2_findValued, 5, 0, 0, pX2_findValued, qX2_findValued),
  (3, yX3_clear, cX3_clear, 1, 0, 0, pX3_clear, qX3_clear),
  (3, yX3_count, cX3_count, 1, 1, 0, pX3_count, qX3_count),
  (3, yX3_add, cX3_add, 5, 1, 1, pX3_add, qX3_add),
  (3, yX3_startOf, cX3_startOf, 2, 1, 1, pX3_startOf, qX3_startOf),
  (3, yX3_signAt, cX3_signAt, 2, 1, 1, pX3_signAt, qX3_signAt),
  (3, yX3_endAt, cX3_endAt, 2, 1, 1, pX3_endAt, qX3_endAt),
  (4, yX4_begin, cX4_begin, 4, 0, 1, pX4_begin, qX4_begin),
  (4, yX4_makerAt, cX4_makerAt, 2, 1, 1, pX4_makerAt, qX4_makerAt),
  (4, yX4_openUp, cX4_openUp, 6, 0, 2, pX4_openUp, qX4_openUp),
  (4, yX4_makeGap, cX4_makeGap, 5, 0, 2, pX4_makeGap, qX4_makeGap)]
def mm_MT2 : List MI := [(4, yX4_isSeat, cX4_isSeat, 2, 2, 1, pX4_isSeat, qX4_isSeat),
  (5, yX5_begin, cX5_begin, 7, 0, 2, pX5_begin, qX5_begin),
  (5, yX5_hasOpen, cX5_hasOpen, 1, 2, 0, pX5_hasOpen, qX5_hasOpen),
  (5, yX5_drop, cX5_drop, 1, 0, 0, pX5_drop, qX5_drop),
  (5, yX5_placeCount, cX5_placeCount, 1, 1, 0, pX5_placeCount, qX5_placeCount),
  (5, yX5_lineCount, cX5_lineCount, 1, 1, 0, pX5_lineCount, qX5_lineCount),
  (5, yX5_openNode, cX5_openNode, 1, 1, 0, pX5_openNode, qX5_openNode),
  (5, yX5_typeAt, cX5_typeAt, 2, 1, 1, pX5_typeAt, qX5_typeAt),
  (5, yX5_firstRow, cX5_firstRow, 1, 1, 0, pX5_firstRow, qX5_firstRow),
  (5, yX5_splitEithers, cX5_splitEithers, 3, 2, 0, pX5_splitEithers, qX5_splitEithers),
  (5, yX5_firstTested, cX5_firstTested, 2, 1, 0, pX5_firstTested, qX5_firstTested),
  (5, yX5_keepFor, cX5_keepFor, 3, 0, 2, pX5_keepFor, qX5_keepFor),
  (5, yX5_nextBranch, cX5_nextBranch, 3, 1, 0, pX5_nextBranch, qX5_nextBranch),
  (5, yX5_openBranch, cX5_openBranch, 11, 2, 2, pX5_openBranch, qX5_openBranch),
  (5, yX5_pile, cX5_pile, 3, 0, 2, pX5_pile, qX5_pile),
  (5, yX5_addLine, cX5_addLine, 3, 1, 1, pX5_addLine, qX5_addLine),
  (5, yX5_splitAt, cX5_splitAt, 7, 2, 2, pX5_splitAt, qX5_splitAt),
  (5, yX5_isEither, cX5_isEither, 2, 2, 1, pX5_isEither, qX5_isEither),
  (5, yX5_doubleLine, cX5_doubleLine, 4, 0, 1, pX5_doubleLine, qX5_doubleLine),
  (5, yX5_copyAround, cX5_copyAround, 6, 0, 5, pX5_copyAround, qX5_copyAround)]
def mm_MT3 : List MI := [(5, yX5_putFields, cX5_putFields, 6, 0, 3, pX5_putFields, qX5_putFields),
  (5, yX5_cellOf, cX5_cellOf, 2, 1, 1, pX5_cellOf, qX5_cellOf),
  (5, yX5_lineAt, cX5_lineAt, 2, 1, 1, pX5_lineAt, qX5_lineAt),
  (5, yX5_head, cX5_head, 2, 1, 1, pX5_head, qX5_head),
  (5, yX5_get, cX5_get, 2, 1, 1, pX5_get, qX5_get),
  (5, yX5_set, cX5_set, 3, 0, 2, pX5_set, qX5_set),
  (5, yX5_copy, cX5_copy, 5, 0, 3, pX5_copy, qX5_copy),
  (5, yX5_reserve, cX5_reserve, 2, 0, 1, [], [0]),
  (6, yX6_fell, cX6_fell, 1, 0, 0, pX6_fell, qX6_fell),
  (6, yX6_stand, cX6_stand, 1, 0, 0, pX6_stand, qX6_stand),
  (6, yX6_stands, cX6_stands, 1, 2, 0, pX6_stands, qX6_stands),
  (6, yX6_count, cX6_count, 1, 1, 0, pX6_count, qX6_count),
  (6, yX6_failCount, cX6_failCount, 1, 1, 0, pX6_failCount, qX6_failCount),
  (6, yX6_add, cX6_add, 5, 1, 2, pX6_add, qX6_add),
  (6, yX6_makeFail, cX6_makeFail, 2, 0, 1, pX6_makeFail, qX6_makeFail),
  (6, yX6_makeLeaf, cX6_makeLeaf, 3, 0, 2, pX6_makeLeaf, qX6_makeLeaf),
  (6, yX6_makeTest, cX6_makeTest, 5, 0, 4, pX6_makeTest, qX6_makeTest),
  (6, yX6_kindOf, cX6_kindOf, 2, 1, 1, pX6_kindOf, qX6_kindOf),
  (6, yX6_testedPlace, cX6_testedPlace, 2, 1, 1, pX6_testedPlace, qX6_testedPlace),
  (6, yX6_makerOf, cX6_makerOf, 2, 1, 1, pX6_makerOf, qX6_makerOf)]
def mm_MT4 : List MI := [(6, yX6_tell, cX6_tell, 3, 1, 2, pX6_tell, qX6_tell),
  (6, yX6_branchOf, cX6_branchOf, 5, 1, 2, pX6_branchOf, qX6_branchOf),
  (6, yX6_branchTowards, cX6_branchTowards, 6, 1, 2, pX6_branchTowards, qX6_branchTowards),
  (6, yX6_failNode, cX6_failNode, 4, 1, 1, pX6_failNode, qX6_failNode),
  (6, yX6_hasLeafOf, cX6_hasLeafOf, 3, 2, 1, pX6_hasLeafOf, qX6_hasLeafOf),
  (6, yX6_branchAt, cX6_branchAt, 5, 1, 2, pX6_branchAt, qX6_branchAt),
  (6, yX6_hang, cX6_hang, 4, 0, 2, pX6_hang, qX6_hang),
  (6, yX6_get, cX6_get, 4, 1, 2, pX6_get, qX6_get),
  (6, yX6_set, cX6_set, 4, 0, 3, pX6_set, qX6_set),
  (7, yX7_type, cX7_type, 1, 1, 0, pX7_type, qX7_type),
  (7, yX7_maker, cX7_maker, 6, 1, 4, pX7_maker, qX7_maker),
  (7, yX7_isEmpty, cX7_isEmpty, 2, 2, 1, pX7_isEmpty, qX7_isEmpty),
  (7, yX7_match, cX7_match, 5, 0, 3, pX7_match, qX7_match),
  (7, yX7_sign, cX7_sign, 3, 1, 1, pX7_sign, qX7_sign),
  (7, yX7_row, cX7_row, 2, 1, 0, pX7_row, qX7_row),
  (7, yX7_compile, cX7_compile, 2, 1, 0, pX7_compile, qX7_compile),
  (7, yX7_node, cX7_node, 3, 1, 2, pX7_node, qX7_node),
  (7, yX7_missing, cX7_missing, 1, 1, 0, pX7_missing, qX7_missing),
  (7, yX7_missingSign, cX7_missingSign, 3, 1, 2, pX7_missingSign, qX7_missingSign),
  (7, yX7_isIdle, cX7_isIdle, 2, 2, 1, pX7_isIdle, qX7_isIdle)]
def mm_MT5 : List MI := [(7, yX7_give, cX7_give, 2, 1, 1, pX7_give, qX7_give),
  (7, yX7_answer, cX7_answer, 2, 1, 0, pX7_answer, qX7_answer),
  (7, yX7_tests, cX7_tests, 1, 1, 0, pX7_tests, qX7_tests),
  (7, yX7_empty, cX7_empty, 1, 0, 0, pX7_empty, qX7_empty),
  (7, yX7_about, cX7_about, 2, 1, 1, pX7_about, qX7_about),
  (7, yX7_countTypes, cX7_countTypes, 4, 1, 3, pX7_countTypes, qX7_countTypes),
  (7, yX7_beginMatch, cX7_beginMatch, 5, 0, 4, pX7_beginMatch, qX7_beginMatch),
  (7, yX7_refuseWithoutMatch, cX7_refuseWithoutMatch, 1, 0, 0, pX7_refuseWithoutMatch, qX7_refuseWithoutMatch),
  (7, yX7_refuseWithoutWholeValues, cX7_refuseWithoutWholeValues, 1, 0, 0, pX7_refuseWithoutWholeValues, qX7_refuseWithoutWholeValues),
  (7, yX7_rowTakesValues, cX7_rowTakesValues, 5, 2, 1, pX7_rowTakesValues, qX7_rowTakesValues),
  (7, yX7_takes, cX7_takes, 9, 2, 3, pX7_takes, qX7_takes),
  (7, yX7_countTests, cX7_countTests, 5, 1, 0, pX7_countTests, qX7_countTests),
  (7, yX7_growTree, cX7_growTree, 5, 2, 0, pX7_growTree, qX7_growTree),
  (7, yX7_addNode, cX7_addNode, 6, 2, 2, pX7_addNode, qX7_addNode),
  (8, yX8_thrown, cX8_thrown, 1, 1, 0, pX8_thrown, qX8_thrown),
  (8, yX8_isType, cX8_isType, 2, 2, 1, pX8_isType, qX8_isType),
  (8, yX8_makersOf, cX8_makersOf, 4, 1, 1, pX8_makersOf, qX8_makersOf),
  (8, yX8_fields, cX8_fields, 2, 1, 1, pX8_fields, qX8_fields),
  (8, yX8_type, cX8_type, 1, 1, 0, pX8_type, qX8_type),
  (8, yX8_areTypes, cX8_areTypes, 4, 2, 3, pX8_areTypes, qX8_areTypes)]
def mm_MT6 : List MI := [(8, yX8_maker, cX8_maker, 5, 1, 4, pX8_maker, qX8_maker),
  (8, yX8_find, cX8_find, 3, 0, 0, pX8_find, qX8_find),
  (8, yX8_isDead, cX8_isDead, 4, 2, 1, pX8_isDead, qX8_isDead),
  (8, yX8_isEmpty, cX8_isEmpty, 2, 2, 1, pX8_isEmpty, qX8_isEmpty),
  (8, yX8_forget, cX8_forget, 1, 0, 0, pX8_forget, qX8_forget),
  (8, yX8_match, cX8_match, 4, 0, 3, pX8_match, qX8_match),
  (8, yX8_next, cX8_next, 8, 1, 2, pX8_next, qX8_next),
  (8, yX8_isMakerOf, cX8_isMakerOf, 3, 2, 2, pX8_isMakerOf, qX8_isMakerOf),
  (8, yX8_sign, cX8_sign, 3, 1, 1, pX8_sign, qX8_sign),
  (8, yX8_row, cX8_row, 3, 1, 0, pX8_row, qX8_row),
  (8, yX8_give, cX8_give, 2, 1, 1, pX8_give, qX8_give),
  (8, yX8_empty, cX8_empty, 1, 0, 0, pX8_empty, qX8_empty),
  (8, yX8_behind, cX8_behind, 6, 1, 2, pX8_behind, qX8_behind),
  (8, yX8_rowTakes, cX8_rowTakes, 6, 2, 1, pX8_rowTakes, qX8_rowTakes),
  (8, yX8_fieldsTake, cX8_fieldsTake, 7, 2, 2, pX8_fieldsTake, qX8_fieldsTake),
  (8, yX8_canAnswer, cX8_canAnswer, 1, 2, 0, pX8_canAnswer, qX8_canAnswer),
  (8, yX8_answer, cX8_answer, 2, 1, 0, pX8_answer, qX8_answer),
  (8, yX8_signOf, cX8_signOf, 2, 1, 1, pX8_signOf, qX8_signOf),
  (8, yX8_firstTable, cX8_firstTable, 4, 0, 0, pX8_firstTable, qX8_firstTable),
  (8, yX8_part, cX8_part, 5, 0, 0, pX8_part, qX8_part)]
def mm_MT7 : List MI := [(8, yX8_doubled, cX8_doubled, 6, 0, 3, pX8_doubled, qX8_doubled),
  (8, yX8_branch, cX8_branch, 8, 0, 2, pX8_branch, qX8_branch),
  (8, yX8_widen, cX8_widen, 8, 0, 5, pX8_widen, qX8_widen),
  (8, yX8_tableOf, cX8_tableOf, 5, 0, 2, pX8_tableOf, qX8_tableOf),
  (8, yX8_begin, cX8_begin, 6, 0, 2, pX8_begin, qX8_begin),
  (8, yX8_compile, cX8_compile, 1, 1, 0, pX8_compile, qX8_compile),
  (8, yX8_isNode, cX8_isNode, 2, 2, 1, pX8_isNode, qX8_isNode),
  (8, yX8_branchOf, cX8_branchOf, 5, 1, 2, pX8_branchOf, qX8_branchOf),
  (8, yX8_node, cX8_node, 4, 1, 2, pX8_node, qX8_node),
  (8, yX8_missing, cX8_missing, 3, 1, 0, pX8_missing, qX8_missing),
  (8, yX8_missingSign, cX8_missingSign, 6, 1, 2, pX8_missingSign, qX8_missingSign),
  (8, yX8_tell, cX8_tell, 10, 1, 1, pX8_tell, qX8_tell),
  (8, yX8_isIdle, cX8_isIdle, 4, 2, 1, pX8_isIdle, qX8_isIdle),
  (8, yX8_tests, cX8_tests, 11, 1, 0, pX8_tests, qX8_tests),
  (8, yX8_about, cX8_about, 2, 1, 1, pX8_about, qX8_about)]
def mm_MT : List MI := mm_MT0 ++ (mm_MT1 ++ (mm_MT2 ++ (mm_MT3 ++ (mm_MT4 ++ (mm_MT5 ++ (mm_MT6 ++ (mm_MT7)))))))
def mm_yRes : Nat := 67
abbrev mY0_forget : Nat := 0
abbrev mY0_shown : Nat := 1
abbrev mY0_show : Nat := 2
abbrev mY0_signAt : Nat := 3
abbrev mY0_putFound : Nat := 4
abbrev mY0_anyOf : Nat := 5
abbrev mY1_begin : Nat := 6
abbrev mY1_count : Nat := 7
abbrev mY1_isFull : Nat := 8
abbrev mY1_asks : Nat := 9
abbrev mY1_takesMaker : Nat := 10
abbrev mY1_put : Nat := 11
abbrev mY1_signAt : Nat := 12
abbrev mY1_endAt : Nat := 13
abbrev mY1_findEnds : Nat := 14
abbrev mY1_nextAsked : Nat := 15
abbrev mY1_ask : Nat := 16
abbrev mY2_typeCount : Nat := 17
abbrev mY2_makerCount : Nat := 18
abbrev mY2_hasType : Nat := 19
abbrev mY2_hasMaker : Nat := 20
abbrev mY2_hasRoomForMaker : Nat := 21
abbrev mY2_hasValue : Nat := 22
abbrev mY2_typeOf : Nat := 23
abbrev mY2_fieldCount : Nat := 24
abbrev mY2_fieldType : Nat := 25
abbrev mY2_isDead : Nat := 26
abbrev mY2_addType : Nat := 27
abbrev mY2_addMaker : Nat := 28
abbrev mY2_findValued : Nat := 29
abbrev mY3_clear : Nat := 30
abbrev mY3_count : Nat := 31
abbrev mY3_add : Nat := 32
abbrev mY3_startOf : Nat := 33
abbrev mY3_signAt : Nat := 34
abbrev mY3_endAt : Nat := 35
abbrev mY4_begin : Nat := 36
abbrev mY4_makerAt : Nat := 37
abbrev mY4_openUp : Nat := 38
abbrev mY4_makeGap : Nat := 39
abbrev mY4_isSeat : Nat := 40
abbrev mY5_begin : Nat := 41
abbrev mY5_hasOpen : Nat := 42
abbrev mY5_drop : Nat := 43
abbrev mY5_placeCount : Nat := 44
abbrev mY5_lineCount : Nat := 45
abbrev mY5_openNode : Nat := 46
abbrev mY5_typeAt : Nat := 47
abbrev mY5_firstRow : Nat := 48
abbrev mY5_splitEithers : Nat := 49
abbrev mY5_firstTested : Nat := 50
abbrev mY5_keepFor : Nat := 51
abbrev mY5_nextBranch : Nat := 52
abbrev mY5_openBranch : Nat := 53
abbrev mY5_pile : Nat := 54
abbrev mY5_addLine : Nat := 55
abbrev mY5_splitAt : Nat := 56
abbrev mY5_isEither : Nat := 57
abbrev mY5_doubleLine : Nat := 58
abbrev mY5_copyAround : Nat := 59
abbrev mY5_putFields : Nat := 60
abbrev mY5_cellOf : Nat := 61
abbrev mY5_lineAt : Nat := 62
abbrev mY5_head : Nat := 63
abbrev mY5_get : Nat := 64
abbrev mY5_set : Nat := 65
abbrev mY5_copy : Nat := 66
abbrev mY5_reserve : Nat := 67
abbrev mY6_fell : Nat := 68
abbrev mY6_stand : Nat := 69
abbrev mY6_stands : Nat := 70
abbrev mY6_count : Nat := 71
abbrev mY6_failCount : Nat := 72
abbrev mY6_add : Nat := 73
abbrev mY6_makeFail : Nat := 74
abbrev mY6_makeLeaf : Nat := 75
abbrev mY6_makeTest : Nat := 76
abbrev mY6_kindOf : Nat := 77
abbrev mY6_testedPlace : Nat := 78
abbrev mY6_makerOf : Nat := 79
abbrev mY6_tell : Nat := 80
abbrev mY6_branchOf : Nat := 81
abbrev mY6_branchTowards : Nat := 82
abbrev mY6_failNode : Nat := 83
abbrev mY6_hasLeafOf : Nat := 84
abbrev mY6_branchAt : Nat := 85
abbrev mY6_hang : Nat := 86
abbrev mY6_get : Nat := 87
abbrev mY6_set : Nat := 88
abbrev mY7_type : Nat := 89
abbrev mY7_maker : Nat := 90
abbrev mY7_isEmpty : Nat := 91
abbrev mY7_match : Nat := 92
abbrev mY7_sign : Nat := 93
abbrev mY7_row : Nat := 94
abbrev mY7_compile : Nat := 95
abbrev mY7_node : Nat := 96
abbrev mY7_missing : Nat := 97
abbrev mY7_missingSign : Nat := 98
abbrev mY7_isIdle : Nat := 99
abbrev mY7_give : Nat := 100
abbrev mY7_answer : Nat := 101
abbrev mY7_tests : Nat := 102
abbrev mY7_empty : Nat := 103
abbrev mY7_about : Nat := 104
abbrev mY7_countTypes : Nat := 105
abbrev mY7_beginMatch : Nat := 106
abbrev mY7_refuseWithoutMatch : Nat := 107
abbrev mY7_refuseWithoutWholeValues : Nat := 108
abbrev mY7_rowTakesValues : Nat := 109
abbrev mY7_takes : Nat := 110
abbrev mY7_countTests : Nat := 111
abbrev mY7_growTree : Nat := 112
abbrev mY7_addNode : Nat := 113
abbrev mY8_thrown : Nat := 114
abbrev mY8_isType : Nat := 115
abbrev mY8_makersOf : Nat := 116
abbrev mY8_fields : Nat := 117
abbrev mY8_type : Nat := 118
abbrev mY8_areTypes : Nat := 119
abbrev mY8_maker : Nat := 120
abbrev mY8_find : Nat := 121
abbrev mY8_isDead : Nat := 122
abbrev mY8_isEmpty : Nat := 123
abbrev mY8_forget : Nat := 124
abbrev mY8_match : Nat := 125
abbrev mY8_next : Nat := 126
abbrev mY8_isMakerOf : Nat := 127
abbrev mY8_sign : Nat := 128
abbrev mY8_row : Nat := 129
abbrev mY8_give : Nat := 130
abbrev mY8_empty : Nat := 131
abbrev mY8_behind : Nat := 132
abbrev mY8_rowTakes : Nat := 133
abbrev mY8_fieldsTake : Nat := 134
abbrev mY8_canAnswer : Nat := 135
abbrev mY8_answer : Nat := 136
abbrev mY8_signOf : Nat := 137
abbrev mY8_firstTable : Nat := 138
abbrev mY8_part : Nat := 139
abbrev mY8_doubled : Nat := 140
abbrev mY8_branch : Nat := 141
abbrev mY8_widen : Nat := 142
abbrev mY8_tableOf : Nat := 143
abbrev mY8_begin : Nat := 144
abbrev mY8_compile : Nat := 145
abbrev mY8_isNode : Nat := 146
abbrev mY8_branchOf : Nat := 147
abbrev mY8_node : Nat := 148
abbrev mY8_missing : Nat := 149
abbrev mY8_missingSign : Nat := 150
abbrev mY8_tell : Nat := 151
abbrev mY8_isIdle : Nat := 152
abbrev mY8_tests : Nat := 153
abbrev mY8_about : Nat := 154
/-- fields: class, pool number, slot -/
def mm_FT : List (Nat × Nat × Nat) := [(0, 9, 0), (0, 15, 1), (0, 19, 2), (0, 23, 4), (0, 33, 3), (1, 9, 0), (1, 21, 1), (1, 25, 2), (1, 28, 3), (1, 31, 4), (1, 35, 5), (2, 9, 2), (2, 15, 3), (2, 19, 4), (2, 22, 5), (2, 25, 6), (2, 28, 0), (2, 32, 1), (3, 9, 0), (3, 15, 1), (3, 18, 2), (4, 9, 0), (4, 15, 1), (4, 19, 2), (4, 29, 3), (5, 9, 0), (5, 15, 1), (5, 19, 2), (5, 23, 3), (5, 37, 4), (5, 68, 5), (6, 11, 0), (6, 15, 1), (6, 19, 2), (6, 22, 3), (7, 12, 0), (7, 16, 1), (7, 20, 2), (7, 27, 3), (7, 36, 4), (7, 40, 5), (7, 46, 6), (7, 55, 7), (7, 64, 8), (7, 73, 9), (8, 7, 3), (8, 13, 4), (8, 16, 5), (8, 20, 10), (8, 23, 11), (8, 26, 12), (8, 29, 13), (8, 32, 14), (8, 35, 15), (8, 38, 16), (8, 41, 19), (8, 44, 20), (8, 47, 21), (8, 50, 23), (8, 53, 24), (8, 57, 26), (8, 60, 27), (8, 63, 28), (8, 66, 29), (8, 69, 30), (8, 72, 31), (8, 75, 32), (8, 78, 33), (8, 81, 34), (8, 84, 35), (8, 87, 36), (8, 90, 37), (8, 93, 0), (8, 96, 1), (8, 99, 2), (8, 114, 6), (8, 129, 7), (8, 132, 8), (8, 135, 9), (8, 159, 17), (8, 162, 18), (8, 165, 22), (8, 193, 25)]
/-- calls: class, pool number, method -/
def mm_CT : List (Nat × Nat × Nat) := [(0, 36, 83), (0, 42, 82), (0, 45, 78), (0, 48, 79), (0, 51, 4), (0, 55, 5), (0, 58, 24), (1, 41, 16), (1, 45, 9), (1, 49, 20), (1, 55, 23), (1, 59, 15), (1, 63, 8), (1, 66, 24), (1, 69, 25), (1, 72, 12), (1, 75, 13), (2, 35, 19), (2, 39, 20), (2, 42, 24), (2, 46, 25), (2, 50, 22), (2, 53, 21), (2, 56, 29), (2, 59, 23), (2, 62, 26), (3, 22, 14), (3, 27, 33), (3, 31, 7), (3, 34, 12), (3, 37, 13), (4, 33, 13), (4, 39, 40), (4, 43, 12), (4, 46, 24), (4, 51, 39), (5, 33, 54), (5, 40, 65), (5, 43, 31), (5, 49, 55), (5, 53, 33), (5, 56, 61), (5, 59, 35), (5, 62, 63), (5, 71, 64), (5, 74, 62), (5, 77, 56), (5, 81, 18), (5, 86, 23), (5, 89, 26), (5, 93, 24), (5, 96, 59), (5, 100, 25), (5, 103, 34), (5, 106, 60), (5, 110, 67), (5, 114, 57), (5, 117, 58), (5, 120, 66), (6, 26, 88), (6, 30, 86), (6, 34, 87), (6, 38, 85), (6, 41, 77), (7, 77, 17), (7, 88, 27), (7, 91, 105), (7, 95, 19), (7, 104, 21), (7, 109, 106), (7, 113, 28), (7, 117, 22), (7, 122, 107), (7, 125, 8), (7, 131, 10), (7, 134, 9), (7, 142, 11), (7, 146, 31), (7, 151, 6), (7, 157, 68), (7, 160, 32), (7, 164, 0), (7, 167, 112), (7, 175, 69), (7, 178, 71), (7, 179, 70), (7, 187, 80), (7, 191, 72), (7, 196, 1), (7, 199, 2), (7, 203, 3), (7, 208, 84), (7, 215, 108), (7, 218, 14), (7, 221, 109), (7, 226, 111), (7, 229, 18), (7, 232, 7), (7, 233, 30), (7, 240, 33), (7, 243, 110), (7, 247, 35), (7, 250, 13), (7, 251, 34), (7, 252, 12), (7, 253, 24), (7, 256, 36), (7, 259, 77), (7, 262, 78), (7, 265, 37), (7, 268, 81), (7, 271, 38), (7, 274, 41), (7, 275, 113), (7, 279, 42), (7, 282, 52), (7, 285, 43), (7, 288, 46), (7, 291, 53), (7, 294, 49), (7, 297, 73), (7, 299, 45), (7, 302, 74), (7, 305, 50), (7, 308, 48), (7, 311, 75), (7, 314, 47), (7, 317, 44), (7, 320, 76), (7, 323, 51), (8, 102, 115), (8, 106, 119), (8, 110, 116), (8, 117, 124), (8, 120, 122), (8, 123, 117), (8, 126, 121), (8, 138, 126), (8, 142, 127), (8, 146, 132), (8, 149, 134), (8, 152, 135), (8, 156, 133), (8, 169, 139), (8, 172, 137), (8, 175, 140), (8, 179, 142), (8, 183, 138), (8, 186, 141), (8, 190, 143), (8, 196, 144), (8, 199, 146), (8, 202, 147), (8, 206, 149), (8, 210, 151)]
/-- static calls: class, pool number, 0 min, 1 max, 2 arraycopy -/
def mm_ST : List (Nat × Nat × Nat) := [(0, 27, 0), (1, 15, 1), (1, 38, 0), (4, 23, 0), (5, 27, 0), (5, 65, 1), (5, 123, 2)]
/-- throws: the pool number of the class, of its constructor, which -/
def mm_XT : List (Nat × Nat × Nat) := [(81, 85, 1), (99, 103, 3), (137, 141, 2), (170, 174, 4), (182, 186, 5)]
def mm_STR : List (Nat × String) := [(83, "there are 8 types"), (101, "no such type"), (107, "the type has 8 makers, or there are 40"), (120, "no such type, or no column"), (236, "there is no match"), (129, "the row in hand has 40 signs"), (139, "the sign can't stand there"), (149, "there are 12 rows"), (155, "a column has no whole pattern yet"), (172, "the tree is too great"), (184, "no such node"), (194, "no such missing case"), (206, "no such row, or no tree"), (211, "the values in hand have 60 makers"), (213, "the maker can't stand there"), (238, "the values in hand are not whole"), (224, "there is no tree")]
/-- where the words stand: of the methods (instanceMethod, selects, initialized, code), of the fields, of the calls -/
def mm_MW : List (Nat × Nat × Nat × Nat) := [(607, 608, 67, 609), (851, 852, 67, 853), (855, 856, 67, 857), (886, 887, 67, 888), (878, 27, 67, 879), (882, 28, 67, 883), (295, 296, 63, 297), (322, 323, 63, 324), (524, 525, 63, 526), (533, 534, 63, 535), (529, 530, 63, 531), (560, 561, 63, 562), (584, 585, 63, 586), (588, 589, 63, 590), (580, 581, 63, 582), (540, 6, 63, 541), (303, 0, 63, 304), (310, 311, 61, 312), (314, 315, 61, 316), (424, 425, 61, 426), (475, 476, 61, 477), (444, 445, 61, 446), (491, 492, 61, 493), (471, 472, 61, 473), (483, 484, 61, 485), (487, 488, 61, 489), (479, 480, 61, 481), (408, 409, 61, 410), (462, 463, 61, 464), (468, 4, 61, 469), (454, 455, 62, 456), (318, 319, 62, 320), (576, 577, 62, 578), (592, 593, 62, 594), (661, 662, 62, 663), (665, 666, 62, 667), (950, 951, 68, 952), (957, 958, 68, 959), (970, 971, 68, 972), (976, 34, 68, 977), (962, 33, 68, 963), (615, 616, 66, 617), (762, 763, 66, 764), (726, 727, 66, 728), (750, 751, 66, 752), (718, 719, 66, 720), (773, 774, 66, 775), (746, 747, 66, 748), (738, 739, 66, 740), (673, 674, 66, 675), (734, 735, 66, 736), (758, 759, 66, 760), (766, 767, 66, 768), (781, 782, 66, 783), (621, 8, 66, 622), (649, 11, 66, 650), (678, 15, 66, 679), (686, 17, 66, 687), (690, 18, 66, 691), (787, 25, 66, 788), (792, 26, 66, 793), (658, 13, 66, 659), (653, 12, 66, 654), (731, 24, 66, 732), (682, 16, 66, 683), (644, 10, 66, 645), (694, 19, 66, 695), (625, 9, 66, 626), (458, 459, 65, 460), (811, 812, 65, 813), (283, 284, 65, 285), (326, 327, 65, 328), (287, 288, 65, 289), (698, 699, 65, 700), (722, 723, 65, 724), (742, 743, 65, 744), (754, 755, 65, 756), (864, 865, 65, 866), (777, 778, 65, 779), (873, 874, 65, 875), (839, 840, 65, 841), (966, 967, 65, 968), (868, 869, 65, 870), (860, 861, 65, 862), (898, 899, 65, 900), (715, 23, 65, 716), (707, 21, 65, 708), (711, 22, 65, 712), (703, 20, 65, 704), (334, 335, 60, 336), (416, 417, 60, 418), (498, 499, 60, 500), (506, 507, 60, 508), (515, 516, 60, 517), (570, 571, 60, 572), (603, 604, 60, 605), (819, 820, 60, 821), (279, 280, 60, 281), (846, 847, 60, 848), (893, 894, 60, 895), (905, 906, 60, 907), (914, 915, 60, 916), (941, 942, 60, 943), (291, 292, 60, 293), (306, 307, 60, 308), (421, 2, 60, 422), (451, 3, 60, 452), (520, 5, 60, 521), (919, 29, 60, 920), (925, 30, 60, 926), (930, 31, 60, 931), (947, 32, 60, 948), (612, 7, 60, 613), (670, 14, 60, 671), (1100, 1101, 69, 1102), (1113, 35, 69, 1114), (1121, 37, 69, 1122), (1141, 41, 69, 1142), (1104, 1105, 69, 1106), (1117, 36, 69, 1118), (1108, 1109, 69, 1110), (1133, 39, 69, 1134), (1137, 40, 69, 1138), (1128, 1129, 69, 1130), (1125, 38, 69, 1126), (1144, 1145, 69, 1146), (1153, 42, 69, 1154), (1157, 43, 69, 1158), (1148, 1149, 69, 1150), (1160, 1161, 69, 1162), (1164, 1165, 69, 1166), (1168, 1169, 69, 1170), (1185, 46, 69, 1186), (1181, 45, 69, 1182), (1189, 47, 69, 1190), (1177, 44, 69, 1178), (1172, 1173, 69, 1174), (1213, 52, 69, 1214), (1205, 50, 69, 1206), (1209, 51, 69, 1210), (1217, 53, 69, 1218), (1221, 54, 69, 1222), (1225, 55, 69, 1226), (1201, 49, 69, 1202), (1197, 48, 69, 1198), (1192, 1193, 69, 1194), (1233, 56, 69, 1234), (1237, 57, 69, 1238), (1228, 1229, 69, 1230), (1240, 1241, 69, 1242), (1244, 1245, 69, 1246), (1250, 58, 69, 1251), (1253, 1254, 69, 1255), (1257, 1258, 69, 1259), (1261, 1262, 69, 1263)]
def mm_FW : List Nat := [212, 213, 214, 216, 215, 143, 144, 145, 146, 147, 148, 96, 97, 98, 99, 100, 94, 95, 124, 125, 126, 234, 235, 236, 237, 187, 188, 189, 190, 191, 192, 168, 169, 170, 171, 247, 248, 249, 250, 251, 252, 253, 254, 255, 256, 987, 988, 989, 994, 995, 996, 997, 998, 999, 1000, 1003, 1004, 1005, 1007, 1008, 1010, 1011, 1012, 1013, 1014, 1015, 1016, 1017, 1018, 1019, 1020, 1021, 984, 985, 986, 990, 991, 992, 993, 1001, 1002, 1006, 1009]
def mm_CW : List Nat := [859, 867, 871, 872, 876, 880, 884, 301, 532, 536, 537, 538, 563, 564, 565, 583, 587, 447, 474, 482, 486, 490, 465, 466, 470, 478, 579, 591, 595, 596, 597, 954, 960, 964, 973, 974, 619, 642, 646, 647, 655, 656, 664, 729, 680, 651, 676, 769, 770, 771, 784, 785, 789, 660, 790, 623, 684, 688, 692, 701, 705, 709, 713, 863, 309, 407, 419, 423, 443, 449, 461, 501, 518, 523, 528, 542, 559, 317, 294, 457, 575, 606, 610, 810, 325, 282, 838, 286, 850, 854, 885, 897, 917, 922, 923, 945, 313, 321, 453, 927, 928, 933, 936, 932, 934, 935, 949, 955, 776, 956, 965, 969, 614, 668, 761, 765, 725, 772, 780, 672, 697, 717, 721, 733, 737, 741, 745, 749, 753, 757, 1111, 1115, 1119, 1123, 1135, 1139, 1131, 1151, 1155, 1183, 1187, 1175, 1179, 1207, 1211, 1215, 1223, 1203, 1219, 1199, 1195, 1231, 1235, 1247, 1248]
def mm_SW : List Nat := [858, 140, 298, 953, 618, 627, 696]
def mm_JW : List Nat := [299, 64, 300, 141, 142, 640, 77, 641]
end
section
/-! THE CHECKS: what the tables say, held once against the words of the Statement -/
def mm_ut : List Cond := lw_tbl.filter goodWord
theorem mm_in_ut {w : Cond} (h : w ∈ lw_tbl) (hg : goodWord w = true) : w ∈ mm_ut := List.mem_filter.mpr ⟨h, hg⟩
theorem mm_ut_good {w : Cond} (h : w ∈ mm_ut) : goodWord w = true := (List.mem_filter.mp h).2
def mm_rty (rt : Nat) : Option FieldType := match rt with
  | 0 => none
  | 1 => some .int
  | _ => some .boolean
abbrev MI.ci (q : MI) : Nat := q.1
abbrev MI.nm (q : MI) : MethodName := q.2.1
abbrev MI.cc (q : MI) : ByteArray := q.2.2.1
abbrev MI.mL (q : MI) : Nat := q.2.2.2.1
abbrev MI.rt (q : MI) : Nat := q.2.2.2.2.1
abbrev MI.na (q : MI) : Nat := q.2.2.2.2.2.1
abbrev MI.P (q : MI) : List PI := q.2.2.2.2.2.2.1
abbrev MI.pcs (q : MI) : List Nat := q.2.2.2.2.2.2.2
def mm_dec (cc : ByteArray) (pc : Nat) (i : Instr) (n : Nat) : Bool := decide (decode cc pc = .ok (i, n))
def mm_decs (cc : ByteArray) (pc : Nat) (i : Instr) : Bool := match decode cc pc with
  | .ok (i', _) => decide (i' = i)
  | .error _ => false
def mm_nx (pcs : List Nat) (j pc : Nat) : Bool := decide (pcs[j]? = some pc)
def mm_jmp (pcs : List Nat) (x pc : Nat) (off : Int) : Bool := match pcs[x]? with
  | some t => decide ((pc : Int) + off = (t : Int))
  | none => false
/-- a row is what its bytes say, and its numbers are what the tables say -/
def mm_okR (cc : ByteArray) (ci : Nat) (pcs : List Nat) (j : Nat) (r : PI) : Bool := match pcs[j]? with
  | none => false
  | some pc => match r with
    | (.iconst n, _, v, _) => mm_dec cc pc (.iconst n) 1 && mm_nx pcs (j + 1) (pc + 1) && decide (Int32.ofInt n = v)
    | (.bipush n, _, v, _) => mm_dec cc pc (.bipush n) 2 && mm_nx pcs (j + 1) (pc + 2) && decide ((Int8.ofInt n).toInt32 = v)
    | (.sipush n, _, v, _) => mm_dec cc pc (.sipush n) 3 && mm_nx pcs (j + 1) (pc + 3) && decide ((Int16.ofInt n).toInt32 = v)
    | (.iload_n q, x, _, _) => mm_dec cc pc (.iload_n q) 1 && mm_nx pcs (j + 1) (pc + 1) && decide (q.val = x)
    | (.iload q, x, _, _) => mm_dec cc pc (.iload q) 2 && mm_nx pcs (j + 1) (pc + 2) && decide (q = x)
    | (.aload_n q, x, _, _) => mm_dec cc pc (.aload_n q) 1 && mm_nx pcs (j + 1) (pc + 1) && decide (q.val = x)
    | (.istore_n q, x, _, _) => mm_dec cc pc (.istore_n q) 1 && mm_nx pcs (j + 1) (pc + 1) && decide (q.val = x)
    | (.istore q, x, _, _) => mm_dec cc pc (.istore q) 2 && mm_nx pcs (j + 1) (pc + 2) && decide (q = x)
    | (.iinc q n, x, v, _) => mm_dec cc pc (.iinc q n) 3 && mm_nx pcs (j + 1) (pc + 3) && decide (q = x) && decide (Int32.ofInt n = v)
    | (.iadd, _, _, _) => mm_dec cc pc .iadd 1 && mm_nx pcs (j + 1) (pc + 1)
    | (.isub, _, _, _) => mm_dec cc pc .isub 1 && mm_nx pcs (j + 1) (pc + 1)
    | (.imul, _, _, _) => mm_dec cc pc .imul 1 && mm_nx pcs (j + 1) (pc + 1)
    | (.dup, _, _, _) => mm_dec cc pc .dup 1 && mm_nx pcs (j + 1) (pc + 1)
    | (.dup2, _, _, _) => mm_dec cc pc .dup2 1 && mm_nx pcs (j + 1) (pc + 1)
    | (.iaload, _, _, _) => mm_dec cc pc .iaload 1 && mm_nx pcs (j + 1) (pc + 1)
    | (.baload, _, _, _) => mm_dec cc pc .baload 1 && mm_nx pcs (j + 1) (pc + 1)
    | (.iastore, _, _, _) => mm_dec cc pc .iastore 1 && mm_nx pcs (j + 1) (pc + 1)
    | (.bastore, _, _, _) => mm_dec cc pc .bastore 1 && mm_nx pcs (j + 1) (pc + 1)
    | (.arraylength, _, _, _) => mm_dec cc pc .arraylength 1 && mm_nx pcs (j + 1) (pc + 1)
    | (.goto off, x, _, _) => mm_dec cc pc (.goto off) 3 && mm_jmp pcs x pc off
    | (.ifCond q off, x, _, _) => mm_dec cc pc (.ifCond q off) 3 && mm_nx pcs (j + 1) (pc + 3) && mm_jmp pcs x pc off
    | (.if_icmp q off, x, _, _) => mm_dec cc pc (.if_icmp q off) 3 && mm_nx pcs (j + 1) (pc + 3) && mm_jmp pcs x pc off
    | (.getfield ix, x, _, ts) => mm_dec cc pc (.getfield ix) 3 && mm_nx pcs (j + 1) (pc + 3) && decide ((ci, ix, x) ∈ mm_FT) && decide (ts = [ci])
    | (.putfield ix, x, _, ts) => mm_dec cc pc (.putfield ix) 3 && mm_nx pcs (j + 1) (pc + 3) && decide ((ci, ix, x) ∈ mm_FT) && (match vwCl[ci]? with
      | some q => decide ((q.2.1 x).2.2.2 = false ∧ ((parseFieldDescriptor (q.2.1 x).2.2.1 = some .int ∧ ts = [ci]) ∨ (parseFieldDescriptor (q.2.1 x).2.2.1 = some .boolean ∧ ts = [ci, 2])))
      | none => false)
    | (.invokevirtual ix, y, _, ts) => mm_dec cc pc (.invokevirtual ix) 3 && mm_nx pcs (j + 1) (pc + 3) && decide ((ci, ix, y) ∈ mm_CT) && (match mm_MT[y]? with
      | some q => decide (ts = [q.na, q.rt, q.ci])
      | none => false)
    | (.invokestatic ix, x, _, _) => mm_dec cc pc (.invokestatic ix) 3 && mm_nx pcs (j + 1) (pc + 3) && decide ((ci, ix, x) ∈ mm_ST)
    | (.new ix, x, _, ts) => mm_dec cc pc (.new ix) 3 && mm_dec cc (pc + 3) .dup 1 && mm_dec cc (pc + 4) (.ldc (ts.headD 0)) 2 && mm_dec cc (pc + 6) (.invokespecial (ts.getD 1 0)) 3 && mm_dec cc (pc + 9) .athrow 1 && decide (ci = 7) && decide ((ix, ts.getD 1 0, x) ∈ mm_XT) && decide (ts.headD 0 ∈ mm_STR.map Prod.fst)
    | (.ireturn, _, _, _) => mm_dec cc pc .ireturn 1
    | (.return_, _, _, _) => mm_dec cc pc .return_ 1
    | (.tableswitch d lo hi offs, x, _, ts) => mm_decs cc pc (.tableswitch d lo hi offs) && mm_jmp pcs x pc d && decide (offs.size = ts.length) && (offs.toList.zip ts).all (fun q => mm_jmp pcs q.2 pc q.1)
    | (.lookupswitch d ps, x, _, ts) => mm_decs cc pc (.lookupswitch d ps) && mm_jmp pcs x pc d && decide (ps.toList.length = ts.length) && (ps.toList.zip ts).all (fun q => mm_jmp pcs q.2 pc q.1.2) && (ps.toList.zip (ps.toList.drop 1)).all (fun (a, next) => a.1 < next.1)
    | _ => true
def mm_okRs (cc : ByteArray) (ci : Nat) (pcs : List Nat) : Nat → List PI → Bool
  | _, [] => true
  | j, r :: rs => mm_okR cc ci pcs j r && mm_okRs cc ci pcs (j + 1) rs
theorem mm_okRs_at {cc : ByteArray} {ci : Nat} {pcs : List Nat} : ∀ (P : List PI) (j k : Nat) (r : PI), mm_okRs cc ci pcs j P = true → P[k]? = some r → mm_okR cc ci pcs (j + k) r = true := by
  intro P
  induction P with
  | nil => intro j k r _ h; simp at h
  | cons a P ih =>
    intro j k r h hk
    simp only [mm_okRs, Bool.and_eq_true] at h
    cases k with
    | zero => simp at hk; subst hk; exact h.1
    | succ k =>
      have := ih (j + 1) k r h.2 (by simpa using hk)
      rw [show j + (k + 1) = j + 1 + k by omega]; exact this
theorem mm_t0 : mm_okRs cX7_row 7 qX7_row 0 pX7_row = true := by decide +kernel
theorem mm_t1 : mm_okRs cX2_hasType 2 qX2_hasType 0 pX2_hasType = true := by decide +kernel
theorem mm_t2 : mm_okRs cX8_begin 8 qX8_begin 0 pX8_begin = true := by decide +kernel
theorem mm_t3 : mm_okRs cX5_openBranch 5 qX5_openBranch 0 pX5_openBranch = true := by decide +kernel
end
section
/-! THE WORLD of the small machine: 55 cells -/
def mm_rv (ad : Nat → Nat) : MV → Value
  | .inl x => .int x
  | .inr c => .ref (ad c)
theorem mm_rv_cat (ad : Nat → Nat) (v : MV) : (mm_rv ad v).category = 1 := by cases v <;> rfl
def mm_ent (cy : ClassId × ClassId × ClassId) (ad : Nat → Nat) (ov : Int64) (S : Mem) (c : Nat) : va_E := match mm_KD[c]? with
  | some (0, ci) => .inr (ci, (List.range (mm_NF[ci]?.getD 0)).map (fun k => mm_rv ad (mm_fv S c k)))
  | some (1, n) => .inl (cy.1, mm_len S c n, .inl (S c))
  | some (2, n) => .inl (cy.2.1, mm_len S c n, .inl (S c))
  | some (_, n) => .inl (cy.2.2, n, .inr (.inl (fun _ => ov)))
  | none => .inr (0, [])
def mm_W (cy : ClassId × ClassId × ClassId) (ad : Nat → Nat) (ov : Int64) (S : Mem) : va_W := (List.range 55).map (fun c => (ad c, mm_ent cy ad ov S c))
abbrev mm_ty (cy : ClassId × ClassId × ClassId) : List (ClassId × FieldType) := [(cy.1, .int), (cy.2.1, .boolean), (cy.2.2, .long)]
theorem mm_KD_lt {c : Nat} {q : Nat × Nat} (h : mm_KD[c]? = some q) : c < 55 := (List.getElem?_eq_some_iff.mp h).1
theorem mm_W_at {cy : ClassId × ClassId × ClassId} {ad : Nat → Nat} {ov : Int64} {S : Mem} {c : Nat} (hc : c < 55) : (mm_W cy ad ov S)[c]? = some (ad c, mm_ent cy ad ov S c) := by
  simp [mm_W, hc]
theorem mm_W_set {cy : ClassId × ClassId × ClassId} {ad : Nat → Nat} {ov : Int64} {S S' : Mem} {c : Nat} {e : va_E} (hc : c < 55) (h1 : mm_ent cy ad ov S' c = e) (h2 : ∀ x, x ≠ c → x < 55 → mm_ent cy ad ov S' x = mm_ent cy ad ov S x) : (mm_W cy ad ov S).set c (ad c, e) = mm_W cy ad ov S' := by
  apply List.ext_getElem?
  intro i
  by_cases hi : i < 55
  · rw [List.getElem?_set, mm_W_at hi]
    by_cases hic : c = i
    · subst hic
      simp [mm_W, hc, h1]
    · rw [if_neg hic, mm_W_at hi, h2 i (fun q => hic q.symm) hi]
  · rw [List.getElem?_eq_none (by simp [mm_W]; omega), List.getElem?_eq_none (by simp [mm_W]; omega)]
theorem mm_ent_congr {cy : ClassId × ClassId × ClassId} {ad : Nat → Nat} {ov : Int64} {S S' : Mem} {x : Nat} (h : S' x = S x) (h5 : S' 55 = S 55) : mm_ent cy ad ov S' x = mm_ent cy ad ov S x := by
  unfold mm_ent mm_fv mm_len
  rw [h, h5]
theorem mm_stc_at (S : Mem) (c : Nat) (f : Nat → Int32) : mm_stc S c f c = f := if_pos rfl
theorem mm_stc_ne (S : Mem) {c x : Nat} (f : Nat → Int32) (h : x ≠ c) : mm_stc S c f x = S x := if_neg h
theorem mm_ent_obj {cy : ClassId × ClassId × ClassId} {ad : Nat → Nat} {ov : Int64} {S : Mem} {c ci : Nat} (h : mm_KD[c]? = some (0, ci)) : mm_ent cy ad ov S c = .inr (ci, (List.range (mm_NF[ci]?.getD 0)).map (fun k => mm_rv ad (mm_fv S c k))) := by
  unfold mm_ent; rw [h]; rfl
theorem mm_ent_int {cy : ClassId × ClassId × ClassId} {ad : Nat → Nat} {ov : Int64} {S : Mem} {c n : Nat} (h : mm_KD[c]? = some (1, n)) : mm_ent cy ad ov S c = .inl (cy.1, mm_len S c n, .inl (S c)) := by
  unfold mm_ent; rw [h]; rfl
theorem mm_ent_boo {cy : ClassId × ClassId × ClassId} {ad : Nat → Nat} {ov : Int64} {S : Mem} {c n : Nat} (h : mm_KD[c]? = some (2, n)) : mm_ent cy ad ov S c = .inl (cy.2.1, mm_len S c n, .inl (S c)) := by
  unfold mm_ent; rw [h]; rfl
theorem mm_len_put (S : Mem) {c x k n : Nat} {v : Int32} (h : c ≠ 55) : mm_len (mm_put S c k v) x n = mm_len S x n := by
  unfold mm_len mm_put
  rw [mm_stc_ne _ _ (fun q => h q.symm)]
theorem mm_len_stc (S : Mem) {c x n : Nat} {f : Nat → Int32} (h : c ≠ 55) : mm_len (mm_stc S c f) x n = mm_len S x n := by
  unfold mm_len
  rw [mm_stc_ne _ _ (fun q => h q.symm)]
/-- an int array's cell is written -/
theorem mm_W_arr {cy : ClassId × ClassId × ClassId} {ad : Nat → Nat} {ov : Int64} {S : Mem} {c n : Nat} {f : Nat → Int32} (h : mm_KD[c]? = some (1, n)) : (mm_W cy ad ov S).set c (ad c, .inl (cy.1, mm_len S c n, .inl f)) = mm_W cy ad ov (mm_stc S c f) := by
  have hc := mm_KD_lt h
  refine mm_W_set hc ?_ ?_
  · rw [mm_ent_int h, mm_stc_at, mm_len_stc S (by omega)]
  · intro x hx _
    exact mm_ent_congr (mm_stc_ne _ _ hx) (mm_stc_ne _ _ (by omega))
theorem mm_W_boo {cy : ClassId × ClassId × ClassId} {ad : Nat → Nat} {ov : Int64} {S : Mem} {c n : Nat} {f : Nat → Int32} (h : mm_KD[c]? = some (2, n)) : (mm_W cy ad ov S).set c (ad c, .inl (cy.2.1, mm_len S c n, .inl f)) = mm_W cy ad ov (mm_stc S c f) := by
  have hc := mm_KD_lt h
  refine mm_W_set hc ?_ ?_
  · rw [mm_ent_boo h, mm_stc_at, mm_len_stc S (by omega)]
  · intro x hx _
    exact mm_ent_congr (mm_stc_ne _ _ hx) (mm_stc_ne _ _ (by omega))
/-- an object's number field is written -/
theorem mm_W_obj {cy : ClassId × ClassId × ClassId} {ad : Nat → Nat} {ov : Int64} {S : Mem} {c ci k : Nat} {v : Int32} (h : mm_KD[c]? = some (0, ci)) (hr : mm_rf c k = none) : (mm_W cy ad ov S).set c (ad c, .inr (ci, ((List.range (mm_NF[ci]?.getD 0)).map (fun k => mm_rv ad (mm_fv S c k))).set k (.int v))) = mm_W cy ad ov (mm_put S c k v) := by
  have hc := mm_KD_lt h
  refine mm_W_set hc ?_ ?_
  · rw [mm_ent_obj h]
    refine congrArg (fun z => Sum.inr (ci, z)) ?_
    apply List.ext_getElem?
    intro i
    rw [List.getElem?_set]
    by_cases hik : k = i
    · subst hik
      by_cases hN : k < mm_NF[ci]?.getD 0
      · simp [hN, mm_fv, hr, mm_put, mm_stc_at, upd, mm_rv]
      · simp [hN]
    · rw [if_neg hik]
      by_cases hN : i < mm_NF[ci]?.getD 0
      · have : mm_fv (mm_put S c k v) c i = mm_fv S c i := by
          unfold mm_fv mm_put
          cases mm_rf c i with
          | some t => rfl
          | none =>
            simp [mm_stc_at, upd]
            exact fun q => absurd q.symm hik
        simp [hN, this]
      · simp [hN]
  · intro x hx _
    exact mm_ent_congr (mm_stc_ne _ _ hx) (mm_stc_ne _ _ (by omega))
/-- the locals -/
def mm_lh (ad : Nat → Nat) (ls : Array Slot) (nL : Nat) (L : List (Option MV)) : Prop := ls.size = nL ∧ lv_wf ls ∧ L.length = nL ∧ (∀ (i : Nat) (v : MV), L[i]? = some (some v) → ls[i]? = some (.val (mm_rv ad v))) ∧ mm_noRmL L = true
def mm_lv (ad : Nat → Nat) (L : List (Option MV)) : List (Nat × Value) := (List.range L.length).filterMap (fun i => match L[i]? with
  | some (some v) => some (i, mm_rv ad v)
  | _ => none)
theorem mm_lv_mem {ad : Nat → Nat} {L : List (Option MV)} {q : Nat × Value} : q ∈ mm_lv ad L ↔ ∃ (i : Nat) (v : MV), L[i]? = some (some v) ∧ q = (i, mm_rv ad v) := by
  unfold mm_lv
  rw [List.mem_filterMap]
  constructor
  · rintro ⟨i, -, h⟩
    split at h
    · rename_i v hv
      exact ⟨i, v, hv, (Option.some.inj h).symm⟩
    · cases h
  · rintro ⟨i, v, hv, rfl⟩
    refine ⟨i, List.mem_range.mpr (List.getElem?_eq_some_iff.mp hv).1, ?_⟩
    rw [hv]
theorem mm_lh.has {ad : Nat → Nat} {ls : Array Slot} {nL : Nat} {L : List (Option MV)} (h : mm_lh ad ls nL L) : lv_has ls nL (mm_lv ad L) := by
  refine ⟨h.1, h.2.1, fun q hq => ?_⟩
  obtain ⟨i, v, hv, rfl⟩ := mm_lv_mem.mp hq
  exact h.2.2.2.1 i v hv
theorem mm_noRmL_set {L : List (Option MV)} {i : Nat} {y : Int32} (h : mm_noRmL L = true) : mm_noRmL (L.set i (some (.inl y))) = true := by
  unfold mm_noRmL at h ⊢
  rw [List.all_eq_true] at h ⊢
  intro z hz
  rcases List.mem_or_eq_of_mem_set hz with hz | rfl
  · exact h z hz
  · rfl
theorem mm_lh.stored {ad : Nat → Nat} {ls ls' : Array Slot} {nL i : Nat} {L : List (Option MV)} {y : Int32} (h : mm_lh ad ls nL L) (h' : lv_has ls' nL ((i, mm_rv ad (.inl y)) :: (mm_lv ad L).filter (fun q => !(q.1 == i) && !(q.1 + 1 == i && q.2.category == 2)))) : mm_lh ad ls' nL (L.set i (some (.inl y))) := by
  refine ⟨h'.1, h'.2.1, by rw [List.length_set]; exact h.2.2.1, fun j w hw => ?_, mm_noRmL_set h.2.2.2.2⟩
  rw [List.getElem?_set] at hw
  by_cases hij : i = j
  · subst hij
    rw [if_pos rfl] at hw
    split at hw
    · cases Option.some.inj (Option.some.inj hw)
      exact h'.2.2 _ List.mem_cons_self
    · cases hw
  · rw [if_neg hij] at hw
    refine h'.2.2 (j, mm_rv ad w) (List.mem_cons_of_mem _ (List.mem_filter.mpr ⟨mm_lv_mem.mpr ⟨j, w, hw, rfl⟩, ?_⟩))
    simp [mm_rv_cat]
    exact fun q => hij q.symm
/-- other addresses for the cell that grows: nothing that is held names it -/
theorem mm_lh.move {ad ad' : Nat → Nat} {ls : Array Slot} {nL : Nat} {L : List (Option MV)} (h : mm_lh ad ls nL L) (ha : ∀ c, c ≠ mm_RM → ad' c = ad c) : mm_lh ad' ls nL L := by
  have hL := h.2.2.2.2
  refine ⟨h.1, h.2.1, h.2.2.1, fun i v hv => ?_, hL⟩
  rw [h.2.2.2.1 i v hv]
  have h1 := List.all_eq_true.mp hL _ (List.mem_of_getElem? hv)
  cases v with
  | inl x => rfl
  | inr c =>
    have : c ≠ mm_RM := by intro q; subst q; simp at h1
    simp [mm_rv, ha c this]
theorem mm_rv_move {ad ad' : Nat → Nat} {st : List MV} (hL : mm_noRm st = true) (ha : ∀ c, c ≠ mm_RM → ad' c = ad c) : st.map (mm_rv ad') = st.map (mm_rv ad) := by
  apply List.map_congr_left
  intro v hv
  have h1 := List.all_eq_true.mp hL _ hv
  cases v with
  | inl x => rfl
  | inr c =>
    have : c ≠ mm_RM := by intro q; subst q; simp at h1
    simp [mm_rv, ha c this]
end
section
/-! THE SOUNDNESS of the small machine -/
def mm_exn (kd : Nat) : String := match kd with
  | 1 => "java/lang/IllegalStateException"
  | 2 => "java/lang/IllegalArgumentException"
  | 3 => "java/lang/IndexOutOfBoundsException"
  | 4 => "java/lang/UnsupportedOperationException"
  | _ => "java/util/NoSuchElementException"
def mm_rm (d kc ks : Nat) : Room := { frames := d + 8, cells := kc, slots := ks, locals := 40 * d + 200 }
def mm_ws (q : MI) : List Cond := .code q.nm q.cc q.mL (mm_rty q.rt) :: mm_ut
/-- what exceptions need of the start: two statics of Throwable, the texts, the words that aren't of every later table -/
def mm_cd (w : Cond) : Bool := match w with
  | .castable .. => true
  | .declares _ => true
  | _ => false
def mm_bw : List Cond := lw_tbl.filter mm_cd
def mm_EX (A : Nat → Prop) (U : State) : Prop := vx_Zq Bundle.tN "UNASSIGNED_STACK" Bundle.steD A U U.heap ∧ vx_Zq Bundle.tN "SUPPRESSED_SENTINEL" Bundle.listD A U U.heap ∧ (∀ w ∈ mm_bw, w.before #[] U = true) ∧ ∀ t ∈ mm_STR, ∃ sa, vk_R RX7 t.1 t.2 sa U
theorem mm_cd_at {w : Cond} (hw : mm_cd w = true) {a a' : Array Value} {s U : State} (hW : s.WarmedH U.vm) (h : w.before a s = true) : w.before a' U = true := by
  have hot : w.onTables = true := by cases w <;> first | rfl | cases hw
  have hok : w.warmOk s := by cases w <;> first | trivial | cases hw
  have h1 := Cond.before_warmed (args := a) hW w hok h
  have e := Cond.onTables_vm (A := a) (A' := a') (U := s) (U' := U) U.vm w hot
  rw [h1] at e
  exact e.symm
def mm_B (D : va_G) (cy : ClassId × ClassId × ClassId) (A : Nat → Prop) (ad0 : Nat → Nat) (ov : Int64) (u : Mem) (t : State) : Prop :=
  ∃ ad : Nat → Nat, (∀ c, c ≠ mm_RM → ad c = ad0 c) ∧ va_P D vwCl (mm_W cy ad ov u) t.heap ∧ va_K D vwCl (mm_ty cy) t ∧ va_D A (mm_W cy ad ov u)
def mm_Qc (D : va_G) (cy : ClassId × ClassId × ClassId) (A : Nat → Prop) (ad0 : Nat → Nat) (ov : Int64) (rt : Nat) (r : Res) : Array Value → State → Outcome → State → Prop :=
  if rt = 0 then va_Qv (fun u : Mem => u = r.1 ∧ r.2.2.2.1 = 0) (mm_B D cy A ad0 ov) A else va_Qi (fun (a : Int32) (u : Mem) => a = r.2.2.2.2 ∧ u = r.1 ∧ r.2.2.2.1 = 0) (mm_B D cy A ad0 ov) A
def mm_XC (D : va_G) (cy : ClassId × ClassId × ClassId) (A : Nat → Prop) (ad0 : Nat → Nat) (ov : Int64) (r : Res) : String → State → State → Prop :=
  vx_X (fun u : Mem => u = r.1 ∧ r.2.2.2.1 ≠ 0) (fun E u t => E = mm_exn r.2.2.2.1 ∧ mm_B D cy A ad0 ov u t) A
def mm_Pc (D : va_G) (cy : ClassId × ClassId × ClassId) (ad : Nat → Nat) (ov : Int64) (sz : Nat) (S : Mem) (av : List Value) : Array Value → State → Prop :=
  va_Pc av (fun U => U.heap.size = sz ∧ va_P D vwCl (mm_W cy ad ov S) U.heap ∧ va_K D vwCl (mm_ty cy) U ∧ va_D (fun _ => True) (mm_W cy ad ov S) ∧ mm_EX (va_A (mm_W cy ad ov S) sz) U)
/-- the contract of a call -/
def mm_Con (l : Launch) (D : va_G) (cy : ClassId × ClassId × ClassId) (d : Nat) (q : MI) (as : List MV) (S : Mem) (r : Res) : Prop := ∀ (ad : Nat → Nat) (ov : Int64) (sz : Nat),
  vx_Met l q.nm (mm_ws q) (mm_rm d r.2.1 r.2.2.1) (mm_Pc D cy ad ov sz S (as.map (mm_rv ad))) (mm_Qc D cy (va_A (mm_W cy ad ov S) sz) ad ov q.rt r) (mm_XC D cy (va_A (mm_W cy ad ov S) sz) ad ov r) r.2.1 r.2.2.1 (va_A (mm_W cy ad ov S) sz)
/-- the classes' fields, by the printed rows -/
theorem mm_CL_ok : ∀ (ci : Nat) (q : vw_C), vwCl[ci]? = some q → (∀ w ∈ u_ws q.1 q.2.1 q.2.2, w ∈ mm_ut) ∧ mm_NF[ci]? = some q.2.2 ∧ (∃ ty0 : Nat → FieldType, ∀ k, k < q.2.2 → parseFieldDescriptor (q.2.1 k).2.2.1 = some (ty0 k)) ∧ (∀ a, a < q.2.2 → ∀ b, b < q.2.2 → a ≠ b → (q.2.1 a).2.1 ≠ (q.2.1 b).2.1) := by
  intro ci q h
  match ci, h with
  | 0, h => cases h; exact ⟨by decide +kernel, rfl, ⟨tyX0, tyX0_ok⟩, nmX0⟩
  | 1, h => cases h; exact ⟨by decide +kernel, rfl, ⟨tyX1, tyX1_ok⟩, nmX1⟩
  | 2, h => cases h; exact ⟨by decide +kernel, rfl, ⟨tyX2, tyX2_ok⟩, nmX2⟩
  | 3, h => cases h; exact ⟨by decide +kernel, rfl, ⟨tyX3, tyX3_ok⟩, nmX3⟩
  | 4, h => cases h; exact ⟨by decide +kernel, rfl, ⟨tyX4, tyX4_ok⟩, nmX4⟩
  | 5, h => cases h; exact ⟨by decide +kernel, rfl, ⟨tyX5, tyX5_ok⟩, nmX5⟩
  | 6, h => cases h; exact ⟨by decide +kernel, rfl, ⟨tyX6, tyX6_ok⟩, nmX6⟩
  | 7, h => cases h; exact ⟨by decide +kernel, rfl, ⟨tyX7, tyX7_ok⟩, nmX7⟩
  | 8, h => cases h; exact ⟨by decide +kernel, rfl, ⟨tyX8, tyX8_ok⟩, nmX8⟩
  | n + 9, h => simp [vwCl] at h
/-- the word that stands at a place -/
def mm_wi (i : Nat) (w : Cond) : Bool := decide (lw_tbl[i]? = some w) && goodWord w
theorem mm_wi_spec {i : Nat} {w : Cond} (h : mm_wi i w = true) : w ∈ mm_ut := by
  unfold mm_wi at h
  simp only [Bool.and_eq_true, decide_eq_true_eq] at h
  exact mm_in_ut (List.mem_of_getElem? h.1) h.2
theorem mm_zip_at {α β : Type} {l : List α} {l' : List β} {f : α × β → Bool} (h : (l.zip l').all f = true) (hl : l.length = l'.length) {a : α} (ha : a ∈ l) : ∃ b, f (a, b) = true := by
  obtain ⟨i, hi⟩ := List.getElem?_of_mem ha
  have hlt : i < l'.length := by rw [← hl]; exact (List.getElem?_eq_some_iff.mp hi).1
  have h2 : (l.zip l')[i]? = some (a, l'[i]) := by
    rw [List.getElem?_zip_eq_some]
    exact ⟨hi, List.getElem?_eq_getElem hlt⟩
  exact ⟨l'[i], List.all_eq_true.mp h _ (List.mem_of_getElem? h2)⟩
def mm_okF (t : (Nat × Nat × Nat) × Nat) : Bool := match vwCl[t.1.1]? with
  | some q => decide (t.1.2.2 < q.2.2) && mm_wi t.2 (Cond.fieldLink q.1 t.1.2.1 (q.2.1 t.1.2.2).1 (q.2.1 t.1.2.2).2.1 (q.2.1 t.1.2.2).2.2.1)
  | none => false
theorem mm_FT_ok : (mm_FT.zip mm_FW).all mm_okF = true := by decide +kernel
theorem mm_FT_spec {ci ix x : Nat} {q : vw_C} (h : (ci, ix, x) ∈ mm_FT) (hq : vwCl[ci]? = some q) : x < q.2.2 ∧ Cond.fieldLink q.1 ix (q.2.1 x).1 (q.2.1 x).2.1 (q.2.1 x).2.2.1 ∈ mm_ut := by
  obtain ⟨b, h1⟩ := mm_zip_at mm_FT_ok rfl h
  unfold mm_okF at h1
  rw [hq] at h1
  simp only [Bool.and_eq_true, decide_eq_true_eq] at h1
  exact ⟨h1.1, mm_wi_spec h1.2⟩
theorem mm_cls_spec {c ci : Nat} (h : mm_cls c ci = true) : mm_KD[c]? = some (0, ci) := by
  unfold mm_cls at h
  split at h
  · rename_i q hq
    rw [hq, Nat.eq_of_beq_eq_true h]
  · cases h
theorem mm_nar_bool {a : Int32} (h : a = 0 ∨ a = 1) : narrow .boolean (.int a) = .int a := by
  rcases h with rfl | rfl <;> rfl
theorem mm_fit_bool {a : Int32} (h : a = 0 ∨ a = 1) : fits .boolean (.int a) = true := by
  rcases h with rfl | rfl <;> rfl
def mm_sname (x : Nat) : MethodName := match x with
  | 0 => Lib.Math.min.name
  | 1 => Lib.Math.max.name
  | _ => arraycopyName
def mm_okS (t : (Nat × Nat × Nat) × Nat) : Bool := match vwCl[t.1.1]? with
  | some q => mm_wi t.2 (Cond.methodLink q.1 t.1.2.1 (mm_sname t.1.2.2))
  | none => false
theorem mm_ST_ok : (mm_ST.zip mm_SW).all mm_okS = true := by decide +kernel
theorem mm_ST_spec {ci ix x : Nat} {q : vw_C} (h : (ci, ix, x) ∈ mm_ST) (hq : vwCl[ci]? = some q) : Cond.methodLink q.1 ix (mm_sname x) ∈ mm_ut := by
  obtain ⟨b, h1⟩ := mm_zip_at mm_ST_ok rfl h
  unfold mm_okS at h1
  rw [hq] at h1
  exact mm_wi_spec h1
def mm_jw : List Cond := [Cond.static Lib.Math.min.name, Cond.initialized "java/lang/Math", Cond.code Lib.Math.min.name Lib.Math.min.code 2 (some .int), Cond.static Lib.Math.max.name, Cond.code Lib.Math.max.name Lib.Math.max.code 2 (some .int), Cond.static arraycopyName, Cond.initialized "java/lang/System", Cond.native arraycopyName]
theorem mm_JW_ok : (mm_jw.zip mm_JW).all (fun t => mm_wi t.2 t.1) = true := by decide +kernel
theorem mm_jw_in {w : Cond} (h : w ∈ mm_jw) : w ∈ mm_ut := by
  obtain ⟨b, h1⟩ := mm_zip_at mm_JW_ok rfl h
  exact mm_wi_spec h1
def mm_okC (t : (Nat × Nat × Nat) × Nat) : Bool := match vwCl[t.1.1]?, mm_MT[t.1.2.2]? with
  | some q, some y => mm_wi t.2 (Cond.methodLink q.1 t.1.2.1 y.nm)
  | _, _ => false
theorem mm_CT_ok : (mm_CT.zip mm_CW).all mm_okC = true := by decide +kernel
theorem mm_CT_spec {ci ix y : Nat} {q : vw_C} {mi : MI} (h : (ci, ix, y) ∈ mm_CT) (hq : vwCl[ci]? = some q) (hy : mm_MT[y]? = some mi) : Cond.methodLink q.1 ix mi.nm ∈ mm_ut := by
  obtain ⟨b, h1⟩ := mm_zip_at mm_CT_ok rfl h
  unfold mm_okC at h1
  rw [hq, hy] at h1
  exact mm_wi_spec h1
/-- a method's own words -/
def mm_okW (t : MI × (Nat × Nat × Nat × Nat)) : Bool := match vwCl[t.1.ci]? with
  | some q => mm_wi t.2.1 (Cond.instanceMethod t.1.nm) && mm_wi t.2.2.1 (Cond.selects q.1 t.1.nm t.1.nm) && mm_wi t.2.2.2.1 (Cond.initialized q.1) && decide (t.1.nm.cls = q.1) && plainName t.1.nm.cls && decide (t.1.nm.cls ≠ "java/lang/invoke/MethodHandle") && decide (t.1.nm.cls ≠ "java/lang/invoke/VarHandle") && decide ((parseMethodDescriptor t.1.nm.desc).map (fun d => d.parameters.length) = some t.1.na) && decide (t.1.mL ≤ 21) && decide (t.1.na + 1 ≤ t.1.mL)
  | none => false
theorem mm_decs_spec {cc : ByteArray} {pc : Nat} {i : Instr} (h : mm_decs cc pc i = true) : ∃ n, decode cc pc = .ok (i, n) := by
  unfold mm_decs at h
  split at h
  · rename_i i' n hd
    exact ⟨n, by rw [hd, of_decide_eq_true h]⟩
  · cases h
theorem mm_cats (ad : Nat → Nat) (st : List MV) : ((st.map (mm_rv ad)).map fun v => v.category).sum = st.length := by
  induction st with
  | nil => rfl
  | cons a r ih =>
    simp only [List.map_cons, List.sum_cons, List.length_cons]
    rw [ih, mm_rv_cat]; omega
theorem mm_EX_at {A B : Nat → Prop} {s U : State} {H : Heap} {locs : List Loc} (h : mm_EX A s) (hS : va_S A s.heap H locs) (hAB : ∀ z, B z → A z) (hU : U.heap = H) (hW : s.WarmedH U.vm) : mm_EX B U := by
  obtain ⟨h1, h2, h3, h4⟩ := h
  refine ⟨?_, ?_, fun w hw => mm_cd_at (List.mem_filter.mp hw).2 hW (h3 w hw), fun t ht => ?_⟩
  · rw [hU]; exact vx_Zq.moved hW.alike ((h1.kept hS.2.1).narrow hAB)
  · rw [hU]; exact vx_Zq.moved hW.alike ((h2.kept hS.2.1).narrow hAB)
  · obtain ⟨sa, h5⟩ := h4 t ht
    exact ⟨sa, vk_R.warm hW h5⟩
theorem mm_EX_call {B : Nat → Prop} {U : State} {g : JFrame} {mk : MethodId} {a : Array Value} (h : mm_EX B U) : mm_EX B (U.calling g mk a) := by
  have hW : U.WarmedH (U.calling g mk a).vm := State.WarmedH.refl U
  exact mm_EX_at (H := U.heap) (locs := []) h va_S.rf (fun _ z => z) rfl hW
abbrev mm_en : List String := ["java/lang/RuntimeException", "java/lang/Exception"]
end
section
theorem mm_XT_a : mm_XT.all (fun t => decide (Cond.classLink RX7 t.1 (mm_exn t.2.2) ∈ mm_ut) && decide (Cond.initialized (mm_exn t.2.2) ∈ mm_ut)) = true := by decide +kernel
theorem mm_XT_b : mm_XT.all (fun t => Bundle.fit (mm_exn t.2.2)) = true := by decide +kernel
theorem mm_XT_c : mm_XT.all (fun t => decide (t.2.2 ≠ 0)) = true := by decide +kernel
theorem mm_XT_e : mm_XT.all (fun t => (vx_atS RX7 t.2.1 (mm_exn t.2.2) mm_en).all (fun w => vx_ot w && (goodWord w || mm_cd w))) = true := by decide +kernel
theorem mm_XT_f : mm_XT.all (fun t => vx_ot (Cond.classLink RX7 t.1 (mm_exn t.2.2)) && vx_ot (Cond.initialized (mm_exn t.2.2))) = true := by decide +kernel
theorem mm_fit_en : ∀ n ∈ mm_en, Bundle.fit n = true := by decide +kernel
theorem mm_XT_d1 : ∀ w ∈ vx_atS RX7 85 (mm_exn 1) mm_en, w ∈ lw_tbl := by decide +kernel
theorem mm_XT_d3 : ∀ w ∈ vx_atS RX7 103 (mm_exn 3) mm_en, w ∈ lw_tbl := by decide +kernel
theorem mm_XT_d2 : ∀ w ∈ vx_atS RX7 141 (mm_exn 2) mm_en, w ∈ lw_tbl := by decide +kernel
theorem mm_XT_d4 : ∀ w ∈ vx_atS RX7 174 (mm_exn 4) mm_en, w ∈ lw_tbl := by decide +kernel
theorem mm_XT_at {ix ic x : Nat} (h : (ix, ic, x) ∈ mm_XT) (h5 : x ≠ 5) : ∀ w ∈ vx_atS RX7 ic (mm_exn x) mm_en, w ∈ lw_tbl := by
  simp only [mm_XT, List.mem_cons, List.not_mem_nil, or_false, Prod.mk.injEq] at h
  rcases h with ⟨-, rfl, rfl⟩ | ⟨-, rfl, rfl⟩ | ⟨-, rfl, rfl⟩ | ⟨-, rfl, rfl⟩ | ⟨-, rfl, rfl⟩
  · exact mm_XT_d1
  · exact mm_XT_d3
  · exact mm_XT_d2
  · exact mm_XT_d4
  · exact absurd rfl h5
end
section
theorem mm_MT_ok : (mm_MT.zip mm_MW).all mm_okW = true := by decide +kernel
theorem mm_good_code (a : MethodName) (b : ByteArray) (n : Nat) (d : Option FieldType) : goodWord (Cond.code a b n d) = true := rfl
theorem mm_cw_mem {l : List MI} {ix : List Nat} (h : l.map (fun q => some (Cond.code q.nm q.cc q.mL (mm_rty q.rt))) = ix.map (fun i => lw_tbl[i]?)) {q : MI} (hq : q ∈ l) : Cond.code q.nm q.cc q.mL (mm_rty q.rt) ∈ mm_ut := by
  have h1 : some (Cond.code q.nm q.cc q.mL (mm_rty q.rt)) ∈ ix.map (fun i => lw_tbl[i]?) := by rw [← h]; exact List.mem_map.mpr ⟨q, hq, rfl⟩
  obtain ⟨i, -, hi⟩ := List.mem_map.mp h1
  exact mm_in_ut (List.mem_of_getElem? hi) (mm_good_code _ _ _ _)
set_option maxRecDepth 100000 in
set_option maxHeartbeats 4000000 in
theorem mm_cw0 : mm_MT0.map (fun q => some (Cond.code q.nm q.cc q.mL (mm_rty q.rt))) = [609, 853, 857, 888, 879, 883, 297, 324, 526, 535, 531, 562, 586, 590, 582, 541, 304, 312, 316, 426].map (fun i => lw_tbl[i]?) := rfl
set_option maxRecDepth 100000 in
set_option maxHeartbeats 4000000 in
theorem mm_cw1 : mm_MT1.map (fun q => some (Cond.code q.nm q.cc q.mL (mm_rty q.rt))) = [477, 446, 493, 473, 485, 489, 481, 410, 464, 469, 456, 320, 578, 594, 663, 667, 952, 959, 972, 977].map (fun i => lw_tbl[i]?) := rfl
set_option maxRecDepth 100000 in
set_option maxHeartbeats 4000000 in
theorem mm_cw2 : mm_MT2.map (fun q => some (Cond.code q.nm q.cc q.mL (mm_rty q.rt))) = [963, 617, 764, 728, 752, 720, 775, 748, 740, 675, 736, 760, 768, 783, 622, 650, 679, 687, 691, 788].map (fun i => lw_tbl[i]?) := rfl
set_option maxRecDepth 100000 in
set_option maxHeartbeats 4000000 in
theorem mm_cw3 : mm_MT3.map (fun q => some (Cond.code q.nm q.cc q.mL (mm_rty q.rt))) = [793, 659, 654, 732, 683, 645, 695, 626, 460, 813, 285, 328, 289, 700, 724, 744, 756, 866, 779, 875].map (fun i => lw_tbl[i]?) := rfl
set_option maxRecDepth 100000 in
set_option maxHeartbeats 4000000 in
theorem mm_cw4 : mm_MT4.map (fun q => some (Cond.code q.nm q.cc q.mL (mm_rty q.rt))) = [841, 968, 870, 862, 900, 716, 708, 712, 704, 336, 418, 500, 508, 517, 572, 605, 821, 281, 848, 895].map (fun i => lw_tbl[i]?) := rfl
set_option maxRecDepth 100000 in
set_option maxHeartbeats 4000000 in
theorem mm_cw5 : mm_MT5.map (fun q => some (Cond.code q.nm q.cc q.mL (mm_rty q.rt))) = [907, 916, 943, 293, 308, 422, 452, 521, 920, 926, 931, 948, 613, 671, 1102, 1114, 1122, 1142, 1106, 1118].map (fun i => lw_tbl[i]?) := rfl
set_option maxRecDepth 100000 in
set_option maxHeartbeats 4000000 in
theorem mm_cw6 : mm_MT6.map (fun q => some (Cond.code q.nm q.cc q.mL (mm_rty q.rt))) = [1110, 1134, 1138, 1130, 1126, 1146, 1154, 1158, 1150, 1162, 1166, 1170, 1186, 1182, 1190, 1178, 1174, 1214, 1206, 1210].map (fun i => lw_tbl[i]?) := rfl
set_option maxRecDepth 100000 in
set_option maxHeartbeats 4000000 in
theorem mm_cw7 : mm_MT7.map (fun q => some (Cond.code q.nm q.cc q.mL (mm_rty q.rt))) = [1218, 1222, 1226, 1202, 1198, 1194, 1234, 1238, 1230, 1242, 1246, 1251, 1255, 1259, 1263].map (fun i => lw_tbl[i]?) := rfl
theorem mm_code_in {q : MI} (hq : q ∈ mm_MT) : Cond.code q.nm q.cc q.mL (mm_rty q.rt) ∈ mm_ut := by
  unfold mm_MT at hq
  simp only [List.mem_append] at hq
  rcases hq with h | h | h | h | h | h | h | h
  · exact mm_cw_mem mm_cw0 h
  · exact mm_cw_mem mm_cw1 h
  · exact mm_cw_mem mm_cw2 h
  · exact mm_cw_mem mm_cw3 h
  · exact mm_cw_mem mm_cw4 h
  · exact mm_cw_mem mm_cw5 h
  · exact mm_cw_mem mm_cw6 h
  · exact mm_cw_mem mm_cw7 h
theorem mm_MT_spec {y : Nat} {q : MI} {w : vw_C} (h : mm_MT[y]? = some q) (hq : vwCl[q.ci]? = some w) : (∀ (own : String) (ix : Nat), Cond.methodLink own ix q.nm ∈ mm_ut → GoodIn mm_ut (wsV own ix w.1 q.nm (mm_ws q))) ∧ (q.nm.cls = w.1 ∧ q.nm.cls ≠ "java/lang/invoke/MethodHandle" ∧ q.nm.cls ≠ "java/lang/invoke/VarHandle" ∧ (parseMethodDescriptor q.nm.desc).map (fun d => d.parameters.length) = some q.na) ∧ plainName q.nm.cls = true ∧ q.mL ≤ 21 ∧ q.na + 1 ≤ q.mL := by
  obtain ⟨b, h1⟩ := mm_zip_at mm_MT_ok rfl (List.mem_of_getElem? h)
  unfold mm_okW at h1
  rw [hq] at h1
  simp only [Bool.and_eq_true, decide_eq_true_eq] at h1
  obtain ⟨⟨⟨⟨⟨⟨⟨⟨⟨h1, h2⟩, h3⟩, h5⟩, h6⟩, h7⟩, h8⟩, h9⟩, h10⟩, h11⟩ := h1
  refine ⟨fun own ix hl w9 hw => ?_, ⟨h5, h7, h8, h9⟩, h6, h10, h11⟩
  have hm : w9 ∈ mm_ut := by
    simp only [wsV, mm_ws, List.cons_append, List.nil_append, List.mem_cons] at hw
    rcases hw with rfl | rfl | rfl | rfl | rfl | hw
    · exact hl
    · exact mm_wi_spec h1
    · exact mm_wi_spec h2
    · exact mm_wi_spec h3
    · exact mm_code_in (List.mem_of_getElem? h)
    · exact hw
  exact ⟨hm, good_of_word (mm_ut_good hm)⟩
end
section
section MMS
variable {p : Program} {l : Launch} {e : Env} {R : Room} {s : State} {m : MethodId} {args : Array Value} {below : List Frame} {meth : Method} {c : Code}
/-- what stands fast in a method's body -/
def mm_Cx (p : Program) (l : Launch) (e : Env) (s : State) (m : MethodId) (args : Array Value) (below : List Frame) (meth : Method) (c : Code) (D : va_G) (cy : ClassId × ClassId × ClassId) (A : Nat → Prop) (q : MI) (own : String) : Prop :=
  p.tables.exec = Jvm.exec ∧ c.code = q.cc ∧ c.maxLocals = q.mL ∧ s.vm.findClass own = some m.cls ∧ (∀ w ∈ mm_ut, w.before args s = true) ∧ va_K D vwCl (mm_ty cy) s ∧ (∀ x ∈ c.exceptionTable.toList, False) ∧ meth.locks = false ∧ meth.sig.returnType = mm_rty q.rt ∧ (∀ z : Nat, s.heap.size ≤ z → A z) ∧ mm_EX A s ∧ l.stackTraces = false ∧ (∃ T N, vwCl[q.ci]? = some (own, T, N))
/-- the walk from a row on, for every heap that holds the memory -/
def mm_G (p : Program) (l : Launch) (e : Env) (R : Room) (s : State) (m : MethodId) (args : Array Value) (below : List Frame) (meth : Method) (c : Code) (D : va_G) (cy : ClassId × ClassId × ClassId) (A : Nat → Prop) (ad0 : Nat → Nat) (ov : Int64) (q : MI) (r : Res) (j : Nat) (L : List (Option MV)) (st : List MV) (S : Mem) (kc ks : Nat) : Prop :=
  ∀ (ad : Nat → Nat) (H : Heap) (locs : List Loc) (ls : Array Slot) (pc : Nat), (∀ z, z ≠ mm_RM → ad z = ad0 z) → q.pcs[j]? = some pc → va_P D vwCl (mm_W cy ad ov S) H → va_D A (mm_W cy ad ov S) → va_S A s.heap H locs → mm_lh ad ls q.mL L →
    W p l e R s m args below meth c H locs kc ks (vx_MQ below (mm_Qc D cy A ad0 ov q.rt r) (mm_XC D cy A ad0 ov r) args s r.2.1 r.2.2.1 A) (F0 m pc ls (st.map (mm_rv ad)))
theorem mm_nx_spec {pcs : List Nat} {j pc : Nat} (h : mm_nx pcs j pc = true) : pcs[j]? = some pc := of_decide_eq_true h
theorem mm_dec_spec {cc : ByteArray} {pc n : Nat} {i : Instr} (h : mm_dec cc pc i n = true) : decode cc pc = .ok (i, n) := of_decide_eq_true h
theorem mm_jmp_spec {pcs : List Nat} {x pc : Nat} {off : Int} (h : mm_jmp pcs x pc off = true) : ∃ t : Nat, pcs[x]? = some t ∧ (pc : Int) + off = (t : Int) := by
  unfold mm_jmp at h
  split at h
  · rename_i t ht
    exact ⟨t, ht, of_decide_eq_true h⟩
  · cases h
theorem mm_lk_spec {pcs : List Nat} {pc x : Nat} {d : Int} {k : Int} (hd : mm_jmp pcs x pc d = true) : ∀ (ps : List (Int × Int)) (ts : List Nat), ps.length = ts.length → (ps.zip ts).all (fun q => mm_jmp pcs q.2 pc q.1.2) = true → mm_jmp pcs (mm_lk ps ts x k) pc (Op.lookupswitch.offset ps d k) = true := by
  intro ps
  induction ps with
  | nil => intro ts _ _; cases ts <;> exact hd
  | cons a r ih =>
    intro ts hl h
    cases ts with
    | nil => simp at hl
    | cons t ts =>
      simp only [List.zip_cons_cons, List.all_cons, Bool.and_eq_true] at h
      obtain ⟨a1, a2⟩ := a
      rw [Op.lookupswitch.offset_cons]
      unfold mm_lk
      by_cases hk : a1 = k
      · simp only [hk, if_true]; exact h.1
      · simp only [hk, if_false]; exact ih ts (by simpa using hl) h.2
set_option maxHeartbeats 4000000 in
set_option maxRecDepth 100000 in
/-- a call of a method of the table -/
theorem mm_sound_call {D : va_G} {cy : ClassId × ClassId × ClassId} {A : Nat → Prop} {ad0 : Nat → Nat} {ov : Int64} {q : MI} {own : String} {r : Res} {call : Nat → List MV → Mem → Option Res} {k : Kt} {j : Nat} {L : List (Option MV)} {S : Mem} {kc ks : Nat} {st : List MV} {d : Nat}
    (C0 : mm_Cx p l e s m args below meth c D cy A q own) (hR : R.cells = r.2.1 ∧ R.slots = r.2.2.1 ∧ d + 9 ≤ R.frames ∧ 40 * d + 240 ≤ R.locals)
    (hcall : ∀ y as S r' mi, call y as S = some r' → mm_MT[y]? = some mi → mm_Con l D cy d mi as S r') (hkm : ∀ j L st S kc ks, k j L st S kc ks = some r → kc ≤ r.2.1 ∧ ks ≤ r.2.2.1)
    (hk : ∀ j L st S kc ks, k j L st S kc ks = some r → mm_G p l e R s m args below meth c D cy A ad0 ov q r j L st S kc ks)
    {x ix pc : Nat} {mi : MI} {b9 : Nat} {r9 : List MV} (hd1 : decode q.cc pc = .ok (.invokevirtual ix, 3)) (hd2 : q.pcs[j + 1]? = some (pc + 3)) (hlk : Cond.methodLink own ix mi.nm ∈ mm_ut) (hmi : mm_MT[x]? = some mi) (hdrop : st.drop mi.na = .inr b9 :: r9)
    (hc1 : mm_KD[b9]? = some (0, mi.ci)) (hc2 : mm_noRm r9 = true) (hc4 : r9.length ≤ 8)
    (h : (match call x (.inr b9 :: (st.take mi.na).reverse) S with
          | some (S', c', s', 0, a) => k (j + 1) L (mm_psh mi.rt a r9) S' (kc + c') (ks + s')
          | some (S', c', s', e + 1, _) => some (S', kc + c', ks + s', e + 1, 0)
          | none => none) = some r)
    {ad : Nat → Nat} {H : Heap} {locs : List Loc} {ls : Array Slot} (had : ∀ z, z ≠ mm_RM → ad z = ad0 z) (hP : va_P D vwCl (mm_W cy ad ov S) H) (hD : va_D A (mm_W cy ad ov S)) (hS : va_S A s.heap H locs) (hl : mm_lh ad ls q.mL L) (hFc : ∀ z, va_A (mm_W cy ad ov S) H.size z → A z) :
    W p l e R s m args below meth c H locs kc ks (vx_MQ below (mm_Qc D cy A ad0 ov q.rt r) (mm_XC D cy A ad0 ov r) args s r.2.1 r.2.2.1 A) (F0 m pc ls (st.map (mm_rv ad))) := by
  obtain ⟨hx, hb, hml, hown, hts, hK, hex, hlocks, hret, hA, hEX, hst, hcl⟩ := C0
  obtain ⟨hR1, hR2, hR3, hR4⟩ := hR
  have hst1 : st.map (mm_rv ad) = ((st.take mi.na).reverse.map (mm_rv ad)).reverse ++ .ref (ad b9) :: r9.map (mm_rv ad) := by
    rw [← List.map_reverse, List.reverse_reverse]
    conv => lhs; rw [← List.take_append_drop mi.na st, hdrop]
    rw [List.map_append]; rfl
  have hna : ((st.take mi.na).reverse.map (mm_rv ad)).length = mi.na := by
    have h9 : mi.na < st.length := by
      rcases Nat.lt_or_ge mi.na st.length with z | z
      · exact z
      · rw [List.drop_eq_nil_of_le z] at hdrop; cases hdrop
    simp; omega
  obtain ⟨w, hw⟩ : ∃ w, vwCl[mi.ci]? = some w := by
    have h9 := List.all_eq_true.mp mm_MT_ok
    obtain ⟨b, h8⟩ := mm_zip_at mm_MT_ok rfl (List.mem_of_getElem? hmi)
    unfold mm_okW at h8
    split at h8
    · rename_i w hw; exact ⟨w, hw⟩
    · cases h8
  obtain ⟨hgood, hcls, hpl, hmL, hnaL⟩ := mm_MT_spec hmi hw
  have hKm : ∀ {U : State}, s.WarmedH U.vm → va_K D vwCl (mm_ty cy) U := fun hW => va_K.moved hW.alike hK
  -- the callee's run
  have run : ∀ r' : Res, call x (.inr b9 :: (st.take mi.na).reverse) S = some r' → kc + r'.2.1 ≤ R.cells ∧ ks + r'.2.2.1 ≤ R.slots →
      vx_Run p l e R s m args below meth c H locs kc ks r'.2.1 r'.2.2.1 (F0 m pc ls (st.map (mm_rv ad))) (r9.map (mm_rv ad)) (mm_Qc D cy (va_A (mm_W cy ad ov S) H.size) ad ov mi.rt r' (Value.ref (ad b9) :: (st.take mi.na).reverse.map (mm_rv ad)).toArray) (mm_XC D cy (va_A (mm_W cy ad ov S) H.size) ad ov r') (va_A (mm_W cy ad ov S) H.size) := by
    intro r' hr' hroom
    have hM := hcall _ _ _ _ _ hr' hmi ad ov H.size
    refine vx_runV (As := (st.take mi.na).reverse.map (mm_rv ad)) (C := w.1) (b := ad b9) (n := mi.na) ⟨hx, hb, hml, hown, hts⟩ hM (cwV mi.na hts (hgood own ix hlk) rfl rfl rfl hcls ⟨?_, ?_⟩) ⟨?_, ?_, ?_⟩ rfl hna hl.1 hst1 ?_ hd1 hroom
    · show d + 8 + 1 ≤ _; omega
    · show 8 + (mi.mL + 11) + (40 * d + 200) ≤ _; omega
    · intro a U g mk qq
      obtain ⟨q0, q1, qP, qK, qD, qE⟩ := qq
      refine ⟨q0, q1, qP, va_K.moved (u := U) (U := U.calling g mk a) (Vm.Alike.refl U.vm) qK, qD, ?_⟩
      exact mm_EX_call qE
    · exact va_recv hK hP (ci := mi.ci) (q0 := b9) hw (by rw [mm_W_at (mm_KD_lt hc1), mm_ent_obj hc1])
    · intro U hU hW
      exact ⟨rfl, by rw [hU], by rw [hU]; exact hP, hKm hW, hD.weaken (fun _ _ _ _ => trivial), mm_EX_at hEX hS hFc hU hW⟩
    · exact lv_room (by rw [mm_cats]; exact hc4)
  split at h
  · rename_i S' c' s' a' hr'
    have hb9 := hkm _ _ _ _ _ _ h
    have hrun := run _ hr' ⟨by rw [hR1]; exact hb9.1, by rw [hR2]; exact hb9.2⟩
    have back : ∀ (u : Mem) (t : State) (H1 : Heap) (locs1 : List Loc), t.heap = H1 → s.vm.Alike t.vm → u = S' → mm_B D cy (va_A (mm_W cy ad ov S) H.size) ad ov u t → va_S A s.heap H1 locs1 →
        W p l e R s m args below meth c H1 locs1 (kc + c') (ks + s') (vx_MQ below (mm_Qc D cy A ad0 ov q.rt r) (mm_XC D cy A ad0 ov r) args s r.2.1 r.2.2.1 A) (F0 m (pc + 3) ls ((mm_psh mi.rt a' r9).map (mm_rv ad))) := by
      intro u t H1 locs1 ht hal hu hB hS1
      subst hu
      obtain ⟨ad', had', hP1, -, hD1⟩ := hB
      rw [ht] at hP1
      have hmv : (mm_psh mi.rt a' r9).map (mm_rv ad) = (mm_psh mi.rt a' r9).map (mm_rv ad') := by
        unfold mm_psh
        split
        · exact (mm_rv_move hc2 had').symm
        · rw [List.map_cons, List.map_cons, mm_rv_move hc2 had']; rfl
      rw [hmv]
      exact hk _ _ _ _ _ _ h ad' H1 locs1 ls _ (fun z hz => (had' z hz).trans (had z hz)) hd2 hP1 (hD1.weaken (fun _ z _ hz => hFc _ hz)) hS1 (hl.move had')
    by_cases hrt : mi.rt = 0
    · unfold mm_Qc at hrun
      rw [if_pos hrt] at hrun
      refine vx_callv hrun hS (fun z _ hz => hFc z hz) hFc (fun z _ hz => hFc z hz) ?_ ?_
      · intro E ce q9 u t H1 locs1 _ _ hpx
        exact absurd rfl hpx.2
      · intro u t H1 locs1 ht hal hpost hB _ _ hS1
        have hw9 := back u t H1 locs1 ht hal hpost.1 hB hS1
        rw [hrt] at hw9
        exact hw9
    · unfold mm_Qc at hrun
      rw [if_neg hrt] at hrun
      refine vx_calli hrun hS (fun z _ hz => hFc z hz) hFc (fun z _ hz => hFc z hz) ?_ ?_
      · intro E ce q9 u t H1 locs1 _ _ hpx
        exact absurd rfl hpx.2
      · intro a u t H1 locs1 ht hal hpost hB _ _ hS1
        have hw9 := back u t H1 locs1 ht hal hpost.2.1 hB hS1
        have e6 : a = a' := hpost.1
        obtain ⟨z9, hz9⟩ : ∃ z, mi.rt = z + 1 := ⟨mi.rt - 1, by omega⟩
        rw [hz9, ← e6] at hw9
        exact hw9
  · rename_i S' c' s' e' a' hr'
    have e8 := (Option.some.inj h).symm
    have e7 : r.2.1 = kc + c' ∧ r.2.2.1 = ks + s' := by rw [e8]; exact ⟨rfl, rfl⟩
    have hrun := run _ hr' ⟨by rw [hR1, e7.1]; exact Nat.le_refl _, by rw [hR2, e7.2]; exact Nat.le_refl _⟩
    have out : ∀ (E : String) (ce : Cell) (q9 : Addr) (u : Mem) (t : State) (H1 : Heap) (locs1 : List Loc), t.heap = H1 → s.vm.Alike t.vm → (u = S' ∧ e' + 1 ≠ 0) → (E = mm_exn (e' + 1) ∧ mm_B D cy (va_A (mm_W cy ad ov S) H.size) ad ov u t) → H.size ≤ H1.size → (∀ z : Nat, z < H.size → ¬ va_A (mm_W cy ad ov S) H.size z → H1[z]? = H[z]?) → va_S A s.heap H1 locs1 → H1[q9]? = some ce → ce.vm = .none → s.vm.findClass E = some ce.cls →
        vx_W p l e R s m args below meth c H1 locs1 (kc + c') (ks + s') (vx_MQ below (mm_Qc D cy A ad0 ov q.rt r) (mm_XC D cy A ad0 ov r) args s r.2.1 r.2.2.1 A) (F0 m pc ls (r9.map (mm_rv ad))) q9 := by
      intro E ce q9 u t H1 locs1 ht hal hpx hB hz1 hz2 hS1 hce hcv hcE
      obtain ⟨hE, ad', had', hP1, -, hD1⟩ := hB
      rw [ht] at hP1
      refine vx_out (E := E) (fun z hz => absurd hz (hex z)) hlocks hce hcv hcE (fun t' ht' hal' => ?_) hS1.2.2 (by rw [e7.1]; exact Nat.le_refl _) (by rw [e7.2]; exact Nat.le_refl _)
      refine ⟨u, ⟨by rw [hpx.1, e8], by rw [e8]; exact hpx.2⟩, ⟨by rw [e8]; exact hE, ad', fun z hz => (had' z hz).trans (had z hz), by rw [ht']; exact hP1, va_K.moved hal' hK, hD1.weaken (fun _ z _ hz => hFc _ hz)⟩, hS1.F ht'⟩
    by_cases hrt : mi.rt = 0
    · unfold mm_Qc at hrun
      rw [if_pos hrt] at hrun
      refine vx_callv hrun hS (fun z _ hz => hFc z hz) hFc (fun z _ hz => hFc z hz) out ?_
      intro u t H1 locs1 _ _ hpost
      exact absurd hpost.2 (Nat.succ_ne_zero _)
    · unfold mm_Qc at hrun
      rw [if_neg hrt] at hrun
      refine vx_calli hrun hS (fun z _ hz => hFc z hz) hFc (fun z _ hz => hFc z hz) out ?_
      intro a u t H1 locs1 _ _ hpost
      exact absurd hpost.2.2 (Nat.succ_ne_zero _)
  · cases h
end MMS
end
section
section MMT
variable {p : Program} {l : Launch} {e : Env} {R : Room} {s : State} {m : MethodId} {args : Array Value} {below : List Frame} {meth : Method} {c : Code} {H : Heap} {locs : List Loc} {cells slots : Nat}
variable {free : Addr → Prop} {ls : Array Slot} {rest : List Value} {Qc : Array Value → State → Outcome → State → Prop} {XC : String → State → State → Prop}
/-- 'throw new NoSuchElementException("text")': its constructor links entry 13, which the law vx_throwS doesn't know -/
theorem mm_throw5 {cc : ByteArray} {pc : Nat} (hexec : p.tables.exec = Jvm.exec) (hb : c.code = cc) (hl : l.stackTraces = false) {text : String} {ik is mc ms sa : Nat} {A : Nat → Prop}
    (hown : s.vm.findClass RX7 = some m.cls) (hk : (Cond.classLink RX7 ik (mm_exn 5)).before args s = true) (hts : ∀ w ∈ mm_ut, w.before args s = true) (hbw : ∀ w ∈ mm_bw, w.before #[] s = true) (hstr : vk_R RX7 is text sa s)
    (hU : vx_Zq Bundle.tN "UNASSIGNED_STACK" Bundle.steD A s s.heap) (hN : vx_Zq Bundle.tN "SUPPRESSED_SENTINEL" Bundle.listD A s s.heap) (hS : va_S A s.heap H locs) (hsize : ls.size = c.maxLocals)
    (d0 : decode cc pc = .ok (.new ik, 3)) (d3 : decode cc (pc + 3) = .ok (.dup, 1)) (d4 : decode cc (pc + 4) = .ok (.ldc is, 2)) (d6 : decode cc (pc + 6) = .ok (.invokespecial 186, 3)) (d9 : decode cc (pc + 9) = .ok (.athrow, 1))
    (hout : ∀ x ∈ c.exceptionTable.toList, covers x (pc + 9) = false)
    (hRframes : 5 < R.frames) (hRlocals : (rest.map fun v => v.category).sum + 82 ≤ R.locals) (hRcells : cells + 1 ≤ R.cells) (hRslots : slots + 6 ≤ R.slots) (hlocks : meth.locks = false)
    (hx : ∀ t : State, s.vm.Alike t.vm → H.size ≤ t.heap.size → (∀ q : Nat, q < H.size → t.heap[q]? = H[q]?) → XC (mm_exn 5) s t)
    (hf : ∀ z ∈ locs, free z.base) (hc : cells + 1 ≤ mc) (hs : slots + 6 ≤ ms) :
    W p l e R s m args below meth c H locs cells slots (vx_MQ below Qc XC args s mc ms free) (F0 m pc ls rest) := by
  sorry
end MMT
end
section
section MMS
variable {p : Program} {l : Launch} {e : Env} {R : Room} {s : State} {m : MethodId} {args : Array Value} {below : List Frame} {meth : Method} {c : Code}
set_option maxHeartbeats 4000000 in
set_option maxRecDepth 100000 in
theorem mm_sound_a {D : va_G} {cy : ClassId × ClassId × ClassId} {A : Nat → Prop} {ad0 : Nat → Nat} {ov : Int64} {q : MI} {own : String} {r : Res} {call : Nat → List MV → Mem → Option Res} {k : Kt} {j : Nat} {L : List (Option MV)} {S : Mem} {kc ks : Nat} {i : Instr} {x : Nat} {v : Int32} {ts : List Nat} {st : List MV}
    {d : Nat} (C0 : mm_Cx p l e s m args below meth c D cy A q own) (hR : R.cells = r.2.1 ∧ R.slots = r.2.2.1 ∧ d + 9 ≤ R.frames ∧ 40 * d + 240 ≤ R.locals)
    (hcall : ∀ y as S r' mi, call y as S = some r' → mm_MT[y]? = some mi → mm_Con l D cy d mi as S r') (hkm : ∀ j L st S kc ks, k j L st S kc ks = some r → kc ≤ r.2.1 ∧ ks ≤ r.2.2.1)
    (hk : ∀ j L st S kc ks, k j L st S kc ks = some r → mm_G p l e R s m args below meth c D cy A ad0 ov q r j L st S kc ks)
    (hok : mm_okR q.cc q.ci q.pcs j (i, x, v, ts) = true)
    (h : mm_step call q.rt k j L S kc ks i x v ts st = some r) : mm_G p l e R s m args below meth c D cy A ad0 ov q r j L st S kc ks := by
  have C0' := C0
  obtain ⟨hx, hb, hml, hown, hts, hK, hex, hlocks, hret, hA, hEX, hst, hcl⟩ := C0
  have hmono := mm_mono_step hkm h
  intro ad H locs ls pc had hpc hP hD hS hl
  have hFc : ∀ z, va_A (mm_W cy ad ov S) H.size z → A z := by
    rintro z (⟨k9, e9, hk9⟩ | hz)
    · exact hD.2 k9 _ hk9
    · exact hA z (Nat.le_trans hS.1 hz)
  unfold mm_okR at hok
  rw [hpc] at hok
  unfold mm_step at h
  split at h
  all_goals simp only [Bool.and_eq_true] at hok
  · exact lv_iconst hx hb (mm_dec_spec hok.1.1) (of_decide_eq_true hok.2) (hk _ _ _ _ _ _ h ad H locs ls _ had (mm_nx_spec hok.1.2) hP hD hS hl)
  · exact lv_bipush hx hb (mm_dec_spec hok.1.1) (of_decide_eq_true hok.2) (hk _ _ _ _ _ _ h ad H locs ls _ had (mm_nx_spec hok.1.2) hP hD hS hl)
  · exact lv_sipush hx hb (mm_dec_spec hok.1.1) (of_decide_eq_true hok.2) (hk _ _ _ _ _ _ h ad H locs ls _ had (mm_nx_spec hok.1.2) hP hD hS hl)
  · split at h
    · rename_i y hy
      exact lv_iload_n hx hb (mm_dec_spec hok.1.1) (of_decide_eq_true hok.2) (hl.2.2.2.1 _ _ hy) (hk _ _ _ _ _ _ h ad H locs ls _ had (mm_nx_spec hok.1.2) hP hD hS hl)
    · cases h
  · split at h
    · rename_i y hy
      have e9 := of_decide_eq_true hok.2
      subst e9
      exact lv_iload hx hb (mm_dec_spec hok.1.1) (hl.2.2.2.1 _ _ hy) (hk _ _ _ _ _ _ h ad H locs ls _ had (mm_nx_spec hok.1.2) hP hD hS hl)
    · cases h
  · split at h
    · rename_i y hy
      exact lv_aload_n hx hb (mm_dec_spec hok.1.1) (of_decide_eq_true hok.2) (hl.2.2.2.1 _ _ hy) (hk _ _ _ _ _ _ h ad H locs ls _ had (mm_nx_spec hok.1.2) hP hD hS hl)
    · cases h
  · rename_i y r9
    split at h
    · rename_i hx9
      exact lv_istore_n (lv := mm_lv ad L) hx hb (mm_dec_spec hok.1.1) (of_decide_eq_true hok.2) hl.has (by rw [← hl.2.2.1]; exact Nat.le_of_ble_eq_true hx9) rfl (fun ls' h' => hk _ _ _ _ _ _ h ad H locs ls' _ had (mm_nx_spec hok.1.2) hP hD hS (hl.stored (y := y) h'))
    · cases h
  · rename_i y r9
    split at h
    · rename_i hx9
      have e9 := of_decide_eq_true hok.2
      subst e9
      exact lv_istore (lv := mm_lv ad L) hx hb (mm_dec_spec hok.1.1) hl.has (by rw [← hl.2.2.1]; exact Nat.le_of_ble_eq_true hx9) rfl (fun ls' h' => hk _ _ _ _ _ _ h ad H locs ls' _ had (mm_nx_spec hok.1.2) hP hD hS (hl.stored (y := y) h'))
    · cases h
  · split at h
    · rename_i y hy
      have e9 := of_decide_eq_true hok.1.2
      subst e9
      obtain ⟨k9, hk9⟩ := List.getElem?_of_mem (mm_lv_mem.mpr ⟨_, _, hy, rfl⟩ : (_, mm_rv ad (.inl y)) ∈ mm_lv ad L)
      exact lv_iinc (lv := mm_lv ad L) hx hb (mm_dec_spec hok.1.1.1) hl.has hk9 rfl (by rw [← hl.2.2.1]; exact (List.getElem?_eq_some_iff.mp hy).1) rfl (fun ls' h' => by
        rw [of_decide_eq_true hok.2] at h'
        exact hk _ _ _ _ _ _ h ad H locs ls' _ had (mm_nx_spec hok.1.1.2) hP hD hS (hl.stored (y := y + v) h'))
    · cases h
  · exact lv_iadd hx hb (mm_dec_spec hok.1) (hk _ _ _ _ _ _ h ad H locs ls _ had (mm_nx_spec hok.2) hP hD hS hl)
  · exact lv_isub hx hb (mm_dec_spec hok.1) (hk _ _ _ _ _ _ h ad H locs ls _ had (mm_nx_spec hok.2) hP hD hS hl)
  · exact lv_imul hx hb (mm_dec_spec hok.1) (hk _ _ _ _ _ _ h ad H locs ls _ had (mm_nx_spec hok.2) hP hD hS hl)
  · exact lv_dup hx hb (mm_dec_spec hok.1) (mm_rv_cat ad _) (hk _ _ _ _ _ _ h ad H locs ls _ had (mm_nx_spec hok.2) hP hD hS hl)
  · exact lv_dup2_11 hx hb (mm_dec_spec hok.1) (mm_rv_cat ad _) (mm_rv_cat ad _) (hk _ _ _ _ _ _ h ad H locs ls _ had (mm_nx_spec hok.2) hP hD hS hl)
  · obtain ⟨t9, ht9, e9⟩ := mm_jmp_spec hok.2
    exact lv_goto hx hb (mm_dec_spec hok.1) e9 (hk _ _ _ _ _ _ h ad H locs ls _ had ht9 hP hD hS hl)
  · obtain ⟨t9, ht9, e9⟩ := mm_jmp_spec hok.2
    exact lv_if_eq hx hb (mm_dec_spec hok.1.1) e9 (fun c9 => by rw [if_pos c9] at h; exact hk _ _ _ _ _ _ h ad H locs ls _ had ht9 hP hD hS hl) (fun c9 => by rw [if_neg c9] at h; exact hk _ _ _ _ _ _ h ad H locs ls _ had (mm_nx_spec hok.1.2) hP hD hS hl)
  · obtain ⟨t9, ht9, e9⟩ := mm_jmp_spec hok.2
    exact lv_if_ne hx hb (mm_dec_spec hok.1.1) e9 (fun c9 => by rw [if_neg c9] at h; exact hk _ _ _ _ _ _ h ad H locs ls _ had ht9 hP hD hS hl) (fun c9 => by rw [if_pos c9] at h; exact hk _ _ _ _ _ _ h ad H locs ls _ had (mm_nx_spec hok.1.2) hP hD hS hl)
  · obtain ⟨t9, ht9, e9⟩ := mm_jmp_spec hok.2
    exact lv_if_lt hx hb (mm_dec_spec hok.1.1) e9 (fun c9 => by rw [if_pos c9] at h; exact hk _ _ _ _ _ _ h ad H locs ls _ had ht9 hP hD hS hl) (fun c9 => by rw [if_neg c9] at h; exact hk _ _ _ _ _ _ h ad H locs ls _ had (mm_nx_spec hok.1.2) hP hD hS hl)
  · obtain ⟨t9, ht9, e9⟩ := mm_jmp_spec hok.2
    exact lv_if_ge hx hb (mm_dec_spec hok.1.1) e9 (fun c9 => by rw [if_pos c9] at h; exact hk _ _ _ _ _ _ h ad H locs ls _ had ht9 hP hD hS hl) (fun c9 => by rw [if_neg c9] at h; exact hk _ _ _ _ _ _ h ad H locs ls _ had (mm_nx_spec hok.1.2) hP hD hS hl)
  · obtain ⟨t9, ht9, e9⟩ := mm_jmp_spec hok.2
    exact lv_if_gt hx hb (mm_dec_spec hok.1.1) e9 (fun c9 => by rw [if_pos c9] at h; exact hk _ _ _ _ _ _ h ad H locs ls _ had ht9 hP hD hS hl) (fun c9 => by rw [if_neg c9] at h; exact hk _ _ _ _ _ _ h ad H locs ls _ had (mm_nx_spec hok.1.2) hP hD hS hl)
  · obtain ⟨t9, ht9, e9⟩ := mm_jmp_spec hok.2
    exact lv_if_le hx hb (mm_dec_spec hok.1.1) e9 (fun c9 => by rw [if_pos c9] at h; exact hk _ _ _ _ _ _ h ad H locs ls _ had ht9 hP hD hS hl) (fun c9 => by rw [if_neg c9] at h; exact hk _ _ _ _ _ _ h ad H locs ls _ had (mm_nx_spec hok.1.2) hP hD hS hl)
  · obtain ⟨t9, ht9, e9⟩ := mm_jmp_spec hok.2
    exact lv_icmp_eq hx hb (mm_dec_spec hok.1.1) e9 (fun c9 => by rw [if_pos c9] at h; exact hk _ _ _ _ _ _ h ad H locs ls _ had ht9 hP hD hS hl) (fun c9 => by rw [if_neg c9] at h; exact hk _ _ _ _ _ _ h ad H locs ls _ had (mm_nx_spec hok.1.2) hP hD hS hl)
  · obtain ⟨t9, ht9, e9⟩ := mm_jmp_spec hok.2
    exact lv_icmp_ne hx hb (mm_dec_spec hok.1.1) e9 (fun c9 => by rw [if_neg c9] at h; exact hk _ _ _ _ _ _ h ad H locs ls _ had ht9 hP hD hS hl) (fun c9 => by rw [if_pos c9] at h; exact hk _ _ _ _ _ _ h ad H locs ls _ had (mm_nx_spec hok.1.2) hP hD hS hl)
  · obtain ⟨t9, ht9, e9⟩ := mm_jmp_spec hok.2
    exact lv_icmp_lt hx hb (mm_dec_spec hok.1.1) e9 (fun c9 => by rw [if_pos c9] at h; exact hk _ _ _ _ _ _ h ad H locs ls _ had ht9 hP hD hS hl) (fun c9 => by rw [if_neg c9] at h; exact hk _ _ _ _ _ _ h ad H locs ls _ had (mm_nx_spec hok.1.2) hP hD hS hl)
  · obtain ⟨t9, ht9, e9⟩ := mm_jmp_spec hok.2
    exact lv_icmp_ge hx hb (mm_dec_spec hok.1.1) e9 (fun c9 => by rw [if_pos c9] at h; exact hk _ _ _ _ _ _ h ad H locs ls _ had ht9 hP hD hS hl) (fun c9 => by rw [if_neg c9] at h; exact hk _ _ _ _ _ _ h ad H locs ls _ had (mm_nx_spec hok.1.2) hP hD hS hl)
  · obtain ⟨t9, ht9, e9⟩ := mm_jmp_spec hok.2
    exact lv_icmp_gt hx hb (mm_dec_spec hok.1.1) e9 (fun c9 => by rw [if_pos c9] at h; exact hk _ _ _ _ _ _ h ad H locs ls _ had ht9 hP hD hS hl) (fun c9 => by rw [if_neg c9] at h; exact hk _ _ _ _ _ _ h ad H locs ls _ had (mm_nx_spec hok.1.2) hP hD hS hl)
  · obtain ⟨t9, ht9, e9⟩ := mm_jmp_spec hok.2
    exact lv_icmp_le hx hb (mm_dec_spec hok.1.1) e9 (fun c9 => by rw [if_pos c9] at h; exact hk _ _ _ _ _ _ h ad H locs ls _ had ht9 hP hD hS hl) (fun c9 => by rw [if_neg c9] at h; exact hk _ _ _ _ _ _ h ad H locs ls _ had (mm_nx_spec hok.1.2) hP hD hS hl)
  · rename_i c9 r9
    split at h
    · rename_i hc9
      obtain ⟨T9, N9, hcl9⟩ := hcl
      have e9 := of_decide_eq_true hok.2
      subst e9
      have hkd := mm_cls_spec hc9
      obtain ⟨hin9, hNF9, -, -⟩ := mm_CL_ok _ _ hcl9
      obtain ⟨hx9, hf9⟩ := mm_FT_spec (of_decide_eq_true hok.1.2) hcl9
      have hkd2 : mm_KD[c9]? = some (0, q.ci) := hkd
      refine va_get (D := D) (ci := q.ci) (v := mm_rv ad (mm_fv S c9 x)) (C := own) (T := T9) (N := N9) hx hb hts hin9 hown hK hP c9 (by rw [mm_W_at (mm_KD_lt hkd2), mm_ent_obj hkd2]) hcl9 x hx9 (hts _ hf9) (fun _ h9 => h9) ?_ (mm_dec_spec hok.1.1.1) (hk _ _ _ _ _ _ h ad H locs ls _ had (mm_nx_spec hok.1.1.2) hP hD hS hl)
      rw [hNF9]
      simp only [Option.getD_some]
      rw [List.getElem?_map, List.getElem?_range hx9]
      rfl
    · cases h
  · rename_i a9 c9 r9
    obtain ⟨T9, N9, hcl9⟩ := hcl
    rw [hcl9] at hok
    obtain ⟨⟨⟨hd1, hd2⟩, hd3⟩, hd4⟩ := hok
    have hd4 := of_decide_eq_true hd4
    obtain ⟨hin9, hNF9, ⟨ty9, hty9⟩, hnm9⟩ := mm_CL_ok _ _ hcl9
    obtain ⟨hx9, hf9⟩ := mm_FT_spec (of_decide_eq_true hd3) hcl9
    have key : ∀ (ty : FieldType), parseFieldDescriptor (T9 x).2.2.1 = some ty → narrow ty (.int a9) = .int a9 → fits ty (.int a9) = true → mm_KD[c9]? = some (0, q.ci) → mm_rf c9 x = none → k (j + 1) L r9 (mm_put S c9 x a9) kc ks = some r → W p l e R s m args below meth c H locs kc ks (vx_MQ below (mm_Qc D cy A ad0 ov q.rt r) (mm_XC D cy A ad0 ov r) args s r.2.1 r.2.2.1 A) (F0 m pc ls ((Sum.inl a9 :: Sum.inr c9 :: r9 : List MV).map (mm_rv ad))) := by
      intro ty hp hn hf hkd hrf h
      refine va_put (D := D) (ci := q.ci) (v := .int a9) (ty := ty) (C := own) (T := T9) (N := N9) hx hb hts hin9 ty9 hty9 hnm9 hown hK hP hD hS c9 (by rw [mm_W_at (mm_KD_lt hkd), mm_ent_obj hkd]) hcl9 x hx9 (hts _ hf9) (fun _ h9 => h9) hd4.1 hp hn hf ?_ (mm_dec_spec hd1) (fun H1 locs1 hP1 hD1 hS1 => ?_)
      · rw [hNF9]; simpa using hx9
      · rw [mm_W_obj hkd hrf] at hP1 hD1
        exact hk _ _ _ _ _ _ h ad H1 locs1 ls _ had (mm_nx_spec hd2) hP1 hD1 hS1 hl
    rcases hd4.2 with ⟨hp, e9⟩ | ⟨hp, e9⟩
    · subst e9
      split at h
      · rename_i hc9 hr9
        exact key .int hp rfl rfl (mm_cls_spec hc9) hr9 h
      · cases h
    · subst e9
      split at h
      · rename_i hc9 hr9
        split at h
        · rename_i e8; cases e8
        · split at h
          · rename_i hz
            exact key .boolean hp (mm_nar_bool hz) (mm_fit_bool hz) (mm_cls_spec hc9) hr9 h
          · cases h
      · cases h
  · rename_i i9 c9 r9
    unfold mm_arr at h
    split at h
    · rename_i t8 n8 hkd
      split at h
      · rename_i e8; subst e8
        split at h
        · cases h
        · rename_i hin
          exact va_iald (D := D) hx hb hK hP c9 0 (by rw [mm_W_at (mm_KD_lt hkd), mm_ent_int hkd]) rfl hin (mm_dec_spec hok.1) (hk _ _ _ _ _ _ h ad H locs ls _ had (mm_nx_spec hok.2) hP hD hS hl)
      · cases h
    · cases h
  · rename_i i9 c9 r9
    unfold mm_arr at h
    split at h
    · rename_i t8 n8 hkd
      split at h
      · rename_i e8; subst e8
        split at h
        · cases h
        · rename_i hin
          exact va_zald (D := D) hx hb hK hP c9 1 (by rw [mm_W_at (mm_KD_lt hkd), mm_ent_boo hkd]) rfl hin (mm_dec_spec hok.1) (hk _ _ _ _ _ _ h ad H locs ls _ had (mm_nx_spec hok.2) hP hD hS hl)
      · cases h
    · cases h
  · rename_i a9 i9 c9 r9
    unfold mm_arr at h
    split at h
    · rename_i t8 n8 hkd
      split at h
      · rename_i e8; subst e8
        split at h
        · cases h
        · rename_i hin
          refine va_iast (D := D) hx hb hK hP hD hS c9 0 (by rw [mm_W_at (mm_KD_lt hkd), mm_ent_int hkd]) rfl hin (mm_dec_spec hok.1) (fun H1 locs1 hP1 hD1 hS1 => ?_)
          rw [mm_W_arr hkd] at hP1 hD1
          exact hk _ _ _ _ _ _ h ad H1 locs1 ls _ had (mm_nx_spec hok.2) hP1 hD1 hS1 hl
      · cases h
    · cases h
  · rename_i a9 i9 c9 r9
    unfold mm_arr at h
    split at h
    · rename_i t8 n8 hkd
      split at h
      · rename_i e8; subst e8
        split at h
        · cases h
        · rename_i hin
          refine va_zast (D := D) hx hb hK hP hD hS c9 1 (by rw [mm_W_at (mm_KD_lt hkd), mm_ent_boo hkd]) rfl hin (mm_dec_spec hok.1) (fun H1 locs1 hP1 hD1 hS1 => ?_)
          rw [mm_W_boo hkd] at hP1 hD1
          exact hk _ _ _ _ _ _ h ad H1 locs1 ls _ had (mm_nx_spec hok.2) hP1 hD1 hS1 hl
      · cases h
    · cases h
  · rename_i c9 r9
    split at h
    · rename_i n8 hkd
      exact va_alen (D := D) (x := (mm_len S c9 n8, .inl (S c9))) hx hb hK hP c9 0 (by rw [mm_W_at (mm_KD_lt hkd), mm_ent_int hkd]) (ty := .int) rfl rfl (mm_dec_spec hok.1) (hk _ _ _ _ _ _ h ad H locs ls _ had (mm_nx_spec hok.2) hP hD hS hl)
    · cases h
  · rename_i a9
    have fin : ∀ (hr0 : q.rt ≠ 0) (hr : r = (S, kc, ks, 0, a9)) (t : State), t.heap = H → s.WarmedH t.vm → mm_Qc D cy A ad0 ov q.rt r args s (.returned (some (.int a9))) t := by
      intro hr0 hr t ht hW
      unfold mm_Qc
      rw [if_neg hr0]
      exact ⟨⟨a9, S, rfl, ⟨by rw [hr], by rw [hr], by rw [hr]⟩, ad, had, by rw [ht]; exact hP, va_K.moved hW.alike hK, hD⟩, hS.F ht⟩
    split at h
    · rename_i hr1
      have e8 := (Option.some.inj h).symm
      refine vx_ret ?_
      have e7 : r.2.1 = kc ∧ r.2.2.1 = ks := by rw [e8]; exact ⟨rfl, rfl⟩
      rw [e7.1, e7.2]
      exact W.iret hx hb (by rw [hret, hr1]; rfl) (fin (by omega) e8) hS.2.2 (mm_dec_spec hok)
    · rename_i hr2
      split at h
      · rename_i hz
        have e8 := (Option.some.inj h).symm
        refine vx_ret ?_
        have e7 : r.2.1 = kc ∧ r.2.2.1 = ks := by rw [e8]; exact ⟨rfl, rfl⟩
        rw [e7.1, e7.2]
        exact W.zret (ty := .boolean) hx hb (by rw [hret, hr2]; rfl) (mm_nar_bool hz) (fin (by omega) e8) hS.2.2 (mm_dec_spec hok)
      · cases h
    · cases h
  · split at h
    · rename_i hr0
      have e8 := (Option.some.inj h).symm
      refine vx_ret ?_
      have e7 : r.2.1 = kc ∧ r.2.2.1 = ks := by rw [e8]; exact ⟨rfl, rfl⟩
      rw [e7.1, e7.2]
      refine W.vret hx hb (by rw [hret, hr0]; rfl) (fun t ht hW => ?_) hS.2.2 (mm_dec_spec hok)
      unfold mm_Qc
      rw [if_pos hr0]
      exact ⟨⟨S, rfl, ⟨by rw [e8], by rw [e8]⟩, ad, had, by rw [ht]; exact hP, va_K.moved hW.alike hK, hD⟩, hS.F ht⟩
    · cases h
  · -- tableswitch
    obtain ⟨⟨⟨hd1, hd2⟩, hd3⟩, hd4⟩ := hok
    obtain ⟨n9, hd1⟩ := mm_decs_spec hd1
    split at h
    · rename_i hz
      obtain ⟨t9, ht9, e9⟩ := mm_jmp_spec hd2
      exact lv_tableOut hx hb hd1 hz e9 (hk _ _ _ _ _ _ h ad H locs ls _ had ht9 hP hD hS hl)
    · rename_i hz
      split at h
      · rename_i t8 ht8
        have hlt := (List.getElem?_eq_some_iff.mp ht8).1
        rw [← of_decide_eq_true hd3] at hlt
        have ho := Array.getElem?_eq_getElem hlt
        have h8 := List.all_eq_true.mp hd4 _ (List.mem_of_getElem? (List.getElem?_zip_eq_some.mpr ⟨(by rw [Array.getElem?_toList]; exact ho), ht8⟩ : (_ : List (Int × Nat))[_]? = some (_, t8)))
        obtain ⟨t9, ht9, e9⟩ := mm_jmp_spec h8
        exact lv_tableIn hx hb hd1 (fun z => hz (Or.inl z)) (fun z => hz (Or.inr z)) ho e9 (hk _ _ _ _ _ _ h ad H locs ls _ had ht9 hP hD hS hl)
      · cases h
  · -- lookupswitch
    obtain ⟨⟨⟨⟨hd1, hd2⟩, hd3⟩, hd4⟩, hd5⟩ := hok
    obtain ⟨n9, hd1⟩ := mm_decs_spec hd1
    obtain ⟨t9, ht9, e9⟩ := mm_jmp_spec (mm_lk_spec hd2 _ _ (of_decide_eq_true hd3) hd4)
    exact lv_lookup hx hb hd1 hd5 rfl e9 (hk _ _ _ _ _ _ h ad H locs ls _ had ht9 hP hD hS hl)
  · -- invokevirtual
    obtain ⟨⟨⟨hd1, hd2⟩, hd3⟩, hd4⟩ := hok
    obtain ⟨T9, N9, hcl9⟩ := hcl
    split at hd4
    · rename_i mi hmi
      have e9 := of_decide_eq_true hd4
      subst e9
      dsimp only at h
      split at h
      · rename_i b9 r9 hdrop
        split at h
        · rename_i hc9
          rw [Bool.and_eq_true, Bool.and_eq_true] at hc9
          obtain ⟨⟨hc1, hc2⟩, hc4⟩ := hc9
          exact mm_sound_call C0' hR hcall hkm hk (mm_dec_spec hd1) (mm_nx_spec hd2) (mm_CT_spec (of_decide_eq_true hd3) hcl9 hmi) hmi hdrop (mm_cls_spec hc1) hc2 (Nat.le_of_ble_eq_true hc4) h had hP hD hS hl hFc
        · cases h
      · cases h
    · cases hd4
  · -- invokestatic
    obtain ⟨⟨hd1, hd2⟩, hd3⟩ := hok
    obtain ⟨T9, N9, hcl9⟩ := hcl
    have hlk := hts _ (mm_ST_spec (of_decide_eq_true hd3) hcl9)
    have hls : c.maxLocals = ls.size := by rw [hml, hl.1]
    split at h
    · rename_i b9 a9 r9
      split at h
      · rename_i hz
        have hz := Nat.le_of_ble_eq_true hz
        exact va_mmin hx hb hls hown hlk (hts _ (mm_jw_in (by decide))) (hts _ (mm_jw_in (by decide))) (hts _ (mm_jw_in (List.mem_of_getElem? (i := 2) rfl))) (by omega) (by rw [mm_cats]; omega) (by omega) (by omega) (mm_dec_spec hd1) (hk _ _ _ _ _ _ h ad H locs ls _ had (mm_nx_spec hd2) hP hD hS hl)
      · cases h
    · rename_i b9 a9 r9
      split at h
      · rename_i hz
        have hz := Nat.le_of_ble_eq_true hz
        exact va_mmax hx hb hls hown hlk (hts _ (mm_jw_in (List.mem_of_getElem? (i := 3) rfl))) (hts _ (mm_jw_in (List.mem_of_getElem? (i := 1) rfl))) (hts _ (mm_jw_in (List.mem_of_getElem? (i := 4) rfl))) (by omega) (by rw [mm_cats]; omega) (by omega) (by omega) (mm_dec_spec hd1) (hk _ _ _ _ _ _ h ad H locs ls _ had (mm_nx_spec hd2) hP hD hS hl)
      · cases h
    · rename_i n9 dp9 c19 sp9 c09 r9
      split at h
      · rename_i n0 n1 hk0 hk1
        split at h
        · rename_i hz
          obtain ⟨hz0, hz1, hz2, hz3, hz4, hz5⟩ := hz
          refine va_copyi (D := D) (ty := .int) hx hb hls hown hlk (hts _ (mm_jw_in (List.mem_of_getElem? (i := 7) rfl))) (hts _ (mm_jw_in (List.mem_of_getElem? (i := 5) rfl))) (hts _ (mm_jw_in (List.mem_of_getElem? (i := 6) rfl))) hK hP hD hS c09 c19 0 0 (by rw [mm_W_at (mm_KD_lt hk0), mm_ent_int hk0]) (by rw [mm_W_at (mm_KD_lt hk1), mm_ent_int hk1]) rfl rfl rfl hz1 hz2 hz3 hz4 hz5 (fun _ _ => rfl) (by omega) ?_ (mm_dec_spec hd1) (fun H1 locs1 hP1 hD1 hS1 => ?_)
          · rw [mm_cats]
            have e7 : nativeFrameWords "java/lang/System" "arraycopy" 5 + 11 ≤ 200 := by decide
            omega
          · rw [mm_W_arr hk1] at hP1 hD1
            exact hk _ _ _ _ _ _ h ad H1 locs1 ls _ had (mm_nx_spec hd2) hP1 hD1 hS1 hl
        · cases h
      · cases h
    · cases h
  · -- throw new
    rename_i ix9 r9
    obtain ⟨⟨⟨⟨⟨⟨⟨hd1, hd2⟩, hd3⟩, hd4⟩, hd5⟩, hd6⟩, hd7⟩, hd8⟩ := hok
    split at h
    · cases h
    · rename_i x' hz
      have hz := Nat.le_of_ble_eq_true hz
      have hx0 : Nat.succ x' ≠ 0 := Nat.succ_ne_zero _
      have h : some (S, kc + 1, ks + 6, Nat.succ x', (0 : Int32)) = some r := h
      generalize Nat.succ x' = x at hd7 h hx0
      · have e8 := (Option.some.inj h).symm
        have e7 : r.2.1 = kc + 1 ∧ r.2.2.1 = ks + 6 := by rw [e8]; exact ⟨rfl, rfl⟩
        obtain ⟨T9, N9, hcl9⟩ := hcl
        have hci := of_decide_eq_true hd6
        rw [hci] at hcl9
        have hown7 : own = RX7 := by
          have h9 := Option.some.inj hcl9
          exact (congrArg Prod.fst h9).symm
        subst hown7
        have hxt := of_decide_eq_true hd7
        have h9a := List.all_eq_true.mp mm_XT_a _ hxt
        have h93 := List.all_eq_true.mp mm_XT_b _ hxt
        have h9e := List.all_eq_true.mp mm_XT_e _ hxt
        have h9f := List.all_eq_true.mp mm_XT_f _ hxt
        simp only [Bool.and_eq_true, decide_eq_true_eq] at h9a h9f
        obtain ⟨h91, h92⟩ := h9a
        obtain ⟨h96, h97⟩ := h9f
        obtain ⟨hE1, hE2, hE3, hE4⟩ := hEX
        obtain ⟨tx9, htx9, etx9⟩ := List.mem_map.mp (of_decide_eq_true hd8)
        obtain ⟨sa, hstr⟩ := hE4 tx9 htx9
        rw [etx9] at hstr
        have hXC : ∀ t : State, s.vm.Alike t.vm → H.size ≤ t.heap.size → (∀ z : Nat, z < H.size → t.heap[z]? = H[z]?) → mm_XC D cy A ad0 ov r (mm_exn x) s t := by
          intro t hal hsz hkeep
          refine ⟨S, ⟨by rw [e8], by rw [e8]; exact hx0⟩, ⟨by rw [e8], ad, had, hP.kept (fun k9 q9 hq9 => hkeep _ (hP k9 q9 hq9).lt), va_K.moved hal hK, hD⟩, Nat.le_trans hS.1 hsz, fun z hz1 hz2 => ?_⟩
          rw [hkeep z (Nat.lt_of_lt_of_le hz1 hS.1)]
          exact hS.2.1 z hz1 hz2
        by_cases hx5 : x = 5
        · subst hx5
          have hic : ts.getD 1 0 = 186 := by
            simp only [mm_XT, List.mem_cons, List.not_mem_nil, or_false, Prod.mk.injEq] at hxt
            omega
          rw [hic] at hd4
          exact mm_throw5 hx hb hst hown (hts _ h91) hts hE3 hstr hE1 hE2 hS (by rw [hl.1, hml]) (mm_dec_spec hd1) (mm_dec_spec hd2) (mm_dec_spec hd3) (mm_dec_spec hd4) (mm_dec_spec hd5) (fun z hz9 => absurd hz9 (hex z)) (by omega) (by rw [mm_cats]; omega) (by rw [hR.1, e7.1]; exact Nat.le_refl _) (by rw [hR.2.1, e7.2]; exact Nat.le_refl _) hlocks hXC hS.2.2 (by rw [e7.1]; exact Nat.le_refl _) (by rw [e7.2]; exact Nat.le_refl _)
        have hat : ∀ w ∈ vx_atS RX7 (ts.getD 1 0) (mm_exn x) mm_en, w.before args s = true ∧ vx_ot w = true := by
          intro w hw
          have h8 := List.all_eq_true.mp h9e w hw
          have h7 := mm_XT_at hxt hx5 w hw
          simp only [Bool.and_eq_true, Bool.or_eq_true] at h8
          refine ⟨?_, h8.1⟩
          rcases h8.2 with hg | hg
          · exact hts w (mm_in_ut h7 hg)
          · exact mm_cd_at hg (State.WarmedH.refl s) (hE3 w (List.mem_filter.mpr ⟨h7, hg⟩))
        refine vx_throwS (cls := mm_exn x) (names := mm_en) (A := A) hx hb hst hown h93 mm_fit_en (hts _ h91) (hts _ h92) hstr (fun w hw => (hat w hw).1) ?_ hE1 hE2 hS (by rw [hl.1, hml]) (mm_dec_spec hd1) (mm_dec_spec hd2) (mm_dec_spec hd3) (mm_dec_spec hd4) (mm_dec_spec hd5) (fun z hz9 => absurd hz9 (hex z)) (by show 2 + 3 < _; omega) ?_ (by rw [hR.1, e7.1]; exact Nat.le_refl _) (by rw [hR.2.1, e7.2]; exact Nat.le_refl _) hlocks ?_ hS.2.2 (by rw [e7.1]; exact Nat.le_refl _) (by rw [e7.2]; exact Nat.le_refl _)
        · intro w hw
          rcases List.mem_cons.mp hw with rfl | hw
          · exact h96
          · rcases List.mem_cons.mp hw with rfl | hw
            · exact h97
            · exact (hat w hw).2
        · rw [mm_cats]
          show _ + (13 * (2 + 1) + 43) ≤ _
          omega
        · exact hXC
    · cases h
  · cases h
end MMS
end
section
/-! CALLS: methods by their numbers, to a depth -/
def mm_okM (q : MI) : Bool := mm_nx q.pcs 0 0 && mm_okRs q.cc q.ci q.pcs 0 q.P
/-- Tables.reserve: the array grows -/
def mm_resv (as : List MV) (S : Mem) : Option Res := match as with
  | [.inr 21, .inl en] => if en ≤ Int32.ofNat (S 55 0).toNatClampNeg then some (S, 0, 0, 0, 0) else
      (if (if en < 2 * Int32.ofNat (S 55 0).toNatClampNeg then 2 * Int32.ofNat (S 55 0).toNatClampNeg else en) < 0 ∨ 134217728 < (if en < 2 * Int32.ofNat (S 55 0).toNatClampNeg then 2 * Int32.ofNat (S 55 0).toNatClampNeg else en) then none else
        some (mm_put (mm_stc S 22 (va_cpy (S 22) (fun _ => 0) 0 0 (S 55 0).toNatClampNeg)) 55 0 (if en < 2 * Int32.ofNat (S 55 0).toNatClampNeg then 2 * Int32.ofNat (S 55 0).toNatClampNeg else en), 1, (if en < 2 * Int32.ofNat (S 55 0).toNatClampNeg then 2 * Int32.ofNat (S 55 0).toNatClampNeg else en).toNatClampNeg, 0, 0))
  | _ => none
noncomputable def mm_runD : Nat → Nat → List MV → Mem → Option Res
  | 0, _, _, _ => none
  | d + 1, y, as, S => if y = mm_yRes then mm_resv as S else match mm_MT[y]? with
    | some q => match as with
      | .inr b :: as' => if (mm_cls b q.ci && Nat.beq as'.length q.na && mm_noRm (Sum.inr b :: as')) = true then mm_E (mm_runD d) q.P q.rt 0 ((Sum.inr b :: as').map some ++ List.replicate (q.mL - (q.na + 1)) none) [] S 0 0 else none
      | _ => none
    | none => none
theorem mm_lv_args (ad : Nat → Nat) : ∀ (as : List MV) (k i : Nat) (v : MV), as[i]? = some v → (k + i, mm_rv ad v) ∈ lv_args k (as.map (mm_rv ad)) := by
  intro as
  induction as with
  | nil => intro k i v h; simp at h
  | cons a r ih =>
    intro k i v h
    simp only [List.map_cons, lv_args]
    cases i with
    | zero =>
      simp at h; subst h
      exact List.mem_cons_self
    | succ i =>
      refine List.mem_cons_of_mem _ ?_
      rw [mm_rv_cat, if_neg (by decide), show k + (i + 1) = k + 1 + i by omega]
      exact ih _ _ _ (by simpa using h)
theorem mm_lg_len (ad : Nat → Nat) (as : List MV) : (lg_sl (as.map (mm_rv ad))).length = as.length := by
  induction as with
  | nil => rfl
  | cons a r ih =>
    simp only [List.map_cons, lg_sl, List.flatMap_cons] at ih ⊢
    rw [mm_rv_cat, if_neg (by decide)]
    simp only [List.length_append, List.length_cons, List.length_nil]
    rw [ih]; omega
theorem mm_entry (ad : Nat → Nat) (as : List MV) {n : Nat} (h : as.length ≤ n) (hr : mm_noRm as = true) : mm_lh ad ((lg_sl (as.map (mm_rv ad)) ++ List.replicate (n - (lg_sl (as.map (mm_rv ad))).length) Slot.unset).toArray) n (as.map some ++ List.replicate (n - as.length) none) := by
  have h1 := lv_entry (as.map (mm_rv ad)) (n := n) (by rw [mm_lg_len]; exact h)
  refine ⟨h1.1, h1.2.1, by simp; omega, fun i v hi => ?_, ?_⟩
  rotate_left
  · unfold mm_noRmL
    rw [List.all_append, Bool.and_eq_true]
    refine ⟨?_, by rw [List.all_eq_true]; intro z hz; rw [(List.mem_replicate.mp hz).2]⟩
    unfold mm_noRm at hr
    rw [List.all_eq_true] at hr ⊢
    intro z hz
    obtain ⟨w, hw, rfl⟩ := List.mem_map.mp hz
    have := hr w hw
    cases w with
    | inl a => rfl
    | inr a => exact this
  have h2 : as[i]? = some v := by
    rw [List.getElem?_append] at hi
    split at hi
    · rw [List.getElem?_map] at hi
      cases h3 : as[i]? with
      | none => rw [h3] at hi; cases hi
      | some w => rw [h3] at hi; cases hi; rfl
    · have := List.mem_of_getElem? hi
      rw [List.mem_replicate] at this
      cases this.2
  have h3 := mm_lv_args ad as 0 i v h2
  rw [Nat.zero_add] at h3
  exact h1.2.2 _ h3
section MMN
variable {p : Program} {l : Launch} {e : Env} {R : Room} {s : State} {m : MethodId} {args : Array Value} {below : List Frame} {meth : Method} {c : Code}
theorem mm_soundN {D : va_G} {cy : ClassId × ClassId × ClassId} {A : Nat → Prop} {ad0 : Nat → Nat} {ov : Int64} {q : MI} {own : String} {r : Res} {call : Nat → List MV → Mem → Option Res} {d : Nat} (C0 : mm_Cx p l e s m args below meth c D cy A q own) (hR : R.cells = r.2.1 ∧ R.slots = r.2.2.1 ∧ d + 9 ≤ R.frames ∧ 40 * d + 240 ≤ R.locals)
    (hcall : ∀ y as S r' mi, call y as S = some r' → mm_MT[y]? = some mi → mm_Con l D cy d mi as S r') (hok : mm_okRs q.cc q.ci q.pcs 0 q.P = true) :
    ∀ (n j : Nat) (L : List (Option MV)) (st : List MV) (S : Mem) (kc ks : Nat), mm_runN call q.P q.rt n j L st S kc ks = some r → mm_G p l e R s m args below meth c D cy A ad0 ov q r j L st S kc ks := by
  intro n
  induction n with
  | zero => intro j L st S kc ks h; cases h
  | succ n ih =>
    intro j L st S kc ks h
    unfold mm_runN at h
    split at h
    · rename_i i x v ts hj
      have h1 := mm_okRs_at q.P 0 j _ hok hj
      rw [Nat.zero_add] at h1
      exact mm_sound_a C0 hR hcall (fun j L st S kc ks h => mm_mono n j L st S kc ks h) ih h1 h
    · cases h
end MMN
set_option maxHeartbeats 4000000 in
theorem mm_sound {l : Launch} {D : va_G} {cy : ClassId × ClassId × ClassId} (hst : l.stackTraces = false)
    (hall : ∀ y q, mm_MT[y]? = some q → y ≠ mm_yRes → mm_okM q = true)
    (hres : ∀ d as S r q, mm_MT[mm_yRes]? = some q → mm_resv as S = some r → mm_Con l D cy (d + 1) q as S r) :
    ∀ (d y : Nat) (as : List MV) (S : Mem) (r : Res) (q : MI), mm_runD d y as S = some r → mm_MT[y]? = some q → mm_Con l D cy d q as S r := by
  intro d
  induction d with
  | zero => intro y as S r q h; cases h
  | succ d ih =>
    intro y as S r q h hq
    unfold mm_runD at h
    split at h
    · rename_i e9
      subst e9
      exact hres d as S r q hq h
    · rename_i e9
      rw [hq] at h
      dsimp only at h
      split at h
      · rename_i b as'
        split at h
        · rename_i hc
          simp only [Bool.and_eq_true] at hc
          have hlen := Nat.eq_of_beq_eq_true hc.1.2
          obtain ⟨w, hw⟩ : ∃ w, vwCl[q.ci]? = some w := by
            obtain ⟨b, h8⟩ := mm_zip_at mm_MT_ok rfl (List.mem_of_getElem? hq)
            unfold mm_okW at h8
            split at h8
            · rename_i w hw; exact ⟨w, hw⟩
            · cases h8
          obtain ⟨hgood, hcls, hpl, hmL, hnaL⟩ := mm_MT_spec hq hw
          intro ad ov sz
          refine vx_ofW (cc := q.cc) (maxL := q.mL) (ret := mm_rty q.rt) hpl rfl ?_
          intro p e s m args below meth c s₁ B hml hex hv
          obtain ⟨rfl, hsz, hP, hK, hD0, hEX⟩ := hv
          obtain ⟨n9, h⟩ := mm_E_to h
          have hts := atoms_spec (ws := mm_ws q) B.pre
          have hown : s.vm.findClass w.1 = some m.cls := by
            rw [← hcls.1]; exact findClass_of_methodNamed B.named
          subst hsz
          have hD := hD0.self (sz := s.heap.size)
          rw [lg_entry_eq]
          have hl := mm_entry ad (Sum.inr b :: as') (n := q.mL) (by simp only [List.length_cons]; omega) hc.2
          have hn9 : (Sum.inr b :: as' : List MV).length = q.na + 1 := by simp only [List.length_cons]; omega
          rw [hn9] at hl
          have hokM := hall y q hq e9
          unfold mm_okM at hokM
          rw [Bool.and_eq_true] at hokM
          have hpc : q.pcs[0]? = some 0 := mm_nx_spec hokM.1
          exact mm_soundN (R := mm_rm (d + 1) r.2.1 r.2.2.1) (d := d) ⟨B.exec, B.bytes, hml, hown, fun w hw => hts w (List.mem_cons_of_mem _ hw), hK, hex, B.notSynchronized, B.returns, fun z hz => Or.inr hz, hEX, hst, w.2.1, w.2.2, hw⟩ ⟨rfl, rfl, by show d + 9 ≤ d + 1 + 8; omega, by show 40 * d + 240 ≤ 40 * (d + 1) + 200; omega⟩
            (fun y as S r' mi h1 h2 => ih y as S r' mi h1 h2) hokM.2 n9 0 _ [] S 0 0 h ad s.heap [] _ 0 (fun _ _ => rfl) hpc hP hD va_S.rf hl
        · cases h
      · cases h
theorem mm_runD_eq {d y b : Nat} {as : List MV} {S : Mem} {q : MI} (hy : y ≠ mm_yRes) (hq : mm_MT[y]? = some q) (hc : mm_cls b q.ci = true) (hn : as.length = q.na) (hr : mm_noRm (.inr b :: as) = true) : mm_runD (d + 1) y (.inr b :: as) S = mm_E (mm_runD d) q.P q.rt 0 ((Sum.inr b :: as).map some ++ List.replicate (q.mL - (q.na + 1)) none) [] S 0 0 := by
  have h9 : (mm_cls b q.ci && Nat.beq as.length q.na && mm_noRm (Sum.inr b :: as)) = true := by rw [hc, hn, Nat.beq_refl, hr]; rfl
  conv => lhs; unfold mm_runD
  rw [if_neg hy, hq]
  simp only [h9, if_true]
end
section
theorem mm_ok0 : mm_MT0.all mm_okM = true := by decide +kernel
theorem mm_ok1 : mm_MT1.all mm_okM = true := by decide +kernel
theorem mm_ok2 : mm_MT2.all mm_okM = true := by decide +kernel
theorem mm_ok3 : mm_MT3.all mm_okM = true := by decide +kernel
theorem mm_ok4 : mm_MT4.all mm_okM = true := by decide +kernel
theorem mm_ok5 : mm_MT5.all mm_okM = true := by decide +kernel
theorem mm_ok6 : mm_MT6.all mm_okM = true := by decide +kernel
theorem mm_ok7 : mm_MT7.all mm_okM = true := by decide +kernel
theorem mm_okAll {y : Nat} {q : MI} (h : mm_MT[y]? = some q) : mm_okM q = true := by
  have hq := List.mem_of_getElem? h
  unfold mm_MT at hq
  simp only [List.mem_append] at hq
  rcases hq with h | h | h | h | h | h | h | h
  · exact List.all_eq_true.mp mm_ok0 _ h
  · exact List.all_eq_true.mp mm_ok1 _ h
  · exact List.all_eq_true.mp mm_ok2 _ h
  · exact List.all_eq_true.mp mm_ok3 _ h
  · exact List.all_eq_true.mp mm_ok4 _ h
  · exact List.all_eq_true.mp mm_ok5 _ h
  · exact List.all_eq_true.mp mm_ok6 _ h
  · exact List.all_eq_true.mp mm_ok7 _ h
end
section
/-- a call's end, and what follows -/
def mm_bd (o : Option Res) (kc ks : Nat) (f : Mem → Nat → Nat → Int32 → Option Res) : Option Res := match o with
  | some (S', c', s', 0, a) => f S' (kc + c') (ks + s') a
  | some (S', c', s', e + 1, _) => some (S', kc + c', ks + s', e + 1, 0)
  | none => none
theorem mm_bd_ret {S' : Mem} {c' s' kc ks : Nat} {a : Int32} {f : Mem → Nat → Nat → Int32 → Option Res} : mm_bd (some (S', c', s', 0, a)) kc ks f = f S' (kc + c') (ks + s') a := rfl
theorem mm_bd_thr {S' : Mem} {c' s' kc ks e : Nat} {a : Int32} {f : Mem → Nat → Nat → Int32 → Option Res} : mm_bd (some (S', c', s', e + 1, a)) kc ks f = some (S', kc + c', ks + s', e + 1, 0) := rfl
theorem mm_arr_in {S : Mem} {tag c n : Nat} {i : Int32} {k : Nat → Option Res} (hk : mm_KD[c]? = some (tag, n)) (h : ¬ (i < 0 ∨ mm_len S c n ≤ i.toNatClampNeg)) : mm_arr S tag c i k = k i.toNatClampNeg := by
  unfold mm_arr
  rw [hk]
  simp only [if_true, if_neg h]
end
section
theorem dX5_reserve_0 : decode cX5_reserve 0 = .ok (.iload_n 1, 1) := by decide +kernel
theorem dX5_reserve_1 : decode cX5_reserve 1 = .ok (.aload_n 0, 1) := by decide +kernel
theorem dX5_reserve_2 : decode cX5_reserve 2 = .ok (.getfield 19, 3) := by decide +kernel
theorem dX5_reserve_5 : decode cX5_reserve 5 = .ok (.arraylength, 1) := by decide +kernel
theorem dX5_reserve_6 : decode cX5_reserve 6 = .ok (.if_icmp .le 25, 3) := by decide +kernel
theorem dX5_reserve_9 : decode cX5_reserve 9 = .ok (.aload_n 0, 1) := by decide +kernel
theorem dX5_reserve_10 : decode cX5_reserve 10 = .ok (.aload_n 0, 1) := by decide +kernel
theorem dX5_reserve_11 : decode cX5_reserve 11 = .ok (.getfield 19, 3) := by decide +kernel
theorem dX5_reserve_14 : decode cX5_reserve 14 = .ok (.iload_n 1, 1) := by decide +kernel
theorem dX5_reserve_15 : decode cX5_reserve 15 = .ok (.iconst 2, 1) := by decide +kernel
theorem dX5_reserve_16 : decode cX5_reserve 16 = .ok (.aload_n 0, 1) := by decide +kernel
theorem dX5_reserve_17 : decode cX5_reserve 17 = .ok (.getfield 19, 3) := by decide +kernel
theorem dX5_reserve_20 : decode cX5_reserve 20 = .ok (.arraylength, 1) := by decide +kernel
theorem dX5_reserve_21 : decode cX5_reserve 21 = .ok (.imul, 1) := by decide +kernel
theorem dX5_reserve_22 : decode cX5_reserve 22 = .ok (.invokestatic 65, 3) := by decide +kernel
theorem dX5_reserve_25 : decode cX5_reserve 25 = .ok (.invokestatic 129, 3) := by decide +kernel
theorem dX5_reserve_28 : decode cX5_reserve 28 = .ok (.putfield 19, 3) := by decide +kernel
theorem dX5_reserve_31 : decode cX5_reserve 31 = .ok (.return_, 1) := by decide +kernel
theorem dJ7_copyOf_59c91_0 : decode cJ7_copyOf_59c91 0 = .ok (.iload_n 1, 1) := by decide +kernel
theorem dJ7_copyOf_59c91_1 : decode cJ7_copyOf_59c91 1 = .ok (.aload_n 0, 1) := by decide +kernel
theorem dJ7_copyOf_59c91_2 : decode cJ7_copyOf_59c91 2 = .ok (.arraylength, 1) := by decide +kernel
theorem dJ7_copyOf_59c91_3 : decode cJ7_copyOf_59c91 3 = .ok (.if_icmp .ne 11, 3) := by decide +kernel
theorem dJ7_copyOf_59c91_6 : decode cJ7_copyOf_59c91 6 = .ok (.aload_n 0, 1) := by decide +kernel
theorem dJ7_copyOf_59c91_7 : decode cJ7_copyOf_59c91 7 = .ok (.invokevirtual 316, 3) := by decide +kernel
theorem dJ7_copyOf_59c91_10 : decode cJ7_copyOf_59c91 10 = .ok (.checkcast 317, 3) := by decide +kernel
theorem dJ7_copyOf_59c91_13 : decode cJ7_copyOf_59c91 13 = .ok (.areturn, 1) := by decide +kernel
theorem dJ7_copyOf_59c91_14 : decode cJ7_copyOf_59c91 14 = .ok (.iload_n 1, 1) := by decide +kernel
theorem dJ7_copyOf_59c91_15 : decode cJ7_copyOf_59c91 15 = .ok (.newarray .int, 2) := by decide +kernel
theorem dJ7_copyOf_59c91_17 : decode cJ7_copyOf_59c91 17 = .ok (.astore_n 2, 1) := by decide +kernel
theorem dJ7_copyOf_59c91_18 : decode cJ7_copyOf_59c91 18 = .ok (.aload_n 0, 1) := by decide +kernel
theorem dJ7_copyOf_59c91_19 : decode cJ7_copyOf_59c91 19 = .ok (.iconst 0, 1) := by decide +kernel
theorem dJ7_copyOf_59c91_20 : decode cJ7_copyOf_59c91 20 = .ok (.aload_n 2, 1) := by decide +kernel
theorem dJ7_copyOf_59c91_21 : decode cJ7_copyOf_59c91 21 = .ok (.iconst 0, 1) := by decide +kernel
theorem dJ7_copyOf_59c91_22 : decode cJ7_copyOf_59c91 22 = .ok (.aload_n 0, 1) := by decide +kernel
theorem dJ7_copyOf_59c91_23 : decode cJ7_copyOf_59c91 23 = .ok (.arraylength, 1) := by decide +kernel
theorem dJ7_copyOf_59c91_24 : decode cJ7_copyOf_59c91 24 = .ok (.iload_n 1, 1) := by decide +kernel
theorem dJ7_copyOf_59c91_25 : decode cJ7_copyOf_59c91 25 = .ok (.invokestatic 304, 3) := by decide +kernel
theorem dJ7_copyOf_59c91_28 : decode cJ7_copyOf_59c91 28 = .ok (.invokestatic 150, 3) := by decide +kernel
theorem dJ7_copyOf_59c91_31 : decode cJ7_copyOf_59c91 31 = .ok (.aload_n 2, 1) := by decide +kernel
theorem dJ7_copyOf_59c91_32 : decode cJ7_copyOf_59c91 32 = .ok (.areturn, 1) := by decide +kernel
end
section
/-! java.util.Arrays.copyOf(int[], int), to another length -/
abbrev mm_cJ : List Cond := [.code yJ7_copyOf_59c91 cJ7_copyOf_59c91 3 (some (.array .int)), .methodLink RJ7 304 Lib.Math.min.name, .methodLink RJ7 150 arraycopyName, .arrayClass .int, .static yJ7_copyOf_59c91, .initialized RJ7, .methodLink RX5 129 yJ7_copyOf_59c91]
theorem mm_bytes {n : Int32} (hn2 : ¬ 134217728 < n) : n.toNatClampNeg * 4 ≤ 536870912 := by
  have h1 : n ≤ 134217728 := Int32.not_lt.mp hn2
  have h2 := Int32.le_iff_toInt_le.mp h1
  have h3 : (134217728 : Int32).toInt = 134217728 := by decide +kernel
  rw [h3] at h2
  have h4 : n.toNatClampNeg = n.toInt.toNat := rfl
  rw [h4]
  omega
theorem mm_cJ_ok : ∀ w ∈ mm_cJ, w ∈ lw_tbl ∧ goodWord w = true := by decide +kernel
set_option maxHeartbeats 400000 in
set_option maxRecDepth 100000 in
theorem mm_copy (l : Launch) (D : va_G) (cI : ClassId) (a sz n0 : Nat) (f : Nat → Int32) (n : Int32) {N : Nat} (hN : n.toNatClampNeg = N) (hn : ¬ n < 0) (hn2 : ¬ 134217728 < n) (hn0 : n0 < 2 ^ 31) (hne : ¬ n = Int32.ofNat n0) (hle : Int32.ofNat n0 ≤ n) :
    Met l yJ7_copyOf_59c91 (.code yJ7_copyOf_59c91 cJ7_copyOf_59c91 3 (some (.array .int)) :: mm_ut) { frames := 2, cells := 1, slots := N, locals := 120 } (va_Pc [.ref a, .int n] (fun U => U.heap.size = sz ∧ va_P D vwCl [(a, .inl (cI, n0, .inl f))] U.heap ∧ va_K D vwCl [(cI, .int)] U ∧ va_D (fun _ => True) [(a, .inl (cI, n0, .inl f))]))
      (va_Qr (fun _ : Unit => True) (fun _ q t => va_P D vwCl [(a, .inl (cI, n0, .inl f)), (q, .inl (cI, N, .inl (va_cpy f (fun _ => 0) 0 0 n0)))] t.heap ∧ va_K D vwCl [(cI, .int)] t ∧ va_D (va_A [(a, .inl (cI, n0, .inl f))] sz) [(a, .inl (cI, n0, .inl f)), (q, .inl (cI, N, .inl (va_cpy f (fun _ => 0) 0 0 n0)))]) (va_A [(a, .inl (cI, n0, .inl f))] sz)) 1 N (va_A [(a, .inl (cI, n0, .inl f))] sz) := by
  refine Met.ofW (cc := cJ7_copyOf_59c91) (maxL := 3) (ret := some (.array .int)) (by decide) rfl ?_
  intro p e s m args below meth c s₁ B hml hv
  obtain ⟨rfl, hsz, hP, hK, hD0⟩ := hv
  have hx := B.exec
  have hb := B.bytes
  have hr := B.returns
  have hts := atoms_spec (ws := .code yJ7_copyOf_59c91 cJ7_copyOf_59c91 3 (some (.array .int)) :: mm_ut) B.pre
  have hcj : ∀ w ∈ mm_cJ, w.before _ s = true := fun w hw => hts w (List.mem_cons_of_mem _ (mm_in_ut (mm_cJ_ok w hw).1 (mm_cJ_ok w hw).2))
  have hjw : ∀ w ∈ mm_jw, w.before _ s = true := fun w hw => hts w (List.mem_cons_of_mem _ (mm_jw_in hw))
  have hown : s.vm.findClass RJ7 = some m.cls := findClass_of_methodNamed B.named
  have hlocks := B.notSynchronized
  subst hsz
  have hD := hD0.self (sz := s.heap.size)
  generalize hAe : va_A [(a, .inl (cI, n0, .inl f))] s.heap.size = A at hD ⊢
  have hA : ∀ q : Nat, s.heap.size ≤ q → A q := fun q h => by rw [← hAe]; exact Or.inr h
  have hS : va_S A s.heap s.heap [] := va_S.rf
  have hl := lv_entry ([.ref a, .int n]) (n := 3) (Nat.le_of_ble_eq_true rfl)
  rw [lg_entry_eq]
  generalize (lg_sl ([.ref a, .int n]) ++ List.replicate (3 - (lg_sl ([.ref a, .int n])).length) Slot.unset).toArray = ls at hl ⊢
  have hl : lv_has ls 3 [(0, .ref a), (1, .int n)] := hl
  have hcl : (Int32.ofNat n0).toNatClampNeg = n0 := nI_clamp hn0
  refine lv_iload_n hx hb dJ7_copyOf_59c91_0 rfl (lv_at hl 1 rfl) ?_
  refine lv_aload_n hx hb dJ7_copyOf_59c91_1 rfl (lv_at hl 0 rfl) ?_
  refine va_alen (D := D) (x := (n0, .inl f)) (ty := .int) hx hb hK hP 0 0 rfl rfl rfl dJ7_copyOf_59c91_2 ?_
  refine lv_icmp_ne (tgt := 14) hx hb dJ7_copyOf_59c91_3 (by decide) (fun _ => ?_) (fun c9 => absurd c9 hne)
  refine lv_iload_n hx hb dJ7_copyOf_59c91_14 rfl (lv_at hl 1 rfl) ?_
  have hbytes : N * componentBytes .int ≤ 536870912 := hN ▸ mm_bytes hn2
  refine va_newa (D := D) (atype := .int) (ty := .int) (N' := N) (a0 := (N, .inl (fun _ => 0))) hx hb (hcj (.arrayClass .int) (List.mem_of_getElem? (i := 3) rfl)) rfl hK hP hD hS hA (fun _ => rfl) hn hN hbytes (by show 0 + 1 ≤ 1; omega) (by show 0 + _ ≤ N; omega) dJ7_copyOf_59c91_15 (fun q cA H hK2 hP2 hD2 hS2 => ?_)
  have ecA : cA = cI := by
    have h1 := (hK2.2 0 _ rfl).2
    have h2 := (hK2.2 1 _ rfl).2
    exact Option.some.inj (h2.symm.trans h1)
  subst ecA
  have hP2 : va_P D vwCl [(a, .inl (cA, n0, .inl f)), (q, .inl (cA, N, .inl (fun _ => 0)))] H := hP2
  have hD2 : va_D A [(a, .inl (cA, n0, .inl f)), (q, .inl (cA, N, .inl (fun _ => 0)))] := hD2
  refine lv_astore_n (lv' := [(2, .ref q), (0, .ref a), (1, .int n)]) hx hb dJ7_copyOf_59c91_17 rfl hl (by decide) rfl (fun ls hl => ?_)
  refine lv_aload_n hx hb dJ7_copyOf_59c91_18 rfl (lv_at hl 1 rfl) ?_
  refine lv_iconst (v := 0) hx hb dJ7_copyOf_59c91_19 (by decide) ?_
  refine lv_aload_n hx hb dJ7_copyOf_59c91_20 rfl (lv_at hl 0 rfl) ?_
  refine lv_iconst (v := 0) hx hb dJ7_copyOf_59c91_21 (by decide) ?_
  refine lv_aload_n hx hb dJ7_copyOf_59c91_22 rfl (lv_at hl 1 rfl) ?_
  refine va_alen (D := D) (x := (n0, .inl f)) (ty := .int) hx hb hK2 hP2 0 0 rfl rfl rfl dJ7_copyOf_59c91_23 ?_
  refine lv_iload_n hx hb dJ7_copyOf_59c91_24 rfl (lv_at hl 2 rfl) ?_
  refine va_mmin hx hb (by rw [hml]; exact hl.1.symm) hown (hcj (.methodLink RJ7 304 Lib.Math.min.name) (List.mem_of_getElem? (i := 1) rfl)) (hjw _ (List.mem_of_getElem? (i := 0) rfl)) (hjw _ (List.mem_of_getElem? (i := 1) rfl)) (hjw _ (List.mem_of_getElem? (i := 2) rfl)) (by show 1 ≤ 2; omega) (by show 4 + 13 ≤ 120; omega) (by show 0 + 1 ≤ 1; omega) (by show 0 + _ ≤ N; omega) dJ7_copyOf_59c91_25 ?_
  rw [if_neg (Int32.not_lt.mpr hle)]
  have hle2 : n0 ≤ N := by
    have h2 := Int32.le_iff_toInt_le.mp hle
    have h3 : (Int32.ofNat n0).toInt = n0 := nI_toInt hn0
    have h4 : n.toNatClampNeg = n.toInt.toNat := rfl
    rw [hN] at h4
    omega
  refine va_copyi (D := D) (ty := .int) hx hb (by rw [hml]; exact hl.1.symm) hown (hcj (.methodLink RJ7 150 arraycopyName) (List.mem_of_getElem? (i := 2) rfl)) (hjw _ (List.mem_of_getElem? (i := 7) rfl)) (hjw _ (List.mem_of_getElem? (i := 5) rfl)) (hjw _ (List.mem_of_getElem? (i := 6) rfl)) hK2 hP2 hD2 hS2 0 1 0 0 rfl rfl rfl rfl rfl (by decide) (by decide) (nI_pos hn0) ?_ ?_ (fun _ _ => rfl) (by show 1 ≤ 2; omega) ?_ dJ7_copyOf_59c91_28 (fun H1 locs1 hP1 hD1 hS1 => ?_)
  · rw [hcl]; show 0 + n0 ≤ n0; omega
  · rw [hcl]; show 0 + n0 ≤ _; omega
  · have e7 : nativeFrameWords "java/lang/System" "arraycopy" 5 + 11 ≤ 100 := by decide
    show 0 + (nativeFrameWords "java/lang/System" "arraycopy" 5 + 11) ≤ 120
    omega
  rw [hcl] at hP1 hD1
  refine lv_aload_n hx hb dJ7_copyOf_59c91_31 rfl (lv_at hl 0 rfl) ?_
  refine W.widen (k := 1) (n := N) (by omega) (by omega) ?_
  rw [sb_cl0] at hP1 hD1
  have hP9 : va_P D vwCl [(a, .inl (cA, n0, .inl f)), (q, .inl (cA, N, .inl (va_cpy f (fun _ => 0) 0 0 n0)))] H1 := hP1
  have hD9 : va_D A [(a, .inl (cA, n0, .inl f)), (q, .inl (cA, N, .inl (va_cpy f (fun _ => 0) 0 0 n0)))] := hD1
  exact W.aret (v := .ref q) hx hb hr (Or.inr ⟨_, rfl⟩) (Or.inr ⟨_, rfl⟩) (fun t ht hW => ⟨⟨(), q, rfl, trivial, by rw [ht]; exact hP9, va_K.moved hW.alike hK, hD9⟩, hS1.F ht⟩) hS1.2.2 dJ7_copyOf_59c91_32
end
section
/-! Tables.reserve's contract (hypothesis hres of mm_sound); copyOf by mm_copy (13.copy) -/
/-- the world seen cell by cell -/
theorem mm_P_all {D : va_G} {cy : ClassId × ClassId × ClassId} {ad : Nat → Nat} {ov : Int64} {S : Mem} {H : Heap} : va_P D vwCl (mm_W cy ad ov S) H ↔ ∀ k, k < 55 → va_at D vwCl (ad k, mm_ent cy ad ov S k) H := by
  constructor
  · intro h k hk
    exact h k _ (mm_W_at hk)
  · intro h k q hq
    have hk : k < 55 := by
      have := (List.getElem?_eq_some_iff.mp hq).1
      simpa [mm_W] using this
    rw [mm_W_at hk] at hq
    cases hq
    exact h k hk
theorem mm_rf22 : ∀ k, k < 55 → k ≠ 21 → ∀ j, j < 38 → mm_rf k j ≠ some 22 := by decide +kernel
theorem mm_NF38 : ∀ ci, ci < 9 → mm_NF[ci]?.getD 0 ≤ 38 := by decide
theorem mm_ent_move {cy : ClassId × ClassId × ClassId} {ad : Nat → Nat} {ov : Int64} {S S' : Mem} {k ra : Nat} (hk : k < 55) (h1 : k ≠ 21) (h2 : k ≠ 22) (hS : S' k = S k) : mm_ent cy (fun z => if z = 22 then ra else ad z) ov S' k = mm_ent cy ad ov S k := by
  have hlen : ∀ n, mm_len S' k n = mm_len S k n := by
    intro n
    unfold mm_len
    have : Nat.beq k mm_RM = false := by
      cases hb : Nat.beq k mm_RM with
      | false => rfl
      | true => exact absurd (Nat.eq_of_beq_eq_true hb) h2
    rw [this]
  unfold mm_ent
  split
  · rename_i ci hkd
    refine congrArg (fun z => Sum.inr (ci, z)) (List.map_congr_left fun j hj => ?_)
    have hj38 : j < 38 := by
      have h9 := List.mem_range.mp hj
      have h8 : mm_NF[ci]?.getD 0 ≤ 38 := by
        rcases Nat.lt_or_ge ci 9 with z | z
        · exact mm_NF38 ci z
        · rw [List.getElem?_eq_none (by show 9 ≤ ci; exact z)]; decide
      omega
    have h7 := mm_rf22 k hk h1 j hj38
    unfold mm_fv
    cases hr : mm_rf k j with
    | none => rw [hS]; rfl
    | some t =>
      have ht : t ≠ 22 := fun q => h7 (by rw [hr, q])
      show Value.ref (if t = 22 then ra else ad t) = Value.ref (ad t)
      rw [if_neg ht]
  · rw [hlen, hS]
  · rw [hlen, hS]
  · rfl
  · rfl
set_option maxHeartbeats 4000000 in
set_option maxRecDepth 100000 in
theorem mm_res_con {l : Launch} {D : va_G} {cy : ClassId × ClassId × ClassId} : ∀ d as S r q, mm_MT[mm_yRes]? = some q → mm_resv as S = some r → mm_Con l D cy (d + 1) q as S r := by
  intro d as S r q hq h
  have eq9 : q = (5, yX5_reserve, cX5_reserve, 2, 0, 1, [], [0]) := Option.some.inj (hq.symm.trans rfl)
  subst eq9
  unfold mm_resv at h
  split at h
  · rename_i en
    intro ad ov sz
    refine vx_ofW (cc := cX5_reserve) (maxL := 2) (ret := none) (by decide) rfl ?_
    intro p e s m args below meth c s₁ B hml hex hv
    obtain ⟨rfl, hsz, hP, hK, hD0, hEX⟩ := hv
    have hx := B.exec
    have hb := B.bytes
    have hr := B.returns
    have hts0 := atoms_spec (ws := mm_ws (5, yX5_reserve, cX5_reserve, 2, 0, 1, [], [0])) B.pre
    have hts : ∀ w ∈ mm_ut, w.before _ s = true := fun w hw => hts0 w (List.mem_cons_of_mem _ hw)
    have hown : s.vm.findClass RX5 = some m.cls := findClass_of_methodNamed B.named
    have hlocks := B.notSynchronized
    subst hsz
    have hD := hD0.self (sz := s.heap.size)
    generalize hAe : va_A (mm_W cy ad ov S) s.heap.size = A at hD ⊢
    have hA : ∀ z : Nat, s.heap.size ≤ z → A z := fun z hz => by rw [← hAe]; exact Or.inr hz
    have hS : va_S A s.heap s.heap [] := va_S.rf
    have hl := lv_entry (List.map (mm_rv ad) [.inr 21, .inl en]) (n := 2) (Nat.le_of_ble_eq_true rfl)
    rw [lg_entry_eq]
    generalize (lg_sl (List.map (mm_rv ad) [Sum.inr 21, Sum.inl en]) ++ List.replicate (2 - (lg_sl (List.map (mm_rv ad) [Sum.inr 21, Sum.inl en])).length) Slot.unset).toArray = ls at hl ⊢
    have hl : lv_has ls 2 [(0, .ref (ad 21)), (1, .int en)] := hl
    have hn0 : (S 55 0).toNatClampNeg < 2 ^ 31 := by
      have h1 := Int32.toInt_lt (S 55 0)
      have h2 : (S 55 0).toNatClampNeg = (S 55 0).toInt.toNat := rfl
      omega
    obtain ⟨n0, hn⟩ : ∃ n0, (S 55 0).toNatClampNeg = n0 := ⟨_, rfl⟩
    have hlen : mm_len S 22 0 = n0 := hn
    rw [hn] at hn0 h
    obtain ⟨hin9, hNF9, ⟨ty9, hty9⟩, hnm9⟩ := mm_CL_ok 5 (RX5, TX5, 6) rfl
    have hfl : Cond.fieldLink RX5 19 (TX5 2).1 (TX5 2).2.1 (TX5 2).2.2.1 ∈ mm_ut := (mm_FT_spec (ci := 5) (ix := 19) (x := 2) (by decide) rfl).2
    have he21 : (mm_W cy ad ov S)[21]? = some (ad 21, .inr (5, (List.range (mm_NF[5]?.getD 0)).map (fun k => mm_rv ad (mm_fv S 21 k)))) := by rw [mm_W_at (by decide), mm_ent_obj (ci := 5) rfl]
    have he22 : (mm_W cy ad ov S)[22]? = some (ad 22, .inl (cy.1, n0, .inl (S 22))) := by rw [mm_W_at (by decide), mm_ent_int (n := 0) rfl, hlen]
    refine lv_iload_n hx hb dX5_reserve_0 rfl (lv_at hl 1 rfl) ?_
    refine lv_aload_n hx hb dX5_reserve_1 rfl (lv_at hl 0 rfl) ?_
    refine va_get (D := D) (ci := 5) (v := .ref (ad 22)) (C := RX5) (T := TX5) (N := 6) hx hb hts hin9 hown hK hP 21 he21 rfl 2 (by decide) (hts _ hfl) (fun _ h9 => h9) rfl dX5_reserve_2 ?_
    refine va_alen (D := D) (x := (n0, .inl (S 22))) (ty := .int) hx hb hK hP 22 0 he22 rfl rfl dX5_reserve_5 ?_
    refine lv_icmp_le (tgt := 31) hx hb dX5_reserve_6 (by decide) (fun c9 => ?_) (fun c9 => ?_)
    · rw [if_pos c9] at h
      have e8 := (Option.some.inj h).symm
      subst e8
      refine vx_ret ?_
      refine W.vret hx hb hr (fun t ht hW => ?_) hS.2.2 dX5_reserve_31
      unfold mm_Qc
      rw [if_pos rfl]
      exact ⟨⟨S, rfl, ⟨rfl, rfl⟩, ad, fun _ _ => rfl, by rw [ht]; exact hP, va_K.moved hW.alike hK, hD⟩, hS.F ht⟩
    · rw [if_neg c9] at h
      obtain ⟨nn, hnn⟩ : ∃ z, z = (if en < 2 * Int32.ofNat n0 then 2 * Int32.ofNat n0 else en) := ⟨_, rfl⟩
      rw [← hnn] at h
      split at h
      · cases h
      · rename_i hz
        have e8 := (Option.some.inj h).symm
        have hmx : Cond.methodLink RX5 65 Lib.Math.max.name ∈ mm_ut := mm_ST_spec (ci := 5) (ix := 65) (x := 1) (by decide) rfl
        refine lv_aload_n hx hb dX5_reserve_9 rfl (lv_at hl 0 rfl) ?_
        refine lv_aload_n hx hb dX5_reserve_10 rfl (lv_at hl 0 rfl) ?_
        refine va_get (D := D) (ci := 5) (v := .ref (ad 22)) (C := RX5) (T := TX5) (N := 6) hx hb hts hin9 hown hK hP 21 he21 rfl 2 (by decide) (hts _ hfl) (fun _ h9 => h9) rfl dX5_reserve_11 ?_
        refine lv_iload_n hx hb dX5_reserve_14 rfl (lv_at hl 1 rfl) ?_
        refine lv_iconst (v := 2) hx hb dX5_reserve_15 (by decide) ?_
        refine lv_aload_n hx hb dX5_reserve_16 rfl (lv_at hl 0 rfl) ?_
        refine va_get (D := D) (ci := 5) (v := .ref (ad 22)) (C := RX5) (T := TX5) (N := 6) hx hb hts hin9 hown hK hP 21 he21 rfl 2 (by decide) (hts _ hfl) (fun _ h9 => h9) rfl dX5_reserve_17 ?_
        refine va_alen (D := D) (x := (n0, .inl (S 22))) (ty := .int) hx hb hK hP 22 0 he22 rfl rfl dX5_reserve_20 ?_
        refine lv_imul hx hb dX5_reserve_21 ?_
        refine va_mmax hx hb (by rw [hml]; exact hl.1.symm) hown (hts _ hmx) (hts _ (mm_jw_in (List.mem_of_getElem? (i := 3) rfl))) (hts _ (mm_jw_in (List.mem_of_getElem? (i := 1) rfl))) (hts _ (mm_jw_in (List.mem_of_getElem? (i := 4) rfl))) (by show 1 ≤ d + 1 + 8; omega) (by show 2 + 13 ≤ 40 * (d + 1) + 200; omega) (Nat.zero_le _) (Nat.zero_le _) dX5_reserve_22 ?_
        have hlt0 : Int32.ofNat n0 < nn := by
          have h1 : Int32.ofNat n0 < en := Int32.not_le.mp c9
          rw [hnn]
          split
          · rename_i h2; exact Int32.lt_trans h1 h2
          · exact h1
        rw [← hnn]
        obtain ⟨N, hN⟩ : ∃ N, nn.toNatClampNeg = N := ⟨_, rfl⟩
        rw [hN] at e8
        have hne : ¬ nn = Int32.ofNat n0 := fun q9 => by rw [q9] at hlt0; exact Int32.lt_irrefl hlt0
        have hPc := hP.sub (ws' := [(ad 22, .inl (cy.1, n0, .inl (S 22)))]) [22] (by simp [he22])
        have hDc := hD.sub (ws' := [(ad 22, .inl (cy.1, n0, .inl (S 22)))]) [22] (by decide) (by simp [he22])
        have hKc := hK.sub (tys' := [(cy.1, .int)]) [0] rfl
        have hFc := va_free (wc := [(ad 22, .inl (cy.1, n0, .inl (S 22)))]) hD hS hA [22] (by simp [he22])
        have hgood : GoodIn mm_ut (va_wsS RX5 129 yJ7_copyOf_59c91 (.code yJ7_copyOf_59c91 cJ7_copyOf_59c91 3 (some (.array .int)) :: mm_ut)) := by
          intro w hw
          have hm : w ∈ mm_ut := by
            simp only [va_wsS, List.cons_append, List.nil_append, List.mem_cons] at hw
            rcases hw with rfl | rfl | rfl | rfl | hw
            · exact mm_in_ut (mm_cJ_ok _ (List.mem_of_getElem? (i := 6) rfl)).1 rfl
            · exact mm_in_ut (mm_cJ_ok _ (List.mem_of_getElem? (i := 4) rfl)).1 rfl
            · exact mm_in_ut (mm_cJ_ok _ (List.mem_of_getElem? (i := 5) rfl)).1 rfl
            · exact mm_in_ut (mm_cJ_ok _ (List.mem_of_getElem? (i := 0) rfl)).1 rfl
            · exact hw
          exact ⟨hm, good_of_word (mm_ut_good hm)⟩
        refine va_callr (va_runS (As := [.ref (ad 22), .int nn]) (rest := [.ref (ad 21)]) ⟨hx, hb, hml, hown, hts⟩ (mm_copy l D cy.1 (ad 22) s.heap.size n0 (S 22) nn hN (fun q9 => hz (Or.inl q9)) (fun q9 => hz (Or.inr q9)) hn0 hne (Int32.le_of_lt hlt0)) (va_cwS 2 hts hgood rfl rfl rfl (by decide +kernel) ⟨by show 2 + 1 ≤ d + 1 + 8; omega, by show 8 + (3 + 11) + 120 ≤ 40 * (d + 1) + 200; omega⟩) ⟨fun a U g mk qq => by obtain ⟨q0, q1, qP, qK, qD⟩ := qq; exact ⟨q0, q1, qP, va_K.moved (u := U) (U := U.calling g mk a) (Vm.Alike.refl U.vm) qK, qD⟩, fun U hU hW => ⟨rfl, by rw [hU], by rw [hU]; exact hPc, va_K.moved hW.alike hKc, hDc.weaken (fun _ _ _ _ => trivial)⟩⟩ rfl rfl hl.1 rfl (lv_room (Nat.le_of_ble_eq_true rfl)) dX5_reserve_25 ⟨by rw [e8]; exact Nat.le_refl _, by rw [e8]; exact Nat.le_of_eq (Nat.zero_add _)⟩) hS (fun z _ hz9 => hFc z hz9) hFc (fun u ra t H1 locs1 ht hal hpost hB hz1 hk1 hS1 => ?_)
        obtain ⟨hP1, -, hD1⟩ := hB
        rw [ht] at hP1
        have hra : s.heap.size ≤ ra := by
          rcases hD1.2 1 _ rfl with ⟨k, e9, hk⟩ | h9
          · match k, hk with
            | 0, hk =>
              have h7 : ra = ad 22 := (congrArg Prod.fst (Option.some.inj hk)).symm
              exact absurd (hD1.1 1 0 _ _ rfl rfl h7) (by decide)
            | k + 1, hk => simp at hk
          · exact h9
        have hPo : va_P D vwCl (mm_W cy ad ov S) H1 := by
          rw [mm_P_all]
          intro k hk
          by_cases h22 : k = 22
          · subst h22
            rw [mm_ent_int (n := 0) rfl, hlen]
            exact hP1 0 _ rfl
          · have h9 := hP k _ (mm_W_at hk)
            refine h9.kept (hk1 _ h9.lt (fun h8 => ?_))
            rcases h8 with ⟨k8, e9, h7⟩ | h7
            · match k8, h7 with
              | 0, h7 =>
                have h6 : ad k = ad 22 := (congrArg Prod.fst (Option.some.inj h7)).symm
                exact h22 (hD.1 k 22 _ _ (mm_W_at hk) he22 h6)
              | k8 + 1, h7 => simp at h7
            · exact absurd h9.lt (Nat.not_lt.mpr h7)
        have hP2 := hPo.app (hP1.sub (ws' := [(ra, .inl (cy.1, N, .inl (va_cpy (S 22) (fun _ => 0) 0 0 n0)))]) [1] rfl)
        have hD2 := va_D.app hD ((hD1.sub (ws' := [(ra, .inl (cy.1, N, .inl (va_cpy (S 22) (fun _ => 0) 0 0 n0)))]) [1] (by decide) rfl).weaken (fun _ z _ hz9 => hFc _ hz9)) (fun i j x y hi hj hxy => by
          have h9 : x.1 < s.heap.size := (hP i x hi).lt
          match j, hj with
          | 0, hj => cases hj; exact absurd h9 (by rw [hxy]; exact Nat.not_lt.mpr hra)
          | j + 1, hj => simp at hj)
        have he21b : (mm_W cy ad ov S ++ [(ra, .inl (cy.1, N, .inl (va_cpy (S 22) (fun _ => 0) 0 0 n0)))])[21]? = some (ad 21, .inr (5, (List.range (mm_NF[5]?.getD 0)).map (fun k => mm_rv ad (mm_fv S 21 k)))) := by
          rw [List.getElem?_append_left (by simp [mm_W])]; exact he21
        refine va_put (D := D) (ci := 5) (v := .ref ra) (ty := .array .int) (C := RX5) (T := TX5) (N := 6) hx hb hts hin9 ty9 hty9 hnm9 hown hK hP2 hD2 hS1 21 he21b rfl 2 (by decide) (hts _ hfl) (fun _ h9 => h9) rfl (by decide +kernel) rfl rfl (by rw [List.length_map, List.length_range]; decide) dX5_reserve_28 (fun H2 locs2 hP3 hD3 hS3 => ?_)
        refine W.widen (k := 1) (n := N) (by omega) (by omega) ?_
        subst e8
        refine vx_ret ?_
        refine W.vret hx hb hr (fun t2 ht2 hW2 => ?_) hS3.2.2 dX5_reserve_31
        unfold mm_Qc
        rw [if_pos rfl]
        have key : ∀ k, k < 55 → ((mm_W cy ad ov S ++ ([(ra, .inl (cy.1, N, .inl (va_cpy (S 22) (fun _ => 0) 0 0 n0)))] : va_W)).set 21 (ad 21, .inr (5, ((List.range (mm_NF[5]?.getD 0)).map (fun k => mm_rv ad (mm_fv S 21 k))).set 2 (.ref ra))))[if k = 22 then 55 else k]? = some ((fun z => if z = 22 then ra else ad z) k, mm_ent cy (fun z => if z = 22 then ra else ad z) ov (mm_put (mm_stc S 22 (va_cpy (S 22) (fun _ => 0) 0 0 n0)) 55 0 nn) k) := by
          intro k hk
          by_cases h22 : k = 22
          · subst h22
            rw [if_pos rfl, List.getElem?_set_ne (by decide), List.getElem?_append_right (by simp [mm_W]), mm_ent_int (n := 0) rfl]
            have e1 : mm_len (mm_put (mm_stc S 22 (va_cpy (S 22) (fun _ => 0) 0 0 n0)) 55 0 nn) 22 0 = N := by
              show (mm_put _ 55 0 nn 55 0).toNatClampNeg = N
              unfold mm_put
              rw [mm_stc_at, pk_us, hN]
            rw [e1]
            have e2 : (mm_W cy ad ov S).length = 55 := by simp [mm_W]
            rw [e2]
            rfl
          · rw [if_neg h22]
            by_cases h21 : k = 21
            · subst h21
              rw [List.getElem?_set_self (by simp [mm_W])]
              rfl
            · rw [List.getElem?_set_ne (fun q9 => h21 q9.symm), List.getElem?_append_left (by simp [mm_W]; exact hk), mm_W_at hk]
              rw [mm_ent_move hk h21 h22 (S := S) (by unfold mm_put; rw [mm_stc_ne _ _ (by omega), mm_stc_ne _ _ h22])]
              simp only [if_neg h22]
        refine ⟨⟨_, rfl, ⟨rfl, rfl⟩, fun k => if k = 22 then ra else ad k, fun z hz9 => if_neg hz9, ?_, va_K.moved hW2.alike hK, ?_⟩, hS3.F ht2⟩
        · rw [mm_P_all, ht2]
          intro k hk
          exact hP3 _ _ (key k hk)
        · refine ⟨fun i j x y hi hj hxy => ?_, fun k x hx => ?_⟩
          · have hi9 : i < 55 := by have := (List.getElem?_eq_some_iff.mp hi).1; simpa [mm_W] using this
            have hj9 : j < 55 := by have := (List.getElem?_eq_some_iff.mp hj).1; simpa [mm_W] using this
            rw [mm_W_at hi9] at hi
            rw [mm_W_at hj9] at hj
            have h9 := hD3.1 _ _ _ _ (key i hi9) (key j hj9) (by rw [← Option.some.inj hi, ← Option.some.inj hj] at hxy; exact hxy)
            split at h9 <;> split at h9 <;> omega
          · have hk9 : k < 55 := by have := (List.getElem?_eq_some_iff.mp hx).1; simpa [mm_W] using this
            rw [mm_W_at hk9] at hx
            have h9 := hD3.2 _ _ (key k hk9)
            rw [← Option.some.inj hx]
            exact h9
  · cases h
end
section
set_option maxRecDepth 100000 in
theorem eX0_forget_0 {call : Nat → List MV → Mem → Option Res} {S : Mem} {kc ks : Nat}  : mm_E call pX0_forget 0 0 [some (.inr 23)] [] S kc ks = some (mm_put S 23 4 ((-1)), kc, ks, 0, 0) := by
  refine mm_E_eq [0] 4 ?_
  generalize mm_E call pX0_forget 0 = k
  rfl
set_option maxRecDepth 100000 in
theorem eX0_shown_0 {call : Nat → List MV → Mem → Option Res} {S : Mem} {kc ks : Nat}  : mm_E call pX0_shown 1 0 [some (.inr 23)] [] S kc ks = some (S, kc, ks, 0, S 23 4) := by
  refine mm_E_eq [0] 3 ?_
  generalize mm_E call pX0_shown 1 = k
  rfl
set_option maxRecDepth 100000 in
theorem eX0_show_0 {call : Nat → List MV → Mem → Option Res} {S : Mem} {kc ks : Nat} {x1 : Int32} {x2 : Int32} : mm_E call pX0_show 0 0 [some (.inr 23), some (.inl x1), some (.inl x2), none, none, none, none] [] S kc ks = mm_E call pX0_show 0 12 [some (.inr 23), some (.inl x1), some (.inl x2), some (.inl 0), none, none, none] [] (mm_put (mm_put S 23 4 x1) 23 3 (if 340 < x2 then 340 else x2)) kc ks := by
  refine mm_E_eq [0, 12, 32] 12 ?_
  generalize mm_E call pX0_show 0 = k
  rfl
set_option maxRecDepth 100000 in
theorem eX0_show_12 {call : Nat → List MV → Mem → Option Res} {S : Mem} {kc ks : Nat} {x1 : Int32} {o2 : Option MV} {x3 : Int32} {o4 : Option MV} {o5 : Option MV} {o6 : Option MV} : mm_E call pX0_show 0 12 [some (.inr 23), some (.inl x1), o2, some (.inl x3), o4, o5, o6] [] S kc ks = (if (S 23 3) ≤ x3 then mm_bd (call 83 [.inr 19, .inl x1] S) kc ks (fun S1 c1 t1 a1 => mm_E call pX0_show 0 32 [some (.inr 23), some (.inl x1), o2, some (.inl a1), some (.inl 0), some (.inl 0), o6] [] S1 c1 t1) else mm_arr S 1 24 x3 (fun q2 => mm_E call pX0_show 0 12 [some (.inr 23), some (.inl x1), o2, some (.inl (x3 + 1)), o4, o5, o6] [] (mm_put S 24 q2 ((-1))) kc ks)) := by
  refine mm_E_eq [0, 12, 32] 13 ?_
  generalize mm_E call pX0_show 0 = k
  rfl
set_option maxRecDepth 100000 in
theorem eX0_show_32 {call : Nat → List MV → Mem → Option Res} {S : Mem} {kc ks : Nat} {o1 : Option MV} {o2 : Option MV} {x3 : Int32} {x4 : Int32} {x5 : Int32} {o6 : Option MV} : mm_E call pX0_show 0 32 [some (.inr 23), o1, o2, some (.inl x3), some (.inl x4), some (.inl x5), o6] [] S kc ks = (if 300 ≤ x5 then some (S, kc, ks, 0, 0) else (if x4 = x3 then some (S, kc, ks, 0, 0) else (if x4 = ((-1)) then some (S, kc, ks, 0, 0) else mm_bd (call 82 [.inr 19, .inl x4, .inl x3] S) kc ks (fun S1 c1 t1 a1 => mm_bd (call 78 [.inr 19, .inl x4] S1) c1 t1 (fun S2 c2 t2 a2 => mm_bd (call 79 [.inr 19, .inl a1] S2) c2 t2 (fun S3 c3 t3 a3 => mm_bd (call 4 [.inr 23, .inl a2, .inl a3] S3) c3 t3 (fun S4 c4 t4 a4 => mm_E call pX0_show 0 32 [some (.inr 23), o1, o2, some (.inl x3), some (.inl a1), some (.inl (x5 + 1)), some (.inl a1)] [] S4 c4 t4))))))) := by
  refine mm_E_eq [0, 12, 32] 29 ?_
  generalize mm_E call pX0_show 0 = k
  rfl
set_option maxRecDepth 100000 in
theorem eX0_signAt_0 {call : Nat → List MV → Mem → Option Res} {S : Mem} {kc ks : Nat} {x1 : Int32} : mm_E call pX0_signAt 1 0 [some (.inr 23), some (.inl x1)] [] S kc ks = (if x1 < 0 then some (S, kc, ks, 0, (-3)) else (if (S 23 3) ≤ x1 then some (S, kc, ks, 0, (-3)) else (if 340 ≤ x1 then some (S, kc, ks, 0, (-3)) else mm_arr S 1 24 x1 (fun q1 => some (S, kc, ks, 0, S 24 q1))))) := by
  refine mm_E_eq [0] 17 ?_
  generalize mm_E call pX0_signAt 1 = k
  rfl
set_option maxRecDepth 100000 in
theorem eX0_putFound_0 {call : Nat → List MV → Mem → Option Res} {S : Mem} {kc ks : Nat} {x1 : Int32} {x2 : Int32} : mm_E call pX0_putFound 0 0 [some (.inr 23), some (.inl x1), some (.inl x2), none, none, none] [] S kc ks = mm_bd (call 5 [.inr 23, .inl x1] S) kc ks (fun S1 c1 t1 a1 => mm_bd (call 24 [.inr 1, .inl x2] S1) c1 t1 (fun S2 c2 t2 a2 => (if a1 = ((-1)) then some (S2, c2, t2, 0, 0) else (if ((S2 23 3) + a2) ≤ 340 then mm_E call pX0_putFound 0 26 [some (.inr 23), some (.inl x1), some (.inl x2), some (.inl a1), some (.inl a2), some (.inl ((S2 23 3) - 1))] [] S2 c2 t2 else some (S2, c2, t2, 0, 0))))) := by
  refine mm_E_eq [0, 26, 48] 25 ?_
  generalize mm_E call pX0_putFound 0 = k
  rfl
set_option maxRecDepth 100000 in
theorem eX0_putFound_26 {call : Nat → List MV → Mem → Option Res} {S : Mem} {kc ks : Nat} {o1 : Option MV} {x2 : Int32} {x3 : Int32} {x4 : Int32} {x5 : Int32} : mm_E call pX0_putFound 0 26 [some (.inr 23), o1, some (.inl x2), some (.inl x3), some (.inl x4), some (.inl x5)] [] S kc ks = (if x5 ≤ x3 then mm_arr S 1 24 x3 (fun q1 => mm_E call pX0_putFound 0 48 [some (.inr 23), o1, some (.inl x2), some (.inl x3), some (.inl x4), some (.inl 1)] [] (mm_put S 24 q1 x2) kc ks) else mm_arr S 1 24 x5 (fun q2 => mm_arr S 1 24 (x5 + x4) (fun q3 => mm_E call pX0_putFound 0 26 [some (.inr 23), o1, some (.inl x2), some (.inl x3), some (.inl x4), some (.inl (x5 + (-1)))] [] (mm_put S 24 q3 (S 24 q2)) kc ks))) := by
  refine mm_E_eq [0, 26, 48] 15 ?_
  generalize mm_E call pX0_putFound 0 = k
  rfl
set_option maxRecDepth 100000 in
theorem eX0_putFound_48 {call : Nat → List MV → Mem → Option Res} {S : Mem} {kc ks : Nat} {o1 : Option MV} {o2 : Option MV} {x3 : Int32} {x4 : Int32} {x5 : Int32} : mm_E call pX0_putFound 0 48 [some (.inr 23), o1, o2, some (.inl x3), some (.inl x4), some (.inl x5)] [] S kc ks = (if x4 < x5 then some (mm_put S 23 3 ((S 23 3) + x4), kc, ks, 0, 0) else mm_arr S 1 24 (x3 + x5) (fun q1 => mm_E call pX0_putFound 0 48 [some (.inr 23), o1, o2, some (.inl x3), some (.inl x4), some (.inl (x5 + 1))] [] (mm_put S 24 q1 ((-1))) kc ks)) := by
  refine mm_E_eq [0, 26, 48] 12 ?_
  generalize mm_E call pX0_putFound 0 = k
  rfl
set_option maxRecDepth 100000 in
theorem eX0_anyOf_0 {call : Nat → List MV → Mem → Option Res} {S : Mem} {kc ks : Nat} {x1 : Int32} : mm_E call pX0_anyOf 1 0 [some (.inr 23), some (.inl x1), none, none] [] S kc ks = mm_E call pX0_anyOf 1 4 [some (.inr 23), some (.inl x1), some (.inl x1), some (.inl 0)] [] S kc ks := by
  refine mm_E_eq [0, 4] 4 ?_
  generalize mm_E call pX0_anyOf 1 = k
  rfl
set_option maxRecDepth 100000 in
theorem eX0_anyOf_4 {call : Nat → List MV → Mem → Option Res} {S : Mem} {kc ks : Nat} {o1 : Option MV} {x2 : Int32} {x3 : Int32} : mm_E call pX0_anyOf 1 4 [some (.inr 23), o1, some (.inl x2), some (.inl x3)] [] S kc ks = (if (S 23 3) ≤ x3 then some (S, kc, ks, 0, (-1)) else (if 340 ≤ x3 then some (S, kc, ks, 0, (-1)) else mm_arr S 1 24 x3 (fun q1 => (if (S 24 q1) = ((-1)) then (if x2 = 0 then some (S, kc, ks, 0, x3) else mm_E call pX0_anyOf 1 4 [some (.inr 23), o1, some (.inl (x2 + (-1))), some (.inl (x3 + 1))] [] S kc ks) else mm_E call pX0_anyOf 1 4 [some (.inr 23), o1, some (.inl x2), some (.inl (x3 + 1))] [] S kc ks)))) := by
  refine mm_E_eq [0, 4] 20 ?_
  generalize mm_E call pX0_anyOf 1 = k
  rfl
end
section
set_option maxRecDepth 100000 in
theorem eX1_begin_11_0 {call : Nat → List MV → Mem → Option Res} {S : Mem} {kc ks : Nat} {x2 : Int32} : mm_E call pX1_begin 0 0 [some (.inr 11), some (.inr 7), some (.inl x2), none] [] S kc ks = mm_E call pX1_begin 0 13 [some (.inr 11), some (.inr 7), some (.inl x2), some (.inl ((if 3 < x2 then 3 else x2) - 1))] [] (mm_put (mm_put S 11 4 0) 11 5 0) kc ks := by
  refine mm_E_eq [0, 13] 13 ?_
  generalize mm_E call pX1_begin 0 = k
  rfl
set_option maxRecDepth 100000 in
theorem eX1_begin_11_13 {call : Nat → List MV → Mem → Option Res} {S : Mem} {kc ks : Nat} {o2 : Option MV} {x3 : Int32} : mm_E call pX1_begin 0 13 [some (.inr 11), some (.inr 7), o2, some (.inl x3)] [] S kc ks = (if x3 < 0 then some (S, kc, ks, 0, 0) else mm_arr S 1 7 x3 (fun q1 => mm_bd (call 16 [.inr 11, .inl (S 7 q1)] S) kc ks (fun S2 c2 t2 a2 => mm_E call pX1_begin 0 13 [some (.inr 11), some (.inr 7), o2, some (.inl (x3 + (-1)))] [] S2 c2 t2))) := by
  refine mm_E_eq [0, 13] 9 ?_
  generalize mm_E call pX1_begin 0 = k
  rfl
set_option maxRecDepth 100000 in
theorem eX1_begin_15_0 {call : Nat → List MV → Mem → Option Res} {S : Mem} {kc ks : Nat} {x2 : Int32} : mm_E call pX1_begin 0 0 [some (.inr 15), some (.inr 7), some (.inl x2), none] [] S kc ks = mm_E call pX1_begin 0 13 [some (.inr 15), some (.inr 7), some (.inl x2), some (.inl ((if 3 < x2 then 3 else x2) - 1))] [] (mm_put (mm_put S 15 4 0) 15 5 0) kc ks := by
  refine mm_E_eq [0, 13] 13 ?_
  generalize mm_E call pX1_begin 0 = k
  rfl
set_option maxRecDepth 100000 in
theorem eX1_begin_15_13 {call : Nat → List MV → Mem → Option Res} {S : Mem} {kc ks : Nat} {o2 : Option MV} {x3 : Int32} : mm_E call pX1_begin 0 13 [some (.inr 15), some (.inr 7), o2, some (.inl x3)] [] S kc ks = (if x3 < 0 then some (S, kc, ks, 0, 0) else mm_arr S 1 7 x3 (fun q1 => mm_bd (call 16 [.inr 15, .inl (S 7 q1)] S) kc ks (fun S2 c2 t2 a2 => mm_E call pX1_begin 0 13 [some (.inr 15), some (.inr 7), o2, some (.inl (x3 + (-1)))] [] S2 c2 t2))) := by
  refine mm_E_eq [0, 13] 9 ?_
  generalize mm_E call pX1_begin 0 = k
  rfl
set_option maxRecDepth 100000 in
theorem eX1_count_11_0 {call : Nat → List MV → Mem → Option Res} {S : Mem} {kc ks : Nat}  : mm_E call pX1_count 1 0 [some (.inr 11)] [] S kc ks = some (S, kc, ks, 0, S 11 4) := by
  refine mm_E_eq [0] 3 ?_
  generalize mm_E call pX1_count 1 = k
  rfl
set_option maxRecDepth 100000 in
theorem eX1_count_15_0 {call : Nat → List MV → Mem → Option Res} {S : Mem} {kc ks : Nat}  : mm_E call pX1_count 1 0 [some (.inr 15)] [] S kc ks = some (S, kc, ks, 0, S 15 4) := by
  refine mm_E_eq [0] 3 ?_
  generalize mm_E call pX1_count 1 = k
  rfl
set_option maxRecDepth 100000 in
theorem eX1_isFull_11_0 {call : Nat → List MV → Mem → Option Res} {S : Mem} {kc ks : Nat}  : mm_E call pX1_isFull 2 0 [some (.inr 11)] [] S kc ks = (if (S 11 4) < 40 then some (S, kc, ks, 0, 0) else some (S, kc, ks, 0, 1)) := by
  refine mm_E_eq [0] 9 ?_
  generalize mm_E call pX1_isFull 2 = k
  rfl
set_option maxRecDepth 100000 in
theorem eX1_isFull_15_0 {call : Nat → List MV → Mem → Option Res} {S : Mem} {kc ks : Nat}  : mm_E call pX1_isFull 2 0 [some (.inr 15)] [] S kc ks = (if (S 15 4) < 60 then some (S, kc, ks, 0, 0) else some (S, kc, ks, 0, 1)) := by
  refine mm_E_eq [0] 9 ?_
  generalize mm_E call pX1_isFull 2 = k
  rfl
set_option maxRecDepth 100000 in
theorem eX1_asks_11_0 {call : Nat → List MV → Mem → Option Res} {S : Mem} {kc ks : Nat}  : mm_E call pX1_asks 2 0 [some (.inr 11)] [] S kc ks = (if (S 11 5) ≤ 0 then some (S, kc, ks, 0, 0) else some (S, kc, ks, 0, 1)) := by
  refine mm_E_eq [0] 6 ?_
  generalize mm_E call pX1_asks 2 = k
  rfl
set_option maxRecDepth 100000 in
theorem eX1_asks_15_0 {call : Nat → List MV → Mem → Option Res} {S : Mem} {kc ks : Nat}  : mm_E call pX1_asks 2 0 [some (.inr 15)] [] S kc ks = (if (S 15 5) ≤ 0 then some (S, kc, ks, 0, 0) else some (S, kc, ks, 0, 1)) := by
  refine mm_E_eq [0] 6 ?_
  generalize mm_E call pX1_asks 2 = k
  rfl
set_option maxRecDepth 100000 in
theorem eX1_takesMaker_11_0 {call : Nat → List MV → Mem → Option Res} {S : Mem} {kc ks : Nat} {x1 : Int32} : mm_E call pX1_takesMaker 2 0 [some (.inr 11), some (.inl x1)] [] S kc ks = mm_bd (call 9 [.inr 11] S) kc ks (fun S1 c1 t1 a1 => (if a1 = 0 then some (S1, c1, t1, 0, 0) else mm_bd (call 20 [.inr 1, .inl x1] S1) c1 t1 (fun S2 c2 t2 a2 => (if a2 = 0 then some (S2, c2, t2, 0, 0) else mm_bd (call 23 [.inr 1, .inl x1] S2) c2 t2 (fun S3 c3 t3 a3 => mm_bd (call 15 [.inr 11] S3) c3 t3 (fun S4 c4 t4 a4 => (if a3 = a4 then some (S4, c4, t4, 0, 1) else some (S4, c4, t4, 0, 0)))))))) := by
  refine mm_E_eq [0] 18 ?_
  generalize mm_E call pX1_takesMaker 2 = k
  rfl
set_option maxRecDepth 100000 in
theorem eX1_takesMaker_15_0 {call : Nat → List MV → Mem → Option Res} {S : Mem} {kc ks : Nat} {x1 : Int32} : mm_E call pX1_takesMaker 2 0 [some (.inr 15), some (.inl x1)] [] S kc ks = mm_bd (call 9 [.inr 15] S) kc ks (fun S1 c1 t1 a1 => (if a1 = 0 then some (S1, c1, t1, 0, 0) else mm_bd (call 20 [.inr 1, .inl x1] S1) c1 t1 (fun S2 c2 t2 a2 => (if a2 = 0 then some (S2, c2, t2, 0, 0) else mm_bd (call 23 [.inr 1, .inl x1] S2) c2 t2 (fun S3 c3 t3 a3 => mm_bd (call 15 [.inr 15] S3) c3 t3 (fun S4 c4 t4 a4 => (if a3 = a4 then some (S4, c4, t4, 0, 1) else some (S4, c4, t4, 0, 0)))))))) := by
  refine mm_E_eq [0] 18 ?_
  generalize mm_E call pX1_takesMaker 2 = k
  rfl
set_option maxRecDepth 100000 in
theorem eX1_put_11_0 {call : Nat → List MV → Mem → Option Res} {S : Mem} {kc ks : Nat} {x1 : Int32} : mm_E call pX1_put 1 0 [some (.inr 11), some (.inl x1), none, none] [] S kc ks = mm_bd (call 8 [.inr 11] S) kc ks (fun S1 c1 t1 a1 => (if a1 = 0 then mm_bd (call 9 [.inr 11] S1) c1 t1 (fun S2 c2 t2 a2 => (if a2 = 0 then some (S2, c2, t2, 0, S2 11 4) else mm_bd (call 15 [.inr 11] S2) c2 t2 (fun S3 c3 t3 a3 => mm_arr (mm_put S3 11 5 ((S3 11 5) - 1)) 1 12 ((mm_put S3 11 5 ((S3 11 5) - 1)) 11 4) (fun q4 => (if x1 = ((-2)) then mm_bd (call 16 [.inr 11, .inl a3] (mm_put (mm_put (mm_put S3 11 5 ((S3 11 5) - 1)) 12 q4 x1) 11 4 (((mm_put (mm_put S3 11 5 ((S3 11 5) - 1)) 12 q4 x1) 11 4) + 1))) c3 t3 (fun S5 c5 t5 a5 => mm_bd (call 16 [.inr 11, .inl a3] S5) c5 t5 (fun S6 c6 t6 a6 => mm_bd (call 24 [.inr 1, .inl x1] S6) c6 t6 (fun S7 c7 t7 a7 => mm_E call pX1_put 1 46 [some (.inr 11), some (.inl x1), some (.inl a3), some (.inl (a7 - 1))] [] S7 c7 t7))) else mm_bd (call 24 [.inr 1, .inl x1] (mm_put (mm_put (mm_put S3 11 5 ((S3 11 5) - 1)) 12 q4 x1) 11 4 (((mm_put (mm_put S3 11 5 ((S3 11 5) - 1)) 12 q4 x1) 11 4) + 1))) c3 t3 (fun S8 c8 t8 a8 => mm_E call pX1_put 1 46 [some (.inr 11), some (.inl x1), some (.inl a3), some (.inl (a8 - 1))] [] S8 c8 t8)))))) else some (S1, c1, t1, 0, S1 11 4))) := by
  refine mm_E_eq [0, 46] 43 ?_
  generalize mm_E call pX1_put 1 = k
  rfl
set_option maxRecDepth 100000 in
theorem eX1_put_11_46 {call : Nat → List MV → Mem → Option Res} {S : Mem} {kc ks : Nat} {x1 : Int32} {o2 : Option MV} {x3 : Int32} : mm_E call pX1_put 1 46 [some (.inr 11), some (.inl x1), o2, some (.inl x3)] [] S kc ks = (if x3 < 0 then some (S, kc, ks, 0, S 11 4) else mm_bd (call 25 [.inr 1, .inl x1, .inl x3] S) kc ks (fun S1 c1 t1 a1 => mm_bd (call 16 [.inr 11, .inl a1] S1) c1 t1 (fun S2 c2 t2 a2 => mm_E call pX1_put 1 46 [some (.inr 11), some (.inl x1), o2, some (.inl (x3 + (-1)))] [] S2 c2 t2))) := by
  refine mm_E_eq [0, 46] 11 ?_
  generalize mm_E call pX1_put 1 = k
  rfl
set_option maxRecDepth 100000 in
theorem eX1_put_15_0 {call : Nat → List MV → Mem → Option Res} {S : Mem} {kc ks : Nat} {x1 : Int32} : mm_E call pX1_put 1 0 [some (.inr 15), some (.inl x1), none, none] [] S kc ks = mm_bd (call 8 [.inr 15] S) kc ks (fun S1 c1 t1 a1 => (if a1 = 0 then mm_bd (call 9 [.inr 15] S1) c1 t1 (fun S2 c2 t2 a2 => (if a2 = 0 then some (S2, c2, t2, 0, S2 15 4) else mm_bd (call 15 [.inr 15] S2) c2 t2 (fun S3 c3 t3 a3 => mm_arr (mm_put S3 15 5 ((S3 15 5) - 1)) 1 16 ((mm_put S3 15 5 ((S3 15 5) - 1)) 15 4) (fun q4 => (if x1 = ((-2)) then mm_bd (call 16 [.inr 15, .inl a3] (mm_put (mm_put (mm_put S3 15 5 ((S3 15 5) - 1)) 16 q4 x1) 15 4 (((mm_put (mm_put S3 15 5 ((S3 15 5) - 1)) 16 q4 x1) 15 4) + 1))) c3 t3 (fun S5 c5 t5 a5 => mm_bd (call 16 [.inr 15, .inl a3] S5) c5 t5 (fun S6 c6 t6 a6 => mm_bd (call 24 [.inr 1, .inl x1] S6) c6 t6 (fun S7 c7 t7 a7 => mm_E call pX1_put 1 46 [some (.inr 15), some (.inl x1), some (.inl a3), some (.inl (a7 - 1))] [] S7 c7 t7))) else mm_bd (call 24 [.inr 1, .inl x1] (mm_put (mm_put (mm_put S3 15 5 ((S3 15 5) - 1)) 16 q4 x1) 15 4 (((mm_put (mm_put S3 15 5 ((S3 15 5) - 1)) 16 q4 x1) 15 4) + 1))) c3 t3 (fun S8 c8 t8 a8 => mm_E call pX1_put 1 46 [some (.inr 15), some (.inl x1), some (.inl a3), some (.inl (a8 - 1))] [] S8 c8 t8)))))) else some (S1, c1, t1, 0, S1 15 4))) := by
  refine mm_E_eq [0, 46] 43 ?_
  generalize mm_E call pX1_put 1 = k
  rfl
set_option maxRecDepth 100000 in
theorem eX1_put_15_46 {call : Nat → List MV → Mem → Option Res} {S : Mem} {kc ks : Nat} {x1 : Int32} {o2 : Option MV} {x3 : Int32} : mm_E call pX1_put 1 46 [some (.inr 15), some (.inl x1), o2, some (.inl x3)] [] S kc ks = (if x3 < 0 then some (S, kc, ks, 0, S 15 4) else mm_bd (call 25 [.inr 1, .inl x1, .inl x3] S) kc ks (fun S1 c1 t1 a1 => mm_bd (call 16 [.inr 15, .inl a1] S1) c1 t1 (fun S2 c2 t2 a2 => mm_E call pX1_put 1 46 [some (.inr 15), some (.inl x1), o2, some (.inl (x3 + (-1)))] [] S2 c2 t2))) := by
  refine mm_E_eq [0, 46] 11 ?_
  generalize mm_E call pX1_put 1 = k
  rfl
set_option maxRecDepth 100000 in
theorem eX1_signAt_11_0 {call : Nat → List MV → Mem → Option Res} {S : Mem} {kc ks : Nat} {x1 : Int32} : mm_E call pX1_signAt 1 0 [some (.inr 11), some (.inl x1)] [] S kc ks = (if x1 < 0 then some (S, kc, ks, 0, (-3)) else (if (S 11 4) ≤ x1 then some (S, kc, ks, 0, (-3)) else (if 40 ≤ x1 then some (S, kc, ks, 0, (-3)) else mm_arr S 1 12 x1 (fun q1 => some (S, kc, ks, 0, S 12 q1))))) := by
  refine mm_E_eq [0] 17 ?_
  generalize mm_E call pX1_signAt 1 = k
  rfl
set_option maxRecDepth 100000 in
theorem eX1_signAt_15_0 {call : Nat → List MV → Mem → Option Res} {S : Mem} {kc ks : Nat} {x1 : Int32} : mm_E call pX1_signAt 1 0 [some (.inr 15), some (.inl x1)] [] S kc ks = (if x1 < 0 then some (S, kc, ks, 0, (-3)) else (if (S 15 4) ≤ x1 then some (S, kc, ks, 0, (-3)) else (if 60 ≤ x1 then some (S, kc, ks, 0, (-3)) else mm_arr S 1 16 x1 (fun q1 => some (S, kc, ks, 0, S 16 q1))))) := by
  refine mm_E_eq [0] 17 ?_
  generalize mm_E call pX1_signAt 1 = k
  rfl
set_option maxRecDepth 100000 in
theorem eX1_endAt_11_0 {call : Nat → List MV → Mem → Option Res} {S : Mem} {kc ks : Nat} {x1 : Int32} : mm_E call pX1_endAt 1 0 [some (.inr 11), some (.inl x1)] [] S kc ks = (if x1 < 0 then some (S, kc, ks, 0, S 11 4) else (if (S 11 4) ≤ x1 then some (S, kc, ks, 0, S 11 4) else (if 40 ≤ x1 then some (S, kc, ks, 0, S 11 4) else mm_arr S 1 13 x1 (fun q1 => some (S, kc, ks, 0, S 13 q1))))) := by
  refine mm_E_eq [0] 17 ?_
  generalize mm_E call pX1_endAt 1 = k
  rfl
set_option maxRecDepth 100000 in
theorem eX1_endAt_15_0 {call : Nat → List MV → Mem → Option Res} {S : Mem} {kc ks : Nat} {x1 : Int32} : mm_E call pX1_endAt 1 0 [some (.inr 15), some (.inl x1)] [] S kc ks = (if x1 < 0 then some (S, kc, ks, 0, S 15 4) else (if (S 15 4) ≤ x1 then some (S, kc, ks, 0, S 15 4) else (if 60 ≤ x1 then some (S, kc, ks, 0, S 15 4) else mm_arr S 1 17 x1 (fun q1 => some (S, kc, ks, 0, S 17 q1))))) := by
  refine mm_E_eq [0] 17 ?_
  generalize mm_E call pX1_endAt 1 = k
  rfl
set_option maxRecDepth 100000 in
theorem eX1_findEnds_11_0 {call : Nat → List MV → Mem → Option Res} {S : Mem} {kc ks : Nat}  : mm_E call pX1_findEnds 0 0 [some (.inr 11), none, none, none, none, none] [] S kc ks = mm_E call pX1_findEnds 0 9 [some (.inr 11), some (.inl ((if 40 < (S 11 4) then 40 else (S 11 4)) - 1)), none, none, none, none] [] S kc ks := by
  refine mm_E_eq [0, 9, 31] 9 ?_
  generalize mm_E call pX1_findEnds 0 = k
  rfl
set_option maxRecDepth 100000 in
theorem eX1_findEnds_11_9 {call : Nat → List MV → Mem → Option Res} {S : Mem} {kc ks : Nat} {x1 : Int32} {o2 : Option MV} {o3 : Option MV} {o4 : Option MV} {o5 : Option MV} : mm_E call pX1_findEnds 0 9 [some (.inr 11), some (.inl x1), o2, o3, o4, o5] [] S kc ks = (if x1 < 0 then some (S, kc, ks, 0, 0) else mm_bd (call 12 [.inr 11, .inl x1] S) kc ks (fun S1 c1 t1 a1 => (if a1 = ((-2)) then mm_E call pX1_findEnds 0 31 [some (.inr 11), some (.inl x1), some (.inl a1), some (.inl 2), some (.inl (x1 + 1)), some (.inl 0)] [] S1 c1 t1 else mm_bd (call 24 [.inr 1, .inl a1] S1) c1 t1 (fun S2 c2 t2 a2 => mm_E call pX1_findEnds 0 31 [some (.inr 11), some (.inl x1), some (.inl a1), some (.inl a2), some (.inl (x1 + 1)), some (.inl 0)] [] S2 c2 t2)))) := by
  refine mm_E_eq [0, 9, 31] 20 ?_
  generalize mm_E call pX1_findEnds 0 = k
  rfl
set_option maxRecDepth 100000 in
theorem eX1_findEnds_11_31 {call : Nat → List MV → Mem → Option Res} {S : Mem} {kc ks : Nat} {x1 : Int32} {o2 : Option MV} {x3 : Int32} {x4 : Int32} {x5 : Int32} : mm_E call pX1_findEnds 0 31 [some (.inr 11), some (.inl x1), o2, some (.inl x3), some (.inl x4), some (.inl x5)] [] S kc ks = (if x3 ≤ x5 then mm_arr S 1 13 x1 (fun q1 => mm_E call pX1_findEnds 0 9 [some (.inr 11), some (.inl (x1 + (-1))), o2, some (.inl x3), some (.inl x4), some (.inl x5)] [] (mm_put S 13 q1 x4) kc ks) else mm_bd (call 13 [.inr 11, .inl x4] S) kc ks (fun S2 c2 t2 a2 => mm_E call pX1_findEnds 0 31 [some (.inr 11), some (.inl x1), o2, some (.inl x3), some (.inl a2), some (.inl (x5 + 1))] [] S2 c2 t2)) := by
  refine mm_E_eq [0, 9, 31] 10 ?_
  generalize mm_E call pX1_findEnds 0 = k
  rfl
set_option maxRecDepth 100000 in
theorem eX1_findEnds_15_0 {call : Nat → List MV → Mem → Option Res} {S : Mem} {kc ks : Nat}  : mm_E call pX1_findEnds 0 0 [some (.inr 15), none, none, none, none, none] [] S kc ks = mm_E call pX1_findEnds 0 9 [some (.inr 15), some (.inl ((if 60 < (S 15 4) then 60 else (S 15 4)) - 1)), none, none, none, none] [] S kc ks := by
  refine mm_E_eq [0, 9, 31] 9 ?_
  generalize mm_E call pX1_findEnds 0 = k
  rfl
set_option maxRecDepth 100000 in
theorem eX1_findEnds_15_9 {call : Nat → List MV → Mem → Option Res} {S : Mem} {kc ks : Nat} {x1 : Int32} {o2 : Option MV} {o3 : Option MV} {o4 : Option MV} {o5 : Option MV} : mm_E call pX1_findEnds 0 9 [some (.inr 15), some (.inl x1), o2, o3, o4, o5] [] S kc ks = (if x1 < 0 then some (S, kc, ks, 0, 0) else mm_bd (call 12 [.inr 15, .inl x1] S) kc ks (fun S1 c1 t1 a1 => (if a1 = ((-2)) then mm_E call pX1_findEnds 0 31 [some (.inr 15), some (.inl x1), some (.inl a1), some (.inl 2), some (.inl (x1 + 1)), some (.inl 0)] [] S1 c1 t1 else mm_bd (call 24 [.inr 1, .inl a1] S1) c1 t1 (fun S2 c2 t2 a2 => mm_E call pX1_findEnds 0 31 [some (.inr 15), some (.inl x1), some (.inl a1), some (.inl a2), some (.inl (x1 + 1)), some (.inl 0)] [] S2 c2 t2)))) := by
  refine mm_E_eq [0, 9, 31] 20 ?_
  generalize mm_E call pX1_findEnds 0 = k
  rfl
set_option maxRecDepth 100000 in
theorem eX1_findEnds_15_31 {call : Nat → List MV → Mem → Option Res} {S : Mem} {kc ks : Nat} {x1 : Int32} {o2 : Option MV} {x3 : Int32} {x4 : Int32} {x5 : Int32} : mm_E call pX1_findEnds 0 31 [some (.inr 15), some (.inl x1), o2, some (.inl x3), some (.inl x4), some (.inl x5)] [] S kc ks = (if x3 ≤ x5 then mm_arr S 1 17 x1 (fun q1 => mm_E call pX1_findEnds 0 9 [some (.inr 15), some (.inl (x1 + (-1))), o2, some (.inl x3), some (.inl x4), some (.inl x5)] [] (mm_put S 17 q1 x4) kc ks) else mm_bd (call 13 [.inr 15, .inl x4] S) kc ks (fun S2 c2 t2 a2 => mm_E call pX1_findEnds 0 31 [some (.inr 15), some (.inl x1), o2, some (.inl x3), some (.inl a2), some (.inl (x5 + 1))] [] S2 c2 t2)) := by
  refine mm_E_eq [0, 9, 31] 10 ?_
  generalize mm_E call pX1_findEnds 0 = k
  rfl
set_option maxRecDepth 100000 in
theorem eX1_nextAsked_11_0 {call : Nat → List MV → Mem → Option Res} {S : Mem} {kc ks : Nat}  : mm_E call pX1_nextAsked 1 0 [some (.inr 11)] [] S kc ks = (if (S 11 5) ≤ 0 then some (S, kc, ks, 0, (-1)) else (if 83 < (S 11 5) then some (S, kc, ks, 0, (-1)) else mm_arr S 1 14 ((S 11 5) - 1) (fun q1 => some (S, kc, ks, 0, S 14 q1)))) := by
  refine mm_E_eq [0] 18 ?_
  generalize mm_E call pX1_nextAsked 1 = k
  rfl
set_option maxRecDepth 100000 in
theorem eX1_nextAsked_15_0 {call : Nat → List MV → Mem → Option Res} {S : Mem} {kc ks : Nat}  : mm_E call pX1_nextAsked 1 0 [some (.inr 15)] [] S kc ks = (if (S 15 5) ≤ 0 then some (S, kc, ks, 0, (-1)) else (if 123 < (S 15 5) then some (S, kc, ks, 0, (-1)) else mm_arr S 1 18 ((S 15 5) - 1) (fun q1 => some (S, kc, ks, 0, S 18 q1)))) := by
  refine mm_E_eq [0] 18 ?_
  generalize mm_E call pX1_nextAsked 1 = k
  rfl
set_option maxRecDepth 100000 in
theorem eX1_ask_11_0 {call : Nat → List MV → Mem → Option Res} {S : Mem} {kc ks : Nat} {x1 : Int32} : mm_E call pX1_ask 0 0 [some (.inr 11), some (.inl x1)] [] S kc ks = (if (S 11 5) < 0 then some (S, kc, ks, 0, 0) else (if 83 ≤ (S 11 5) then some (S, kc, ks, 0, 0) else mm_arr S 1 14 (S 11 5) (fun q1 => some (mm_put (mm_put S 14 q1 x1) 11 5 (((mm_put S 14 q1 x1) 11 5) + 1), kc, ks, 0, 0)))) := by
  refine mm_E_eq [0] 22 ?_
  generalize mm_E call pX1_ask 0 = k
  rfl
set_option maxRecDepth 100000 in
theorem eX1_ask_15_0 {call : Nat → List MV → Mem → Option Res} {S : Mem} {kc ks : Nat} {x1 : Int32} : mm_E call pX1_ask 0 0 [some (.inr 15), some (.inl x1)] [] S kc ks = (if (S 15 5) < 0 then some (S, kc, ks, 0, 0) else (if 123 ≤ (S 15 5) then some (S, kc, ks, 0, 0) else mm_arr S 1 18 (S 15 5) (fun q1 => some (mm_put (mm_put S 18 q1 x1) 15 5 (((mm_put S 18 q1 x1) 15 5) + 1), kc, ks, 0, 0)))) := by
  refine mm_E_eq [0] 22 ?_
  generalize mm_E call pX1_ask 0 = k
  rfl
end
section
set_option maxRecDepth 100000 in
theorem eX2_typeCount_0 {call : Nat → List MV → Mem → Option Res} {S : Mem} {kc ks : Nat}  : mm_E call pX2_typeCount 1 0 [some (.inr 1)] [] S kc ks = some (S, kc, ks, 0, S 1 0) := by
  refine mm_E_eq [0] 3 ?_
  generalize mm_E call pX2_typeCount 1 = k
  rfl
set_option maxRecDepth 100000 in
theorem eX2_makerCount_0 {call : Nat → List MV → Mem → Option Res} {S : Mem} {kc ks : Nat}  : mm_E call pX2_makerCount 1 0 [some (.inr 1)] [] S kc ks = some (S, kc, ks, 0, S 1 1) := by
  refine mm_E_eq [0] 3 ?_
  generalize mm_E call pX2_makerCount 1 = k
  rfl
set_option maxRecDepth 100000 in
theorem eX2_hasType_0 {call : Nat → List MV → Mem → Option Res} {S : Mem} {kc ks : Nat} {x1 : Int32} : mm_E call pX2_hasType 2 0 [some (.inr 1), some (.inl x1)] [] S kc ks = (if x1 < 0 then some (S, kc, ks, 0, 0) else (if (S 1 0) ≤ x1 then some (S, kc, ks, 0, 0) else (if 8 ≤ x1 then some (S, kc, ks, 0, 0) else some (S, kc, ks, 0, 1)))) := by
  refine mm_E_eq [0] 12 ?_
  generalize mm_E call pX2_hasType 2 = k
  rfl
set_option maxRecDepth 100000 in
theorem eX2_hasMaker_0 {call : Nat → List MV → Mem → Option Res} {S : Mem} {kc ks : Nat} {x1 : Int32} : mm_E call pX2_hasMaker 2 0 [some (.inr 1), some (.inl x1)] [] S kc ks = (if x1 < 0 then some (S, kc, ks, 0, 0) else (if (S 1 1) ≤ x1 then some (S, kc, ks, 0, 0) else (if 40 ≤ x1 then some (S, kc, ks, 0, 0) else some (S, kc, ks, 0, 1)))) := by
  refine mm_E_eq [0] 12 ?_
  generalize mm_E call pX2_hasMaker 2 = k
  rfl
set_option maxRecDepth 100000 in
theorem eX2_hasRoomForMaker_0 {call : Nat → List MV → Mem → Option Res} {S : Mem} {kc ks : Nat} {x1 : Int32} : mm_E call pX2_hasRoomForMaker 2 0 [some (.inr 1), some (.inl x1)] [] S kc ks = mm_bd (call 19 [.inr 1, .inl x1] S) kc ks (fun S1 c1 t1 a1 => (if a1 = 0 then some (S1, c1, t1, 0, 0) else mm_arr S1 1 2 x1 (fun q2 => (if 8 ≤ (S1 2 q2) then some (S1, c1, t1, 0, 0) else (if 40 ≤ (S1 1 1) then some (S1, c1, t1, 0, 0) else some (S1, c1, t1, 0, 1)))))) := by
  refine mm_E_eq [0] 17 ?_
  generalize mm_E call pX2_hasRoomForMaker 2 = k
  rfl
set_option maxRecDepth 100000 in
theorem eX2_hasValue_0 {call : Nat → List MV → Mem → Option Res} {S : Mem} {kc ks : Nat} {x1 : Int32} : mm_E call pX2_hasValue 2 0 [some (.inr 1), some (.inl x1)] [] S kc ks = mm_bd (call 19 [.inr 1, .inl x1] S) kc ks (fun S1 c1 t1 a1 => (if a1 = 0 then some (S1, c1, t1, 0, 0) else mm_arr S1 2 3 x1 (fun q2 => (if (S1 3 q2) = 0 then some (S1, c1, t1, 0, 0) else some (S1, c1, t1, 0, 1))))) := by
  refine mm_E_eq [0] 12 ?_
  generalize mm_E call pX2_hasValue 2 = k
  rfl
set_option maxRecDepth 100000 in
theorem eX2_typeOf_0 {call : Nat → List MV → Mem → Option Res} {S : Mem} {kc ks : Nat} {x1 : Int32} : mm_E call pX2_typeOf 1 0 [some (.inr 1), some (.inl x1)] [] S kc ks = mm_bd (call 20 [.inr 1, .inl x1] S) kc ks (fun S1 c1 t1 a1 => (if a1 = 0 then some (S1, c1, t1, 0, (-1)) else mm_arr S1 1 4 x1 (fun q2 => some (S1, c1, t1, 0, S1 4 q2)))) := by
  refine mm_E_eq [0] 10 ?_
  generalize mm_E call pX2_typeOf 1 = k
  rfl
set_option maxRecDepth 100000 in
theorem eX2_fieldCount_0 {call : Nat → List MV → Mem → Option Res} {S : Mem} {kc ks : Nat} {x1 : Int32} : mm_E call pX2_fieldCount 1 0 [some (.inr 1), some (.inl x1)] [] S kc ks = mm_bd (call 20 [.inr 1, .inl x1] S) kc ks (fun S1 c1 t1 a1 => (if a1 = 0 then some (S1, c1, t1, 0, 0) else mm_arr S1 1 5 x1 (fun q2 => some (S1, c1, t1, 0, S1 5 q2)))) := by
  refine mm_E_eq [0] 10 ?_
  generalize mm_E call pX2_fieldCount 1 = k
  rfl
set_option maxRecDepth 100000 in
theorem eX2_fieldType_0 {call : Nat → List MV → Mem → Option Res} {S : Mem} {kc ks : Nat} {x1 : Int32} {x2 : Int32} : mm_E call pX2_fieldType 1 0 [some (.inr 1), some (.inl x1), some (.inl x2), none] [] S kc ks = (if x2 < 0 then some (S, kc, ks, 0, (-1)) else (if 3 ≤ x2 then some (S, kc, ks, 0, (-1)) else mm_bd (call 24 [.inr 1, .inl x1] S) kc ks (fun S1 c1 t1 a1 => (if a1 ≤ x2 then some (S1, c1, t1, 0, (-1)) else mm_arr S1 1 6 ((x1 * 3) + x2) (fun q2 => some (S1, c1, t1, 0, S1 6 q2)))))) := by
  refine mm_E_eq [0] 25 ?_
  generalize mm_E call pX2_fieldType 1 = k
  rfl
set_option maxRecDepth 100000 in
theorem eX2_isDead_0 {call : Nat → List MV → Mem → Option Res} {S : Mem} {kc ks : Nat} {x1 : Int32} : mm_E call pX2_isDead 2 0 [some (.inr 1), some (.inl x1), none] [] S kc ks = mm_E call pX2_isDead 2 2 [some (.inr 1), some (.inl x1), some (.inl 0)] [] S kc ks := by
  refine mm_E_eq [0, 2] 2 ?_
  generalize mm_E call pX2_isDead 2 = k
  rfl
set_option maxRecDepth 100000 in
theorem eX2_isDead_2 {call : Nat → List MV → Mem → Option Res} {S : Mem} {kc ks : Nat} {x1 : Int32} {x2 : Int32} : mm_E call pX2_isDead 2 2 [some (.inr 1), some (.inl x1), some (.inl x2)] [] S kc ks = mm_bd (call 24 [.inr 1, .inl x1] S) kc ks (fun S1 c1 t1 a1 => (if a1 ≤ x2 then some (S1, c1, t1, 0, 0) else mm_bd (call 25 [.inr 1, .inl x1, .inl x2] S1) c1 t1 (fun S2 c2 t2 a2 => mm_bd (call 22 [.inr 1, .inl a2] S2) c2 t2 (fun S3 c3 t3 a3 => (if a3 = 0 then some (S3, c3, t3, 0, 1) else mm_E call pX2_isDead 2 2 [some (.inr 1), some (.inl x1), some (.inl (x2 + 1))] [] S3 c3 t3))))) := by
  refine mm_E_eq [0, 2] 14 ?_
  generalize mm_E call pX2_isDead 2 = k
  rfl
set_option maxRecDepth 100000 in
theorem eX2_addType_0 {call : Nat → List MV → Mem → Option Res} {S : Mem} {kc ks : Nat}  : mm_E call pX2_addType 1 0 [some (.inr 1), none] [] S kc ks = (if 8 ≤ (S 1 0) then some (S, kc, ks, 0, S 1 0) else some (mm_put S 1 0 ((S 1 0) + 1), kc, ks, 0, S 1 0)) := by
  refine mm_E_eq [0] 14 ?_
  generalize mm_E call pX2_addType 1 = k
  rfl
set_option maxRecDepth 100000 in
theorem eX2_addMaker_0 {call : Nat → List MV → Mem → Option Res} {S : Mem} {kc ks : Nat} {x1 : Int32} {x2 : Int32} {x3 : Int32} {x4 : Int32} {x5 : Int32} : mm_E call pX2_addMaker 1 0 [some (.inr 1), some (.inl x1), some (.inl x2), some (.inl x3), some (.inl x4), some (.inl x5), none] [] S kc ks = mm_bd (call 21 [.inr 1, .inl x1] S) kc ks (fun S1 c1 t1 a1 => (if a1 = 0 then some (S1, c1, t1, 0, (-1)) else mm_arr (mm_put S1 1 1 ((S1 1 1) + 1)) 1 2 x1 (fun q2 => mm_arr (mm_put S1 1 1 ((S1 1 1) + 1)) 1 2 x1 (fun q3 => mm_arr (mm_put (mm_put S1 1 1 ((S1 1 1) + 1)) 2 q3 (((mm_put S1 1 1 ((S1 1 1) + 1)) 2 q2) + 1)) 1 4 (S 1 1) (fun q4 => mm_arr (mm_put (mm_put (mm_put S1 1 1 ((S1 1 1) + 1)) 2 q3 (((mm_put S1 1 1 ((S1 1 1) + 1)) 2 q2) + 1)) 4 q4 x1) 1 5 (S 1 1) (fun q5 => mm_arr (mm_put (mm_put (mm_put (mm_put S1 1 1 ((S1 1 1) + 1)) 2 q3 (((mm_put S1 1 1 ((S1 1 1) + 1)) 2 q2) + 1)) 4 q4 x1) 5 q5 x2) 1 6 ((S 1 1) * 3) (fun q6 => mm_arr (mm_put (mm_put (mm_put (mm_put (mm_put S1 1 1 ((S1 1 1) + 1)) 2 q3 (((mm_put S1 1 1 ((S1 1 1) + 1)) 2 q2) + 1)) 4 q4 x1) 5 q5 x2) 6 q6 x3) 1 6 (((S 1 1) * 3) + 1) (fun q7 => mm_arr (mm_put (mm_put (mm_put (mm_put (mm_put (mm_put S1 1 1 ((S1 1 1) + 1)) 2 q3 (((mm_put S1 1 1 ((S1 1 1) + 1)) 2 q2) + 1)) 4 q4 x1) 5 q5 x2) 6 q6 x3) 6 q7 x4) 1 6 (((S 1 1) * 3) + 2) (fun q8 => mm_bd (call 29 [.inr 1] (mm_put (mm_put (mm_put (mm_put (mm_put (mm_put (mm_put S1 1 1 ((S1 1 1) + 1)) 2 q3 (((mm_put S1 1 1 ((S1 1 1) + 1)) 2 q2) + 1)) 4 q4 x1) 5 q5 x2) 6 q6 x3) 6 q7 x4) 6 q8 x5)) c1 t1 (fun S9 c9 t9 a9 => some (S9, c9, t9, 0, S 1 1))))))))))) := by
  refine mm_E_eq [0] 60 ?_
  generalize mm_E call pX2_addMaker 1 = k
  rfl
set_option maxRecDepth 100000 in
theorem eX2_findValued_0 {call : Nat → List MV → Mem → Option Res} {S : Mem} {kc ks : Nat}  : mm_E call pX2_findValued 0 0 [some (.inr 1), none, none, none, none] [] S kc ks = mm_E call pX2_findValued 0 4 [some (.inr 1), some (.inl 1), some (.inl 0), none, none] [] S kc ks := by
  refine mm_E_eq [0, 4, 13] 4 ?_
  generalize mm_E call pX2_findValued 0 = k
  rfl
set_option maxRecDepth 100000 in
theorem eX2_findValued_4 {call : Nat → List MV → Mem → Option Res} {S : Mem} {kc ks : Nat} {x1 : Int32} {x2 : Int32} {o3 : Option MV} {o4 : Option MV} : mm_E call pX2_findValued 0 4 [some (.inr 1), some (.inl x1), some (.inl x2), o3, o4] [] S kc ks = (if 8 < x2 then some (S, kc, ks, 0, 0) else (if x1 = 0 then some (S, kc, ks, 0, 0) else mm_E call pX2_findValued 0 13 [some (.inr 1), some (.inl 0), some (.inl x2), some (.inl 0), o4] [] S kc ks)) := by
  refine mm_E_eq [0, 4, 13] 9 ?_
  generalize mm_E call pX2_findValued 0 = k
  rfl
set_option maxRecDepth 100000 in
theorem eX2_findValued_13 {call : Nat → List MV → Mem → Option Res} {S : Mem} {kc ks : Nat} {x1 : Int32} {x2 : Int32} {x3 : Int32} {o4 : Option MV} : mm_E call pX2_findValued 0 13 [some (.inr 1), some (.inl x1), some (.inl x2), some (.inl x3), o4] [] S kc ks = (if (S 1 1) ≤ x3 then mm_E call pX2_findValued 0 4 [some (.inr 1), some (.inl x1), some (.inl (x2 + 1)), some (.inl x3), o4] [] S kc ks else mm_bd (call 23 [.inr 1, .inl x3] S) kc ks (fun S1 c1 t1 a1 => mm_bd (call 19 [.inr 1, .inl a1] S1) c1 t1 (fun S2 c2 t2 a2 => (if a2 = 0 then mm_E call pX2_findValued 0 13 [some (.inr 1), some (.inl x1), some (.inl x2), some (.inl (x3 + 1)), some (.inl a1)] [] S2 c2 t2 else mm_arr S2 2 3 a1 (fun q3 => (if (S2 3 q3) = 0 then mm_bd (call 26 [.inr 1, .inl x3] S2) c2 t2 (fun S4 c4 t4 a4 => (if a4 = 0 then mm_arr S4 2 3 a1 (fun q5 => mm_E call pX2_findValued 0 13 [some (.inr 1), some (.inl 1), some (.inl x2), some (.inl (x3 + 1)), some (.inl a1)] [] (mm_put S4 3 q5 (vp_nar .boolean 1)) c4 t4) else mm_E call pX2_findValued 0 13 [some (.inr 1), some (.inl x1), some (.inl x2), some (.inl (x3 + 1)), some (.inl a1)] [] S4 c4 t4)) else mm_E call pX2_findValued 0 13 [some (.inr 1), some (.inl x1), some (.inl x2), some (.inl (x3 + 1)), some (.inl a1)] [] S2 c2 t2)))))) := by
  refine mm_E_eq [0, 4, 13] 30 ?_
  generalize mm_E call pX2_findValued 0 = k
  rfl
end
section
set_option maxRecDepth 100000 in
theorem eX3_clear_0 {call : Nat → List MV → Mem → Option Res} {S : Mem} {kc ks : Nat}  : mm_E call pX3_clear 0 0 [some (.inr 8)] [] S kc ks = some (mm_put S 8 2 0, kc, ks, 0, 0) := by
  refine mm_E_eq [0] 4 ?_
  generalize mm_E call pX3_clear 0 = k
  rfl
set_option maxRecDepth 100000 in
theorem eX3_count_0 {call : Nat → List MV → Mem → Option Res} {S : Mem} {kc ks : Nat}  : mm_E call pX3_count 1 0 [some (.inr 8)] [] S kc ks = some (S, kc, ks, 0, S 8 2) := by
  refine mm_E_eq [0] 3 ?_
  generalize mm_E call pX3_count 1 = k
  rfl
set_option maxRecDepth 100000 in
theorem eX3_add_0 {call : Nat → List MV → Mem → Option Res} {S : Mem} {kc ks : Nat}  : mm_E call pX3_add 1 0 [some (.inr 8), some (.inr 11), none, none, none] [] S kc ks = (if (S 8 2) < 0 then some (S, kc, ks, 0, (-1)) else (if (S 8 2) < 12 then mm_bd (call 14 [.inr 11] S) kc ks (fun S1 c1 t1 a1 => mm_bd (call 33 [.inr 8, .inl (S 8 2)] S1) c1 t1 (fun S2 c2 t2 a2 => mm_E call pX3_add 1 18 [some (.inr 8), some (.inr 11), some (.inl (S 8 2)), some (.inl a2), some (.inl 0)] [] S2 c2 t2)) else some (S, kc, ks, 0, (-1)))) := by
  refine mm_E_eq [0, 18] 16 ?_
  generalize mm_E call pX3_add 1 = k
  rfl
set_option maxRecDepth 100000 in
theorem eX3_add_18 {call : Nat → List MV → Mem → Option Res} {S : Mem} {kc ks : Nat} {x2 : Int32} {x3 : Int32} {x4 : Int32} : mm_E call pX3_add 1 18 [some (.inr 8), some (.inr 11), some (.inl x2), some (.inl x3), some (.inl x4)] [] S kc ks = mm_bd (call 7 [.inr 11] S) kc ks (fun S1 c1 t1 a1 => (if a1 ≤ x4 then some (mm_put S1 8 2 ((S1 8 2) + 1), c1, t1, 0, x2) else (if 40 ≤ x4 then some (mm_put S1 8 2 ((S1 8 2) + 1), c1, t1, 0, x2) else mm_bd (call 12 [.inr 11, .inl x4] S1) c1 t1 (fun S2 c2 t2 a2 => mm_arr S2 1 9 (x3 + x4) (fun q3 => mm_bd (call 13 [.inr 11, .inl x4] (mm_put S2 9 q3 a2)) c2 t2 (fun S4 c4 t4 a4 => mm_arr S4 1 10 (x3 + x4) (fun q5 => mm_E call pX3_add 1 18 [some (.inr 8), some (.inr 11), some (.inl x2), some (.inl x3), some (.inl (x4 + 1))] [] (mm_put S4 10 q5 (x3 + a4)) c4 t4))))))) := by
  refine mm_E_eq [0, 18] 29 ?_
  generalize mm_E call pX3_add 1 = k
  rfl
set_option maxRecDepth 100000 in
theorem eX3_startOf_0 {call : Nat → List MV → Mem → Option Res} {S : Mem} {kc ks : Nat} {x1 : Int32} : mm_E call pX3_startOf 1 0 [some (.inr 8), some (.inl x1)] [] S kc ks = some (S, kc, ks, 0, x1 * 40) := by
  refine mm_E_eq [0] 4 ?_
  generalize mm_E call pX3_startOf 1 = k
  rfl
set_option maxRecDepth 100000 in
theorem eX3_signAt_0 {call : Nat → List MV → Mem → Option Res} {S : Mem} {kc ks : Nat} {x1 : Int32} : mm_E call pX3_signAt 1 0 [some (.inr 8), some (.inl x1)] [] S kc ks = (if x1 < 0 then some (S, kc, ks, 0, (-1)) else (if 480 ≤ x1 then some (S, kc, ks, 0, (-1)) else mm_arr S 1 9 x1 (fun q1 => some (S, kc, ks, 0, S 9 q1)))) := by
  refine mm_E_eq [0] 13 ?_
  generalize mm_E call pX3_signAt 1 = k
  rfl
set_option maxRecDepth 100000 in
theorem eX3_endAt_0 {call : Nat → List MV → Mem → Option Res} {S : Mem} {kc ks : Nat} {x1 : Int32} : mm_E call pX3_endAt 1 0 [some (.inr 8), some (.inl x1)] [] S kc ks = (if x1 < 0 then some (S, kc, ks, 0, x1) else (if 480 ≤ x1 then some (S, kc, ks, 0, x1) else mm_arr S 1 10 x1 (fun q1 => some (S, kc, ks, 0, S 10 q1)))) := by
  refine mm_E_eq [0] 13 ?_
  generalize mm_E call pX3_endAt 1 = k
  rfl
end
section
set_option maxRecDepth 100000 in
theorem eX4_begin_0 {call : Nat → List MV → Mem → Option Res} {S : Mem} {kc ks : Nat} {x1 : Int32} : mm_E call pX4_begin 0 0 [some (.inr 25), some (.inl x1), none, none] [] S kc ks = mm_E call pX4_begin 0 11 [some (.inr 25), some (.inl x1), some (.inl 0), some (.inl 0)] [] (mm_put S 25 3 (if 40 < x1 then 40 else x1)) kc ks := by
  refine mm_E_eq [0, 11] 11 ?_
  generalize mm_E call pX4_begin 0 = k
  rfl
set_option maxRecDepth 100000 in
theorem eX4_begin_11 {call : Nat → List MV → Mem → Option Res} {S : Mem} {kc ks : Nat} {o1 : Option MV} {x2 : Int32} {x3 : Int32} : mm_E call pX4_begin 0 11 [some (.inr 25), o1, some (.inl x2), some (.inl x3)] [] S kc ks = (if (S 25 3) ≤ x3 then some (S, kc, ks, 0, 0) else mm_arr S 1 26 x3 (fun q1 => mm_bd (call 13 [.inr 15, .inl x2] (mm_put S 26 q1 x2)) kc ks (fun S2 c2 t2 a2 => mm_E call pX4_begin 0 11 [some (.inr 25), o1, some (.inl a2), some (.inl (x3 + 1))] [] S2 c2 t2))) := by
  refine mm_E_eq [0, 11] 16 ?_
  generalize mm_E call pX4_begin 0 = k
  rfl
set_option maxRecDepth 100000 in
theorem eX4_makerAt_0 {call : Nat → List MV → Mem → Option Res} {S : Mem} {kc ks : Nat} {x1 : Int32} : mm_E call pX4_makerAt 1 0 [some (.inr 25), some (.inl x1)] [] S kc ks = mm_bd (call 40 [.inr 25, .inl x1] S) kc ks (fun S1 c1 t1 a1 => (if a1 = 0 then some (S1, c1, t1, 0, (-1)) else mm_arr S1 1 26 x1 (fun q2 => mm_bd (call 12 [.inr 15, .inl (S1 26 q2)] S1) c1 t1 (fun S3 c3 t3 a3 => some (S3, c3, t3, 0, a3))))) := by
  refine mm_E_eq [0] 13 ?_
  generalize mm_E call pX4_makerAt 1 = k
  rfl
set_option maxRecDepth 100000 in
theorem eX4_openUp_0 {call : Nat → List MV → Mem → Option Res} {S : Mem} {kc ks : Nat} {x1 : Int32} {x2 : Int32} : mm_E call pX4_openUp 0 0 [some (.inr 25), some (.inl x1), some (.inl x2), none, none, none] [] S kc ks = mm_bd (call 24 [.inr 1, .inl x2] S) kc ks (fun S1 c1 t1 a1 => mm_bd (call 40 [.inr 25, .inl x1] S1) c1 t1 (fun S2 c2 t2 a2 => (if a2 = 0 then some (S2, c2, t2, 0, 0) else (if (((S2 25 3) - 1) + a1) ≤ 40 then mm_arr S2 1 26 x1 (fun q3 => mm_bd (call 39 [.inr 25, .inl x1, .inl a1] S2) c2 t2 (fun S4 c4 t4 a4 => mm_E call pX4_openUp 0 33 [some (.inr 25), some (.inl x1), some (.inl x2), some (.inl a1), some (.inl ((S2 26 q3) + 1)), some (.inl x1)] [] S4 c4 t4)) else some (S2, c2, t2, 0, 0))))) := by
  refine mm_E_eq [0, 33] 32 ?_
  generalize mm_E call pX4_openUp 0 = k
  rfl
set_option maxRecDepth 100000 in
theorem eX4_openUp_33 {call : Nat → List MV → Mem → Option Res} {S : Mem} {kc ks : Nat} {x1 : Int32} {o2 : Option MV} {x3 : Int32} {x4 : Int32} {x5 : Int32} : mm_E call pX4_openUp 0 33 [some (.inr 25), some (.inl x1), o2, some (.inl x3), some (.inl x4), some (.inl x5)] [] S kc ks = (if (x1 + x3) ≤ x5 then some (S, kc, ks, 0, 0) else (if 40 ≤ x5 then some (S, kc, ks, 0, 0) else mm_arr S 1 26 x5 (fun q1 => mm_bd (call 13 [.inr 15, .inl x4] (mm_put S 26 q1 x4)) kc ks (fun S2 c2 t2 a2 => mm_E call pX4_openUp 0 33 [some (.inr 25), some (.inl x1), o2, some (.inl x3), some (.inl a2), some (.inl (x5 + 1))] [] S2 c2 t2)))) := by
  refine mm_E_eq [0, 33] 22 ?_
  generalize mm_E call pX4_openUp 0 = k
  rfl
set_option maxRecDepth 100000 in
theorem eX4_makeGap_0 {call : Nat → List MV → Mem → Option Res} {S : Mem} {kc ks : Nat} {x1 : Int32} {x2 : Int32} : mm_E call pX4_makeGap 0 0 [some (.inr 25), some (.inl x1), some (.inl x2), none, none] [] S kc ks = (if 0 ≤ (x2 - 1) then mm_E call pX4_makeGap 0 32 [some (.inr 25), some (.inl x1), some (.inl x2), some (.inl (x2 - 1)), some (.inl ((S 25 3) - 1))] [] S kc ks else mm_E call pX4_makeGap 0 10 [some (.inr 25), some (.inl x1), some (.inl x2), some (.inl (x2 - 1)), some (.inl (x1 + 1))] [] S kc ks) := by
  refine mm_E_eq [0, 10, 32] 11 ?_
  generalize mm_E call pX4_makeGap 0 = k
  rfl
set_option maxRecDepth 100000 in
theorem eX4_makeGap_10 {call : Nat → List MV → Mem → Option Res} {S : Mem} {kc ks : Nat} {o1 : Option MV} {o2 : Option MV} {x3 : Int32} {x4 : Int32} : mm_E call pX4_makeGap 0 10 [some (.inr 25), o1, o2, some (.inl x3), some (.inl x4)] [] S kc ks = (if (S 25 3) ≤ x4 then some (mm_put S 25 3 ((S 25 3) + x3), kc, ks, 0, 0) else mm_arr S 1 26 x4 (fun q1 => mm_arr S 1 26 (x4 - 1) (fun q2 => mm_E call pX4_makeGap 0 10 [some (.inr 25), o1, o2, some (.inl x3), some (.inl (x4 + 1))] [] (mm_put S 26 q2 (S 26 q1)) kc ks))) := by
  refine mm_E_eq [0, 10, 32] 16 ?_
  generalize mm_E call pX4_makeGap 0 = k
  rfl
set_option maxRecDepth 100000 in
theorem eX4_makeGap_32 {call : Nat → List MV → Mem → Option Res} {S : Mem} {kc ks : Nat} {x1 : Int32} {o2 : Option MV} {x3 : Int32} {x4 : Int32} : mm_E call pX4_makeGap 0 32 [some (.inr 25), some (.inl x1), o2, some (.inl x3), some (.inl x4)] [] S kc ks = (if x4 ≤ x1 then some (mm_put S 25 3 ((S 25 3) + x3), kc, ks, 0, 0) else mm_arr S 1 26 x4 (fun q1 => mm_arr S 1 26 (x4 + x3) (fun q2 => mm_E call pX4_makeGap 0 32 [some (.inr 25), some (.inl x1), o2, some (.inl x3), some (.inl (x4 + (-1)))] [] (mm_put S 26 q2 (S 26 q1)) kc ks))) := by
  refine mm_E_eq [0, 10, 32] 15 ?_
  generalize mm_E call pX4_makeGap 0 = k
  rfl
set_option maxRecDepth 100000 in
theorem eX4_isSeat_0 {call : Nat → List MV → Mem → Option Res} {S : Mem} {kc ks : Nat} {x1 : Int32} : mm_E call pX4_isSeat 2 0 [some (.inr 25), some (.inl x1)] [] S kc ks = (if x1 < 0 then some (S, kc, ks, 0, 0) else (if (S 25 3) ≤ x1 then some (S, kc, ks, 0, 0) else (if 40 ≤ x1 then some (S, kc, ks, 0, 0) else some (S, kc, ks, 0, 1)))) := by
  refine mm_E_eq [0] 14 ?_
  generalize mm_E call pX4_isSeat 2 = k
  rfl
end
section
set_option maxRecDepth 100000 in
theorem eX5_begin_0 {call : Nat → List MV → Mem → Option Res} {S : Mem} {kc ks : Nat} {x2 : Int32} : mm_E call pX5_begin 0 0 [some (.inr 21), some (.inr 7), some (.inl x2), none, none, none, none] [] S kc ks = mm_bd (call 54 [.inr 21, .inl 0, .inl (if 3 < x2 then 3 else x2)] (mm_put S 21 3 ((-1)))) kc ks (fun S1 c1 t1 a1 => mm_E call pX5_begin 0 12 [some (.inr 21), some (.inr 7), some (.inl x2), some (.inl 0), none, none, none] [] S1 c1 t1) := by
  refine mm_E_eq [0, 12, 35, 51] 12 ?_
  generalize mm_E call pX5_begin 0 = k
  rfl
set_option maxRecDepth 100000 in
theorem eX5_begin_12 {call : Nat → List MV → Mem → Option Res} {S : Mem} {kc ks : Nat} {o2 : Option MV} {x3 : Int32} {o4 : Option MV} {o5 : Option MV} {o6 : Option MV} : mm_E call pX5_begin 0 12 [some (.inr 21), some (.inr 7), o2, some (.inl x3), o4, o5, o6] [] S kc ks = (if (S 21 4) ≤ x3 then mm_E call pX5_begin 0 35 [some (.inr 21), some (.inr 7), o2, some (.inl 0), o4, o5, o6] [] S kc ks else (if 3 ≤ x3 then mm_E call pX5_begin 0 35 [some (.inr 21), some (.inr 7), o2, some (.inl 0), o4, o5, o6] [] S kc ks else mm_arr S 1 7 x3 (fun q1 => mm_bd (call 65 [.inr 21, .inl (((S 21 3) + 6) + x3), .inl (S 7 q1)] S) kc ks (fun S2 c2 t2 a2 => mm_E call pX5_begin 0 12 [some (.inr 21), some (.inr 7), o2, some (.inl (x3 + 1)), o4, o5, o6] [] S2 c2 t2)))) := by
  refine mm_E_eq [0, 12, 35, 51] 21 ?_
  generalize mm_E call pX5_begin 0 = k
  rfl
set_option maxRecDepth 100000 in
theorem eX5_begin_35 {call : Nat → List MV → Mem → Option Res} {S : Mem} {kc ks : Nat} {o2 : Option MV} {x3 : Int32} {o4 : Option MV} {o5 : Option MV} {o6 : Option MV} : mm_E call pX5_begin 0 35 [some (.inr 21), some (.inr 7), o2, some (.inl x3), o4, o5, o6] [] S kc ks = mm_bd (call 31 [.inr 8] S) kc ks (fun S1 c1 t1 a1 => (if a1 ≤ x3 then some (S1, c1, t1, 0, 0) else mm_bd (call 55 [.inr 21, .inl x3] S1) c1 t1 (fun S2 c2 t2 a2 => mm_bd (call 33 [.inr 8, .inl x3] S2) c2 t2 (fun S3 c3 t3 a3 => mm_E call pX5_begin 0 51 [some (.inr 21), some (.inr 7), o2, some (.inl x3), some (.inl a2), some (.inl a3), some (.inl 0)] [] S3 c3 t3)))) := by
  refine mm_E_eq [0, 12, 35, 51] 16 ?_
  generalize mm_E call pX5_begin 0 = k
  rfl
set_option maxRecDepth 100000 in
theorem eX5_begin_51 {call : Nat → List MV → Mem → Option Res} {S : Mem} {kc ks : Nat} {o2 : Option MV} {x3 : Int32} {x4 : Int32} {x5 : Int32} {x6 : Int32} : mm_E call pX5_begin 0 51 [some (.inr 21), some (.inr 7), o2, some (.inl x3), some (.inl x4), some (.inl x5), some (.inl x6)] [] S kc ks = (if (S 21 4) ≤ x6 then mm_E call pX5_begin 0 35 [some (.inr 21), some (.inr 7), o2, some (.inl (x3 + 1)), some (.inl x4), some (.inl x5), some (.inl x6)] [] S kc ks else mm_bd (call 61 [.inr 21, .inl x5] S) kc ks (fun S1 c1 t1 a1 => mm_bd (call 65 [.inr 21, .inl ((x4 + 1) + x6), .inl a1] S1) c1 t1 (fun S2 c2 t2 a2 => mm_bd (call 35 [.inr 8, .inl x5] S2) c2 t2 (fun S3 c3 t3 a3 => mm_E call pX5_begin 0 51 [some (.inr 21), some (.inr 7), o2, some (.inl x3), some (.inl x4), some (.inl a3), some (.inl (x6 + 1))] [] S3 c3 t3)))) := by
  refine mm_E_eq [0, 12, 35, 51] 21 ?_
  generalize mm_E call pX5_begin 0 = k
  rfl
set_option maxRecDepth 100000 in
theorem eX5_hasOpen_0 {call : Nat → List MV → Mem → Option Res} {S : Mem} {kc ks : Nat}  : mm_E call pX5_hasOpen 2 0 [some (.inr 21)] [] S kc ks = (if (S 21 3) < 0 then some (S, kc, ks, 0, 0) else some (S, kc, ks, 0, 1)) := by
  refine mm_E_eq [0] 6 ?_
  generalize mm_E call pX5_hasOpen 2 = k
  rfl
set_option maxRecDepth 100000 in
theorem eX5_drop_0 {call : Nat → List MV → Mem → Option Res} {S : Mem} {kc ks : Nat}  : mm_E call pX5_drop 0 0 [some (.inr 21)] [] S kc ks = mm_bd (call 63 [.inr 21, .inl 0] S) kc ks (fun S1 c1 t1 a1 => mm_bd (call 63 [.inr 21, .inl 1] (mm_put S1 21 3 a1)) c1 t1 (fun S2 c2 t2 a2 => mm_bd (call 63 [.inr 21, .inl 2] (mm_put S2 21 4 (if a2 < 0 then 0 else a2))) c2 t2 (fun S3 c3 t3 a3 => some (mm_put S3 21 5 (if a3 < 0 then 0 else a3), c3, t3, 0, 0)))) := by
  refine mm_E_eq [0] 20 ?_
  generalize mm_E call pX5_drop 0 = k
  rfl
set_option maxRecDepth 100000 in
theorem eX5_placeCount_0 {call : Nat → List MV → Mem → Option Res} {S : Mem} {kc ks : Nat}  : mm_E call pX5_placeCount 1 0 [some (.inr 21)] [] S kc ks = some (S, kc, ks, 0, S 21 4) := by
  refine mm_E_eq [0] 3 ?_
  generalize mm_E call pX5_placeCount 1 = k
  rfl
set_option maxRecDepth 100000 in
theorem eX5_lineCount_0 {call : Nat → List MV → Mem → Option Res} {S : Mem} {kc ks : Nat}  : mm_E call pX5_lineCount 1 0 [some (.inr 21)] [] S kc ks = some (S, kc, ks, 0, S 21 5) := by
  refine mm_E_eq [0] 3 ?_
  generalize mm_E call pX5_lineCount 1 = k
  rfl
set_option maxRecDepth 100000 in
theorem eX5_openNode_0 {call : Nat → List MV → Mem → Option Res} {S : Mem} {kc ks : Nat}  : mm_E call pX5_openNode 1 0 [some (.inr 21)] [] S kc ks = mm_bd (call 63 [.inr 21, .inl 3] S) kc ks (fun S1 c1 t1 a1 => some (S1, c1, t1, 0, a1)) := by
  refine mm_E_eq [0] 4 ?_
  generalize mm_E call pX5_openNode 1 = k
  rfl
set_option maxRecDepth 100000 in
theorem eX5_typeAt_0 {call : Nat → List MV → Mem → Option Res} {S : Mem} {kc ks : Nat} {x1 : Int32} : mm_E call pX5_typeAt 1 0 [some (.inr 21), some (.inl x1)] [] S kc ks = mm_bd (call 64 [.inr 21, .inl (((S 21 3) + 6) + x1)] S) kc ks (fun S1 c1 t1 a1 => some (S1, c1, t1, 0, a1)) := by
  refine mm_E_eq [0] 9 ?_
  generalize mm_E call pX5_typeAt 1 = k
  rfl
set_option maxRecDepth 100000 in
theorem eX5_firstRow_0 {call : Nat → List MV → Mem → Option Res} {S : Mem} {kc ks : Nat}  : mm_E call pX5_firstRow 1 0 [some (.inr 21)] [] S kc ks = mm_bd (call 62 [.inr 21, .inl 0] S) kc ks (fun S1 c1 t1 a1 => mm_bd (call 64 [.inr 21, .inl a1] S1) c1 t1 (fun S2 c2 t2 a2 => some (S2, c2, t2, 0, a2))) := by
  refine mm_E_eq [0] 6 ?_
  generalize mm_E call pX5_firstRow 1 = k
  rfl
set_option maxRecDepth 100000 in
theorem eX5_splitEithers_0 {call : Nat → List MV → Mem → Option Res} {S : Mem} {kc ks : Nat}  : mm_E call pX5_splitEithers 2 0 [some (.inr 21), none, none] [] S kc ks = (if 40 < (S 21 4) then some (S, kc, ks, 0, 0) else (if (S 21 5) ≤ 60 then mm_E call pX5_splitEithers 2 12 [some (.inr 21), some (.inl 0), none] [] S kc ks else some (S, kc, ks, 0, 0))) := by
  refine mm_E_eq [0, 12, 18] 10 ?_
  generalize mm_E call pX5_splitEithers 2 = k
  rfl
set_option maxRecDepth 100000 in
theorem eX5_splitEithers_12 {call : Nat → List MV → Mem → Option Res} {S : Mem} {kc ks : Nat} {x1 : Int32} {o2 : Option MV} : mm_E call pX5_splitEithers 2 12 [some (.inr 21), some (.inl x1), o2] [] S kc ks = (if (S 21 5) ≤ x1 then some (S, kc, ks, 0, 1) else mm_E call pX5_splitEithers 2 18 [some (.inr 21), some (.inl x1), some (.inl 0)] [] S kc ks) := by
  refine mm_E_eq [0, 12, 18] 6 ?_
  generalize mm_E call pX5_splitEithers 2 = k
  rfl
set_option maxRecDepth 100000 in
theorem eX5_splitEithers_18 {call : Nat → List MV → Mem → Option Res} {S : Mem} {kc ks : Nat} {x1 : Int32} {x2 : Int32} : mm_E call pX5_splitEithers 2 18 [some (.inr 21), some (.inl x1), some (.inl x2)] [] S kc ks = (if (S 21 4) ≤ x2 then mm_E call pX5_splitEithers 2 12 [some (.inr 21), some (.inl (x1 + 1)), some (.inl x2)] [] S kc ks else mm_bd (call 56 [.inr 21, .inl x1, .inl x2] S) kc ks (fun S1 c1 t1 a1 => (if a1 = 0 then some (S1, c1, t1, 0, 0) else mm_E call pX5_splitEithers 2 18 [some (.inr 21), some (.inl x1), some (.inl (x2 + 1))] [] S1 c1 t1))) := by
  refine mm_E_eq [0, 12, 18] 11 ?_
  generalize mm_E call pX5_splitEithers 2 = k
  rfl
set_option maxRecDepth 100000 in
theorem eX5_firstTested_0 {call : Nat → List MV → Mem → Option Res} {S : Mem} {kc ks : Nat}  : mm_E call pX5_firstTested 1 0 [some (.inr 21), none] [] S kc ks = mm_E call pX5_firstTested 1 2 [some (.inr 21), some (.inl 0)] [] S kc ks := by
  refine mm_E_eq [0, 2] 2 ?_
  generalize mm_E call pX5_firstTested 1 = k
  rfl
set_option maxRecDepth 100000 in
theorem eX5_firstTested_2 {call : Nat → List MV → Mem → Option Res} {S : Mem} {kc ks : Nat} {x1 : Int32} : mm_E call pX5_firstTested 1 2 [some (.inr 21), some (.inl x1)] [] S kc ks = (if (S 21 4) ≤ x1 then some (S, kc, ks, 0, (-1)) else mm_bd (call 62 [.inr 21, .inl 0] S) kc ks (fun S1 c1 t1 a1 => mm_bd (call 64 [.inr 21, .inl ((a1 + 1) + x1)] S1) c1 t1 (fun S2 c2 t2 a2 => (if a2 = ((-1)) then mm_E call pX5_firstTested 1 2 [some (.inr 21), some (.inl (x1 + 1))] [] S2 c2 t2 else some (S2, c2, t2, 0, x1))))) := by
  refine mm_E_eq [0, 2] 17 ?_
  generalize mm_E call pX5_firstTested 1 = k
  rfl
set_option maxRecDepth 100000 in
theorem eX5_keepFor_0 {call : Nat → List MV → Mem → Option Res} {S : Mem} {kc ks : Nat} {x1 : Int32} {x2 : Int32} : mm_E call pX5_keepFor 0 0 [some (.inr 21), some (.inl x1), some (.inl x2)] [] S kc ks = mm_bd (call 65 [.inr 21, .inl ((S 21 3) + 1), .inl (S 21 4)] S) kc ks (fun S1 c1 t1 a1 => mm_bd (call 65 [.inr 21, .inl ((S1 21 3) + 2), .inl (S1 21 5)] S1) c1 t1 (fun S2 c2 t2 a2 => mm_bd (call 65 [.inr 21, .inl ((S2 21 3) + 3), .inl x1] S2) c2 t2 (fun S3 c3 t3 a3 => mm_bd (call 65 [.inr 21, .inl ((S3 21 3) + 4), .inl x2] S3) c3 t3 (fun S4 c4 t4 a4 => mm_bd (call 65 [.inr 21, .inl ((S4 21 3) + 5), .inl ((-1))] S4) c4 t4 (fun S5 c5 t5 a5 => some (S5, c5, t5, 0, 0)))))) := by
  refine mm_E_eq [0] 38 ?_
  generalize mm_E call pX5_keepFor 0 = k
  rfl
set_option maxRecDepth 100000 in
theorem eX5_nextBranch_0 {call : Nat → List MV → Mem → Option Res} {S : Mem} {kc ks : Nat}  : mm_E call pX5_nextBranch 1 0 [some (.inr 21), none, none] [] S kc ks = mm_bd (call 63 [.inr 21, .inl 4] S) kc ks (fun S1 c1 t1 a1 => mm_bd (call 63 [.inr 21, .inl 5] S1) c1 t1 (fun S2 c2 t2 a2 => mm_E call pX5_nextBranch 1 10 [some (.inr 21), some (.inl a1), some (.inl (a2 + 1))] [] S2 c2 t2)) := by
  refine mm_E_eq [0, 10] 10 ?_
  generalize mm_E call pX5_nextBranch 1 = k
  rfl
set_option maxRecDepth 100000 in
theorem eX5_nextBranch_10 {call : Nat → List MV → Mem → Option Res} {S : Mem} {kc ks : Nat} {x1 : Int32} {x2 : Int32} : mm_E call pX5_nextBranch 1 10 [some (.inr 21), some (.inl x1), some (.inl x2)] [] S kc ks = mm_bd (call 18 [.inr 1] S) kc ks (fun S1 c1 t1 a1 => (if a1 ≤ x2 then some (S1, c1, t1, 0, (-1)) else mm_bd (call 23 [.inr 1, .inl x2] S1) c1 t1 (fun S2 c2 t2 a2 => (if a2 = x1 then mm_bd (call 26 [.inr 1, .inl x2] S2) c2 t2 (fun S3 c3 t3 a3 => (if a3 = 0 then mm_bd (call 65 [.inr 21, .inl ((S3 21 3) + 5), .inl x2] S3) c3 t3 (fun S4 c4 t4 a4 => some (S4, c4, t4, 0, x2)) else mm_E call pX5_nextBranch 1 10 [some (.inr 21), some (.inl x1), some (.inl (x2 + 1))] [] S3 c3 t3)) else mm_E call pX5_nextBranch 1 10 [some (.inr 21), some (.inl x1), some (.inl (x2 + 1))] [] S2 c2 t2)))) := by
  refine mm_E_eq [0, 10] 25 ?_
  generalize mm_E call pX5_nextBranch 1 = k
  rfl
set_option maxRecDepth 100000 in
theorem eX5_openBranch_0 {call : Nat → List MV → Mem → Option Res} {S : Mem} {kc ks : Nat} {x1 : Int32} {x2 : Int32} : mm_E call pX5_openBranch 2 0 [some (.inr 21), some (.inl x1), some (.inl x2), none, none, none, none, none, none, none, none] [] S kc ks = mm_bd (call 24 [.inr 1, .inl x1] S) kc ks (fun S1 c1 t1 a1 => (if (((S1 21 4) - 1) + a1) ≤ 40 then mm_bd (call 62 [.inr 21, .inl 0] S1) c1 t1 (fun S2 c2 t2 a2 => mm_bd (call 62 [.inr 21, .inl (S2 21 5)] S2) c2 t2 (fun S3 c3 t3 a3 => mm_bd (call 54 [.inr 21, .inl a3, .inl (((S3 21 4) - 1) + a1)] S3) c3 t3 (fun S4 c4 t4 a4 => mm_bd (call 59 [.inr 21, .inl ((S1 21 3) + 6), .inl ((S4 21 3) + 6), .inl x2, .inl (S1 21 4), .inl a1] S4) c4 t4 (fun S5 c5 t5 a5 => mm_E call pX5_openBranch 2 54 [some (.inr 21), some (.inl x1), some (.inl x2), some (.inl a1), some (.inl ((S1 21 3) + 6)), some (.inl (S1 21 4)), some (.inl (S1 21 5)), some (.inl a2), some (.inl 0), none, none] [] S5 c5 t5)))) else some (S1, c1, t1, 0, 0))) := by
  refine mm_E_eq [0, 54, 76] 52 ?_
  generalize mm_E call pX5_openBranch 2 = k
  rfl
set_option maxRecDepth 100000 in
theorem eX5_openBranch_54 {call : Nat → List MV → Mem → Option Res} {S : Mem} {kc ks : Nat} {x1 : Int32} {x2 : Int32} {x3 : Int32} {o4 : Option MV} {x5 : Int32} {x6 : Int32} {x7 : Int32} {x8 : Int32} {o9 : Option MV} {o10 : Option MV} : mm_E call pX5_openBranch 2 54 [some (.inr 21), some (.inl x1), some (.inl x2), some (.inl x3), o4, some (.inl x5), some (.inl x6), some (.inl x7), some (.inl x8), o9, o10] [] S kc ks = (if x3 ≤ x8 then mm_E call pX5_openBranch 2 76 [some (.inr 21), some (.inl x1), some (.inl x2), some (.inl x3), o4, some (.inl x5), some (.inl x6), some (.inl x7), some (.inl 0), o9, o10] [] S kc ks else mm_bd (call 25 [.inr 1, .inl x1, .inl x8] S) kc ks (fun S1 c1 t1 a1 => mm_bd (call 65 [.inr 21, .inl ((((S 21 3) + 6) + x2) + x8), .inl a1] S1) c1 t1 (fun S2 c2 t2 a2 => mm_E call pX5_openBranch 2 54 [some (.inr 21), some (.inl x1), some (.inl x2), some (.inl x3), o4, some (.inl x5), some (.inl x6), some (.inl x7), some (.inl (x8 + 1)), o9, o10] [] S2 c2 t2))) := by
  refine mm_E_eq [0, 54, 76] 20 ?_
  generalize mm_E call pX5_openBranch 2 = k
  rfl
set_option maxRecDepth 100000 in
theorem eX5_openBranch_76 {call : Nat → List MV → Mem → Option Res} {S : Mem} {kc ks : Nat} {x1 : Int32} {x2 : Int32} {x3 : Int32} {o4 : Option MV} {x5 : Int32} {x6 : Int32} {x7 : Int32} {x8 : Int32} {o9 : Option MV} {o10 : Option MV} : mm_E call pX5_openBranch 2 76 [some (.inr 21), some (.inl x1), some (.inl x2), some (.inl x3), o4, some (.inl x5), some (.inl x6), some (.inl x7), some (.inl x8), o9, o10] [] S kc ks = (if x6 ≤ x8 then some (S, kc, ks, 0, 1) else mm_bd (call 64 [.inr 21, .inl ((x7 + 1) + x2)] S) kc ks (fun S1 c1 t1 a1 => (if a1 = ((-1)) then mm_bd (call 64 [.inr 21, .inl x7] S1) c1 t1 (fun S2 c2 t2 a2 => mm_bd (call 55 [.inr 21, .inl a2] S2) c2 t2 (fun S3 c3 t3 a3 => mm_bd (call 59 [.inr 21, .inl (x7 + 1), .inl (a3 + 1), .inl x2, .inl x5, .inl x3] S3) c3 t3 (fun S4 c4 t4 a4 => mm_bd (call 60 [.inr 21, .inl ((a3 + 1) + x2), .inl a1, .inl x3] S4) c4 t4 (fun S5 c5 t5 a5 => mm_E call pX5_openBranch 2 76 [some (.inr 21), some (.inl x1), some (.inl x2), some (.inl x3), o4, some (.inl x5), some (.inl x6), some (.inl (x7 + (x5 + 1))), some (.inl (x8 + 1)), some (.inl a1), some (.inl a3)] [] S5 c5 t5)))) else mm_bd (call 34 [.inr 8, .inl a1] S1) c1 t1 (fun S6 c6 t6 a6 => (if a6 = x1 then mm_bd (call 64 [.inr 21, .inl x7] S6) c6 t6 (fun S7 c7 t7 a7 => mm_bd (call 55 [.inr 21, .inl a7] S7) c7 t7 (fun S8 c8 t8 a8 => mm_bd (call 59 [.inr 21, .inl (x7 + 1), .inl (a8 + 1), .inl x2, .inl x5, .inl x3] S8) c8 t8 (fun S9 c9 t9 a9 => mm_bd (call 60 [.inr 21, .inl ((a8 + 1) + x2), .inl a1, .inl x3] S9) c9 t9 (fun S10 c10 t10 a10 => mm_E call pX5_openBranch 2 76 [some (.inr 21), some (.inl x1), some (.inl x2), some (.inl x3), o4, some (.inl x5), some (.inl x6), some (.inl (x7 + (x5 + 1))), some (.inl (x8 + 1)), some (.inl a1), some (.inl a8)] [] S10 c10 t10)))) else mm_E call pX5_openBranch 2 76 [some (.inr 21), some (.inl x1), some (.inl x2), some (.inl x3), o4, some (.inl x5), some (.inl x6), some (.inl (x7 + (x5 + 1))), some (.inl (x8 + 1)), some (.inl a1), o10] [] S6 c6 t6))))) := by
  refine mm_E_eq [0, 54, 76] 54 ?_
  generalize mm_E call pX5_openBranch 2 = k
  rfl
set_option maxRecDepth 100000 in
theorem eX5_pile_0 {call : Nat → List MV → Mem → Option Res} {S : Mem} {kc ks : Nat} {x1 : Int32} {x2 : Int32} : mm_E call pX5_pile 0 0 [some (.inr 21), some (.inl x1), some (.inl x2)] [] S kc ks = mm_bd (call 67 [.inr 21, .inl ((x1 + 6) + x2)] S) kc ks (fun S1 c1 t1 a1 => mm_bd (call 65 [.inr 21, .inl (x1 + 0), .inl (S1 21 3)] S1) c1 t1 (fun S2 c2 t2 a2 => some (mm_put (mm_put (mm_put S2 21 3 x1) 21 4 x2) 21 5 0, c2, t2, 0, 0))) := by
  refine mm_E_eq [0] 24 ?_
  generalize mm_E call pX5_pile 0 = k
  rfl
set_option maxRecDepth 100000 in
theorem eX5_addLine_0 {call : Nat → List MV → Mem → Option Res} {S : Mem} {kc ks : Nat} {x1 : Int32} : mm_E call pX5_addLine 1 0 [some (.inr 21), some (.inl x1), none] [] S kc ks = mm_bd (call 62 [.inr 21, .inl (S 21 5)] S) kc ks (fun S1 c1 t1 a1 => mm_bd (call 62 [.inr 21, .inl ((mm_put S1 21 5 ((S1 21 5) + 1)) 21 5)] (mm_put S1 21 5 ((S1 21 5) + 1))) c1 t1 (fun S2 c2 t2 a2 => mm_bd (call 67 [.inr 21, .inl a2] S2) c2 t2 (fun S3 c3 t3 a3 => mm_bd (call 65 [.inr 21, .inl a1, .inl x1] S3) c3 t3 (fun S4 c4 t4 a4 => some (S4, c4, t4, 0, a1))))) := by
  refine mm_E_eq [0] 23 ?_
  generalize mm_E call pX5_addLine 1 = k
  rfl
set_option maxRecDepth 100000 in
theorem eX5_splitAt_0 {call : Nat → List MV → Mem → Option Res} {S : Mem} {kc ks : Nat} {x1 : Int32} {x2 : Int32} : mm_E call pX5_splitAt 2 0 [some (.inr 21), some (.inl x1), some (.inl x2), none, none, none, none] [] S kc ks = mm_bd (call 62 [.inr 21, .inl x1] S) kc ks (fun S1 c1 t1 a1 => mm_bd (call 64 [.inr 21, .inl ((a1 + 1) + x2)] S1) c1 t1 (fun S2 c2 t2 a2 => mm_E call pX5_splitAt 2 14 [some (.inr 21), some (.inl x1), some (.inl x2), some (.inl ((a1 + 1) + x2)), some (.inl a2), some (.inl 0), none] [] S2 c2 t2)) := by
  refine mm_E_eq [0, 14] 14 ?_
  generalize mm_E call pX5_splitAt 2 = k
  rfl
set_option maxRecDepth 100000 in
theorem eX5_splitAt_14 {call : Nat → List MV → Mem → Option Res} {S : Mem} {kc ks : Nat} {x1 : Int32} {o2 : Option MV} {x3 : Int32} {x4 : Int32} {x5 : Int32} {o6 : Option MV} : mm_E call pX5_splitAt 2 14 [some (.inr 21), some (.inl x1), o2, some (.inl x3), some (.inl x4), some (.inl x5), o6] [] S kc ks = (if 60 ≤ x5 then some (S, kc, ks, 0, 1) else mm_bd (call 57 [.inr 21, .inl x4] S) kc ks (fun S1 c1 t1 a1 => (if a1 = 0 then some (S1, c1, t1, 0, 1) else (if (S1 21 5) < 60 then mm_bd (call 58 [.inr 21, .inl x1] S1) c1 t1 (fun S2 c2 t2 a2 => mm_bd (call 61 [.inr 21, .inl (x4 + 1)] S2) c2 t2 (fun S3 c3 t3 a3 => mm_bd (call 65 [.inr 21, .inl x3, .inl a3] S3) c3 t3 (fun S4 c4 t4 a4 => mm_bd (call 35 [.inr 8, .inl (x4 + 1)] S4) c4 t4 (fun S5 c5 t5 a5 => mm_bd (call 61 [.inr 21, .inl a5] S5) c5 t5 (fun S6 c6 t6 a6 => mm_bd (call 65 [.inr 21, .inl ((x3 + (S4 21 4)) + 1), .inl a6] S6) c6 t6 (fun S7 c7 t7 a7 => mm_bd (call 64 [.inr 21, .inl x3] S7) c7 t7 (fun S8 c8 t8 a8 => mm_E call pX5_splitAt 2 14 [some (.inr 21), some (.inl x1), o2, some (.inl x3), some (.inl a8), some (.inl (x5 + 1)), some (.inl (x4 + 1))] [] S8 c8 t8))))))) else some (S1, c1, t1, 0, 0))))) := by
  refine mm_E_eq [0, 14] 44 ?_
  generalize mm_E call pX5_splitAt 2 = k
  rfl
set_option maxRecDepth 100000 in
theorem eX5_isEither_0 {call : Nat → List MV → Mem → Option Res} {S : Mem} {kc ks : Nat} {x1 : Int32} : mm_E call pX5_isEither 2 0 [some (.inr 21), some (.inl x1)] [] S kc ks = (if x1 = ((-1)) then some (S, kc, ks, 0, 0) else mm_bd (call 34 [.inr 8, .inl x1] S) kc ks (fun S1 c1 t1 a1 => (if a1 = ((-2)) then some (S1, c1, t1, 0, 1) else some (S1, c1, t1, 0, 0)))) := by
  refine mm_E_eq [0] 12 ?_
  generalize mm_E call pX5_isEither 2 = k
  rfl
set_option maxRecDepth 100000 in
theorem eX5_doubleLine_0 {call : Nat → List MV → Mem → Option Res} {S : Mem} {kc ks : Nat} {x1 : Int32} : mm_E call pX5_doubleLine 0 0 [some (.inr 21), some (.inl x1), none, none] [] S kc ks = mm_bd (call 62 [.inr 21, .inl x1] S) kc ks (fun S1 c1 t1 a1 => mm_bd (call 62 [.inr 21, .inl (S1 21 5)] S1) c1 t1 (fun S2 c2 t2 a2 => mm_bd (call 62 [.inr 21, .inl ((mm_put S2 21 5 ((S2 21 5) + 1)) 21 5)] (mm_put S2 21 5 ((S2 21 5) + 1))) c2 t2 (fun S3 c3 t3 a3 => mm_bd (call 67 [.inr 21, .inl a3] S3) c3 t3 (fun S4 c4 t4 a4 => mm_bd (call 62 [.inr 21, .inl (x1 + 1)] S4) c4 t4 (fun S5 c5 t5 a5 => mm_bd (call 66 [.inr 21, .inl a1, .inl a5, .inl (a2 - a1)] S5) c5 t5 (fun S6 c6 t6 a6 => some (S6, c6, t6, 0, 0))))))) := by
  refine mm_E_eq [0] 33 ?_
  generalize mm_E call pX5_doubleLine 0 = k
  rfl
set_option maxRecDepth 100000 in
theorem eX5_copyAround_0 {call : Nat → List MV → Mem → Option Res} {S : Mem} {kc ks : Nat} {x1 : Int32} {x2 : Int32} {x3 : Int32} {x4 : Int32} {x5 : Int32} : mm_E call pX5_copyAround 0 0 [some (.inr 21), some (.inl x1), some (.inl x2), some (.inl x3), some (.inl x4), some (.inl x5)] [] S kc ks = mm_bd (call 66 [.inr 21, .inl x1, .inl x2, .inl x3] S) kc ks (fun S1 c1 t1 a1 => mm_bd (call 66 [.inr 21, .inl ((x1 + x3) + 1), .inl ((x2 + x3) + x5), .inl ((x4 - x3) - 1)] S1) c1 t1 (fun S2 c2 t2 a2 => some (S2, c2, t2, 0, 0))) := by
  refine mm_E_eq [0] 23 ?_
  generalize mm_E call pX5_copyAround 0 = k
  rfl
set_option maxRecDepth 100000 in
theorem eX5_putFields_0 {call : Nat → List MV → Mem → Option Res} {S : Mem} {kc ks : Nat} {x1 : Int32} {x2 : Int32} {x3 : Int32} : mm_E call pX5_putFields 0 0 [some (.inr 21), some (.inl x1), some (.inl x2), some (.inl x3), none, none] [] S kc ks = mm_E call pX5_putFields 0 6 [some (.inr 21), some (.inl x1), some (.inl x2), some (.inl x3), some (.inl (x2 + 1)), some (.inl 0)] [] S kc ks := by
  refine mm_E_eq [0, 6] 6 ?_
  generalize mm_E call pX5_putFields 0 = k
  rfl
set_option maxRecDepth 100000 in
theorem eX5_putFields_6 {call : Nat → List MV → Mem → Option Res} {S : Mem} {kc ks : Nat} {x1 : Int32} {x2 : Int32} {x3 : Int32} {x4 : Int32} {x5 : Int32} : mm_E call pX5_putFields 0 6 [some (.inr 21), some (.inl x1), some (.inl x2), some (.inl x3), some (.inl x4), some (.inl x5)] [] S kc ks = (if x3 ≤ x5 then some (S, kc, ks, 0, 0) else (if x2 = ((-1)) then mm_bd (call 65 [.inr 21, .inl (x1 + x5), .inl ((-1))] S) kc ks (fun S1 c1 t1 a1 => mm_E call pX5_putFields 0 6 [some (.inr 21), some (.inl x1), some (.inl x2), some (.inl x3), some (.inl x4), some (.inl (x5 + 1))] [] S1 c1 t1) else mm_bd (call 61 [.inr 21, .inl x4] S) kc ks (fun S2 c2 t2 a2 => mm_bd (call 65 [.inr 21, .inl (x1 + x5), .inl a2] S2) c2 t2 (fun S3 c3 t3 a3 => mm_bd (call 35 [.inr 8, .inl x4] S3) c3 t3 (fun S4 c4 t4 a4 => mm_E call pX5_putFields 0 6 [some (.inr 21), some (.inl x1), some (.inl x2), some (.inl x3), some (.inl a4), some (.inl (x5 + 1))] [] S4 c4 t4))))) := by
  refine mm_E_eq [0, 6] 21 ?_
  generalize mm_E call pX5_putFields 0 = k
  rfl
set_option maxRecDepth 100000 in
theorem eX5_cellOf_0 {call : Nat → List MV → Mem → Option Res} {S : Mem} {kc ks : Nat} {x1 : Int32} : mm_E call pX5_cellOf 1 0 [some (.inr 21), some (.inl x1)] [] S kc ks = mm_bd (call 34 [.inr 8, .inl x1] S) kc ks (fun S1 c1 t1 a1 => (if a1 = ((-1)) then some (S1, c1, t1, 0, (-1)) else some (S1, c1, t1, 0, x1))) := by
  refine mm_E_eq [0] 9 ?_
  generalize mm_E call pX5_cellOf 1 = k
  rfl
set_option maxRecDepth 100000 in
theorem eX5_lineAt_0 {call : Nat → List MV → Mem → Option Res} {S : Mem} {kc ks : Nat} {x1 : Int32} : mm_E call pX5_lineAt 1 0 [some (.inr 21), some (.inl x1)] [] S kc ks = some (S, kc, ks, 0, (((S 21 3) + 6) + (S 21 4)) + (x1 * ((S 21 4) + 1))) := by
  refine mm_E_eq [0] 15 ?_
  generalize mm_E call pX5_lineAt 1 = k
  rfl
set_option maxRecDepth 100000 in
theorem eX5_head_0 {call : Nat → List MV → Mem → Option Res} {S : Mem} {kc ks : Nat} {x1 : Int32} : mm_E call pX5_head 1 0 [some (.inr 21), some (.inl x1)] [] S kc ks = (if (S 21 3) < 0 then some (S, kc, ks, 0, (-1)) else mm_bd (call 64 [.inr 21, .inl ((S 21 3) + x1)] S) kc ks (fun S1 c1 t1 a1 => some (S1, c1, t1, 0, a1))) := by
  refine mm_E_eq [0] 11 ?_
  generalize mm_E call pX5_head 1 = k
  rfl
set_option maxRecDepth 100000 in
theorem eX5_get_0 {call : Nat → List MV → Mem → Option Res} {S : Mem} {kc ks : Nat} {x1 : Int32} : mm_E call pX5_get 1 0 [some (.inr 21), some (.inl x1)] [] S kc ks = (if x1 < 0 then some (S, kc, ks, 0, (-1)) else (if (Int32.ofNat (S 55 0).toNatClampNeg) ≤ x1 then some (S, kc, ks, 0, (-1)) else mm_arr S 1 22 x1 (fun q1 => some (S, kc, ks, 0, S 22 q1)))) := by
  refine mm_E_eq [0] 13 ?_
  generalize mm_E call pX5_get 1 = k
  rfl
set_option maxRecDepth 100000 in
theorem eX5_set_0 {call : Nat → List MV → Mem → Option Res} {S : Mem} {kc ks : Nat} {x1 : Int32} {x2 : Int32} : mm_E call pX5_set 0 0 [some (.inr 21), some (.inl x1), some (.inl x2)] [] S kc ks = (if x1 < 0 then some (S, kc, ks, 0, 0) else (if (Int32.ofNat (S 55 0).toNatClampNeg) ≤ x1 then some (S, kc, ks, 0, 0) else mm_arr S 1 22 x1 (fun q1 => some (mm_put S 22 q1 x2, kc, ks, 0, 0)))) := by
  refine mm_E_eq [0] 13 ?_
  generalize mm_E call pX5_set 0 = k
  rfl
set_option maxRecDepth 100000 in
theorem eX5_copy_0 {call : Nat → List MV → Mem → Option Res} {S : Mem} {kc ks : Nat} {x1 : Int32} {x2 : Int32} {x3 : Int32} : mm_E call pX5_copy 0 0 [some (.inr 21), some (.inl x1), some (.inl x2), some (.inl x3), none] [] S kc ks = (if x3 ≤ 0 then some (S, kc, ks, 0, 0) else (if x1 < 0 then some (S, kc, ks, 0, 0) else (if ((Int32.ofNat (S 55 0).toNatClampNeg) - x3) < x1 then some (S, kc, ks, 0, 0) else (if x2 < 0 then some (S, kc, ks, 0, 0) else (if ((Int32.ofNat (S 55 0).toNatClampNeg) - x3) < x2 then some (S, kc, ks, 0, 0) else (if 0 ≤ 8 ∧ (¬ x1 < 0) ∧ (¬ x2 < 0) ∧ (¬ x3 < 0) ∧ x1.toNatClampNeg + x3.toNatClampNeg ≤ mm_len S 22 0 ∧ x2.toNatClampNeg + x3.toNatClampNeg ≤ mm_len S 22 0 then some (mm_stc S 22 (va_cpy (S 22) (S 22) x1.toNatClampNeg x2.toNatClampNeg x3.toNatClampNeg), kc, ks, 0, 0) else none)))))) := by
  refine mm_E_eq [0] 27 ?_
  generalize mm_E call pX5_copy 0 = k
  rfl
end
section
set_option maxRecDepth 100000 in
theorem eX6_fell_0 {call : Nat → List MV → Mem → Option Res} {S : Mem} {kc ks : Nat}  : mm_E call pX6_fell 0 0 [some (.inr 19)] [] S kc ks = some (mm_put (mm_put (mm_put S 19 1 0) 19 2 0) 19 3 0, kc, ks, 0, 0) := by
  refine mm_E_eq [0] 10 ?_
  generalize mm_E call pX6_fell 0 = k
  rfl
set_option maxRecDepth 100000 in
theorem eX6_stand_0 {call : Nat → List MV → Mem → Option Res} {S : Mem} {kc ks : Nat}  : mm_E call pX6_stand 0 0 [some (.inr 19)] [] S kc ks = some (mm_put S 19 3 1, kc, ks, 0, 0) := by
  refine mm_E_eq [0] 4 ?_
  generalize mm_E call pX6_stand 0 = k
  rfl
set_option maxRecDepth 100000 in
theorem eX6_stands_0 {call : Nat → List MV → Mem → Option Res} {S : Mem} {kc ks : Nat}  : mm_E call pX6_stands 2 0 [some (.inr 19)] [] S kc ks = (if (S 19 3) = 0 ∨ (S 19 3) = 1 then some (S, kc, ks, 0, S 19 3) else none) := by
  refine mm_E_eq [0] 3 ?_
  generalize mm_E call pX6_stands 2 = k
  rfl
set_option maxRecDepth 100000 in
theorem eX6_count_0 {call : Nat → List MV → Mem → Option Res} {S : Mem} {kc ks : Nat}  : mm_E call pX6_count 1 0 [some (.inr 19)] [] S kc ks = some (S, kc, ks, 0, S 19 1) := by
  refine mm_E_eq [0] 3 ?_
  generalize mm_E call pX6_count 1 = k
  rfl
set_option maxRecDepth 100000 in
theorem eX6_failCount_0 {call : Nat → List MV → Mem → Option Res} {S : Mem} {kc ks : Nat}  : mm_E call pX6_failCount 1 0 [some (.inr 19)] [] S kc ks = some (S, kc, ks, 0, S 19 2) := by
  refine mm_E_eq [0] 3 ?_
  generalize mm_E call pX6_failCount 1 = k
  rfl
set_option maxRecDepth 100000 in
theorem eX6_add_0 {call : Nat → List MV → Mem → Option Res} {S : Mem} {kc ks : Nat} {x1 : Int32} {x2 : Int32} : mm_E call pX6_add 1 0 [some (.inr 19), some (.inl x1), some (.inl x2), none, none] [] S kc ks = (if (S 19 1) < 0 then some (S, kc, ks, 0, (-1)) else (if (S 19 1) < 300 then mm_E call pX6_add 1 18 [some (.inr 19), some (.inl x1), some (.inl x2), some (.inl (S 19 1)), some (.inl 0)] [] (mm_put S 19 1 ((S 19 1) + 1)) kc ks else some (S, kc, ks, 0, (-1)))) := by
  refine mm_E_eq [0, 18] 16 ?_
  generalize mm_E call pX6_add 1 = k
  rfl
set_option maxRecDepth 100000 in
theorem eX6_add_18 {call : Nat → List MV → Mem → Option Res} {S : Mem} {kc ks : Nat} {x1 : Int32} {x2 : Int32} {x3 : Int32} {x4 : Int32} : mm_E call pX6_add 1 18 [some (.inr 19), some (.inl x1), some (.inl x2), some (.inl x3), some (.inl x4)] [] S kc ks = (if 9 ≤ x4 then mm_bd (call 88 [.inr 19, .inl x3, .inl 7, .inl x1] S) kc ks (fun S1 c1 t1 a1 => mm_bd (call 88 [.inr 19, .inl x3, .inl 8, .inl x2] S1) c1 t1 (fun S2 c2 t2 a2 => (if x1 = ((-1)) then some (S2, c2, t2, 0, x3) else mm_bd (call 86 [.inr 19, .inl x3, .inl x1] S2) c2 t2 (fun S3 c3 t3 a3 => some (S3, c3, t3, 0, x3))))) else mm_bd (call 88 [.inr 19, .inl x3, .inl x4, .inl ((-1))] S) kc ks (fun S4 c4 t4 a4 => mm_E call pX6_add 1 18 [some (.inr 19), some (.inl x1), some (.inl x2), some (.inl x3), some (.inl (x4 + 1))] [] S4 c4 t4)) := by
  refine mm_E_eq [0, 18] 22 ?_
  generalize mm_E call pX6_add 1 = k
  rfl
set_option maxRecDepth 100000 in
theorem eX6_makeFail_0 {call : Nat → List MV → Mem → Option Res} {S : Mem} {kc ks : Nat} {x1 : Int32} : mm_E call pX6_makeFail 0 0 [some (.inr 19), some (.inl x1)] [] S kc ks = mm_bd (call 88 [.inr 19, .inl x1, .inl 0, .inl 0] S) kc ks (fun S1 c1 t1 a1 => some (mm_put S1 19 2 ((S1 19 2) + 1), c1, t1, 0, 0)) := by
  refine mm_E_eq [0] 12 ?_
  generalize mm_E call pX6_makeFail 0 = k
  rfl
set_option maxRecDepth 100000 in
theorem eX6_makeLeaf_0 {call : Nat → List MV → Mem → Option Res} {S : Mem} {kc ks : Nat} {x1 : Int32} {x2 : Int32} : mm_E call pX6_makeLeaf 0 0 [some (.inr 19), some (.inl x1), some (.inl x2)] [] S kc ks = mm_bd (call 88 [.inr 19, .inl x1, .inl 0, .inl 1] S) kc ks (fun S1 c1 t1 a1 => mm_bd (call 88 [.inr 19, .inl x1, .inl 1, .inl x2] S1) c1 t1 (fun S2 c2 t2 a2 => some (S2, c2, t2, 0, 0))) := by
  refine mm_E_eq [0] 11 ?_
  generalize mm_E call pX6_makeLeaf 0 = k
  rfl
set_option maxRecDepth 100000 in
theorem eX6_makeTest_0 {call : Nat → List MV → Mem → Option Res} {S : Mem} {kc ks : Nat} {x1 : Int32} {x2 : Int32} {x3 : Int32} {x4 : Int32} : mm_E call pX6_makeTest 0 0 [some (.inr 19), some (.inl x1), some (.inl x2), some (.inl x3), some (.inl x4)] [] S kc ks = mm_bd (call 88 [.inr 19, .inl x1, .inl 0, .inl 2] S) kc ks (fun S1 c1 t1 a1 => mm_bd (call 88 [.inr 19, .inl x1, .inl 1, .inl x2] S1) c1 t1 (fun S2 c2 t2 a2 => mm_bd (call 88 [.inr 19, .inl x1, .inl 2, .inl x3] S2) c2 t2 (fun S3 c3 t3 a3 => mm_bd (call 88 [.inr 19, .inl x1, .inl 3, .inl x4] S3) c3 t3 (fun S4 c4 t4 a4 => mm_bd (call 88 [.inr 19, .inl x1, .inl 4, .inl 0] S4) c4 t4 (fun S5 c5 t5 a5 => some (S5, c5, t5, 0, 0)))))) := by
  refine mm_E_eq [0] 26 ?_
  generalize mm_E call pX6_makeTest 0 = k
  rfl
set_option maxRecDepth 100000 in
theorem eX6_kindOf_0 {call : Nat → List MV → Mem → Option Res} {S : Mem} {kc ks : Nat} {x1 : Int32} : mm_E call pX6_kindOf 1 0 [some (.inr 19), some (.inl x1)] [] S kc ks = mm_bd (call 87 [.inr 19, .inl x1, .inl 0] S) kc ks (fun S1 c1 t1 a1 => some (S1, c1, t1, 0, a1)) := by
  refine mm_E_eq [0] 5 ?_
  generalize mm_E call pX6_kindOf 1 = k
  rfl
set_option maxRecDepth 100000 in
theorem eX6_testedPlace_0 {call : Nat → List MV → Mem → Option Res} {S : Mem} {kc ks : Nat} {x1 : Int32} : mm_E call pX6_testedPlace 1 0 [some (.inr 19), some (.inl x1)] [] S kc ks = mm_bd (call 87 [.inr 19, .inl x1, .inl 3] S) kc ks (fun S1 c1 t1 a1 => some (S1, c1, t1, 0, a1)) := by
  refine mm_E_eq [0] 5 ?_
  generalize mm_E call pX6_testedPlace 1 = k
  rfl
set_option maxRecDepth 100000 in
theorem eX6_makerOf_0 {call : Nat → List MV → Mem → Option Res} {S : Mem} {kc ks : Nat} {x1 : Int32} : mm_E call pX6_makerOf 1 0 [some (.inr 19), some (.inl x1)] [] S kc ks = mm_bd (call 87 [.inr 19, .inl x1, .inl 8] S) kc ks (fun S1 c1 t1 a1 => some (S1, c1, t1, 0, a1)) := by
  refine mm_E_eq [0] 5 ?_
  generalize mm_E call pX6_makerOf 1 = k
  rfl
set_option maxRecDepth 100000 in
theorem eX6_tell_0 {call : Nat → List MV → Mem → Option Res} {S : Mem} {kc ks : Nat} {x1 : Int32} {x2 : Int32} : mm_E call pX6_tell 1 0 [some (.inr 19), some (.inl x1), some (.inl x2)] [] S kc ks = (if x2 = 100 then mm_bd (call 87 [.inr 19, .inl x1, .inl 7] S) kc ks (fun S1 c1 t1 a1 => some (S1, c1, t1, 0, a1)) else (if x2 = 101 then mm_bd (call 87 [.inr 19, .inl x1, .inl 8] S) kc ks (fun S2 c2 t2 a2 => some (S2, c2, t2, 0, a2)) else (if 4 < x2 then mm_bd (call 85 [.inr 19, .inl x1, .inl (x2 - 5)] S) kc ks (fun S3 c3 t3 a3 => some (S3, c3, t3, 0, a3)) else mm_bd (call 87 [.inr 19, .inl x1, .inl x2] S) kc ks (fun S4 c4 t4 a4 => some (S4, c4, t4, 0, a4))))) := by
  refine mm_E_eq [0] 16 ?_
  generalize mm_E call pX6_tell 1 = k
  rfl
set_option maxRecDepth 100000 in
theorem eX6_branchOf_0 {call : Nat → List MV → Mem → Option Res} {S : Mem} {kc ks : Nat} {x1 : Int32} {x2 : Int32} : mm_E call pX6_branchOf 1 0 [some (.inr 19), some (.inl x1), some (.inl x2), none, none] [] S kc ks = mm_bd (call 87 [.inr 19, .inl x1, .inl 5] S) kc ks (fun S1 c1 t1 a1 => mm_E call pX6_branchOf 1 7 [some (.inr 19), some (.inl x1), some (.inl x2), some (.inl a1), some (.inl 0)] [] S1 c1 t1) := by
  refine mm_E_eq [0, 7] 7 ?_
  generalize mm_E call pX6_branchOf 1 = k
  rfl
set_option maxRecDepth 100000 in
theorem eX6_branchOf_7 {call : Nat → List MV → Mem → Option Res} {S : Mem} {kc ks : Nat} {o1 : Option MV} {x2 : Int32} {x3 : Int32} {x4 : Int32} : mm_E call pX6_branchOf 1 7 [some (.inr 19), o1, some (.inl x2), some (.inl x3), some (.inl x4)] [] S kc ks = (if 8 ≤ x4 then some (S, kc, ks, 0, (-1)) else (if x3 = ((-1)) then some (S, kc, ks, 0, (-1)) else mm_bd (call 87 [.inr 19, .inl x3, .inl 8] S) kc ks (fun S1 c1 t1 a1 => (if a1 = x2 then some (S1, c1, t1, 0, x3) else mm_bd (call 87 [.inr 19, .inl x3, .inl 6] S1) c1 t1 (fun S2 c2 t2 a2 => mm_E call pX6_branchOf 1 7 [some (.inr 19), o1, some (.inl x2), some (.inl a2), some (.inl (x4 + 1))] [] S2 c2 t2))))) := by
  refine mm_E_eq [0, 7] 19 ?_
  generalize mm_E call pX6_branchOf 1 = k
  rfl
set_option maxRecDepth 100000 in
theorem eX6_branchTowards_0 {call : Nat → List MV → Mem → Option Res} {S : Mem} {kc ks : Nat} {x1 : Int32} {x2 : Int32} : mm_E call pX6_branchTowards 1 0 [some (.inr 19), some (.inl x1), some (.inl x2), none, none, none] [] S kc ks = mm_bd (call 87 [.inr 19, .inl x1, .inl 5] S) kc ks (fun S1 c1 t1 a1 => mm_E call pX6_branchTowards 1 9 [some (.inr 19), some (.inl x1), some (.inl x2), some (.inl ((-1))), some (.inl a1), some (.inl 0)] [] S1 c1 t1) := by
  refine mm_E_eq [0, 9] 9 ?_
  generalize mm_E call pX6_branchTowards 1 = k
  rfl
set_option maxRecDepth 100000 in
theorem eX6_branchTowards_9 {call : Nat → List MV → Mem → Option Res} {S : Mem} {kc ks : Nat} {o1 : Option MV} {x2 : Int32} {x3 : Int32} {x4 : Int32} {x5 : Int32} : mm_E call pX6_branchTowards 1 9 [some (.inr 19), o1, some (.inl x2), some (.inl x3), some (.inl x4), some (.inl x5)] [] S kc ks = (if 8 ≤ x5 then some (S, kc, ks, 0, x3) else (if x4 = ((-1)) then some (S, kc, ks, 0, x3) else (if x2 < x4 then some (S, kc, ks, 0, x3) else mm_bd (call 87 [.inr 19, .inl x4, .inl 6] S) kc ks (fun S1 c1 t1 a1 => mm_E call pX6_branchTowards 1 9 [some (.inr 19), o1, some (.inl x2), some (.inl x4), some (.inl a1), some (.inl (x5 + 1))] [] S1 c1 t1)))) := by
  refine mm_E_eq [0, 9] 18 ?_
  generalize mm_E call pX6_branchTowards 1 = k
  rfl
set_option maxRecDepth 100000 in
theorem eX6_failNode_0 {call : Nat → List MV → Mem → Option Res} {S : Mem} {kc ks : Nat} {x1 : Int32} : mm_E call pX6_failNode 1 0 [some (.inr 19), some (.inl x1), none, none] [] S kc ks = mm_E call pX6_failNode 1 4 [some (.inr 19), some (.inl x1), some (.inl x1), some (.inl 0)] [] S kc ks := by
  refine mm_E_eq [0, 4] 4 ?_
  generalize mm_E call pX6_failNode 1 = k
  rfl
set_option maxRecDepth 100000 in
theorem eX6_failNode_4 {call : Nat → List MV → Mem → Option Res} {S : Mem} {kc ks : Nat} {o1 : Option MV} {x2 : Int32} {x3 : Int32} : mm_E call pX6_failNode 1 4 [some (.inr 19), o1, some (.inl x2), some (.inl x3)] [] S kc ks = (if (S 19 1) ≤ x3 then some (S, kc, ks, 0, (-1)) else mm_bd (call 77 [.inr 19, .inl x3] S) kc ks (fun S1 c1 t1 a1 => (if a1 = 0 then (if x2 = 0 then some (S1, c1, t1, 0, x3) else mm_E call pX6_failNode 1 4 [some (.inr 19), o1, some (.inl (x2 + (-1))), some (.inl (x3 + 1))] [] S1 c1 t1) else mm_E call pX6_failNode 1 4 [some (.inr 19), o1, some (.inl x2), some (.inl (x3 + 1))] [] S1 c1 t1))) := by
  refine mm_E_eq [0, 4] 13 ?_
  generalize mm_E call pX6_failNode 1 = k
  rfl
set_option maxRecDepth 100000 in
theorem eX6_hasLeafOf_0 {call : Nat → List MV → Mem → Option Res} {S : Mem} {kc ks : Nat} {x1 : Int32} : mm_E call pX6_hasLeafOf 2 0 [some (.inr 19), some (.inl x1), none] [] S kc ks = mm_E call pX6_hasLeafOf 2 2 [some (.inr 19), some (.inl x1), some (.inl 0)] [] S kc ks := by
  refine mm_E_eq [0, 2] 2 ?_
  generalize mm_E call pX6_hasLeafOf 2 = k
  rfl
set_option maxRecDepth 100000 in
theorem eX6_hasLeafOf_2 {call : Nat → List MV → Mem → Option Res} {S : Mem} {kc ks : Nat} {x1 : Int32} {x2 : Int32} : mm_E call pX6_hasLeafOf 2 2 [some (.inr 19), some (.inl x1), some (.inl x2)] [] S kc ks = (if (S 19 1) ≤ x2 then some (S, kc, ks, 0, 0) else mm_bd (call 77 [.inr 19, .inl x2] S) kc ks (fun S1 c1 t1 a1 => (if a1 = 1 then mm_bd (call 87 [.inr 19, .inl x2, .inl 1] S1) c1 t1 (fun S2 c2 t2 a2 => (if a2 = x1 then some (S2, c2, t2, 0, 1) else mm_E call pX6_hasLeafOf 2 2 [some (.inr 19), some (.inl x1), some (.inl (x2 + 1))] [] S2 c2 t2)) else mm_E call pX6_hasLeafOf 2 2 [some (.inr 19), some (.inl x1), some (.inl (x2 + 1))] [] S1 c1 t1))) := by
  refine mm_E_eq [0, 2] 17 ?_
  generalize mm_E call pX6_hasLeafOf 2 = k
  rfl
set_option maxRecDepth 100000 in
theorem eX6_branchAt_0 {call : Nat → List MV → Mem → Option Res} {S : Mem} {kc ks : Nat} {x1 : Int32} {x2 : Int32} : mm_E call pX6_branchAt 1 0 [some (.inr 19), some (.inl x1), some (.inl x2), none, none] [] S kc ks = mm_bd (call 87 [.inr 19, .inl x1, .inl 4] S) kc ks (fun S1 c1 t1 a1 => (if x2 < a1 then mm_bd (call 87 [.inr 19, .inl x1, .inl 5] S1) c1 t1 (fun S2 c2 t2 a2 => mm_E call pX6_branchAt 1 15 [some (.inr 19), some (.inl x1), some (.inl x2), some (.inl a2), some (.inl 0)] [] S2 c2 t2) else some (S1, c1, t1, 0, (-1)))) := by
  refine mm_E_eq [0, 15] 13 ?_
  generalize mm_E call pX6_branchAt 1 = k
  rfl
set_option maxRecDepth 100000 in
theorem eX6_branchAt_15 {call : Nat → List MV → Mem → Option Res} {S : Mem} {kc ks : Nat} {o1 : Option MV} {x2 : Int32} {x3 : Int32} {x4 : Int32} : mm_E call pX6_branchAt 1 15 [some (.inr 19), o1, some (.inl x2), some (.inl x3), some (.inl x4)] [] S kc ks = (if x2 ≤ x4 then some (S, kc, ks, 0, x3) else mm_bd (call 87 [.inr 19, .inl x3, .inl 6] S) kc ks (fun S1 c1 t1 a1 => mm_E call pX6_branchAt 1 15 [some (.inr 19), o1, some (.inl x2), some (.inl a1), some (.inl (x4 + 1))] [] S1 c1 t1)) := by
  refine mm_E_eq [0, 15] 10 ?_
  generalize mm_E call pX6_branchAt 1 = k
  rfl
set_option maxRecDepth 100000 in
theorem eX6_hang_0 {call : Nat → List MV → Mem → Option Res} {S : Mem} {kc ks : Nat} {x1 : Int32} {x2 : Int32} : mm_E call pX6_hang 0 0 [some (.inr 19), some (.inl x1), some (.inl x2), none] [] S kc ks = mm_bd (call 87 [.inr 19, .inl x2, .inl 4] S) kc ks (fun S1 c1 t1 a1 => (if a1 = 0 then mm_bd (call 88 [.inr 19, .inl x2, .inl 5, .inl x1] S1) c1 t1 (fun S2 c2 t2 a2 => mm_bd (call 88 [.inr 19, .inl x2, .inl 4, .inl (a1 + 1)] S2) c2 t2 (fun S3 c3 t3 a3 => some (S3, c3, t3, 0, 0))) else mm_bd (call 85 [.inr 19, .inl x2, .inl (a1 - 1)] S1) c1 t1 (fun S4 c4 t4 a4 => mm_bd (call 88 [.inr 19, .inl a4, .inl 6, .inl x1] S4) c4 t4 (fun S5 c5 t5 a5 => mm_bd (call 88 [.inr 19, .inl x2, .inl 4, .inl (a1 + 1)] S5) c5 t5 (fun S6 c6 t6 a6 => some (S6, c6, t6, 0, 0)))))) := by
  refine mm_E_eq [0] 25 ?_
  generalize mm_E call pX6_hang 0 = k
  rfl
set_option maxRecDepth 100000 in
theorem eX6_get_0 {call : Nat → List MV → Mem → Option Res} {S : Mem} {kc ks : Nat} {x1 : Int32} {x2 : Int32} : mm_E call pX6_get 1 0 [some (.inr 19), some (.inl x1), some (.inl x2), none] [] S kc ks = (if x1 < 0 then some (S, kc, ks, 0, (-1)) else (if (S 19 1) ≤ x1 then some (S, kc, ks, 0, (-1)) else (if x2 < 0 then some (S, kc, ks, 0, (-1)) else (if 9 ≤ x2 then some (S, kc, ks, 0, (-1)) else mm_arr S 1 20 ((x1 * 9) + x2) (fun q1 => some (S, kc, ks, 0, S 20 q1)))))) := by
  refine mm_E_eq [0] 26 ?_
  generalize mm_E call pX6_get 1 = k
  rfl
set_option maxRecDepth 100000 in
theorem eX6_set_0 {call : Nat → List MV → Mem → Option Res} {S : Mem} {kc ks : Nat} {x1 : Int32} {x2 : Int32} {x3 : Int32} : mm_E call pX6_set 0 0 [some (.inr 19), some (.inl x1), some (.inl x2), some (.inl x3)] [] S kc ks = (if x1 < 0 then some (S, kc, ks, 0, 0) else (if (S 19 1) ≤ x1 then some (S, kc, ks, 0, 0) else (if x2 < 0 then some (S, kc, ks, 0, 0) else (if 9 ≤ x2 then some (S, kc, ks, 0, 0) else mm_arr S 1 20 ((x1 * 9) + x2) (fun q1 => some (mm_put S 20 q1 x3, kc, ks, 0, 0)))))) := by
  refine mm_E_eq [0] 21 ?_
  generalize mm_E call pX6_set 0 = k
  rfl
end
section
set_option maxRecDepth 100000 in
theorem eX7_type_0 {call : Nat → List MV → Mem → Option Res} {S : Mem} {kc ks : Nat}  : mm_E call pX7_type 1 0 [some (.inr 0)] [] S kc ks = mm_bd (call 17 [.inr 1] S) kc ks (fun S1 c1 t1 a1 => (if a1 < 8 then mm_bd (call 27 [.inr 1] S1) c1 t1 (fun S2 c2 t2 a2 => some (S2, c2, t2, 0, a2)) else some (S1, c1 + 1, t1 + 6, 1, 0))) := by
  refine mm_E_eq [0] 9 ?_
  generalize mm_E call pX7_type 1 = k
  rfl
set_option maxRecDepth 100000 in
theorem eX7_maker_0 {call : Nat → List MV → Mem → Option Res} {S : Mem} {kc ks : Nat} {x1 : Int32} {x2 : Int32} {x3 : Int32} {x4 : Int32} : mm_E call pX7_maker 1 0 [some (.inr 0), some (.inl x1), some (.inl x2), some (.inl x3), some (.inl x4), none] [] S kc ks = mm_bd (call 105 [.inr 0, .inl x2, .inl x3, .inl x4] S) kc ks (fun S1 c1 t1 a1 => mm_bd (call 19 [.inr 1, .inl x1] S1) c1 t1 (fun S2 c2 t2 a2 => (if a2 = 0 then some (S2, c2 + 1, t2 + 6, 3, 0) else (if a1 = ((-1)) then some (S2, c2 + 1, t2 + 6, 3, 0) else mm_bd (call 21 [.inr 1, .inl x1] S2) c2 t2 (fun S3 c3 t3 a3 => (if a3 = 0 then some (S3, c3 + 1, t3 + 6, 1, 0) else mm_bd (call 106 [.inr 0, .inl 0, .inl ((-1)), .inl ((-1)), .inl ((-1))] S3) c3 t3 (fun S4 c4 t4 a4 => mm_bd (call 28 [.inr 1, .inl x1, .inl a1, .inl x2, .inl x3, .inl x4] S4) c4 t4 (fun S5 c5 t5 a5 => some (S5, c5, t5, 0, a5))))))))) := by
  refine mm_E_eq [0] 34 ?_
  generalize mm_E call pX7_maker 1 = k
  rfl
set_option maxRecDepth 100000 in
theorem eX7_isEmpty_0 {call : Nat → List MV → Mem → Option Res} {S : Mem} {kc ks : Nat} {x1 : Int32} : mm_E call pX7_isEmpty 2 0 [some (.inr 0), some (.inl x1)] [] S kc ks = mm_bd (call 19 [.inr 1, .inl x1] S) kc ks (fun S1 c1 t1 a1 => (if a1 = 0 then some (S1, c1 + 1, t1 + 6, 3, 0) else mm_bd (call 22 [.inr 1, .inl x1] S1) c1 t1 (fun S2 c2 t2 a2 => (if a2 = 0 then some (S2, c2, t2, 0, 1) else some (S2, c2, t2, 0, 0))))) := by
  refine mm_E_eq [0] 13 ?_
  generalize mm_E call pX7_isEmpty 2 = k
  rfl
set_option maxRecDepth 100000 in
theorem eX7_match_0 {call : Nat → List MV → Mem → Option Res} {S : Mem} {kc ks : Nat} {x1 : Int32} {x2 : Int32} {x3 : Int32} : mm_E call pX7_match 0 0 [some (.inr 0), some (.inl x1), some (.inl x2), some (.inl x3), none] [] S kc ks = mm_bd (call 105 [.inr 0, .inl x1, .inl x2, .inl x3] S) kc ks (fun S1 c1 t1 a1 => (if a1 = ((-1)) then some (S1, c1 + 1, t1 + 6, 3, 0) else (if a1 = 0 then some (S1, c1 + 1, t1 + 6, 3, 0) else mm_bd (call 106 [.inr 0, .inl a1, .inl x1, .inl x2, .inl x3] S1) c1 t1 (fun S2 c2 t2 a2 => some (S2, c2, t2, 0, 0))))) := by
  refine mm_E_eq [0] 18 ?_
  generalize mm_E call pX7_match 0 = k
  rfl
set_option maxRecDepth 100000 in
theorem eX7_sign_0 {call : Nat → List MV → Mem → Option Res} {S : Mem} {kc ks : Nat} {x1 : Int32} : mm_E call pX7_sign 1 0 [some (.inr 0), some (.inl x1), none] [] S kc ks = mm_bd (call 107 [.inr 0] S) kc ks (fun S1 c1 t1 a1 => mm_bd (call 8 [.inr 11] S1) c1 t1 (fun S2 c2 t2 a2 => (if a2 = 0 then mm_bd (call 10 [.inr 11, .inl x1] S2) c2 t2 (fun S3 c3 t3 a3 => (if a3 = 0 then mm_bd (call 9 [.inr 11] S3) c3 t3 (fun S4 c4 t4 a4 => (if a4 = 0 then some (S4, c4 + 1, t4 + 6, 2, 0) else (if x1 = ((-1)) then mm_bd (call 11 [.inr 11, .inl x1] S4) c4 t4 (fun S5 c5 t5 a5 => some (S5, c5, t5, 0, a5)) else (if x1 = ((-2)) then mm_bd (call 11 [.inr 11, .inl x1] S4) c4 t4 (fun S6 c6 t6 a6 => some (S6, c6, t6, 0, a6)) else some (S4, c4 + 1, t4 + 6, 2, 0))))) else mm_bd (call 11 [.inr 11, .inl x1] S3) c3 t3 (fun S7 c7 t7 a7 => some (S7, c7, t7, 0, a7)))) else some (S2, c2 + 1, t2 + 6, 1, 0)))) := by
  refine mm_E_eq [0] 31 ?_
  generalize mm_E call pX7_sign 1 = k
  rfl
set_option maxRecDepth 100000 in
theorem eX7_row_0 {call : Nat → List MV → Mem → Option Res} {S : Mem} {kc ks : Nat}  : mm_E call pX7_row 1 0 [some (.inr 0), none] [] S kc ks = mm_bd (call 107 [.inr 0] S) kc ks (fun S1 c1 t1 a1 => mm_bd (call 31 [.inr 8] S1) c1 t1 (fun S2 c2 t2 a2 => (if a2 < 12 then mm_bd (call 9 [.inr 11] S2) c2 t2 (fun S3 c3 t3 a3 => (if a3 = 0 then mm_bd (call 68 [.inr 19] S3) c3 t3 (fun S4 c4 t4 a4 => mm_bd (call 32 [.inr 8, .inr 11] S4) c4 t4 (fun S5 c5 t5 a5 => mm_bd (call 6 [.inr 11, .inr 7, .inl (S5 0 2)] S5) c5 t5 (fun S6 c6 t6 a6 => some (S6, c6, t6, 0, a5)))) else mm_bd (call 6 [.inr 11, .inr 7, .inl (S3 0 2)] S3) c3 t3 (fun S7 c7 t7 a7 => some (S7, c7 + 1, t7 + 6, 2, 0)))) else some (S2, c2 + 1, t2 + 6, 1, 0)))) := by
  refine mm_E_eq [0] 29 ?_
  generalize mm_E call pX7_row 1 = k
  rfl
set_option maxRecDepth 100000 in
theorem eX7_compile_0 {call : Nat → List MV → Mem → Option Res} {S : Mem} {kc ks : Nat}  : mm_E call pX7_compile 1 0 [some (.inr 0), none] [] S kc ks = mm_bd (call 107 [.inr 0] S) kc ks (fun S1 c1 t1 a1 => mm_bd (call 0 [.inr 23] S1) c1 t1 (fun S2 c2 t2 a2 => mm_bd (call 112 [.inr 0] S2) c2 t2 (fun S3 c3 t3 a3 => (if a3 = 0 then mm_bd (call 68 [.inr 19] S3) c3 t3 (fun S4 c4 t4 a4 => some (S4, c4 + 1, t4 + 6, 4, 0)) else mm_bd (call 69 [.inr 19] S3) c3 t3 (fun S5 c5 t5 a5 => mm_bd (call 71 [.inr 19] S5) c5 t5 (fun S6 c6 t6 a6 => some (S6, c6, t6, 0, a6))))))) := by
  refine mm_E_eq [0] 17 ?_
  generalize mm_E call pX7_compile 1 = k
  rfl
set_option maxRecDepth 100000 in
theorem eX7_node_0 {call : Nat → List MV → Mem → Option Res} {S : Mem} {kc ks : Nat} {x1 : Int32} {x2 : Int32} : mm_E call pX7_node 1 0 [some (.inr 0), some (.inl x1), some (.inl x2)] [] S kc ks = mm_bd (call 70 [.inr 19] S) kc ks (fun S1 c1 t1 a1 => (if a1 = 0 then some (S1, c1 + 1, t1 + 6, 5, 0) else (if x1 < 0 then some (S1, c1 + 1, t1 + 6, 5, 0) else mm_bd (call 71 [.inr 19] S1) c1 t1 (fun S2 c2 t2 a2 => (if x1 < a2 then mm_bd (call 80 [.inr 19, .inl x1, .inl x2] S2) c2 t2 (fun S3 c3 t3 a3 => some (S3, c3, t3, 0, a3)) else some (S2, c2 + 1, t2 + 6, 5, 0)))))) := by
  refine mm_E_eq [0] 17 ?_
  generalize mm_E call pX7_node 1 = k
  rfl
set_option maxRecDepth 100000 in
theorem eX7_missing_0 {call : Nat → List MV → Mem → Option Res} {S : Mem} {kc ks : Nat}  : mm_E call pX7_missing 1 0 [some (.inr 0)] [] S kc ks = mm_bd (call 70 [.inr 19] S) kc ks (fun S1 c1 t1 a1 => (if a1 = 0 then some (S1, c1, t1, 0, (-1)) else mm_bd (call 72 [.inr 19] S1) c1 t1 (fun S2 c2 t2 a2 => some (S2, c2, t2, 0, a2)))) := by
  refine mm_E_eq [0] 9 ?_
  generalize mm_E call pX7_missing 1 = k
  rfl
set_option maxRecDepth 100000 in
theorem eX7_missingSign_0 {call : Nat → List MV → Mem → Option Res} {S : Mem} {kc ks : Nat} {x1 : Int32} {x2 : Int32} : mm_E call pX7_missingSign 1 0 [some (.inr 0), some (.inl x1), some (.inl x2)] [] S kc ks = mm_bd (call 70 [.inr 19] S) kc ks (fun S1 c1 t1 a1 => (if a1 = 0 then some (S1, c1 + 1, t1 + 6, 5, 0) else (if x1 < 0 then some (S1, c1 + 1, t1 + 6, 5, 0) else mm_bd (call 72 [.inr 19] S1) c1 t1 (fun S2 c2 t2 a2 => (if x1 < a2 then mm_bd (call 1 [.inr 23] S2) c2 t2 (fun S3 c3 t3 a3 => (if a3 = x1 then mm_bd (call 3 [.inr 23, .inl x2] S3) c3 t3 (fun S4 c4 t4 a4 => some (S4, c4, t4, 0, a4)) else mm_bd (call 2 [.inr 23, .inl x1, .inl (S3 0 2)] S3) c3 t3 (fun S5 c5 t5 a5 => mm_bd (call 3 [.inr 23, .inl x2] S5) c5 t5 (fun S6 c6 t6 a6 => some (S6, c6, t6, 0, a6))))) else some (S2, c2 + 1, t2 + 6, 5, 0)))))) := by
  refine mm_E_eq [0] 27 ?_
  generalize mm_E call pX7_missingSign 1 = k
  rfl
set_option maxRecDepth 100000 in
theorem eX7_isIdle_0 {call : Nat → List MV → Mem → Option Res} {S : Mem} {kc ks : Nat} {x1 : Int32} : mm_E call pX7_isIdle 2 0 [some (.inr 0), some (.inl x1)] [] S kc ks = mm_bd (call 70 [.inr 19] S) kc ks (fun S1 c1 t1 a1 => (if a1 = 0 then some (S1, c1 + 1, t1 + 6, 5, 0) else (if x1 < 0 then some (S1, c1 + 1, t1 + 6, 5, 0) else mm_bd (call 31 [.inr 8] S1) c1 t1 (fun S2 c2 t2 a2 => (if x1 < a2 then mm_bd (call 84 [.inr 19, .inl x1] S2) c2 t2 (fun S3 c3 t3 a3 => (if a3 = 0 then some (S3, c3, t3, 0, 1) else some (S3, c3, t3, 0, 0))) else some (S2, c2 + 1, t2 + 6, 5, 0)))))) := by
  refine mm_E_eq [0] 19 ?_
  generalize mm_E call pX7_isIdle 2 = k
  rfl
set_option maxRecDepth 100000 in
theorem eX7_give_0 {call : Nat → List MV → Mem → Option Res} {S : Mem} {kc ks : Nat} {x1 : Int32} : mm_E call pX7_give 1 0 [some (.inr 0), some (.inl x1)] [] S kc ks = mm_bd (call 107 [.inr 0] S) kc ks (fun S1 c1 t1 a1 => mm_bd (call 8 [.inr 15] S1) c1 t1 (fun S2 c2 t2 a2 => (if a2 = 0 then mm_bd (call 10 [.inr 15, .inl x1] S2) c2 t2 (fun S3 c3 t3 a3 => (if a3 = 0 then some (S3, c3 + 1, t3 + 6, 2, 0) else mm_bd (call 11 [.inr 15, .inl x1] S3) c3 t3 (fun S4 c4 t4 a4 => some (S4, c4, t4, 0, a4)))) else some (S2, c2 + 1, t2 + 6, 1, 0)))) := by
  refine mm_E_eq [0] 16 ?_
  generalize mm_E call pX7_give 1 = k
  rfl
set_option maxRecDepth 100000 in
theorem eX7_answer_0 {call : Nat → List MV → Mem → Option Res} {S : Mem} {kc ks : Nat}  : mm_E call pX7_answer 1 0 [some (.inr 0), none] [] S kc ks = mm_bd (call 108 [.inr 0] S) kc ks (fun S1 c1 t1 a1 => mm_bd (call 14 [.inr 15] S1) c1 t1 (fun S2 c2 t2 a2 => mm_E call pX7_answer 1 7 [some (.inr 0), some (.inl 0)] [] S2 c2 t2)) := by
  refine mm_E_eq [0, 7] 7 ?_
  generalize mm_E call pX7_answer 1 = k
  rfl
set_option maxRecDepth 100000 in
theorem eX7_answer_7 {call : Nat → List MV → Mem → Option Res} {S : Mem} {kc ks : Nat} {x1 : Int32} : mm_E call pX7_answer 1 7 [some (.inr 0), some (.inl x1)] [] S kc ks = mm_bd (call 31 [.inr 8] S) kc ks (fun S1 c1 t1 a1 => (if a1 ≤ x1 then some (S1, c1, t1, 0, (-1)) else mm_bd (call 109 [.inr 0, .inl x1] S1) c1 t1 (fun S2 c2 t2 a2 => (if a2 = 0 then mm_E call pX7_answer 1 7 [some (.inr 0), some (.inl (x1 + 1))] [] S2 c2 t2 else some (S2, c2, t2, 0, x1))))) := by
  refine mm_E_eq [0, 7] 11 ?_
  generalize mm_E call pX7_answer 1 = k
  rfl
set_option maxRecDepth 100000 in
theorem eX7_tests_0 {call : Nat → List MV → Mem → Option Res} {S : Mem} {kc ks : Nat}  : mm_E call pX7_tests 1 0 [some (.inr 0)] [] S kc ks = mm_bd (call 108 [.inr 0] S) kc ks (fun S1 c1 t1 a1 => mm_bd (call 70 [.inr 19] S1) c1 t1 (fun S2 c2 t2 a2 => (if a2 = 0 then some (S2, c2 + 1, t2 + 6, 5, 0) else mm_bd (call 14 [.inr 15] S2) c2 t2 (fun S3 c3 t3 a3 => mm_bd (call 111 [.inr 0] S3) c3 t3 (fun S4 c4 t4 a4 => some (S4, c4, t4, 0, a4)))))) := by
  refine mm_E_eq [0] 12 ?_
  generalize mm_E call pX7_tests 1 = k
  rfl
set_option maxRecDepth 100000 in
theorem eX7_empty_0 {call : Nat → List MV → Mem → Option Res} {S : Mem} {kc ks : Nat}  : mm_E call pX7_empty 0 0 [some (.inr 0)] [] S kc ks = mm_bd (call 6 [.inr 15, .inr 7, .inl (S 0 2)] S) kc ks (fun S1 c1 t1 a1 => some (S1, c1, t1, 0, 0)) := by
  refine mm_E_eq [0] 8 ?_
  generalize mm_E call pX7_empty 0 = k
  rfl
set_option maxRecDepth 100000 in
theorem eX7_countTypes_0 {call : Nat → List MV → Mem → Option Res} {S : Mem} {kc ks : Nat} {x1 : Int32} {x2 : Int32} {x3 : Int32} : mm_E call pX7_countTypes 1 0 [some (.inr 0), some (.inl x1), some (.inl x2), some (.inl x3)] [] S kc ks = (if x1 = ((-1)) then some (S, kc, ks, 0, 0) else mm_bd (call 19 [.inr 1, .inl x1] S) kc ks (fun S1 c1 t1 a1 => (if a1 = 0 then some (S1, c1, t1, 0, (-1)) else (if x2 = ((-1)) then some (S1, c1, t1, 0, 1) else mm_bd (call 19 [.inr 1, .inl x2] S1) c1 t1 (fun S2 c2 t2 a2 => (if a2 = 0 then some (S2, c2, t2, 0, (-1)) else (if x3 = ((-1)) then some (S2, c2, t2, 0, 2) else mm_bd (call 19 [.inr 1, .inl x3] S2) c2 t2 (fun S3 c3 t3 a3 => (if a3 = 0 then some (S3, c3, t3, 0, (-1)) else some (S3, c3, t3, 0, 3)))))))))) := by
  refine mm_E_eq [0] 27 ?_
  generalize mm_E call pX7_countTypes 1 = k
  rfl
set_option maxRecDepth 100000 in
theorem eX7_beginMatch_0 {call : Nat → List MV → Mem → Option Res} {S : Mem} {kc ks : Nat} {x1 : Int32} {x2 : Int32} {x3 : Int32} {x4 : Int32} : mm_E call pX7_beginMatch 0 0 [some (.inr 0), some (.inl x1), some (.inl x2), some (.inl x3), some (.inl x4)] [] S kc ks = mm_arr (mm_put S 0 2 x1) 1 7 0 (fun q1 => mm_arr (mm_put (mm_put S 0 2 x1) 7 q1 x2) 1 7 1 (fun q2 => mm_arr (mm_put (mm_put (mm_put S 0 2 x1) 7 q1 x2) 7 q2 x3) 1 7 2 (fun q3 => mm_bd (call 30 [.inr 8] (mm_put (mm_put (mm_put (mm_put S 0 2 x1) 7 q1 x2) 7 q2 x3) 7 q3 x4)) kc ks (fun S4 c4 t4 a4 => mm_bd (call 68 [.inr 19] S4) c4 t4 (fun S5 c5 t5 a5 => mm_bd (call 6 [.inr 11, .inr 7, .inl (S5 0 2)] S5) c5 t5 (fun S6 c6 t6 a6 => mm_bd (call 6 [.inr 15, .inr 7, .inl (S6 0 2)] S6) c6 t6 (fun S7 c7 t7 a7 => some (S7, c7, t7, 0, 0)))))))) := by
  refine mm_E_eq [0] 39 ?_
  generalize mm_E call pX7_beginMatch 0 = k
  rfl
set_option maxRecDepth 100000 in
theorem eX7_refuseWithoutMatch_0 {call : Nat → List MV → Mem → Option Res} {S : Mem} {kc ks : Nat}  : mm_E call pX7_refuseWithoutMatch 0 0 [some (.inr 0)] [] S kc ks = (if (S 0 2) = 0 then some (S, kc + 1, ks + 6, 1, 0) else some (S, kc, ks, 0, 0)) := by
  refine mm_E_eq [0] 4 ?_
  generalize mm_E call pX7_refuseWithoutMatch 0 = k
  rfl
set_option maxRecDepth 100000 in
theorem eX7_refuseWithoutWholeValues_0 {call : Nat → List MV → Mem → Option Res} {S : Mem} {kc ks : Nat}  : mm_E call pX7_refuseWithoutWholeValues 0 0 [some (.inr 0)] [] S kc ks = mm_bd (call 107 [.inr 0] S) kc ks (fun S1 c1 t1 a1 => mm_bd (call 9 [.inr 15] S1) c1 t1 (fun S2 c2 t2 a2 => (if a2 = 0 then some (S2, c2, t2, 0, 0) else some (S2, c2 + 1, t2 + 6, 2, 0)))) := by
  refine mm_E_eq [0] 7 ?_
  generalize mm_E call pX7_refuseWithoutWholeValues 0 = k
  rfl
set_option maxRecDepth 100000 in
theorem eX7_rowTakesValues_0 {call : Nat → List MV → Mem → Option Res} {S : Mem} {kc ks : Nat} {x1 : Int32} : mm_E call pX7_rowTakesValues 2 0 [some (.inr 0), some (.inl x1), none, none, none] [] S kc ks = mm_bd (call 33 [.inr 8, .inl x1] S) kc ks (fun S1 c1 t1 a1 => mm_E call pX7_rowTakesValues 2 9 [some (.inr 0), some (.inl x1), some (.inl a1), some (.inl 0), some (.inl 0)] [] S1 c1 t1) := by
  refine mm_E_eq [0, 9] 9 ?_
  generalize mm_E call pX7_rowTakesValues 2 = k
  rfl
set_option maxRecDepth 100000 in
theorem eX7_rowTakesValues_9 {call : Nat → List MV → Mem → Option Res} {S : Mem} {kc ks : Nat} {o1 : Option MV} {x2 : Int32} {x3 : Int32} {x4 : Int32} : mm_E call pX7_rowTakesValues 2 9 [some (.inr 0), o1, some (.inl x2), some (.inl x3), some (.inl x4)] [] S kc ks = (if (S 0 2) ≤ x4 then some (S, kc, ks, 0, 1) else mm_bd (call 110 [.inr 0, .inl x2, .inl x3, .inl 0] S) kc ks (fun S1 c1 t1 a1 => (if a1 = 0 then some (S1, c1, t1, 0, 0) else mm_bd (call 35 [.inr 8, .inl x2] S1) c1 t1 (fun S2 c2 t2 a2 => mm_bd (call 13 [.inr 15, .inl x3] S2) c2 t2 (fun S3 c3 t3 a3 => mm_E call pX7_rowTakesValues 2 9 [some (.inr 0), o1, some (.inl a2), some (.inl a3), some (.inl (x4 + 1))] [] S3 c3 t3))))) := by
  refine mm_E_eq [0, 9] 22 ?_
  generalize mm_E call pX7_rowTakesValues 2 = k
  rfl
set_option maxRecDepth 100000 in
theorem eX7_takes_0 {call : Nat → List MV → Mem → Option Res} {S : Mem} {kc ks : Nat} {x1 : Int32} {x2 : Int32} {x3 : Int32} : mm_E call pX7_takes 2 0 [some (.inr 0), some (.inl x1), some (.inl x2), some (.inl x3), none, none, none, none, none] [] S kc ks = mm_bd (call 34 [.inr 8, .inl x1] S) kc ks (fun S1 c1 t1 a1 => (if a1 = ((-1)) then some (S1, c1, t1, 0, 1) else (if x3 < 40 then (if a1 = ((-2)) then mm_bd (call 110 [.inr 0, .inl (x1 + 1), .inl x2, .inl (x3 + 1)] S1) c1 t1 (fun S2 c2 t2 a2 => (if a2 = 0 then mm_bd (call 35 [.inr 8, .inl (x1 + 1)] S2) c2 t2 (fun S3 c3 t3 a3 => mm_bd (call 110 [.inr 0, .inl a3, .inl x2, .inl (x3 + 1)] S3) c3 t3 (fun S4 c4 t4 a4 => (if a4 = 0 then some (S4, c4, t4, 0, 0) else some (S4, c4, t4, 0, 1)))) else some (S2, c2, t2, 0, 1))) else mm_bd (call 12 [.inr 15, .inl x2] S1) c1 t1 (fun S5 c5 t5 a5 => (if a1 = a5 then mm_bd (call 24 [.inr 1, .inl a1] S5) c5 t5 (fun S6 c6 t6 a6 => mm_E call pX7_takes 2 64 [some (.inr 0), some (.inl x1), some (.inl x2), some (.inl x3), some (.inl a1), some (.inl (x1 + 1)), some (.inl (x2 + 1)), some (.inl a6), some (.inl 0)] [] S6 c6 t6) else some (S5, c5, t5, 0, 0)))) else some (S1, c1, t1, 0, 0)))) := by
  refine mm_E_eq [0, 64] 40 ?_
  generalize mm_E call pX7_takes 2 = k
  rfl
set_option maxRecDepth 100000 in
theorem eX7_takes_64 {call : Nat → List MV → Mem → Option Res} {S : Mem} {kc ks : Nat} {o1 : Option MV} {o2 : Option MV} {x3 : Int32} {o4 : Option MV} {x5 : Int32} {x6 : Int32} {x7 : Int32} {x8 : Int32} : mm_E call pX7_takes 2 64 [some (.inr 0), o1, o2, some (.inl x3), o4, some (.inl x5), some (.inl x6), some (.inl x7), some (.inl x8)] [] S kc ks = (if x7 ≤ x8 then some (S, kc, ks, 0, 1) else mm_bd (call 110 [.inr 0, .inl x5, .inl x6, .inl (x3 + 1)] S) kc ks (fun S1 c1 t1 a1 => (if a1 = 0 then some (S1, c1, t1, 0, 0) else mm_bd (call 35 [.inr 8, .inl x5] S1) c1 t1 (fun S2 c2 t2 a2 => mm_bd (call 13 [.inr 15, .inl x6] S2) c2 t2 (fun S3 c3 t3 a3 => mm_E call pX7_takes 2 64 [some (.inr 0), o1, o2, some (.inl x3), o4, some (.inl a2), some (.inl a3), some (.inl x7), some (.inl (x8 + 1))] [] S3 c3 t3))))) := by
  refine mm_E_eq [0, 64] 23 ?_
  generalize mm_E call pX7_takes 2 = k
  rfl
set_option maxRecDepth 100000 in
theorem eX7_countTests_0 {call : Nat → List MV → Mem → Option Res} {S : Mem} {kc ks : Nat}  : mm_E call pX7_countTests 1 0 [some (.inr 0), none, none, none, none] [] S kc ks = mm_bd (call 36 [.inr 25, .inl (S 0 2)] S) kc ks (fun S1 c1 t1 a1 => mm_E call pX7_countTests 1 9 [some (.inr 0), some (.inl 0), some (.inl 0), none, none] [] S1 c1 t1) := by
  refine mm_E_eq [0, 9] 9 ?_
  generalize mm_E call pX7_countTests 1 = k
  rfl
set_option maxRecDepth 100000 in
theorem eX7_countTests_9 {call : Nat → List MV → Mem → Option Res} {S : Mem} {kc ks : Nat} {x1 : Int32} {x2 : Int32} {o3 : Option MV} {o4 : Option MV} : mm_E call pX7_countTests 1 9 [some (.inr 0), some (.inl x1), some (.inl x2), o3, o4] [] S kc ks = (if 300 ≤ x2 then some (S, kc, ks, 0, x2) else mm_bd (call 77 [.inr 19, .inl x1] S) kc ks (fun S1 c1 t1 a1 => (if a1 = 2 then mm_bd (call 78 [.inr 19, .inl x1] S1) c1 t1 (fun S2 c2 t2 a2 => mm_bd (call 37 [.inr 25, .inl a2] S2) c2 t2 (fun S3 c3 t3 a3 => mm_bd (call 81 [.inr 19, .inl x1, .inl a3] S3) c3 t3 (fun S4 c4 t4 a4 => mm_bd (call 38 [.inr 25, .inl a2, .inl a3] S4) c4 t4 (fun S5 c5 t5 a5 => mm_E call pX7_countTests 1 9 [some (.inr 0), some (.inl a4), some (.inl (x2 + 1)), some (.inl a2), some (.inl a3)] [] S5 c5 t5)))) else some (S1, c1, t1, 0, x2)))) := by
  refine mm_E_eq [0, 9] 32 ?_
  generalize mm_E call pX7_countTests 1 = k
  rfl
set_option maxRecDepth 100000 in
theorem eX7_growTree_0 {call : Nat → List MV → Mem → Option Res} {S : Mem} {kc ks : Nat}  : mm_E call pX7_growTree 2 0 [some (.inr 0), none, none, none, none] [] S kc ks = mm_bd (call 68 [.inr 19] S) kc ks (fun S1 c1 t1 a1 => mm_bd (call 41 [.inr 21, .inr 7, .inl (S1 0 2)] S1) c1 t1 (fun S2 c2 t2 a2 => mm_bd (call 113 [.inr 0, .inl ((-1)), .inl ((-1))] S2) c2 t2 (fun S3 c3 t3 a3 => mm_E call pX7_growTree 2 17 [some (.inr 0), some (.inl a3), some (.inl 0), none, none] [] S3 c3 t3))) := by
  refine mm_E_eq [0, 17] 17 ?_
  generalize mm_E call pX7_growTree 2 = k
  rfl
set_option maxRecDepth 100000 in
theorem eX7_growTree_17 {call : Nat → List MV → Mem → Option Res} {S : Mem} {kc ks : Nat} {x1 : Int32} {x2 : Int32} {o3 : Option MV} {o4 : Option MV} : mm_E call pX7_growTree 2 17 [some (.inr 0), some (.inl x1), some (.inl x2), o3, o4] [] S kc ks = (if 600 < x2 then (if x1 = 0 ∨ x1 = 1 then some (S, kc, ks, 0, x1) else none) else (if x1 = 0 then (if x1 = 0 ∨ x1 = 1 then some (S, kc, ks, 0, x1) else none) else mm_bd (call 42 [.inr 21] S) kc ks (fun S1 c1 t1 a1 => (if a1 = 0 then (if x1 = 0 ∨ x1 = 1 then some (S1, c1, t1, 0, x1) else none) else mm_bd (call 52 [.inr 21] S1) c1 t1 (fun S2 c2 t2 a2 => (if a2 = ((-1)) then mm_bd (call 43 [.inr 21] S2) c2 t2 (fun S3 c3 t3 a3 => mm_E call pX7_growTree 2 17 [some (.inr 0), some (.inl x1), some (.inl (x2 + 1)), some (.inl a2), o4] [] S3 c3 t3) else mm_bd (call 46 [.inr 21] S2) c2 t2 (fun S4 c4 t4 a4 => mm_bd (call 78 [.inr 19, .inl a4] S4) c4 t4 (fun S5 c5 t5 a5 => mm_bd (call 53 [.inr 21, .inl a2, .inl a5] S5) c5 t5 (fun S6 c6 t6 a6 => (if a6 = 0 then mm_E call pX7_growTree 2 17 [some (.inr 0), some (.inl 0), some (.inl (x2 + 1)), some (.inl a2), some (.inl a4)] [] S6 c6 t6 else mm_bd (call 113 [.inr 0, .inl a4, .inl a2] S6) c6 t6 (fun S7 c7 t7 a7 => (if a7 = 0 then mm_E call pX7_growTree 2 17 [some (.inr 0), some (.inl 0), some (.inl (x2 + 1)), some (.inl a2), some (.inl a4)] [] S7 c7 t7 else mm_E call pX7_growTree 2 17 [some (.inr 0), some (.inl 1), some (.inl (x2 + 1)), some (.inl a2), some (.inl a4)] [] S7 c7 t7)))))))))))) := by
  refine mm_E_eq [0, 17] 39 ?_
  generalize mm_E call pX7_growTree 2 = k
  rfl
set_option maxRecDepth 100000 in
theorem eX7_addNode_0 {call : Nat → List MV → Mem → Option Res} {S : Mem} {kc ks : Nat} {x1 : Int32} {x2 : Int32} : mm_E call pX7_addNode 2 0 [some (.inr 0), some (.inl x1), some (.inl x2), none, none, none] [] S kc ks = mm_bd (call 71 [.inr 19] S) kc ks (fun S1 c1 t1 a1 => (if 300 ≤ a1 then some (S1, c1, t1, 0, 0) else mm_bd (call 49 [.inr 21] S1) c1 t1 (fun S2 c2 t2 a2 => (if a2 = 0 then some (S2, c2, t2, 0, 0) else mm_bd (call 73 [.inr 19, .inl x1, .inl x2] S2) c2 t2 (fun S3 c3 t3 a3 => mm_bd (call 45 [.inr 21] S3) c3 t3 (fun S4 c4 t4 a4 => (if a4 = 0 then mm_bd (call 74 [.inr 19, .inl a3] S4) c4 t4 (fun S5 c5 t5 a5 => mm_bd (call 43 [.inr 21] S5) c5 t5 (fun S6 c6 t6 a6 => some (S6, c6, t6, 0, 1))) else mm_bd (call 50 [.inr 21] S4) c4 t4 (fun S7 c7 t7 a7 => (if a7 = ((-1)) then mm_bd (call 48 [.inr 21] S7) c7 t7 (fun S8 c8 t8 a8 => mm_bd (call 75 [.inr 19, .inl a3, .inl a8] S8) c8 t8 (fun S9 c9 t9 a9 => mm_bd (call 43 [.inr 21] S9) c9 t9 (fun S10 c10 t10 a10 => some (S10, c10, t10, 0, 1)))) else mm_bd (call 47 [.inr 21, .inl a7] S7) c7 t7 (fun S11 c11 t11 a11 => mm_bd (call 44 [.inr 21] S11) c11 t11 (fun S12 c12 t12 a12 => mm_bd (call 76 [.inr 19, .inl a3, .inl a11, .inl a12, .inl a7] S12) c12 t12 (fun S13 c13 t13 a13 => mm_bd (call 51 [.inr 21, .inl a3, .inl a11] S13) c13 t13 (fun S14 c14 t14 a14 => some (S14, c14, t14, 0, 1)))))))))))))) := by
  refine mm_E_eq [0] 47 ?_
  generalize mm_E call pX7_addNode 2 = k
  rfl
end
section
set_option maxRecDepth 100000 in
theorem eX8_thrown_0 {call : Nat → List MV → Mem → Option Res} {S : Mem} {kc ks : Nat}  : mm_E call pX8_thrown 1 0 [some (.inr 27)] [] S kc ks = some (S, kc, ks, 0, S 27 0) := by
  refine mm_E_eq [0] 3 ?_
  generalize mm_E call pX8_thrown 1 = k
  rfl
set_option maxRecDepth 100000 in
theorem eX8_isType_0 {call : Nat → List MV → Mem → Option Res} {S : Mem} {kc ks : Nat} {x1 : Int32} : mm_E call pX8_isType 2 0 [some (.inr 27), some (.inl x1)] [] S kc ks = (if x1 < 0 then some (S, kc, ks, 0, 0) else (if (S 27 1) ≤ x1 then some (S, kc, ks, 0, 0) else some (S, kc, ks, 0, 1))) := by
  refine mm_E_eq [0] 9 ?_
  generalize mm_E call pX8_isType 2 = k
  rfl
set_option maxRecDepth 100000 in
theorem eX8_makersOf_0 {call : Nat → List MV → Mem → Option Res} {S : Mem} {kc ks : Nat} {x1 : Int32} : mm_E call pX8_makersOf 1 0 [some (.inr 27), some (.inl x1), none, none] [] S kc ks = mm_E call pX8_makersOf 1 4 [some (.inr 27), some (.inl x1), some (.inl 0), some (.inl 0)] [] S kc ks := by
  refine mm_E_eq [0, 4] 4 ?_
  generalize mm_E call pX8_makersOf 1 = k
  rfl
set_option maxRecDepth 100000 in
theorem eX8_makersOf_4 {call : Nat → List MV → Mem → Option Res} {S : Mem} {kc ks : Nat} {x1 : Int32} {x2 : Int32} {x3 : Int32} : mm_E call pX8_makersOf 1 4 [some (.inr 27), some (.inl x1), some (.inl x2), some (.inl x3)] [] S kc ks = (if (S 27 2) ≤ x3 then some (S, kc, ks, 0, x2) else mm_arr S 1 28 x3 (fun q1 => (if (S 28 q1) = x1 then mm_E call pX8_makersOf 1 4 [some (.inr 27), some (.inl x1), some (.inl (x2 + 1)), some (.inl (x3 + 1))] [] S kc ks else mm_E call pX8_makersOf 1 4 [some (.inr 27), some (.inl x1), some (.inl (x2 + 0)), some (.inl (x3 + 1))] [] S kc ks))) := by
  refine mm_E_eq [0, 4] 17 ?_
  generalize mm_E call pX8_makersOf 1 = k
  rfl
set_option maxRecDepth 100000 in
theorem eX8_fields_0 {call : Nat → List MV → Mem → Option Res} {S : Mem} {kc ks : Nat} {x1 : Int32} : mm_E call pX8_fields 1 0 [some (.inr 27), some (.inl x1)] [] S kc ks = mm_arr S 1 29 (3 * x1) (fun q1 => (if (S 29 q1) = ((-1)) then some (S, kc, ks, 0, 0) else mm_arr S 1 29 ((3 * x1) + 1) (fun q2 => (if (S 29 q2) = ((-1)) then some (S, kc, ks, 0, 1) else mm_arr S 1 29 ((3 * x1) + 2) (fun q3 => (if (S 29 q3) = ((-1)) then some (S, kc, ks, 0, 2) else some (S, kc, ks, 0, 3))))))) := by
  refine mm_E_eq [0] 31 ?_
  generalize mm_E call pX8_fields 1 = k
  rfl
set_option maxRecDepth 100000 in
theorem eX8_type_0 {call : Nat → List MV → Mem → Option Res} {S : Mem} {kc ks : Nat}  : mm_E call pX8_type 1 0 [some (.inr 27)] [] S kc ks = (if (S 27 1) = 8 then (if ((mm_put S 27 0 1) 27 0) ≤ 0 then some (mm_put (mm_put S 27 0 1) 27 1 (((mm_put S 27 0 1) 27 1) + 1), kc, ks, 0, ((mm_put (mm_put S 27 0 1) 27 1 (((mm_put S 27 0 1) 27 1) + 1)) 27 1) - 1) else some (mm_put S 27 0 1, kc, ks, 0, 0)) else (if ((mm_put S 27 0 0) 27 0) ≤ 0 then some (mm_put (mm_put S 27 0 0) 27 1 (((mm_put S 27 0 0) 27 1) + 1), kc, ks, 0, ((mm_put (mm_put S 27 0 0) 27 1 (((mm_put S 27 0 0) 27 1) + 1)) 27 1) - 1) else some (mm_put S 27 0 0, kc, ks, 0, 0))) := by
  refine mm_E_eq [0] 22 ?_
  generalize mm_E call pX8_type 1 = k
  rfl
set_option maxRecDepth 100000 in
theorem eX8_areTypes_0 {call : Nat → List MV → Mem → Option Res} {S : Mem} {kc ks : Nat} {x1 : Int32} {x2 : Int32} {x3 : Int32} : mm_E call pX8_areTypes 2 0 [some (.inr 27), some (.inl x1), some (.inl x2), some (.inl x3)] [] S kc ks = (if x1 = ((-1)) then some (S, kc, ks, 0, 1) else mm_bd (call 115 [.inr 27, .inl x1] S) kc ks (fun S1 c1 t1 a1 => (if a1 = 0 then some (S1, c1, t1, 0, 0) else (if x2 = ((-1)) then some (S1, c1, t1, 0, 1) else mm_bd (call 115 [.inr 27, .inl x2] S1) c1 t1 (fun S2 c2 t2 a2 => (if a2 = 0 then some (S2, c2, t2, 0, 0) else (if x3 = ((-1)) then some (S2, c2, t2, 0, 1) else mm_bd (call 115 [.inr 27, .inl x3] S2) c2 t2 (fun S3 c3 t3 a3 => (if a3 = 0 then some (S3, c3, t3, 0, 0) else some (S3, c3, t3, 0, 1)))))))))) := by
  refine mm_E_eq [0] 24 ?_
  generalize mm_E call pX8_areTypes 2 = k
  rfl
set_option maxRecDepth 100000 in
theorem eX8_maker_0 {call : Nat → List MV → Mem → Option Res} {S : Mem} {kc ks : Nat} {x1 : Int32} {x2 : Int32} {x3 : Int32} {x4 : Int32} : mm_E call pX8_maker 1 0 [some (.inr 27), some (.inl x1), some (.inl x2), some (.inl x3), some (.inl x4)] [] S kc ks = mm_bd (call 115 [.inr 27, .inl x1] S) kc ks (fun S1 c1 t1 a1 => (if a1 = 0 then mm_E call pX8_maker 1 11 [some (.inr 27), some (.inl x1), some (.inl x2), some (.inl x3), some (.inl x4)] [.inr 27] S1 c1 t1 else mm_bd (call 119 [.inr 27, .inl x2, .inl x3, .inl x4] S1) c1 t1 (fun S2 c2 t2 a2 => (if a2 = 0 then mm_E call pX8_maker 1 11 [some (.inr 27), some (.inl x1), some (.inl x2), some (.inl x3), some (.inl x4)] [.inr 27] S2 c2 t2 else (if (S2 27 2) = 40 then (if ((mm_put S2 27 0 2) 27 0) ≤ 0 then mm_arr (mm_put S2 27 0 2) 1 28 ((mm_put S2 27 0 2) 27 2) (fun q3 => mm_arr (mm_put (mm_put S2 27 0 2) 28 q3 x1) 1 29 (3 * ((mm_put (mm_put S2 27 0 2) 28 q3 x1) 27 2)) (fun q4 => (if x2 = ((-1)) then mm_arr (mm_put (mm_put (mm_put S2 27 0 2) 28 q3 x1) 29 q4 x2) 1 29 ((3 * ((mm_put (mm_put (mm_put S2 27 0 2) 28 q3 x1) 29 q4 x2) 27 2)) + 1) (fun q5 => (if x2 = ((-1)) then mm_arr (mm_put (mm_put (mm_put (mm_put S2 27 0 2) 28 q3 x1) 29 q4 x2) 29 q5 ((-1))) 1 29 ((3 * ((mm_put (mm_put (mm_put (mm_put S2 27 0 2) 28 q3 x1) 29 q4 x2) 29 q5 ((-1))) 27 2)) + 2) (fun q6 => mm_bd (call 124 [.inr 27] (mm_put (mm_put (mm_put (mm_put (mm_put (mm_put (mm_put S2 27 0 2) 28 q3 x1) 29 q4 x2) 29 q5 ((-1))) 29 q6 ((-1))) 27 2 (((mm_put (mm_put (mm_put (mm_put (mm_put S2 27 0 2) 28 q3 x1) 29 q4 x2) 29 q5 ((-1))) 29 q6 ((-1))) 27 2) + 1)) 27 6 0)) c2 t2 (fun S7 c7 t7 a7 => some (S7, c7, t7, 0, (S7 27 2) - 1))) else (if x3 = ((-1)) then mm_arr (mm_put (mm_put (mm_put (mm_put S2 27 0 2) 28 q3 x1) 29 q4 x2) 29 q5 ((-1))) 1 29 ((3 * ((mm_put (mm_put (mm_put (mm_put S2 27 0 2) 28 q3 x1) 29 q4 x2) 29 q5 ((-1))) 27 2)) + 2) (fun q8 => mm_bd (call 124 [.inr 27] (mm_put (mm_put (mm_put (mm_put (mm_put (mm_put (mm_put S2 27 0 2) 28 q3 x1) 29 q4 x2) 29 q5 ((-1))) 29 q8 ((-1))) 27 2 (((mm_put (mm_put (mm_put (mm_put (mm_put S2 27 0 2) 28 q3 x1) 29 q4 x2) 29 q5 ((-1))) 29 q8 ((-1))) 27 2) + 1)) 27 6 0)) c2 t2 (fun S9 c9 t9 a9 => some (S9, c9, t9, 0, (S9 27 2) - 1))) else mm_arr (mm_put (mm_put (mm_put (mm_put S2 27 0 2) 28 q3 x1) 29 q4 x2) 29 q5 ((-1))) 1 29 ((3 * ((mm_put (mm_put (mm_put (mm_put S2 27 0 2) 28 q3 x1) 29 q4 x2) 29 q5 ((-1))) 27 2)) + 2) (fun q10 => mm_bd (call 124 [.inr 27] (mm_put (mm_put (mm_put (mm_put (mm_put (mm_put (mm_put S2 27 0 2) 28 q3 x1) 29 q4 x2) 29 q5 ((-1))) 29 q10 x4) 27 2 (((mm_put (mm_put (mm_put (mm_put (mm_put S2 27 0 2) 28 q3 x1) 29 q4 x2) 29 q5 ((-1))) 29 q10 x4) 27 2) + 1)) 27 6 0)) c2 t2 (fun S11 c11 t11 a11 => some (S11, c11, t11, 0, (S11 27 2) - 1)))))) else mm_arr (mm_put (mm_put (mm_put S2 27 0 2) 28 q3 x1) 29 q4 x2) 1 29 ((3 * ((mm_put (mm_put (mm_put S2 27 0 2) 28 q3 x1) 29 q4 x2) 27 2)) + 1) (fun q12 => (if x2 = ((-1)) then mm_arr (mm_put (mm_put (mm_put (mm_put S2 27 0 2) 28 q3 x1) 29 q4 x2) 29 q12 x3) 1 29 ((3 * ((mm_put (mm_put (mm_put (mm_put S2 27 0 2) 28 q3 x1) 29 q4 x2) 29 q12 x3) 27 2)) + 2) (fun q13 => mm_bd (call 124 [.inr 27] (mm_put (mm_put (mm_put (mm_put (mm_put (mm_put (mm_put S2 27 0 2) 28 q3 x1) 29 q4 x2) 29 q12 x3) 29 q13 ((-1))) 27 2 (((mm_put (mm_put (mm_put (mm_put (mm_put S2 27 0 2) 28 q3 x1) 29 q4 x2) 29 q12 x3) 29 q13 ((-1))) 27 2) + 1)) 27 6 0)) c2 t2 (fun S14 c14 t14 a14 => some (S14, c14, t14, 0, (S14 27 2) - 1))) else (if x3 = ((-1)) then mm_arr (mm_put (mm_put (mm_put (mm_put S2 27 0 2) 28 q3 x1) 29 q4 x2) 29 q12 x3) 1 29 ((3 * ((mm_put (mm_put (mm_put (mm_put S2 27 0 2) 28 q3 x1) 29 q4 x2) 29 q12 x3) 27 2)) + 2) (fun q15 => mm_bd (call 124 [.inr 27] (mm_put (mm_put (mm_put (mm_put (mm_put (mm_put (mm_put S2 27 0 2) 28 q3 x1) 29 q4 x2) 29 q12 x3) 29 q15 ((-1))) 27 2 (((mm_put (mm_put (mm_put (mm_put (mm_put S2 27 0 2) 28 q3 x1) 29 q4 x2) 29 q12 x3) 29 q15 ((-1))) 27 2) + 1)) 27 6 0)) c2 t2 (fun S16 c16 t16 a16 => some (S16, c16, t16, 0, (S16 27 2) - 1))) else mm_arr (mm_put (mm_put (mm_put (mm_put S2 27 0 2) 28 q3 x1) 29 q4 x2) 29 q12 x3) 1 29 ((3 * ((mm_put (mm_put (mm_put (mm_put S2 27 0 2) 28 q3 x1) 29 q4 x2) 29 q12 x3) 27 2)) + 2) (fun q17 => mm_bd (call 124 [.inr 27] (mm_put (mm_put (mm_put (mm_put (mm_put (mm_put (mm_put S2 27 0 2) 28 q3 x1) 29 q4 x2) 29 q12 x3) 29 q17 x4) 27 2 (((mm_put (mm_put (mm_put (mm_put (mm_put S2 27 0 2) 28 q3 x1) 29 q4 x2) 29 q12 x3) 29 q17 x4) 27 2) + 1)) 27 6 0)) c2 t2 (fun S18 c18 t18 a18 => some (S18, c18, t18, 0, (S18 27 2) - 1))))))))) else some (mm_put S2 27 0 2, c2, t2, 0, 0)) else mm_bd (call 116 [.inr 27, .inl x1] S2) c2 t2 (fun S19 c19 t19 a19 => (if a19 = 8 then (if ((mm_put S19 27 0 2) 27 0) ≤ 0 then mm_arr (mm_put S19 27 0 2) 1 28 ((mm_put S19 27 0 2) 27 2) (fun q20 => mm_arr (mm_put (mm_put S19 27 0 2) 28 q20 x1) 1 29 (3 * ((mm_put (mm_put S19 27 0 2) 28 q20 x1) 27 2)) (fun q21 => (if x2 = ((-1)) then mm_arr (mm_put (mm_put (mm_put S19 27 0 2) 28 q20 x1) 29 q21 x2) 1 29 ((3 * ((mm_put (mm_put (mm_put S19 27 0 2) 28 q20 x1) 29 q21 x2) 27 2)) + 1) (fun q22 => (if x2 = ((-1)) then mm_arr (mm_put (mm_put (mm_put (mm_put S19 27 0 2) 28 q20 x1) 29 q21 x2) 29 q22 ((-1))) 1 29 ((3 * ((mm_put (mm_put (mm_put (mm_put S19 27 0 2) 28 q20 x1) 29 q21 x2) 29 q22 ((-1))) 27 2)) + 2) (fun q23 => mm_bd (call 124 [.inr 27] (mm_put (mm_put (mm_put (mm_put (mm_put (mm_put (mm_put S19 27 0 2) 28 q20 x1) 29 q21 x2) 29 q22 ((-1))) 29 q23 ((-1))) 27 2 (((mm_put (mm_put (mm_put (mm_put (mm_put S19 27 0 2) 28 q20 x1) 29 q21 x2) 29 q22 ((-1))) 29 q23 ((-1))) 27 2) + 1)) 27 6 0)) c19 t19 (fun S24 c24 t24 a24 => some (S24, c24, t24, 0, (S24 27 2) - 1))) else (if x3 = ((-1)) then mm_arr (mm_put (mm_put (mm_put (mm_put S19 27 0 2) 28 q20 x1) 29 q21 x2) 29 q22 ((-1))) 1 29 ((3 * ((mm_put (mm_put (mm_put (mm_put S19 27 0 2) 28 q20 x1) 29 q21 x2) 29 q22 ((-1))) 27 2)) + 2) (fun q25 => mm_bd (call 124 [.inr 27] (mm_put (mm_put (mm_put (mm_put (mm_put (mm_put (mm_put S19 27 0 2) 28 q20 x1) 29 q21 x2) 29 q22 ((-1))) 29 q25 ((-1))) 27 2 (((mm_put (mm_put (mm_put (mm_put (mm_put S19 27 0 2) 28 q20 x1) 29 q21 x2) 29 q22 ((-1))) 29 q25 ((-1))) 27 2) + 1)) 27 6 0)) c19 t19 (fun S26 c26 t26 a26 => some (S26, c26, t26, 0, (S26 27 2) - 1))) else mm_arr (mm_put (mm_put (mm_put (mm_put S19 27 0 2) 28 q20 x1) 29 q21 x2) 29 q22 ((-1))) 1 29 ((3 * ((mm_put (mm_put (mm_put (mm_put S19 27 0 2) 28 q20 x1) 29 q21 x2) 29 q22 ((-1))) 27 2)) + 2) (fun q27 => mm_bd (call 124 [.inr 27] (mm_put (mm_put (mm_put (mm_put (mm_put (mm_put (mm_put S19 27 0 2) 28 q20 x1) 29 q21 x2) 29 q22 ((-1))) 29 q27 x4) 27 2 (((mm_put (mm_put (mm_put (mm_put (mm_put S19 27 0 2) 28 q20 x1) 29 q21 x2) 29 q22 ((-1))) 29 q27 x4) 27 2) + 1)) 27 6 0)) c19 t19 (fun S28 c28 t28 a28 => some (S28, c28, t28, 0, (S28 27 2) - 1)))))) else mm_arr (mm_put (mm_put (mm_put S19 27 0 2) 28 q20 x1) 29 q21 x2) 1 29 ((3 * ((mm_put (mm_put (mm_put S19 27 0 2) 28 q20 x1) 29 q21 x2) 27 2)) + 1) (fun q29 => (if x2 = ((-1)) then mm_arr (mm_put (mm_put (mm_put (mm_put S19 27 0 2) 28 q20 x1) 29 q21 x2) 29 q29 x3) 1 29 ((3 * ((mm_put (mm_put (mm_put (mm_put S19 27 0 2) 28 q20 x1) 29 q21 x2) 29 q29 x3) 27 2)) + 2) (fun q30 => mm_bd (call 124 [.inr 27] (mm_put (mm_put (mm_put (mm_put (mm_put (mm_put (mm_put S19 27 0 2) 28 q20 x1) 29 q21 x2) 29 q29 x3) 29 q30 ((-1))) 27 2 (((mm_put (mm_put (mm_put (mm_put (mm_put S19 27 0 2) 28 q20 x1) 29 q21 x2) 29 q29 x3) 29 q30 ((-1))) 27 2) + 1)) 27 6 0)) c19 t19 (fun S31 c31 t31 a31 => some (S31, c31, t31, 0, (S31 27 2) - 1))) else (if x3 = ((-1)) then mm_arr (mm_put (mm_put (mm_put (mm_put S19 27 0 2) 28 q20 x1) 29 q21 x2) 29 q29 x3) 1 29 ((3 * ((mm_put (mm_put (mm_put (mm_put S19 27 0 2) 28 q20 x1) 29 q21 x2) 29 q29 x3) 27 2)) + 2) (fun q32 => mm_bd (call 124 [.inr 27] (mm_put (mm_put (mm_put (mm_put (mm_put (mm_put (mm_put S19 27 0 2) 28 q20 x1) 29 q21 x2) 29 q29 x3) 29 q32 ((-1))) 27 2 (((mm_put (mm_put (mm_put (mm_put (mm_put S19 27 0 2) 28 q20 x1) 29 q21 x2) 29 q29 x3) 29 q32 ((-1))) 27 2) + 1)) 27 6 0)) c19 t19 (fun S33 c33 t33 a33 => some (S33, c33, t33, 0, (S33 27 2) - 1))) else mm_arr (mm_put (mm_put (mm_put (mm_put S19 27 0 2) 28 q20 x1) 29 q21 x2) 29 q29 x3) 1 29 ((3 * ((mm_put (mm_put (mm_put (mm_put S19 27 0 2) 28 q20 x1) 29 q21 x2) 29 q29 x3) 27 2)) + 2) (fun q34 => mm_bd (call 124 [.inr 27] (mm_put (mm_put (mm_put (mm_put (mm_put (mm_put (mm_put S19 27 0 2) 28 q20 x1) 29 q21 x2) 29 q29 x3) 29 q34 x4) 27 2 (((mm_put (mm_put (mm_put (mm_put (mm_put S19 27 0 2) 28 q20 x1) 29 q21 x2) 29 q29 x3) 29 q34 x4) 27 2) + 1)) 27 6 0)) c19 t19 (fun S35 c35 t35 a35 => some (S35, c35, t35, 0, (S35 27 2) - 1))))))))) else some (mm_put S19 27 0 2, c19, t19, 0, 0)) else (if ((mm_put S19 27 0 0) 27 0) ≤ 0 then mm_arr (mm_put S19 27 0 0) 1 28 ((mm_put S19 27 0 0) 27 2) (fun q36 => mm_arr (mm_put (mm_put S19 27 0 0) 28 q36 x1) 1 29 (3 * ((mm_put (mm_put S19 27 0 0) 28 q36 x1) 27 2)) (fun q37 => (if x2 = ((-1)) then mm_arr (mm_put (mm_put (mm_put S19 27 0 0) 28 q36 x1) 29 q37 x2) 1 29 ((3 * ((mm_put (mm_put (mm_put S19 27 0 0) 28 q36 x1) 29 q37 x2) 27 2)) + 1) (fun q38 => (if x2 = ((-1)) then mm_arr (mm_put (mm_put (mm_put (mm_put S19 27 0 0) 28 q36 x1) 29 q37 x2) 29 q38 ((-1))) 1 29 ((3 * ((mm_put (mm_put (mm_put (mm_put S19 27 0 0) 28 q36 x1) 29 q37 x2) 29 q38 ((-1))) 27 2)) + 2) (fun q39 => mm_bd (call 124 [.inr 27] (mm_put (mm_put (mm_put (mm_put (mm_put (mm_put (mm_put S19 27 0 0) 28 q36 x1) 29 q37 x2) 29 q38 ((-1))) 29 q39 ((-1))) 27 2 (((mm_put (mm_put (mm_put (mm_put (mm_put S19 27 0 0) 28 q36 x1) 29 q37 x2) 29 q38 ((-1))) 29 q39 ((-1))) 27 2) + 1)) 27 6 0)) c19 t19 (fun S40 c40 t40 a40 => some (S40, c40, t40, 0, (S40 27 2) - 1))) else (if x3 = ((-1)) then mm_arr (mm_put (mm_put (mm_put (mm_put S19 27 0 0) 28 q36 x1) 29 q37 x2) 29 q38 ((-1))) 1 29 ((3 * ((mm_put (mm_put (mm_put (mm_put S19 27 0 0) 28 q36 x1) 29 q37 x2) 29 q38 ((-1))) 27 2)) + 2) (fun q41 => mm_bd (call 124 [.inr 27] (mm_put (mm_put (mm_put (mm_put (mm_put (mm_put (mm_put S19 27 0 0) 28 q36 x1) 29 q37 x2) 29 q38 ((-1))) 29 q41 ((-1))) 27 2 (((mm_put (mm_put (mm_put (mm_put (mm_put S19 27 0 0) 28 q36 x1) 29 q37 x2) 29 q38 ((-1))) 29 q41 ((-1))) 27 2) + 1)) 27 6 0)) c19 t19 (fun S42 c42 t42 a42 => some (S42, c42, t42, 0, (S42 27 2) - 1))) else mm_arr (mm_put (mm_put (mm_put (mm_put S19 27 0 0) 28 q36 x1) 29 q37 x2) 29 q38 ((-1))) 1 29 ((3 * ((mm_put (mm_put (mm_put (mm_put S19 27 0 0) 28 q36 x1) 29 q37 x2) 29 q38 ((-1))) 27 2)) + 2) (fun q43 => mm_bd (call 124 [.inr 27] (mm_put (mm_put (mm_put (mm_put (mm_put (mm_put (mm_put S19 27 0 0) 28 q36 x1) 29 q37 x2) 29 q38 ((-1))) 29 q43 x4) 27 2 (((mm_put (mm_put (mm_put (mm_put (mm_put S19 27 0 0) 28 q36 x1) 29 q37 x2) 29 q38 ((-1))) 29 q43 x4) 27 2) + 1)) 27 6 0)) c19 t19 (fun S44 c44 t44 a44 => some (S44, c44, t44, 0, (S44 27 2) - 1)))))) else mm_arr (mm_put (mm_put (mm_put S19 27 0 0) 28 q36 x1) 29 q37 x2) 1 29 ((3 * ((mm_put (mm_put (mm_put S19 27 0 0) 28 q36 x1) 29 q37 x2) 27 2)) + 1) (fun q45 => (if x2 = ((-1)) then mm_arr (mm_put (mm_put (mm_put (mm_put S19 27 0 0) 28 q36 x1) 29 q37 x2) 29 q45 x3) 1 29 ((3 * ((mm_put (mm_put (mm_put (mm_put S19 27 0 0) 28 q36 x1) 29 q37 x2) 29 q45 x3) 27 2)) + 2) (fun q46 => mm_bd (call 124 [.inr 27] (mm_put (mm_put (mm_put (mm_put (mm_put (mm_put (mm_put S19 27 0 0) 28 q36 x1) 29 q37 x2) 29 q45 x3) 29 q46 ((-1))) 27 2 (((mm_put (mm_put (mm_put (mm_put (mm_put S19 27 0 0) 28 q36 x1) 29 q37 x2) 29 q45 x3) 29 q46 ((-1))) 27 2) + 1)) 27 6 0)) c19 t19 (fun S47 c47 t47 a47 => some (S47, c47, t47, 0, (S47 27 2) - 1))) else (if x3 = ((-1)) then mm_arr (mm_put (mm_put (mm_put (mm_put S19 27 0 0) 28 q36 x1) 29 q37 x2) 29 q45 x3) 1 29 ((3 * ((mm_put (mm_put (mm_put (mm_put S19 27 0 0) 28 q36 x1) 29 q37 x2) 29 q45 x3) 27 2)) + 2) (fun q48 => mm_bd (call 124 [.inr 27] (mm_put (mm_put (mm_put (mm_put (mm_put (mm_put (mm_put S19 27 0 0) 28 q36 x1) 29 q37 x2) 29 q45 x3) 29 q48 ((-1))) 27 2 (((mm_put (mm_put (mm_put (mm_put (mm_put S19 27 0 0) 28 q36 x1) 29 q37 x2) 29 q45 x3) 29 q48 ((-1))) 27 2) + 1)) 27 6 0)) c19 t19 (fun S49 c49 t49 a49 => some (S49, c49, t49, 0, (S49 27 2) - 1))) else mm_arr (mm_put (mm_put (mm_put (mm_put S19 27 0 0) 28 q36 x1) 29 q37 x2) 29 q45 x3) 1 29 ((3 * ((mm_put (mm_put (mm_put (mm_put S19 27 0 0) 28 q36 x1) 29 q37 x2) 29 q45 x3) 27 2)) + 2) (fun q50 => mm_bd (call 124 [.inr 27] (mm_put (mm_put (mm_put (mm_put (mm_put (mm_put (mm_put S19 27 0 0) 28 q36 x1) 29 q37 x2) 29 q45 x3) 29 q50 x4) 27 2 (((mm_put (mm_put (mm_put (mm_put (mm_put S19 27 0 0) 28 q36 x1) 29 q37 x2) 29 q45 x3) 29 q50 x4) 27 2) + 1)) 27 6 0)) c19 t19 (fun S51 c51 t51 a51 => some (S51, c51, t51, 0, (S51 27 2) - 1))))))))) else some (mm_put S19 27 0 0, c19, t19, 0, 0))))))))) := by
  refine mm_E_eq [0, 11] 87 ?_
  generalize mm_E call pX8_maker 1 = k
  rfl
set_option maxRecDepth 100000 in
theorem eX8_maker_11 {call : Nat → List MV → Mem → Option Res} {S : Mem} {kc ks : Nat} {x1 : Int32} {x2 : Int32} {x3 : Int32} {x4 : Int32} : mm_E call pX8_maker 1 11 [some (.inr 27), some (.inl x1), some (.inl x2), some (.inl x3), some (.inl x4)] [.inr 27] S kc ks = (if ((mm_put S 27 0 1) 27 0) ≤ 0 then mm_arr (mm_put S 27 0 1) 1 28 ((mm_put S 27 0 1) 27 2) (fun q1 => mm_arr (mm_put (mm_put S 27 0 1) 28 q1 x1) 1 29 (3 * ((mm_put (mm_put S 27 0 1) 28 q1 x1) 27 2)) (fun q2 => (if x2 = ((-1)) then mm_arr (mm_put (mm_put (mm_put S 27 0 1) 28 q1 x1) 29 q2 x2) 1 29 ((3 * ((mm_put (mm_put (mm_put S 27 0 1) 28 q1 x1) 29 q2 x2) 27 2)) + 1) (fun q3 => (if x2 = ((-1)) then mm_arr (mm_put (mm_put (mm_put (mm_put S 27 0 1) 28 q1 x1) 29 q2 x2) 29 q3 ((-1))) 1 29 ((3 * ((mm_put (mm_put (mm_put (mm_put S 27 0 1) 28 q1 x1) 29 q2 x2) 29 q3 ((-1))) 27 2)) + 2) (fun q4 => mm_bd (call 124 [.inr 27] (mm_put (mm_put (mm_put (mm_put (mm_put (mm_put (mm_put S 27 0 1) 28 q1 x1) 29 q2 x2) 29 q3 ((-1))) 29 q4 ((-1))) 27 2 (((mm_put (mm_put (mm_put (mm_put (mm_put S 27 0 1) 28 q1 x1) 29 q2 x2) 29 q3 ((-1))) 29 q4 ((-1))) 27 2) + 1)) 27 6 0)) kc ks (fun S5 c5 t5 a5 => some (S5, c5, t5, 0, (S5 27 2) - 1))) else (if x3 = ((-1)) then mm_arr (mm_put (mm_put (mm_put (mm_put S 27 0 1) 28 q1 x1) 29 q2 x2) 29 q3 ((-1))) 1 29 ((3 * ((mm_put (mm_put (mm_put (mm_put S 27 0 1) 28 q1 x1) 29 q2 x2) 29 q3 ((-1))) 27 2)) + 2) (fun q6 => mm_bd (call 124 [.inr 27] (mm_put (mm_put (mm_put (mm_put (mm_put (mm_put (mm_put S 27 0 1) 28 q1 x1) 29 q2 x2) 29 q3 ((-1))) 29 q6 ((-1))) 27 2 (((mm_put (mm_put (mm_put (mm_put (mm_put S 27 0 1) 28 q1 x1) 29 q2 x2) 29 q3 ((-1))) 29 q6 ((-1))) 27 2) + 1)) 27 6 0)) kc ks (fun S7 c7 t7 a7 => some (S7, c7, t7, 0, (S7 27 2) - 1))) else mm_arr (mm_put (mm_put (mm_put (mm_put S 27 0 1) 28 q1 x1) 29 q2 x2) 29 q3 ((-1))) 1 29 ((3 * ((mm_put (mm_put (mm_put (mm_put S 27 0 1) 28 q1 x1) 29 q2 x2) 29 q3 ((-1))) 27 2)) + 2) (fun q8 => mm_bd (call 124 [.inr 27] (mm_put (mm_put (mm_put (mm_put (mm_put (mm_put (mm_put S 27 0 1) 28 q1 x1) 29 q2 x2) 29 q3 ((-1))) 29 q8 x4) 27 2 (((mm_put (mm_put (mm_put (mm_put (mm_put S 27 0 1) 28 q1 x1) 29 q2 x2) 29 q3 ((-1))) 29 q8 x4) 27 2) + 1)) 27 6 0)) kc ks (fun S9 c9 t9 a9 => some (S9, c9, t9, 0, (S9 27 2) - 1)))))) else mm_arr (mm_put (mm_put (mm_put S 27 0 1) 28 q1 x1) 29 q2 x2) 1 29 ((3 * ((mm_put (mm_put (mm_put S 27 0 1) 28 q1 x1) 29 q2 x2) 27 2)) + 1) (fun q10 => (if x2 = ((-1)) then mm_arr (mm_put (mm_put (mm_put (mm_put S 27 0 1) 28 q1 x1) 29 q2 x2) 29 q10 x3) 1 29 ((3 * ((mm_put (mm_put (mm_put (mm_put S 27 0 1) 28 q1 x1) 29 q2 x2) 29 q10 x3) 27 2)) + 2) (fun q11 => mm_bd (call 124 [.inr 27] (mm_put (mm_put (mm_put (mm_put (mm_put (mm_put (mm_put S 27 0 1) 28 q1 x1) 29 q2 x2) 29 q10 x3) 29 q11 ((-1))) 27 2 (((mm_put (mm_put (mm_put (mm_put (mm_put S 27 0 1) 28 q1 x1) 29 q2 x2) 29 q10 x3) 29 q11 ((-1))) 27 2) + 1)) 27 6 0)) kc ks (fun S12 c12 t12 a12 => some (S12, c12, t12, 0, (S12 27 2) - 1))) else (if x3 = ((-1)) then mm_arr (mm_put (mm_put (mm_put (mm_put S 27 0 1) 28 q1 x1) 29 q2 x2) 29 q10 x3) 1 29 ((3 * ((mm_put (mm_put (mm_put (mm_put S 27 0 1) 28 q1 x1) 29 q2 x2) 29 q10 x3) 27 2)) + 2) (fun q13 => mm_bd (call 124 [.inr 27] (mm_put (mm_put (mm_put (mm_put (mm_put (mm_put (mm_put S 27 0 1) 28 q1 x1) 29 q2 x2) 29 q10 x3) 29 q13 ((-1))) 27 2 (((mm_put (mm_put (mm_put (mm_put (mm_put S 27 0 1) 28 q1 x1) 29 q2 x2) 29 q10 x3) 29 q13 ((-1))) 27 2) + 1)) 27 6 0)) kc ks (fun S14 c14 t14 a14 => some (S14, c14, t14, 0, (S14 27 2) - 1))) else mm_arr (mm_put (mm_put (mm_put (mm_put S 27 0 1) 28 q1 x1) 29 q2 x2) 29 q10 x3) 1 29 ((3 * ((mm_put (mm_put (mm_put (mm_put S 27 0 1) 28 q1 x1) 29 q2 x2) 29 q10 x3) 27 2)) + 2) (fun q15 => mm_bd (call 124 [.inr 27] (mm_put (mm_put (mm_put (mm_put (mm_put (mm_put (mm_put S 27 0 1) 28 q1 x1) 29 q2 x2) 29 q10 x3) 29 q15 x4) 27 2 (((mm_put (mm_put (mm_put (mm_put (mm_put S 27 0 1) 28 q1 x1) 29 q2 x2) 29 q10 x3) 29 q15 x4) 27 2) + 1)) 27 6 0)) kc ks (fun S16 c16 t16 a16 => some (S16, c16, t16, 0, (S16 27 2) - 1))))))))) else some (mm_put S 27 0 1, kc, ks, 0, 0)) := by
  refine mm_E_eq [0, 11] 67 ?_
  generalize mm_E call pX8_maker 1 = k
  rfl
set_option maxRecDepth 100000 in
theorem eX8_find_0 {call : Nat → List MV → Mem → Option Res} {S : Mem} {kc ks : Nat}  : mm_E call pX8_find 0 0 [some (.inr 27), none, none] [] S kc ks = mm_E call pX8_find 0 2 [some (.inr 27), some (.inl 0), none] [] S kc ks := by
  refine mm_E_eq [0, 2, 14, 20] 2 ?_
  generalize mm_E call pX8_find 0 = k
  rfl
set_option maxRecDepth 100000 in
theorem eX8_find_2 {call : Nat → List MV → Mem → Option Res} {S : Mem} {kc ks : Nat} {x1 : Int32} {o2 : Option MV} : mm_E call pX8_find 0 2 [some (.inr 27), some (.inl x1), o2] [] S kc ks = (if 8 ≤ x1 then mm_E call pX8_find 0 14 [some (.inr 27), some (.inl 0), o2] [] S kc ks else mm_arr S 2 30 x1 (fun q1 => mm_E call pX8_find 0 2 [some (.inr 27), some (.inl (x1 + 1)), o2] [] (mm_put S 30 q1 (vp_nar .boolean 0)) kc ks)) := by
  refine mm_E_eq [0, 2, 14, 20] 10 ?_
  generalize mm_E call pX8_find 0 = k
  rfl
set_option maxRecDepth 100000 in
theorem eX8_find_14 {call : Nat → List MV → Mem → Option Res} {S : Mem} {kc ks : Nat} {x1 : Int32} {o2 : Option MV} : mm_E call pX8_find 0 14 [some (.inr 27), some (.inl x1), o2] [] S kc ks = (if (S 27 1) ≤ x1 then some (S, kc, ks, 0, 0) else mm_E call pX8_find 0 20 [some (.inr 27), some (.inl x1), some (.inl 0)] [] S kc ks) := by
  refine mm_E_eq [0, 2, 14, 20] 6 ?_
  generalize mm_E call pX8_find 0 = k
  rfl
set_option maxRecDepth 100000 in
theorem eX8_find_20 {call : Nat → List MV → Mem → Option Res} {S : Mem} {kc ks : Nat} {x1 : Int32} {x2 : Int32} : mm_E call pX8_find 0 20 [some (.inr 27), some (.inl x1), some (.inl x2)] [] S kc ks = (if (S 27 2) ≤ x2 then mm_E call pX8_find 0 14 [some (.inr 27), some (.inl (x1 + 1)), some (.inl x2)] [] S kc ks else mm_arr S 1 28 x2 (fun q1 => mm_arr S 1 28 x2 (fun q2 => mm_arr S 2 30 (S 28 q2) (fun q3 => (if (S 30 q3) = 0 then mm_bd (call 122 [.inr 27, .inl x2] S) kc ks (fun S4 c4 t4 a4 => (if a4 = 0 then mm_arr S4 2 30 (S 28 q1) (fun q5 => mm_E call pX8_find 0 20 [some (.inr 27), some (.inl x1), some (.inl (x2 + 1))] [] (mm_put S4 30 q5 (vp_nar .boolean 1)) c4 t4) else mm_arr S4 2 30 (S 28 q1) (fun q6 => mm_E call pX8_find 0 20 [some (.inr 27), some (.inl x1), some (.inl (x2 + 1))] [] (mm_put S4 30 q6 (vp_nar .boolean 0)) c4 t4))) else mm_arr S 2 30 (S 28 q1) (fun q7 => mm_E call pX8_find 0 20 [some (.inr 27), some (.inl x1), some (.inl (x2 + 1))] [] (mm_put S 30 q7 (vp_nar .boolean 1)) kc ks)))))) := by
  refine mm_E_eq [0, 2, 14, 20] 27 ?_
  generalize mm_E call pX8_find 0 = k
  rfl
set_option maxRecDepth 100000 in
theorem eX8_isDead_0 {call : Nat → List MV → Mem → Option Res} {S : Mem} {kc ks : Nat} {x1 : Int32} : mm_E call pX8_isDead 2 0 [some (.inr 27), some (.inl x1), none, none] [] S kc ks = mm_E call pX8_isDead 2 4 [some (.inr 27), some (.inl x1), some (.inl 0), some (.inl 0)] [] S kc ks := by
  refine mm_E_eq [0, 4] 4 ?_
  generalize mm_E call pX8_isDead 2 = k
  rfl
set_option maxRecDepth 100000 in
theorem eX8_isDead_4 {call : Nat → List MV → Mem → Option Res} {S : Mem} {kc ks : Nat} {x1 : Int32} {x2 : Int32} {x3 : Int32} : mm_E call pX8_isDead 2 4 [some (.inr 27), some (.inl x1), some (.inl x2), some (.inl x3)] [] S kc ks = mm_bd (call 117 [.inr 27, .inl x1] S) kc ks (fun S1 c1 t1 a1 => (if a1 ≤ x3 then (if x2 = 0 ∨ x2 = 1 then some (S1, c1, t1, 0, x2) else none) else (if x2 = 0 then mm_arr S1 1 29 ((3 * x1) + x3) (fun q2 => mm_arr S1 2 30 (S1 29 q2) (fun q3 => (if (S1 30 q3) = 0 then mm_E call pX8_isDead 2 4 [some (.inr 27), some (.inl x1), some (.inl 1), some (.inl (x3 + 1))] [] S1 c1 t1 else mm_E call pX8_isDead 2 4 [some (.inr 27), some (.inl x1), some (.inl 0), some (.inl (x3 + 1))] [] S1 c1 t1))) else mm_E call pX8_isDead 2 4 [some (.inr 27), some (.inl x1), some (.inl 1), some (.inl (x3 + 1))] [] S1 c1 t1))) := by
  refine mm_E_eq [0, 4] 24 ?_
  generalize mm_E call pX8_isDead 2 = k
  rfl
set_option maxRecDepth 100000 in
theorem eX8_isEmpty_0 {call : Nat → List MV → Mem → Option Res} {S : Mem} {kc ks : Nat} {x1 : Int32} : mm_E call pX8_isEmpty 2 0 [some (.inr 27), some (.inl x1)] [] S kc ks = mm_bd (call 115 [.inr 27, .inl x1] S) kc ks (fun S1 c1 t1 a1 => (if a1 = 0 then (if ((mm_put S1 27 0 1) 27 0) ≤ 0 then mm_bd (call 121 [.inr 27] (mm_put S1 27 0 1)) c1 t1 (fun S2 c2 t2 a2 => mm_arr S2 2 30 x1 (fun q3 => (if (S2 30 q3) = 0 then some (S2, c2, t2, 0, 1) else some (S2, c2, t2, 0, 0)))) else some (mm_put S1 27 0 1, c1, t1, 0, 0)) else (if ((mm_put S1 27 0 0) 27 0) ≤ 0 then mm_bd (call 121 [.inr 27] (mm_put S1 27 0 0)) c1 t1 (fun S4 c4 t4 a4 => mm_arr S4 2 30 x1 (fun q5 => (if (S4 30 q5) = 0 then some (S4, c4, t4, 0, 1) else some (S4, c4, t4, 0, 0)))) else some (mm_put S1 27 0 0, c1, t1, 0, 0)))) := by
  refine mm_E_eq [0] 21 ?_
  generalize mm_E call pX8_isEmpty 2 = k
  rfl
set_option maxRecDepth 100000 in
theorem eX8_forget_0 {call : Nat → List MV → Mem → Option Res} {S : Mem} {kc ks : Nat}  : mm_E call pX8_forget 0 0 [some (.inr 27)] [] S kc ks = some (mm_put (mm_put (mm_put (mm_put S 27 7 0) 27 8 0) 27 9 0) 27 24 ((-1)), kc, ks, 0, 0) := by
  refine mm_E_eq [0] 13 ?_
  generalize mm_E call pX8_forget 0 = k
  rfl
set_option maxRecDepth 100000 in
theorem eX8_match_0 {call : Nat → List MV → Mem → Option Res} {S : Mem} {kc ks : Nat} {x1 : Int32} {x2 : Int32} {x3 : Int32} : mm_E call pX8_match 0 0 [some (.inr 27), some (.inl x1), some (.inl x2), some (.inl x3)] [] S kc ks = (if x1 = ((-1)) then (if ((mm_put S 27 0 1) 27 0) ≤ 0 then mm_arr (mm_put S 27 0 1) 1 31 0 (fun q1 => mm_arr (mm_put (mm_put S 27 0 1) 31 q1 x1) 1 31 1 (fun q2 => mm_arr (mm_put (mm_put (mm_put S 27 0 1) 31 q1 x1) 31 q2 x2) 1 31 2 (fun q3 => (if x2 = ((-1)) then mm_bd (call 124 [.inr 27] (mm_put (mm_put (mm_put (mm_put (mm_put S 27 0 1) 31 q1 x1) 31 q2 x2) 31 q3 x3) 27 6 1)) kc ks (fun S4 c4 t4 a4 => some (S4, c4, t4, 0, 0)) else (if x3 = ((-1)) then mm_bd (call 124 [.inr 27] (mm_put (mm_put (mm_put (mm_put (mm_put S 27 0 1) 31 q1 x1) 31 q2 x2) 31 q3 x3) 27 6 2)) kc ks (fun S5 c5 t5 a5 => some (S5, c5, t5, 0, 0)) else mm_bd (call 124 [.inr 27] (mm_put (mm_put (mm_put (mm_put (mm_put S 27 0 1) 31 q1 x1) 31 q2 x2) 31 q3 x3) 27 6 3)) kc ks (fun S6 c6 t6 a6 => some (S6, c6, t6, 0, 0))))))) else some (mm_put S 27 0 1, kc, ks, 0, 0)) else mm_bd (call 119 [.inr 27, .inl x1, .inl x2, .inl x3] S) kc ks (fun S7 c7 t7 a7 => (if a7 = 0 then (if ((mm_put S7 27 0 1) 27 0) ≤ 0 then mm_arr (mm_put S7 27 0 1) 1 31 0 (fun q8 => mm_arr (mm_put (mm_put S7 27 0 1) 31 q8 x1) 1 31 1 (fun q9 => mm_arr (mm_put (mm_put (mm_put S7 27 0 1) 31 q8 x1) 31 q9 x2) 1 31 2 (fun q10 => (if x2 = ((-1)) then mm_bd (call 124 [.inr 27] (mm_put (mm_put (mm_put (mm_put (mm_put S7 27 0 1) 31 q8 x1) 31 q9 x2) 31 q10 x3) 27 6 1)) c7 t7 (fun S11 c11 t11 a11 => some (S11, c11, t11, 0, 0)) else (if x3 = ((-1)) then mm_bd (call 124 [.inr 27] (mm_put (mm_put (mm_put (mm_put (mm_put S7 27 0 1) 31 q8 x1) 31 q9 x2) 31 q10 x3) 27 6 2)) c7 t7 (fun S12 c12 t12 a12 => some (S12, c12, t12, 0, 0)) else mm_bd (call 124 [.inr 27] (mm_put (mm_put (mm_put (mm_put (mm_put S7 27 0 1) 31 q8 x1) 31 q9 x2) 31 q10 x3) 27 6 3)) c7 t7 (fun S13 c13 t13 a13 => some (S13, c13, t13, 0, 0))))))) else some (mm_put S7 27 0 1, c7, t7, 0, 0)) else (if ((mm_put S7 27 0 0) 27 0) ≤ 0 then mm_arr (mm_put S7 27 0 0) 1 31 0 (fun q14 => mm_arr (mm_put (mm_put S7 27 0 0) 31 q14 x1) 1 31 1 (fun q15 => mm_arr (mm_put (mm_put (mm_put S7 27 0 0) 31 q14 x1) 31 q15 x2) 1 31 2 (fun q16 => (if x2 = ((-1)) then mm_bd (call 124 [.inr 27] (mm_put (mm_put (mm_put (mm_put (mm_put S7 27 0 0) 31 q14 x1) 31 q15 x2) 31 q16 x3) 27 6 1)) c7 t7 (fun S17 c17 t17 a17 => some (S17, c17, t17, 0, 0)) else (if x3 = ((-1)) then mm_bd (call 124 [.inr 27] (mm_put (mm_put (mm_put (mm_put (mm_put S7 27 0 0) 31 q14 x1) 31 q15 x2) 31 q16 x3) 27 6 2)) c7 t7 (fun S18 c18 t18 a18 => some (S18, c18, t18, 0, 0)) else mm_bd (call 124 [.inr 27] (mm_put (mm_put (mm_put (mm_put (mm_put S7 27 0 0) 31 q14 x1) 31 q15 x2) 31 q16 x3) 27 6 3)) c7 t7 (fun S19 c19 t19 a19 => some (S19, c19, t19, 0, 0))))))) else some (mm_put S7 27 0 0, c7, t7, 0, 0))))) := by
  refine mm_E_eq [0] 44 ?_
  generalize mm_E call pX8_match 0 = k
  rfl
set_option maxRecDepth 100000 in
theorem eX8_next_34_0 {call : Nat → List MV → Mem → Option Res} {S : Mem} {kc ks : Nat} {x2 : Int32} : mm_E call pX8_next 1 0 [some (.inr 27), some (.inr 34), some (.inl x2), none, none, none, none, none] [] S kc ks = mm_E call pX8_next 1 7 [some (.inr 27), some (.inr 34), some (.inl x2), some (.inl 0), some (.inl ((S 27 6) - 1)), none, none, none] [] S kc ks := by
  refine mm_E_eq [0, 7, 22, 37, 61] 7 ?_
  generalize mm_E call pX8_next 1 = k
  rfl
set_option maxRecDepth 100000 in
theorem eX8_next_34_7 {call : Nat → List MV → Mem → Option Res} {S : Mem} {kc ks : Nat} {x2 : Int32} {x3 : Int32} {x4 : Int32} {o5 : Option MV} {o6 : Option MV} {o7 : Option MV} : mm_E call pX8_next 1 7 [some (.inr 27), some (.inr 34), some (.inl x2), some (.inl x3), some (.inl x4), o5, o6, o7] [] S kc ks = (if x4 < 0 then mm_E call pX8_next 1 22 [some (.inr 27), some (.inr 34), some (.inl x2), some (.inl x3), some (.inl 0), o5, o6, o7] [] S kc ks else mm_arr S 1 31 x4 (fun q1 => mm_arr S 1 36 x3 (fun q2 => mm_E call pX8_next 1 7 [some (.inr 27), some (.inr 34), some (.inl x2), some (.inl (x3 + 1)), some (.inl (x4 + (-1))), o5, o6, o7] [] (mm_put S 36 q2 (S 31 q1)) kc ks))) := by
  refine mm_E_eq [0, 7, 22, 37, 61] 13 ?_
  generalize mm_E call pX8_next 1 = k
  rfl
set_option maxRecDepth 100000 in
theorem eX8_next_34_22 {call : Nat → List MV → Mem → Option Res} {S : Mem} {kc ks : Nat} {x2 : Int32} {x3 : Int32} {x4 : Int32} {o5 : Option MV} {o6 : Option MV} {o7 : Option MV} : mm_E call pX8_next 1 22 [some (.inr 27), some (.inr 34), some (.inl x2), some (.inl x3), some (.inl x4), o5, o6, o7] [] S kc ks = (if x2 ≤ x4 then (if x3 = 0 then some (S, kc, ks, 0, (-1)) else mm_arr S 1 36 (x3 - 1) (fun q1 => some (S, kc, ks, 0, S 36 q1))) else mm_arr S 1 36 (x3 + (-1)) (fun q2 => mm_arr S 1 34 x4 (fun q3 => mm_E call pX8_next 1 37 [some (.inr 27), some (.inr 34), some (.inl x2), some (.inl (x3 + (-1))), some (.inl x4), some (.inl (S 36 q2)), some (.inl (S 34 q3)), some (.inl 0)] [] S kc ks))) := by
  refine mm_E_eq [0, 7, 22, 37, 61] 15 ?_
  generalize mm_E call pX8_next 1 = k
  rfl
set_option maxRecDepth 100000 in
theorem eX8_next_34_37 {call : Nat → List MV → Mem → Option Res} {S : Mem} {kc ks : Nat} {x2 : Int32} {x3 : Int32} {x4 : Int32} {x5 : Int32} {x6 : Int32} {x7 : Int32} : mm_E call pX8_next 1 37 [some (.inr 27), some (.inr 34), some (.inl x2), some (.inl x3), some (.inl x4), some (.inl x5), some (.inl x6), some (.inl x7)] [] S kc ks = (if x6 = ((-2)) then (if 2 ≤ x7 then (if 0 ≤ x6 then mm_bd (call 117 [.inr 27, .inl x6] S) kc ks (fun S1 c1 t1 a1 => mm_E call pX8_next 1 61 [some (.inr 27), some (.inr 34), some (.inl x2), some (.inl x3), some (.inl x4), some (.inl x5), some (.inl x6), some (.inl (a1 - 1))] [] S1 c1 t1) else mm_E call pX8_next 1 61 [some (.inr 27), some (.inr 34), some (.inl x2), some (.inl x3), some (.inl x4), some (.inl x5), some (.inl x6), some (.inl ((-1)))] [] S kc ks) else mm_arr S 1 36 x3 (fun q2 => mm_E call pX8_next 1 37 [some (.inr 27), some (.inr 34), some (.inl x2), some (.inl (x3 + 1)), some (.inl x4), some (.inl x5), some (.inl x6), some (.inl (x7 + 1))] [] (mm_put S 36 q2 x5) kc ks)) else (if 0 ≤ x6 then mm_bd (call 117 [.inr 27, .inl x6] S) kc ks (fun S3 c3 t3 a3 => mm_E call pX8_next 1 61 [some (.inr 27), some (.inr 34), some (.inl x2), some (.inl x3), some (.inl x4), some (.inl x5), some (.inl x6), some (.inl (a3 - 1))] [] S3 c3 t3) else mm_E call pX8_next 1 61 [some (.inr 27), some (.inr 34), some (.inl x2), some (.inl x3), some (.inl x4), some (.inl x5), some (.inl x6), some (.inl ((-1)))] [] S kc ks)) := by
  refine mm_E_eq [0, 7, 22, 37, 61] 14 ?_
  generalize mm_E call pX8_next 1 = k
  rfl
set_option maxRecDepth 100000 in
theorem eX8_next_34_61 {call : Nat → List MV → Mem → Option Res} {S : Mem} {kc ks : Nat} {x2 : Int32} {x3 : Int32} {x4 : Int32} {o5 : Option MV} {x6 : Int32} {x7 : Int32} : mm_E call pX8_next 1 61 [some (.inr 27), some (.inr 34), some (.inl x2), some (.inl x3), some (.inl x4), o5, some (.inl x6), some (.inl x7)] [] S kc ks = (if x7 < 0 then mm_E call pX8_next 1 22 [some (.inr 27), some (.inr 34), some (.inl x2), some (.inl x3), some (.inl (x4 + 1)), o5, some (.inl x6), some (.inl x7)] [] S kc ks else mm_arr S 1 29 ((3 * x6) + x7) (fun q1 => mm_arr S 1 36 x3 (fun q2 => mm_E call pX8_next 1 61 [some (.inr 27), some (.inr 34), some (.inl x2), some (.inl (x3 + 1)), some (.inl x4), o5, some (.inl x6), some (.inl (x7 + (-1)))] [] (mm_put S 36 q2 (S 29 q1)) kc ks))) := by
  refine mm_E_eq [0, 7, 22, 37, 61] 17 ?_
  generalize mm_E call pX8_next 1 = k
  rfl
set_option maxRecDepth 100000 in
theorem eX8_next_35_0 {call : Nat → List MV → Mem → Option Res} {S : Mem} {kc ks : Nat} {x2 : Int32} : mm_E call pX8_next 1 0 [some (.inr 27), some (.inr 35), some (.inl x2), none, none, none, none, none] [] S kc ks = mm_E call pX8_next 1 7 [some (.inr 27), some (.inr 35), some (.inl x2), some (.inl 0), some (.inl ((S 27 6) - 1)), none, none, none] [] S kc ks := by
  refine mm_E_eq [0, 7, 22, 37, 61] 7 ?_
  generalize mm_E call pX8_next 1 = k
  rfl
set_option maxRecDepth 100000 in
theorem eX8_next_35_7 {call : Nat → List MV → Mem → Option Res} {S : Mem} {kc ks : Nat} {x2 : Int32} {x3 : Int32} {x4 : Int32} {o5 : Option MV} {o6 : Option MV} {o7 : Option MV} : mm_E call pX8_next 1 7 [some (.inr 27), some (.inr 35), some (.inl x2), some (.inl x3), some (.inl x4), o5, o6, o7] [] S kc ks = (if x4 < 0 then mm_E call pX8_next 1 22 [some (.inr 27), some (.inr 35), some (.inl x2), some (.inl x3), some (.inl 0), o5, o6, o7] [] S kc ks else mm_arr S 1 31 x4 (fun q1 => mm_arr S 1 36 x3 (fun q2 => mm_E call pX8_next 1 7 [some (.inr 27), some (.inr 35), some (.inl x2), some (.inl (x3 + 1)), some (.inl (x4 + (-1))), o5, o6, o7] [] (mm_put S 36 q2 (S 31 q1)) kc ks))) := by
  refine mm_E_eq [0, 7, 22, 37, 61] 13 ?_
  generalize mm_E call pX8_next 1 = k
  rfl
set_option maxRecDepth 100000 in
theorem eX8_next_35_22 {call : Nat → List MV → Mem → Option Res} {S : Mem} {kc ks : Nat} {x2 : Int32} {x3 : Int32} {x4 : Int32} {o5 : Option MV} {o6 : Option MV} {o7 : Option MV} : mm_E call pX8_next 1 22 [some (.inr 27), some (.inr 35), some (.inl x2), some (.inl x3), some (.inl x4), o5, o6, o7] [] S kc ks = (if x2 ≤ x4 then (if x3 = 0 then some (S, kc, ks, 0, (-1)) else mm_arr S 1 36 (x3 - 1) (fun q1 => some (S, kc, ks, 0, S 36 q1))) else mm_arr S 1 36 (x3 + (-1)) (fun q2 => mm_arr S 1 35 x4 (fun q3 => mm_E call pX8_next 1 37 [some (.inr 27), some (.inr 35), some (.inl x2), some (.inl (x3 + (-1))), some (.inl x4), some (.inl (S 36 q2)), some (.inl (S 35 q3)), some (.inl 0)] [] S kc ks))) := by
  refine mm_E_eq [0, 7, 22, 37, 61] 15 ?_
  generalize mm_E call pX8_next 1 = k
  rfl
set_option maxRecDepth 100000 in
theorem eX8_next_35_37 {call : Nat → List MV → Mem → Option Res} {S : Mem} {kc ks : Nat} {x2 : Int32} {x3 : Int32} {x4 : Int32} {x5 : Int32} {x6 : Int32} {x7 : Int32} : mm_E call pX8_next 1 37 [some (.inr 27), some (.inr 35), some (.inl x2), some (.inl x3), some (.inl x4), some (.inl x5), some (.inl x6), some (.inl x7)] [] S kc ks = (if x6 = ((-2)) then (if 2 ≤ x7 then (if 0 ≤ x6 then mm_bd (call 117 [.inr 27, .inl x6] S) kc ks (fun S1 c1 t1 a1 => mm_E call pX8_next 1 61 [some (.inr 27), some (.inr 35), some (.inl x2), some (.inl x3), some (.inl x4), some (.inl x5), some (.inl x6), some (.inl (a1 - 1))] [] S1 c1 t1) else mm_E call pX8_next 1 61 [some (.inr 27), some (.inr 35), some (.inl x2), some (.inl x3), some (.inl x4), some (.inl x5), some (.inl x6), some (.inl ((-1)))] [] S kc ks) else mm_arr S 1 36 x3 (fun q2 => mm_E call pX8_next 1 37 [some (.inr 27), some (.inr 35), some (.inl x2), some (.inl (x3 + 1)), some (.inl x4), some (.inl x5), some (.inl x6), some (.inl (x7 + 1))] [] (mm_put S 36 q2 x5) kc ks)) else (if 0 ≤ x6 then mm_bd (call 117 [.inr 27, .inl x6] S) kc ks (fun S3 c3 t3 a3 => mm_E call pX8_next 1 61 [some (.inr 27), some (.inr 35), some (.inl x2), some (.inl x3), some (.inl x4), some (.inl x5), some (.inl x6), some (.inl (a3 - 1))] [] S3 c3 t3) else mm_E call pX8_next 1 61 [some (.inr 27), some (.inr 35), some (.inl x2), some (.inl x3), some (.inl x4), some (.inl x5), some (.inl x6), some (.inl ((-1)))] [] S kc ks)) := by
  refine mm_E_eq [0, 7, 22, 37, 61] 14 ?_
  generalize mm_E call pX8_next 1 = k
  rfl
set_option maxRecDepth 100000 in
theorem eX8_next_35_61 {call : Nat → List MV → Mem → Option Res} {S : Mem} {kc ks : Nat} {x2 : Int32} {x3 : Int32} {x4 : Int32} {o5 : Option MV} {x6 : Int32} {x7 : Int32} : mm_E call pX8_next 1 61 [some (.inr 27), some (.inr 35), some (.inl x2), some (.inl x3), some (.inl x4), o5, some (.inl x6), some (.inl x7)] [] S kc ks = (if x7 < 0 then mm_E call pX8_next 1 22 [some (.inr 27), some (.inr 35), some (.inl x2), some (.inl x3), some (.inl (x4 + 1)), o5, some (.inl x6), some (.inl x7)] [] S kc ks else mm_arr S 1 29 ((3 * x6) + x7) (fun q1 => mm_arr S 1 36 x3 (fun q2 => mm_E call pX8_next 1 61 [some (.inr 27), some (.inr 35), some (.inl x2), some (.inl (x3 + 1)), some (.inl x4), o5, some (.inl x6), some (.inl (x7 + (-1)))] [] (mm_put S 36 q2 (S 29 q1)) kc ks))) := by
  refine mm_E_eq [0, 7, 22, 37, 61] 17 ?_
  generalize mm_E call pX8_next 1 = k
  rfl
set_option maxRecDepth 100000 in
theorem eX8_isMakerOf_0 {call : Nat → List MV → Mem → Option Res} {S : Mem} {kc ks : Nat} {x1 : Int32} {x2 : Int32} : mm_E call pX8_isMakerOf 2 0 [some (.inr 27), some (.inl x1), some (.inl x2)] [] S kc ks = (if x2 = ((-1)) then some (S, kc, ks, 0, 0) else (if x1 < 0 then some (S, kc, ks, 0, 0) else (if (S 27 2) ≤ x1 then some (S, kc, ks, 0, 0) else mm_arr S 1 28 x1 (fun q1 => (if (S 28 q1) = x2 then some (S, kc, ks, 0, 1) else some (S, kc, ks, 0, 0)))))) := by
  refine mm_E_eq [0] 18 ?_
  generalize mm_E call pX8_isMakerOf 2 = k
  rfl
set_option maxRecDepth 100000 in
theorem eX8_sign_0 {call : Nat → List MV → Mem → Option Res} {S : Mem} {kc ks : Nat} {x1 : Int32} : mm_E call pX8_sign 1 0 [some (.inr 27), some (.inl x1), none] [] S kc ks = (if (S 27 6) = 0 then mm_E call pX8_sign 1 8 [some (.inr 27), some (.inl x1), none] [.inr 27] S kc ks else (if (S 27 8) = 40 then mm_E call pX8_sign 1 8 [some (.inr 27), some (.inl x1), none] [.inr 27] S kc ks else (if ((mm_put S 27 0 0) 27 0) ≤ 0 then mm_bd (call 126 [.inr 27, .inr 34, .inl ((mm_put S 27 0 0) 27 8)] (mm_put S 27 0 0)) kc ks (fun S1 c1 t1 a1 => (if a1 = ((-1)) then mm_bd (call 127 [.inr 27, .inl x1, .inl a1] S1) c1 t1 (fun S2 c2 t2 a2 => (if a2 = 0 then (if ((mm_put S2 27 0 2) 27 0) ≤ 0 then mm_arr (mm_put S2 27 0 2) 1 34 ((mm_put S2 27 0 2) 27 8) (fun q3 => some (mm_put (mm_put (mm_put S2 27 0 2) 34 q3 x1) 27 8 (((mm_put (mm_put S2 27 0 2) 34 q3 x1) 27 8) + 1), c2, t2, 0, (mm_put (mm_put (mm_put S2 27 0 2) 34 q3 x1) 27 8 (((mm_put (mm_put S2 27 0 2) 34 q3 x1) 27 8) + 1)) 27 8)) else some (mm_put S2 27 0 2, c2, t2, 0, 0)) else (if ((mm_put S2 27 0 0) 27 0) ≤ 0 then mm_arr (mm_put S2 27 0 0) 1 34 ((mm_put S2 27 0 0) 27 8) (fun q4 => some (mm_put (mm_put (mm_put S2 27 0 0) 34 q4 x1) 27 8 (((mm_put (mm_put S2 27 0 0) 34 q4 x1) 27 8) + 1), c2, t2, 0, (mm_put (mm_put (mm_put S2 27 0 0) 34 q4 x1) 27 8 (((mm_put (mm_put S2 27 0 0) 34 q4 x1) 27 8) + 1)) 27 8)) else some (mm_put S2 27 0 0, c2, t2, 0, 0)))) else (if x1 = ((-1)) then (if ((mm_put S1 27 0 0) 27 0) ≤ 0 then mm_arr (mm_put S1 27 0 0) 1 34 ((mm_put S1 27 0 0) 27 8) (fun q5 => some (mm_put (mm_put (mm_put S1 27 0 0) 34 q5 x1) 27 8 (((mm_put (mm_put S1 27 0 0) 34 q5 x1) 27 8) + 1), c1, t1, 0, (mm_put (mm_put (mm_put S1 27 0 0) 34 q5 x1) 27 8 (((mm_put (mm_put S1 27 0 0) 34 q5 x1) 27 8) + 1)) 27 8)) else some (mm_put S1 27 0 0, c1, t1, 0, 0)) else (if x1 = ((-2)) then (if ((mm_put S1 27 0 0) 27 0) ≤ 0 then mm_arr (mm_put S1 27 0 0) 1 34 ((mm_put S1 27 0 0) 27 8) (fun q6 => some (mm_put (mm_put (mm_put S1 27 0 0) 34 q6 x1) 27 8 (((mm_put (mm_put S1 27 0 0) 34 q6 x1) 27 8) + 1), c1, t1, 0, (mm_put (mm_put (mm_put S1 27 0 0) 34 q6 x1) 27 8 (((mm_put (mm_put S1 27 0 0) 34 q6 x1) 27 8) + 1)) 27 8)) else some (mm_put S1 27 0 0, c1, t1, 0, 0)) else mm_bd (call 127 [.inr 27, .inl x1, .inl a1] S1) c1 t1 (fun S7 c7 t7 a7 => (if a7 = 0 then (if ((mm_put S7 27 0 2) 27 0) ≤ 0 then mm_arr (mm_put S7 27 0 2) 1 34 ((mm_put S7 27 0 2) 27 8) (fun q8 => some (mm_put (mm_put (mm_put S7 27 0 2) 34 q8 x1) 27 8 (((mm_put (mm_put S7 27 0 2) 34 q8 x1) 27 8) + 1), c7, t7, 0, (mm_put (mm_put (mm_put S7 27 0 2) 34 q8 x1) 27 8 (((mm_put (mm_put S7 27 0 2) 34 q8 x1) 27 8) + 1)) 27 8)) else some (mm_put S7 27 0 2, c7, t7, 0, 0)) else (if ((mm_put S7 27 0 0) 27 0) ≤ 0 then mm_arr (mm_put S7 27 0 0) 1 34 ((mm_put S7 27 0 0) 27 8) (fun q9 => some (mm_put (mm_put (mm_put S7 27 0 0) 34 q9 x1) 27 8 (((mm_put (mm_put S7 27 0 0) 34 q9 x1) 27 8) + 1), c7, t7, 0, (mm_put (mm_put (mm_put S7 27 0 0) 34 q9 x1) 27 8 (((mm_put (mm_put S7 27 0 0) 34 q9 x1) 27 8) + 1)) 27 8)) else some (mm_put S7 27 0 0, c7, t7, 0, 0)))))))) else some (mm_put S 27 0 0, kc, ks, 0, 0)))) := by
  refine mm_E_eq [0, 8] 56 ?_
  generalize mm_E call pX8_sign 1 = k
  rfl
set_option maxRecDepth 100000 in
theorem eX8_sign_8 {call : Nat → List MV → Mem → Option Res} {S : Mem} {kc ks : Nat} {x1 : Int32} {o2 : Option MV} : mm_E call pX8_sign 1 8 [some (.inr 27), some (.inl x1), o2] [.inr 27] S kc ks = (if ((mm_put S 27 0 1) 27 0) ≤ 0 then mm_bd (call 126 [.inr 27, .inr 34, .inl ((mm_put S 27 0 1) 27 8)] (mm_put S 27 0 1)) kc ks (fun S1 c1 t1 a1 => (if a1 = ((-1)) then mm_bd (call 127 [.inr 27, .inl x1, .inl a1] S1) c1 t1 (fun S2 c2 t2 a2 => (if a2 = 0 then (if ((mm_put S2 27 0 2) 27 0) ≤ 0 then mm_arr (mm_put S2 27 0 2) 1 34 ((mm_put S2 27 0 2) 27 8) (fun q3 => some (mm_put (mm_put (mm_put S2 27 0 2) 34 q3 x1) 27 8 (((mm_put (mm_put S2 27 0 2) 34 q3 x1) 27 8) + 1), c2, t2, 0, (mm_put (mm_put (mm_put S2 27 0 2) 34 q3 x1) 27 8 (((mm_put (mm_put S2 27 0 2) 34 q3 x1) 27 8) + 1)) 27 8)) else some (mm_put S2 27 0 2, c2, t2, 0, 0)) else (if ((mm_put S2 27 0 0) 27 0) ≤ 0 then mm_arr (mm_put S2 27 0 0) 1 34 ((mm_put S2 27 0 0) 27 8) (fun q4 => some (mm_put (mm_put (mm_put S2 27 0 0) 34 q4 x1) 27 8 (((mm_put (mm_put S2 27 0 0) 34 q4 x1) 27 8) + 1), c2, t2, 0, (mm_put (mm_put (mm_put S2 27 0 0) 34 q4 x1) 27 8 (((mm_put (mm_put S2 27 0 0) 34 q4 x1) 27 8) + 1)) 27 8)) else some (mm_put S2 27 0 0, c2, t2, 0, 0)))) else (if x1 = ((-1)) then (if ((mm_put S1 27 0 0) 27 0) ≤ 0 then mm_arr (mm_put S1 27 0 0) 1 34 ((mm_put S1 27 0 0) 27 8) (fun q5 => some (mm_put (mm_put (mm_put S1 27 0 0) 34 q5 x1) 27 8 (((mm_put (mm_put S1 27 0 0) 34 q5 x1) 27 8) + 1), c1, t1, 0, (mm_put (mm_put (mm_put S1 27 0 0) 34 q5 x1) 27 8 (((mm_put (mm_put S1 27 0 0) 34 q5 x1) 27 8) + 1)) 27 8)) else some (mm_put S1 27 0 0, c1, t1, 0, 0)) else (if x1 = ((-2)) then (if ((mm_put S1 27 0 0) 27 0) ≤ 0 then mm_arr (mm_put S1 27 0 0) 1 34 ((mm_put S1 27 0 0) 27 8) (fun q6 => some (mm_put (mm_put (mm_put S1 27 0 0) 34 q6 x1) 27 8 (((mm_put (mm_put S1 27 0 0) 34 q6 x1) 27 8) + 1), c1, t1, 0, (mm_put (mm_put (mm_put S1 27 0 0) 34 q6 x1) 27 8 (((mm_put (mm_put S1 27 0 0) 34 q6 x1) 27 8) + 1)) 27 8)) else some (mm_put S1 27 0 0, c1, t1, 0, 0)) else mm_bd (call 127 [.inr 27, .inl x1, .inl a1] S1) c1 t1 (fun S7 c7 t7 a7 => (if a7 = 0 then (if ((mm_put S7 27 0 2) 27 0) ≤ 0 then mm_arr (mm_put S7 27 0 2) 1 34 ((mm_put S7 27 0 2) 27 8) (fun q8 => some (mm_put (mm_put (mm_put S7 27 0 2) 34 q8 x1) 27 8 (((mm_put (mm_put S7 27 0 2) 34 q8 x1) 27 8) + 1), c7, t7, 0, (mm_put (mm_put (mm_put S7 27 0 2) 34 q8 x1) 27 8 (((mm_put (mm_put S7 27 0 2) 34 q8 x1) 27 8) + 1)) 27 8)) else some (mm_put S7 27 0 2, c7, t7, 0, 0)) else (if ((mm_put S7 27 0 0) 27 0) ≤ 0 then mm_arr (mm_put S7 27 0 0) 1 34 ((mm_put S7 27 0 0) 27 8) (fun q9 => some (mm_put (mm_put (mm_put S7 27 0 0) 34 q9 x1) 27 8 (((mm_put (mm_put S7 27 0 0) 34 q9 x1) 27 8) + 1), c7, t7, 0, (mm_put (mm_put (mm_put S7 27 0 0) 34 q9 x1) 27 8 (((mm_put (mm_put S7 27 0 0) 34 q9 x1) 27 8) + 1)) 27 8)) else some (mm_put S7 27 0 0, c7, t7, 0, 0)))))))) else some (mm_put S 27 0 1, kc, ks, 0, 0)) := by
  refine mm_E_eq [0, 8] 49 ?_
  generalize mm_E call pX8_sign 1 = k
  rfl
set_option maxRecDepth 100000 in
theorem eX8_row_0 {call : Nat → List MV → Mem → Option Res} {S : Mem} {kc ks : Nat}  : mm_E call pX8_row 1 0 [some (.inr 27), none, none] [] S kc ks = (if (S 27 6) = 0 then (if ((mm_put S 27 0 1) 27 0) ≤ 0 then mm_bd (call 126 [.inr 27, .inr 34, .inl ((mm_put S 27 0 1) 27 8)] (mm_put S 27 0 1)) kc ks (fun S1 c1 t1 a1 => (if a1 = ((-1)) then (if ((mm_put (mm_put S1 27 0 0) 27 8 0) 27 0) ≤ 0 then mm_E call pX8_row 1 42 [some (.inr 27), some (.inl ((mm_put S 27 0 1) 27 8)), some (.inl 0)] [] (mm_put (mm_put S1 27 0 0) 27 8 0) c1 t1 else some (mm_put (mm_put S1 27 0 0) 27 8 0, c1, t1, 0, 0)) else (if ((mm_put (mm_put S1 27 0 2) 27 8 0) 27 0) ≤ 0 then mm_E call pX8_row 1 42 [some (.inr 27), some (.inl ((mm_put S 27 0 1) 27 8)), some (.inl 0)] [] (mm_put (mm_put S1 27 0 2) 27 8 0) c1 t1 else some (mm_put (mm_put S1 27 0 2) 27 8 0, c1, t1, 0, 0)))) else some (mm_put S 27 0 1, kc, ks, 0, 0)) else (if (S 27 7) = 12 then (if ((mm_put S 27 0 1) 27 0) ≤ 0 then mm_bd (call 126 [.inr 27, .inr 34, .inl ((mm_put S 27 0 1) 27 8)] (mm_put S 27 0 1)) kc ks (fun S2 c2 t2 a2 => (if a2 = ((-1)) then (if ((mm_put (mm_put S2 27 0 0) 27 8 0) 27 0) ≤ 0 then mm_E call pX8_row 1 42 [some (.inr 27), some (.inl ((mm_put S 27 0 1) 27 8)), some (.inl 0)] [] (mm_put (mm_put S2 27 0 0) 27 8 0) c2 t2 else some (mm_put (mm_put S2 27 0 0) 27 8 0, c2, t2, 0, 0)) else (if ((mm_put (mm_put S2 27 0 2) 27 8 0) 27 0) ≤ 0 then mm_E call pX8_row 1 42 [some (.inr 27), some (.inl ((mm_put S 27 0 1) 27 8)), some (.inl 0)] [] (mm_put (mm_put S2 27 0 2) 27 8 0) c2 t2 else some (mm_put (mm_put S2 27 0 2) 27 8 0, c2, t2, 0, 0)))) else some (mm_put S 27 0 1, kc, ks, 0, 0)) else (if ((mm_put S 27 0 0) 27 0) ≤ 0 then mm_bd (call 126 [.inr 27, .inr 34, .inl ((mm_put S 27 0 0) 27 8)] (mm_put S 27 0 0)) kc ks (fun S3 c3 t3 a3 => (if a3 = ((-1)) then (if ((mm_put (mm_put S3 27 0 0) 27 8 0) 27 0) ≤ 0 then mm_E call pX8_row 1 42 [some (.inr 27), some (.inl ((mm_put S 27 0 0) 27 8)), some (.inl 0)] [] (mm_put (mm_put S3 27 0 0) 27 8 0) c3 t3 else some (mm_put (mm_put S3 27 0 0) 27 8 0, c3, t3, 0, 0)) else (if ((mm_put (mm_put S3 27 0 2) 27 8 0) 27 0) ≤ 0 then mm_E call pX8_row 1 42 [some (.inr 27), some (.inl ((mm_put S 27 0 0) 27 8)), some (.inl 0)] [] (mm_put (mm_put S3 27 0 2) 27 8 0) c3 t3 else some (mm_put (mm_put S3 27 0 2) 27 8 0, c3, t3, 0, 0)))) else some (mm_put S 27 0 0, kc, ks, 0, 0)))) := by
  refine mm_E_eq [0, 42] 36 ?_
  generalize mm_E call pX8_row 1 = k
  rfl
set_option maxRecDepth 100000 in
theorem eX8_row_42 {call : Nat → List MV → Mem → Option Res} {S : Mem} {kc ks : Nat} {x1 : Int32} {x2 : Int32} : mm_E call pX8_row 1 42 [some (.inr 27), some (.inl x1), some (.inl x2)] [] S kc ks = (if x1 ≤ x2 then mm_arr S 1 33 (S 27 7) (fun q1 => some (mm_put (mm_put (mm_put S 33 q1 x1) 27 7 (((mm_put S 33 q1 x1) 27 7) + 1)) 27 24 ((-1)), kc, ks, 0, ((mm_put (mm_put (mm_put S 33 q1 x1) 27 7 (((mm_put S 33 q1 x1) 27 7) + 1)) 27 24 ((-1))) 27 7) - 1)) else mm_arr S 1 34 x2 (fun q2 => mm_arr S 1 32 ((40 * (S 27 7)) + x2) (fun q3 => mm_E call pX8_row 1 42 [some (.inr 27), some (.inl x1), some (.inl (x2 + 1))] [] (mm_put S 32 q3 (S 34 q2)) kc ks))) := by
  refine mm_E_eq [0, 42] 23 ?_
  generalize mm_E call pX8_row 1 = k
  rfl
set_option maxRecDepth 100000 in
theorem eX8_give_0 {call : Nat → List MV → Mem → Option Res} {S : Mem} {kc ks : Nat} {x1 : Int32} : mm_E call pX8_give 1 0 [some (.inr 27), some (.inl x1)] [] S kc ks = (if (S 27 6) = 0 then (if ((mm_put S 27 0 1) 27 0) ≤ 0 then mm_bd (call 126 [.inr 27, .inr 35, .inl ((mm_put S 27 0 1) 27 9)] (mm_put S 27 0 1)) kc ks (fun S1 c1 t1 a1 => mm_bd (call 127 [.inr 27, .inl x1, .inl a1] S1) c1 t1 (fun S2 c2 t2 a2 => (if a2 = 0 then (if ((mm_put S2 27 0 2) 27 0) ≤ 0 then mm_arr (mm_put S2 27 0 2) 1 35 ((mm_put S2 27 0 2) 27 9) (fun q3 => some (mm_put (mm_put (mm_put S2 27 0 2) 35 q3 x1) 27 9 (((mm_put (mm_put S2 27 0 2) 35 q3 x1) 27 9) + 1), c2, t2, 0, (mm_put (mm_put (mm_put S2 27 0 2) 35 q3 x1) 27 9 (((mm_put (mm_put S2 27 0 2) 35 q3 x1) 27 9) + 1)) 27 9)) else some (mm_put S2 27 0 2, c2, t2, 0, 0)) else (if ((mm_put S2 27 0 0) 27 0) ≤ 0 then mm_arr (mm_put S2 27 0 0) 1 35 ((mm_put S2 27 0 0) 27 9) (fun q4 => some (mm_put (mm_put (mm_put S2 27 0 0) 35 q4 x1) 27 9 (((mm_put (mm_put S2 27 0 0) 35 q4 x1) 27 9) + 1), c2, t2, 0, (mm_put (mm_put (mm_put S2 27 0 0) 35 q4 x1) 27 9 (((mm_put (mm_put S2 27 0 0) 35 q4 x1) 27 9) + 1)) 27 9)) else some (mm_put S2 27 0 0, c2, t2, 0, 0))))) else some (mm_put S 27 0 1, kc, ks, 0, 0)) else (if (S 27 9) = 60 then (if ((mm_put S 27 0 1) 27 0) ≤ 0 then mm_bd (call 126 [.inr 27, .inr 35, .inl ((mm_put S 27 0 1) 27 9)] (mm_put S 27 0 1)) kc ks (fun S5 c5 t5 a5 => mm_bd (call 127 [.inr 27, .inl x1, .inl a5] S5) c5 t5 (fun S6 c6 t6 a6 => (if a6 = 0 then (if ((mm_put S6 27 0 2) 27 0) ≤ 0 then mm_arr (mm_put S6 27 0 2) 1 35 ((mm_put S6 27 0 2) 27 9) (fun q7 => some (mm_put (mm_put (mm_put S6 27 0 2) 35 q7 x1) 27 9 (((mm_put (mm_put S6 27 0 2) 35 q7 x1) 27 9) + 1), c6, t6, 0, (mm_put (mm_put (mm_put S6 27 0 2) 35 q7 x1) 27 9 (((mm_put (mm_put S6 27 0 2) 35 q7 x1) 27 9) + 1)) 27 9)) else some (mm_put S6 27 0 2, c6, t6, 0, 0)) else (if ((mm_put S6 27 0 0) 27 0) ≤ 0 then mm_arr (mm_put S6 27 0 0) 1 35 ((mm_put S6 27 0 0) 27 9) (fun q8 => some (mm_put (mm_put (mm_put S6 27 0 0) 35 q8 x1) 27 9 (((mm_put (mm_put S6 27 0 0) 35 q8 x1) 27 9) + 1), c6, t6, 0, (mm_put (mm_put (mm_put S6 27 0 0) 35 q8 x1) 27 9 (((mm_put (mm_put S6 27 0 0) 35 q8 x1) 27 9) + 1)) 27 9)) else some (mm_put S6 27 0 0, c6, t6, 0, 0))))) else some (mm_put S 27 0 1, kc, ks, 0, 0)) else (if ((mm_put S 27 0 0) 27 0) ≤ 0 then mm_bd (call 126 [.inr 27, .inr 35, .inl ((mm_put S 27 0 0) 27 9)] (mm_put S 27 0 0)) kc ks (fun S9 c9 t9 a9 => mm_bd (call 127 [.inr 27, .inl x1, .inl a9] S9) c9 t9 (fun S10 c10 t10 a10 => (if a10 = 0 then (if ((mm_put S10 27 0 2) 27 0) ≤ 0 then mm_arr (mm_put S10 27 0 2) 1 35 ((mm_put S10 27 0 2) 27 9) (fun q11 => some (mm_put (mm_put (mm_put S10 27 0 2) 35 q11 x1) 27 9 (((mm_put (mm_put S10 27 0 2) 35 q11 x1) 27 9) + 1), c10, t10, 0, (mm_put (mm_put (mm_put S10 27 0 2) 35 q11 x1) 27 9 (((mm_put (mm_put S10 27 0 2) 35 q11 x1) 27 9) + 1)) 27 9)) else some (mm_put S10 27 0 2, c10, t10, 0, 0)) else (if ((mm_put S10 27 0 0) 27 0) ≤ 0 then mm_arr (mm_put S10 27 0 0) 1 35 ((mm_put S10 27 0 0) 27 9) (fun q12 => some (mm_put (mm_put (mm_put S10 27 0 0) 35 q12 x1) 27 9 (((mm_put (mm_put S10 27 0 0) 35 q12 x1) 27 9) + 1), c10, t10, 0, (mm_put (mm_put (mm_put S10 27 0 0) 35 q12 x1) 27 9 (((mm_put (mm_put S10 27 0 0) 35 q12 x1) 27 9) + 1)) 27 9)) else some (mm_put S10 27 0 0, c10, t10, 0, 0))))) else some (mm_put S 27 0 0, kc, ks, 0, 0)))) := by
  refine mm_E_eq [0] 46 ?_
  generalize mm_E call pX8_give 1 = k
  rfl
set_option maxRecDepth 100000 in
theorem eX8_empty_0 {call : Nat → List MV → Mem → Option Res} {S : Mem} {kc ks : Nat}  : mm_E call pX8_empty 0 0 [some (.inr 27)] [] S kc ks = some (mm_put (mm_put S 27 0 0) 27 9 0, kc, ks, 0, 0) := by
  refine mm_E_eq [0] 7 ?_
  generalize mm_E call pX8_empty 0 = k
  rfl
set_option maxRecDepth 100000 in
theorem eX8_behind_32_0 {call : Nat → List MV → Mem → Option Res} {S : Mem} {kc ks : Nat} {x2 : Int32} : mm_E call pX8_behind 1 0 [some (.inr 27), some (.inr 32), some (.inl x2), none, none, none] [] S kc ks = mm_E call pX8_behind 1 4 [some (.inr 27), some (.inr 32), some (.inl x2), some (.inl x2), some (.inl 1), none] [] S kc ks := by
  refine mm_E_eq [0, 4] 4 ?_
  generalize mm_E call pX8_behind 1 = k
  rfl
set_option maxRecDepth 100000 in
theorem eX8_behind_32_4 {call : Nat → List MV → Mem → Option Res} {S : Mem} {kc ks : Nat} {o2 : Option MV} {x3 : Int32} {x4 : Int32} {o5 : Option MV} : mm_E call pX8_behind 1 4 [some (.inr 27), some (.inr 32), o2, some (.inl x3), some (.inl x4), o5] [] S kc ks = (if x4 ≤ 0 then some (S, kc, ks, 0, x3) else mm_arr S 1 32 x3 (fun q1 => (if (S 32 q1) = ((-2)) then mm_E call pX8_behind 1 4 [some (.inr 27), some (.inr 32), o2, some (.inl (x3 + 1)), some (.inl (x4 + 1)), some (.inl (S 32 q1))] [] S kc ks else (if (S 32 q1) = ((-1)) then mm_E call pX8_behind 1 4 [some (.inr 27), some (.inr 32), o2, some (.inl (x3 + 1)), some (.inl (x4 + ((-1)))), some (.inl (S 32 q1))] [] S kc ks else mm_bd (call 117 [.inr 27, .inl (S 32 q1)] S) kc ks (fun S2 c2 t2 a2 => mm_E call pX8_behind 1 4 [some (.inr 27), some (.inr 32), o2, some (.inl (x3 + 1)), some (.inl (x4 + (a2 - 1))), some (.inl (S 32 q1))] [] S2 c2 t2))))) := by
  refine mm_E_eq [0, 4] 22 ?_
  generalize mm_E call pX8_behind 1 = k
  rfl
set_option maxRecDepth 100000 in
theorem eX8_behind_35_0 {call : Nat → List MV → Mem → Option Res} {S : Mem} {kc ks : Nat} {x2 : Int32} : mm_E call pX8_behind 1 0 [some (.inr 27), some (.inr 35), some (.inl x2), none, none, none] [] S kc ks = mm_E call pX8_behind 1 4 [some (.inr 27), some (.inr 35), some (.inl x2), some (.inl x2), some (.inl 1), none] [] S kc ks := by
  refine mm_E_eq [0, 4] 4 ?_
  generalize mm_E call pX8_behind 1 = k
  rfl
set_option maxRecDepth 100000 in
theorem eX8_behind_35_4 {call : Nat → List MV → Mem → Option Res} {S : Mem} {kc ks : Nat} {o2 : Option MV} {x3 : Int32} {x4 : Int32} {o5 : Option MV} : mm_E call pX8_behind 1 4 [some (.inr 27), some (.inr 35), o2, some (.inl x3), some (.inl x4), o5] [] S kc ks = (if x4 ≤ 0 then some (S, kc, ks, 0, x3) else mm_arr S 1 35 x3 (fun q1 => (if (S 35 q1) = ((-2)) then mm_E call pX8_behind 1 4 [some (.inr 27), some (.inr 35), o2, some (.inl (x3 + 1)), some (.inl (x4 + 1)), some (.inl (S 35 q1))] [] S kc ks else (if (S 35 q1) = ((-1)) then mm_E call pX8_behind 1 4 [some (.inr 27), some (.inr 35), o2, some (.inl (x3 + 1)), some (.inl (x4 + ((-1)))), some (.inl (S 35 q1))] [] S kc ks else mm_bd (call 117 [.inr 27, .inl (S 35 q1)] S) kc ks (fun S2 c2 t2 a2 => mm_E call pX8_behind 1 4 [some (.inr 27), some (.inr 35), o2, some (.inl (x3 + 1)), some (.inl (x4 + (a2 - 1))), some (.inl (S 35 q1))] [] S2 c2 t2))))) := by
  refine mm_E_eq [0, 4] 22 ?_
  generalize mm_E call pX8_behind 1 = k
  rfl
set_option maxRecDepth 100000 in
theorem eX8_rowTakes_0 {call : Nat → List MV → Mem → Option Res} {S : Mem} {kc ks : Nat} {x1 : Int32} : mm_E call pX8_rowTakes 2 0 [some (.inr 27), some (.inl x1), none, none, none, none] [] S kc ks = mm_arr S 1 33 x1 (fun q1 => mm_E call pX8_rowTakes 2 11 [some (.inr 27), some (.inl x1), some (.inl (((40 * x1) + (S 33 q1)) - 1)), none, none, none] [] S kc ks) := by
  refine mm_E_eq [0, 11, 23, 96] 11 ?_
  generalize mm_E call pX8_rowTakes 2 = k
  rfl
set_option maxRecDepth 100000 in
theorem eX8_rowTakes_11 {call : Nat → List MV → Mem → Option Res} {S : Mem} {kc ks : Nat} {x1 : Int32} {x2 : Int32} {o3 : Option MV} {o4 : Option MV} {o5 : Option MV} : mm_E call pX8_rowTakes 2 11 [some (.inr 27), some (.inl x1), some (.inl x2), o3, o4, o5] [] S kc ks = (if x2 < (40 * x1) then mm_E call pX8_rowTakes 2 96 [some (.inr 27), some (.inl x1), some (.inl (40 * x1)), some (.inl 0), some (.inl 1), some (.inl 0)] [] S kc ks else mm_arr S 1 32 x2 (fun q1 => mm_E call pX8_rowTakes 2 23 [some (.inr 27), some (.inl x1), some (.inl x2), some (.inl (S 32 q1)), some (.inl 0), o5] [] S kc ks)) := by
  refine mm_E_eq [0, 11, 23, 96] 15 ?_
  generalize mm_E call pX8_rowTakes 2 = k
  rfl
set_option maxRecDepth 100000 in
theorem eX8_rowTakes_23 {call : Nat → List MV → Mem → Option Res} {S : Mem} {kc ks : Nat} {x1 : Int32} {x2 : Int32} {x3 : Int32} {x4 : Int32} {o5 : Option MV} : mm_E call pX8_rowTakes 2 23 [some (.inr 27), some (.inl x1), some (.inl x2), some (.inl x3), some (.inl x4), o5] [] S kc ks = (if (S 27 9) ≤ x4 then mm_E call pX8_rowTakes 2 11 [some (.inr 27), some (.inl x1), some (.inl (x2 + (-1))), some (.inl x3), some (.inl x4), o5] [] S kc ks else (if x3 = ((-1)) then mm_arr S 2 37 ((60 * x2) + x4) (fun q1 => mm_E call pX8_rowTakes 2 23 [some (.inr 27), some (.inl x1), some (.inl x2), some (.inl x3), some (.inl (x4 + 1)), o5] [] (mm_put S 37 q1 (vp_nar .boolean 1)) kc ks) else (if x3 = ((-2)) then mm_arr S 2 37 ((60 * (x2 + 1)) + x4) (fun q2 => (if (S 37 q2) = 0 then mm_bd (call 132 [.inr 27, .inr 32, .inl (x2 + 1)] S) kc ks (fun S3 c3 t3 a3 => mm_arr S3 2 37 ((60 * a3) + x4) (fun q4 => (if (S3 37 q4) = 0 then mm_arr S3 2 37 ((60 * x2) + x4) (fun q5 => mm_E call pX8_rowTakes 2 23 [some (.inr 27), some (.inl x1), some (.inl x2), some (.inl x3), some (.inl (x4 + 1)), o5] [] (mm_put S3 37 q5 (vp_nar .boolean 0)) c3 t3) else mm_arr S3 2 37 ((60 * x2) + x4) (fun q6 => mm_E call pX8_rowTakes 2 23 [some (.inr 27), some (.inl x1), some (.inl x2), some (.inl x3), some (.inl (x4 + 1)), o5] [] (mm_put S3 37 q6 (vp_nar .boolean 1)) c3 t3)))) else mm_arr S 2 37 ((60 * x2) + x4) (fun q7 => mm_E call pX8_rowTakes 2 23 [some (.inr 27), some (.inl x1), some (.inl x2), some (.inl x3), some (.inl (x4 + 1)), o5] [] (mm_put S 37 q7 (vp_nar .boolean 1)) kc ks))) else mm_arr S 1 35 x4 (fun q8 => (if x3 = (S 35 q8) then mm_bd (call 134 [.inr 27, .inl x2, .inl x4] S) kc ks (fun S9 c9 t9 a9 => (if a9 = 0 then mm_arr S9 2 37 ((60 * x2) + x4) (fun q10 => mm_E call pX8_rowTakes 2 23 [some (.inr 27), some (.inl x1), some (.inl x2), some (.inl x3), some (.inl (x4 + 1)), o5] [] (mm_put S9 37 q10 (vp_nar .boolean 0)) c9 t9) else mm_arr S9 2 37 ((60 * x2) + x4) (fun q11 => mm_E call pX8_rowTakes 2 23 [some (.inr 27), some (.inl x1), some (.inl x2), some (.inl x3), some (.inl (x4 + 1)), o5] [] (mm_put S9 37 q11 (vp_nar .boolean 1)) c9 t9))) else mm_arr S 2 37 ((60 * x2) + x4) (fun q12 => mm_E call pX8_rowTakes 2 23 [some (.inr 27), some (.inl x1), some (.inl x2), some (.inl x3), some (.inl (x4 + 1)), o5] [] (mm_put S 37 q12 (vp_nar .boolean 0)) kc ks)))))) := by
  refine mm_E_eq [0, 11, 23, 96] 49 ?_
  generalize mm_E call pX8_rowTakes 2 = k
  rfl
set_option maxRecDepth 100000 in
theorem eX8_rowTakes_96 {call : Nat → List MV → Mem → Option Res} {S : Mem} {kc ks : Nat} {o1 : Option MV} {x2 : Int32} {x3 : Int32} {x4 : Int32} {x5 : Int32} : mm_E call pX8_rowTakes 2 96 [some (.inr 27), o1, some (.inl x2), some (.inl x3), some (.inl x4), some (.inl x5)] [] S kc ks = (if (S 27 6) ≤ x5 then (if x4 = 0 ∨ x4 = 1 then some (S, kc, ks, 0, x4) else none) else (if x4 = 0 then mm_bd (call 132 [.inr 27, .inr 32, .inl x2] S) kc ks (fun S1 c1 t1 a1 => mm_bd (call 132 [.inr 27, .inr 35, .inl x3] S1) c1 t1 (fun S2 c2 t2 a2 => mm_E call pX8_rowTakes 2 96 [some (.inr 27), o1, some (.inl a1), some (.inl a2), some (.inl 0), some (.inl (x5 + 1))] [] S2 c2 t2)) else mm_arr S 2 37 ((60 * x2) + x3) (fun q3 => (if (S 37 q3) = 0 then mm_bd (call 132 [.inr 27, .inr 32, .inl x2] S) kc ks (fun S4 c4 t4 a4 => mm_bd (call 132 [.inr 27, .inr 35, .inl x3] S4) c4 t4 (fun S5 c5 t5 a5 => mm_E call pX8_rowTakes 2 96 [some (.inr 27), o1, some (.inl a4), some (.inl a5), some (.inl 0), some (.inl (x5 + 1))] [] S5 c5 t5)) else mm_bd (call 132 [.inr 27, .inr 32, .inl x2] S) kc ks (fun S6 c6 t6 a6 => mm_bd (call 132 [.inr 27, .inr 35, .inl x3] S6) c6 t6 (fun S7 c7 t7 a7 => mm_E call pX8_rowTakes 2 96 [some (.inr 27), o1, some (.inl a6), some (.inl a7), some (.inl 1), some (.inl (x5 + 1))] [] S7 c7 t7)))))) := by
  refine mm_E_eq [0, 11, 23, 96] 32 ?_
  generalize mm_E call pX8_rowTakes 2 = k
  rfl
set_option maxRecDepth 100000 in
theorem eX8_fieldsTake_0 {call : Nat → List MV → Mem → Option Res} {S : Mem} {kc ks : Nat} {x1 : Int32} {x2 : Int32} : mm_E call pX8_fieldsTake 2 0 [some (.inr 27), some (.inl x1), some (.inl x2), none, none, none, none] [] S kc ks = mm_E call pX8_fieldsTake 2 12 [some (.inr 27), some (.inl x1), some (.inl x2), some (.inl (x1 + 1)), some (.inl (x2 + 1)), some (.inl 1), some (.inl 0)] [] S kc ks := by
  refine mm_E_eq [0, 12] 12 ?_
  generalize mm_E call pX8_fieldsTake 2 = k
  rfl
set_option maxRecDepth 100000 in
theorem eX8_fieldsTake_12 {call : Nat → List MV → Mem → Option Res} {S : Mem} {kc ks : Nat} {o1 : Option MV} {x2 : Int32} {x3 : Int32} {x4 : Int32} {x5 : Int32} {x6 : Int32} : mm_E call pX8_fieldsTake 2 12 [some (.inr 27), o1, some (.inl x2), some (.inl x3), some (.inl x4), some (.inl x5), some (.inl x6)] [] S kc ks = mm_arr S 1 35 x2 (fun q1 => mm_bd (call 117 [.inr 27, .inl (S 35 q1)] S) kc ks (fun S2 c2 t2 a2 => (if a2 ≤ x6 then (if x5 = 0 ∨ x5 = 1 then some (S2, c2, t2, 0, x5) else none) else (if x5 = 0 then mm_bd (call 132 [.inr 27, .inr 32, .inl x3] S2) c2 t2 (fun S3 c3 t3 a3 => mm_bd (call 132 [.inr 27, .inr 35, .inl x4] S3) c3 t3 (fun S4 c4 t4 a4 => mm_E call pX8_fieldsTake 2 12 [some (.inr 27), o1, some (.inl x2), some (.inl a3), some (.inl a4), some (.inl 0), some (.inl (x6 + 1))] [] S4 c4 t4)) else mm_arr S2 2 37 ((60 * x3) + x4) (fun q5 => (if (S2 37 q5) = 0 then mm_bd (call 132 [.inr 27, .inr 32, .inl x3] S2) c2 t2 (fun S6 c6 t6 a6 => mm_bd (call 132 [.inr 27, .inr 35, .inl x4] S6) c6 t6 (fun S7 c7 t7 a7 => mm_E call pX8_fieldsTake 2 12 [some (.inr 27), o1, some (.inl x2), some (.inl a6), some (.inl a7), some (.inl 0), some (.inl (x6 + 1))] [] S7 c7 t7)) else mm_bd (call 132 [.inr 27, .inr 32, .inl x3] S2) c2 t2 (fun S8 c8 t8 a8 => mm_bd (call 132 [.inr 27, .inr 35, .inl x4] S8) c8 t8 (fun S9 c9 t9 a9 => mm_E call pX8_fieldsTake 2 12 [some (.inr 27), o1, some (.inl x2), some (.inl a8), some (.inl a9), some (.inl 1), some (.inl (x6 + 1))] [] S9 c9 t9)))))))) := by
  refine mm_E_eq [0, 12] 36 ?_
  generalize mm_E call pX8_fieldsTake 2 = k
  rfl
set_option maxRecDepth 100000 in
theorem eX8_canAnswer_0 {call : Nat → List MV → Mem → Option Res} {S : Mem} {kc ks : Nat}  : mm_E call pX8_canAnswer 2 0 [some (.inr 27)] [] S kc ks = (if (S 27 6) = 0 then (if ((mm_put S 27 0 1) 27 0) = 0 then some (mm_put S 27 0 1, kc, ks, 0, 1) else some (mm_put S 27 0 1, kc, ks, 0, 0)) else mm_bd (call 126 [.inr 27, .inr 35, .inl (S 27 9)] S) kc ks (fun S1 c1 t1 a1 => (if a1 = ((-1)) then (if ((mm_put S1 27 0 0) 27 0) = 0 then some (mm_put S1 27 0 0, c1, t1, 0, 1) else some (mm_put S1 27 0 0, c1, t1, 0, 0)) else (if ((mm_put S1 27 0 2) 27 0) = 0 then some (mm_put S1 27 0 2, c1, t1, 0, 1) else some (mm_put S1 27 0 2, c1, t1, 0, 0))))) := by
  refine mm_E_eq [0] 21 ?_
  generalize mm_E call pX8_canAnswer 2 = k
  rfl
set_option maxRecDepth 100000 in
theorem eX8_answer_0 {call : Nat → List MV → Mem → Option Res} {S : Mem} {kc ks : Nat}  : mm_E call pX8_answer 1 0 [some (.inr 27), none] [] S kc ks = mm_bd (call 135 [.inr 27] S) kc ks (fun S1 c1 t1 a1 => (if a1 = 0 then some (S1, c1, t1, 0, 0) else mm_E call pX8_answer 1 7 [some (.inr 27), some (.inl 0)] [] S1 c1 t1)) := by
  refine mm_E_eq [0, 7] 5 ?_
  generalize mm_E call pX8_answer 1 = k
  rfl
set_option maxRecDepth 100000 in
theorem eX8_answer_7 {call : Nat → List MV → Mem → Option Res} {S : Mem} {kc ks : Nat} {x1 : Int32} : mm_E call pX8_answer 1 7 [some (.inr 27), some (.inl x1)] [] S kc ks = (if (S 27 7) ≤ x1 then some (S, kc, ks, 0, (-1)) else mm_bd (call 133 [.inr 27, .inl x1] S) kc ks (fun S1 c1 t1 a1 => (if a1 = 0 then mm_E call pX8_answer 1 7 [some (.inr 27), some (.inl (x1 + 1))] [] S1 c1 t1 else some (S1, c1, t1, 0, x1)))) := by
  refine mm_E_eq [0, 7] 10 ?_
  generalize mm_E call pX8_answer 1 = k
  rfl
set_option maxRecDepth 100000 in
theorem eX8_signOf_0 {call : Nat → List MV → Mem → Option Res} {S : Mem} {kc ks : Nat} {x1 : Int32} : mm_E call pX8_signOf 1 0 [some (.inr 27), some (.inl x1)] [] S kc ks = (if x1 = ((-1)) then some (S, kc, ks, 0, (-1)) else mm_arr S 1 32 x1 (fun q1 => some (S, kc, ks, 0, S 32 q1))) := by
  refine mm_E_eq [0] 8 ?_
  generalize mm_E call pX8_signOf 1 = k
  rfl
set_option maxRecDepth 100000 in
theorem eX8_firstTable_0 {call : Nat → List MV → Mem → Option Res} {S : Mem} {kc ks : Nat}  : mm_E call pX8_firstTable 0 0 [some (.inr 27), none, none, none] [] S kc ks = mm_E call pX8_firstTable 0 13 [some (.inr 27), some (.inl 0), none, none] [] (mm_put (mm_put (mm_put S 27 17 (S 27 6)) 27 18 ((mm_put S 27 17 (S 27 6)) 27 7)) 27 22 0) kc ks := by
  refine mm_E_eq [0, 13, 29, 44] 13 ?_
  generalize mm_E call pX8_firstTable 0 = k
  rfl
set_option maxRecDepth 100000 in
theorem eX8_firstTable_13 {call : Nat → List MV → Mem → Option Res} {S : Mem} {kc ks : Nat} {x1 : Int32} {o2 : Option MV} {o3 : Option MV} : mm_E call pX8_firstTable 0 13 [some (.inr 27), some (.inl x1), o2, o3] [] S kc ks = (if (S 27 6) ≤ x1 then mm_E call pX8_firstTable 0 29 [some (.inr 27), some (.inl 0), o2, o3] [] S kc ks else mm_arr S 1 31 x1 (fun q1 => mm_arr S 1 38 x1 (fun q2 => mm_E call pX8_firstTable 0 13 [some (.inr 27), some (.inl (x1 + 1)), o2, o3] [] (mm_put S 38 q2 (S 31 q1)) kc ks))) := by
  refine mm_E_eq [0, 13, 29, 44] 14 ?_
  generalize mm_E call pX8_firstTable 0 = k
  rfl
set_option maxRecDepth 100000 in
theorem eX8_firstTable_29 {call : Nat → List MV → Mem → Option Res} {S : Mem} {kc ks : Nat} {x1 : Int32} {o2 : Option MV} {o3 : Option MV} : mm_E call pX8_firstTable 0 29 [some (.inr 27), some (.inl x1), o2, o3] [] S kc ks = (if (S 27 7) ≤ x1 then mm_bd (call 139 [.inr 27] S) kc ks (fun S1 c1 t1 a1 => some (S1, c1, t1, 0, 0)) else mm_arr S 1 39 x1 (fun q2 => mm_E call pX8_firstTable 0 44 [some (.inr 27), some (.inl x1), some (.inl (40 * x1)), some (.inl 0)] [] (mm_put S 39 q2 x1) kc ks)) := by
  refine mm_E_eq [0, 13, 29, 44] 15 ?_
  generalize mm_E call pX8_firstTable 0 = k
  rfl
set_option maxRecDepth 100000 in
theorem eX8_firstTable_44 {call : Nat → List MV → Mem → Option Res} {S : Mem} {kc ks : Nat} {x1 : Int32} {x2 : Int32} {x3 : Int32} : mm_E call pX8_firstTable 0 44 [some (.inr 27), some (.inl x1), some (.inl x2), some (.inl x3)] [] S kc ks = (if (S 27 6) ≤ x3 then mm_E call pX8_firstTable 0 29 [some (.inr 27), some (.inl (x1 + 1)), some (.inl x2), some (.inl x3)] [] S kc ks else mm_arr S 1 40 ((44 * x1) + x3) (fun q1 => mm_bd (call 132 [.inr 27, .inr 32, .inl x2] (mm_put S 40 q1 x2)) kc ks (fun S2 c2 t2 a2 => mm_E call pX8_firstTable 0 44 [some (.inr 27), some (.inl x1), some (.inl a2), some (.inl (x3 + 1))] [] S2 c2 t2))) := by
  refine mm_E_eq [0, 13, 29, 44] 21 ?_
  generalize mm_E call pX8_firstTable 0 = k
  rfl
set_option maxRecDepth 100000 in
theorem eX8_part_0 {call : Nat → List MV → Mem → Option Res} {S : Mem} {kc ks : Nat}  : mm_E call pX8_part 0 0 [some (.inr 27), none, none, none, none] [] S kc ks = mm_E call pX8_part 0 2 [some (.inr 27), some (.inl 1), none, none, none] [] S kc ks := by
  refine mm_E_eq [0, 2, 11, 19] 2 ?_
  generalize mm_E call pX8_part 0 = k
  rfl
set_option maxRecDepth 100000 in
theorem eX8_part_2 {call : Nat → List MV → Mem → Option Res} {S : Mem} {kc ks : Nat} {x1 : Int32} {o2 : Option MV} {o3 : Option MV} {o4 : Option MV} : mm_E call pX8_part 0 2 [some (.inr 27), some (.inl x1), o2, o3, o4] [] S kc ks = (if x1 = 0 then some (S, kc, ks, 0, 0) else (if (S 27 22) = 0 then mm_E call pX8_part 0 11 [some (.inr 27), some (.inl 0), some (.inl 0), o3, o4] [] S kc ks else some (S, kc, ks, 0, 0))) := by
  refine mm_E_eq [0, 2, 11, 19] 9 ?_
  generalize mm_E call pX8_part 0 = k
  rfl
set_option maxRecDepth 100000 in
theorem eX8_part_11 {call : Nat → List MV → Mem → Option Res} {S : Mem} {kc ks : Nat} {x1 : Int32} {x2 : Int32} {o3 : Option MV} {o4 : Option MV} : mm_E call pX8_part 0 11 [some (.inr 27), some (.inl x1), some (.inl x2), o3, o4] [] S kc ks = (if (S 27 18) ≤ x2 then mm_E call pX8_part 0 2 [some (.inr 27), some (.inl x1), some (.inl x2), o3, o4] [] S kc ks else (if x1 = 0 then mm_E call pX8_part 0 19 [some (.inr 27), some (.inl x1), some (.inl x2), some (.inl 0), o4] [] S kc ks else mm_E call pX8_part 0 2 [some (.inr 27), some (.inl x1), some (.inl x2), o3, o4] [] S kc ks)) := by
  refine mm_E_eq [0, 2, 11, 19] 8 ?_
  generalize mm_E call pX8_part 0 = k
  rfl
set_option maxRecDepth 100000 in
theorem eX8_part_19 {call : Nat → List MV → Mem → Option Res} {S : Mem} {kc ks : Nat} {x1 : Int32} {x2 : Int32} {x3 : Int32} {o4 : Option MV} : mm_E call pX8_part 0 19 [some (.inr 27), some (.inl x1), some (.inl x2), some (.inl x3), o4] [] S kc ks = (if (S 27 17) ≤ x3 then mm_E call pX8_part 0 11 [some (.inr 27), some (.inl x1), some (.inl (x2 + 1)), some (.inl x3), o4] [] S kc ks else (if x1 = 0 then mm_arr S 1 40 ((44 * x2) + x3) (fun q1 => mm_bd (call 137 [.inr 27, .inl (S 40 q1)] S) kc ks (fun S2 c2 t2 a2 => (if a2 = ((-2)) then (if (S2 27 18) = 60 then (if ((mm_put S2 27 22 1) 27 22) = 0 then mm_bd (call 140 [.inr 27, .inl x2, .inl x3, .inl (S 40 q1)] (mm_put S2 27 22 1)) c2 t2 (fun S3 c3 t3 a3 => mm_E call pX8_part 0 19 [some (.inr 27), some (.inl 1), some (.inl x2), some (.inl (x3 + 1)), some (.inl (S 40 q1))] [] S3 c3 t3) else mm_E call pX8_part 0 19 [some (.inr 27), some (.inl 1), some (.inl x2), some (.inl (x3 + 1)), some (.inl (S 40 q1))] [] (mm_put S2 27 22 1) c2 t2) else (if ((mm_put S2 27 22 0) 27 22) = 0 then mm_bd (call 140 [.inr 27, .inl x2, .inl x3, .inl (S 40 q1)] (mm_put S2 27 22 0)) c2 t2 (fun S4 c4 t4 a4 => mm_E call pX8_part 0 19 [some (.inr 27), some (.inl 1), some (.inl x2), some (.inl (x3 + 1)), some (.inl (S 40 q1))] [] S4 c4 t4) else mm_E call pX8_part 0 19 [some (.inr 27), some (.inl 1), some (.inl x2), some (.inl (x3 + 1)), some (.inl (S 40 q1))] [] (mm_put S2 27 22 0) c2 t2)) else mm_E call pX8_part 0 19 [some (.inr 27), some (.inl x1), some (.inl x2), some (.inl (x3 + 1)), some (.inl (S 40 q1))] [] S2 c2 t2))) else mm_E call pX8_part 0 11 [some (.inr 27), some (.inl x1), some (.inl (x2 + 1)), some (.inl x3), o4] [] S kc ks)) := by
  refine mm_E_eq [0, 2, 11, 19] 40 ?_
  generalize mm_E call pX8_part 0 = k
  rfl
set_option maxRecDepth 100000 in
theorem eX8_doubled_0 {call : Nat → List MV → Mem → Option Res} {S : Mem} {kc ks : Nat} {x1 : Int32} {x2 : Int32} {x3 : Int32} : mm_E call pX8_doubled 0 0 [some (.inr 27), some (.inl x1), some (.inl x2), some (.inl x3), none, none] [] S kc ks = mm_E call pX8_doubled 0 3 [some (.inr 27), some (.inl x1), some (.inl x2), some (.inl x3), some (.inl (S 27 18)), none] [] S kc ks := by
  refine mm_E_eq [0, 3, 18] 3 ?_
  generalize mm_E call pX8_doubled 0 = k
  rfl
set_option maxRecDepth 100000 in
theorem eX8_doubled_3 {call : Nat → List MV → Mem → Option Res} {S : Mem} {kc ks : Nat} {x1 : Int32} {x2 : Int32} {x3 : Int32} {x4 : Int32} {o5 : Option MV} : mm_E call pX8_doubled 0 3 [some (.inr 27), some (.inl x1), some (.inl x2), some (.inl x3), some (.inl x4), o5] [] S kc ks = (if x4 ≤ x1 then mm_arr (mm_put S 27 18 ((S 27 18) + 1)) 1 40 ((44 * x1) + x2) (fun q1 => mm_bd (call 132 [.inr 27, .inr 32, .inl (x3 + 1)] (mm_put (mm_put S 27 18 ((S 27 18) + 1)) 40 q1 (x3 + 1))) kc ks (fun S2 c2 t2 a2 => mm_arr S2 1 40 ((44 * (x1 + 1)) + x2) (fun q3 => some (mm_put S2 40 q3 a2, c2, t2, 0, 0)))) else mm_arr S 1 39 (x4 - 1) (fun q4 => mm_arr S 1 39 x4 (fun q5 => mm_E call pX8_doubled 0 18 [some (.inr 27), some (.inl x1), some (.inl x2), some (.inl x3), some (.inl x4), some (.inl 0)] [] (mm_put S 39 q5 (S 39 q4)) kc ks))) := by
  refine mm_E_eq [0, 3, 18] 38 ?_
  generalize mm_E call pX8_doubled 0 = k
  rfl
set_option maxRecDepth 100000 in
theorem eX8_doubled_18 {call : Nat → List MV → Mem → Option Res} {S : Mem} {kc ks : Nat} {x1 : Int32} {x2 : Int32} {x3 : Int32} {x4 : Int32} {x5 : Int32} : mm_E call pX8_doubled 0 18 [some (.inr 27), some (.inl x1), some (.inl x2), some (.inl x3), some (.inl x4), some (.inl x5)] [] S kc ks = (if (S 27 17) ≤ x5 then mm_E call pX8_doubled 0 3 [some (.inr 27), some (.inl x1), some (.inl x2), some (.inl x3), some (.inl (x4 + (-1))), some (.inl x5)] [] S kc ks else mm_arr S 1 40 ((44 * (x4 - 1)) + x5) (fun q1 => mm_arr S 1 40 ((44 * x4) + x5) (fun q2 => mm_E call pX8_doubled 0 18 [some (.inr 27), some (.inl x1), some (.inl x2), some (.inl x3), some (.inl x4), some (.inl (x5 + 1))] [] (mm_put S 40 q2 (S 40 q1)) kc ks))) := by
  refine mm_E_eq [0, 3, 18] 24 ?_
  generalize mm_E call pX8_doubled 0 = k
  rfl
set_option maxRecDepth 100000 in
theorem eX8_branch_0 {call : Nat → List MV → Mem → Option Res} {S : Mem} {kc ks : Nat} {x1 : Int32} {x2 : Int32} : mm_E call pX8_branch 0 0 [some (.inr 27), some (.inl x1), some (.inl x2), none, none, none, none, none] [] S kc ks = mm_bd (call 117 [.inr 27, .inl x2] S) kc ks (fun S1 c1 t1 a1 => (if (S1 27 22) = 0 then (if (((S1 27 17) + a1) - 1) ≤ 40 then (if ((mm_put S1 27 22 0) 27 22) = 0 then mm_E call pX8_branch 0 28 [some (.inr 27), some (.inl x1), some (.inl x2), some (.inl a1), some (.inl 0), some (.inl 0), none, none] [] (mm_put S1 27 22 0) c1 t1 else some (mm_put S1 27 22 0, c1, t1, 0, 0)) else (if ((mm_put S1 27 22 1) 27 22) = 0 then mm_E call pX8_branch 0 28 [some (.inr 27), some (.inl x1), some (.inl x2), some (.inl a1), some (.inl 0), some (.inl 0), none, none] [] (mm_put S1 27 22 1) c1 t1 else some (mm_put S1 27 22 1, c1, t1, 0, 0))) else (if ((mm_put S1 27 22 1) 27 22) = 0 then mm_E call pX8_branch 0 28 [some (.inr 27), some (.inl x1), some (.inl x2), some (.inl a1), some (.inl 0), some (.inl 0), none, none] [] (mm_put S1 27 22 1) c1 t1 else some (mm_put S1 27 22 1, c1, t1, 0, 0)))) := by
  refine mm_E_eq [0, 28, 87, 106, 128] 26 ?_
  generalize mm_E call pX8_branch 0 = k
  rfl
set_option maxRecDepth 100000 in
theorem eX8_branch_28 {call : Nat → List MV → Mem → Option Res} {S : Mem} {kc ks : Nat} {x1 : Int32} {x2 : Int32} {x3 : Int32} {x4 : Int32} {x5 : Int32} {o6 : Option MV} {o7 : Option MV} : mm_E call pX8_branch 0 28 [some (.inr 27), some (.inl x1), some (.inl x2), some (.inl x3), some (.inl x4), some (.inl x5), o6, o7] [] S kc ks = (if (S 27 18) ≤ x5 then (if x3 ≤ 0 then mm_E call pX8_branch 0 87 [some (.inr 27), some (.inl x1), some (.inl x2), some (.inl x3), some (.inl x4), some (.inl ((-1))), o6, o7] [] (mm_put S 27 18 x4) kc ks else mm_E call pX8_branch 0 87 [some (.inr 27), some (.inl x1), some (.inl x2), some (.inl x3), some (.inl x4), some (.inl (((mm_put S 27 18 x4) 27 17) - 1)), o6, o7] [] (mm_put S 27 18 x4) kc ks) else mm_arr S 1 40 ((44 * x5) + x1) (fun q1 => mm_bd (call 137 [.inr 27, .inl (S 40 q1)] S) kc ks (fun S2 c2 t2 a2 => (if a2 = ((-1)) then mm_arr S2 1 39 x5 (fun q3 => mm_arr S2 1 39 x4 (fun q4 => (if a2 = ((-1)) then mm_bd (call 142 [.inr 27, .inl x5, .inl x4, .inl x1, .inl x3, .inl ((-1))] (mm_put S2 39 q4 (S2 39 q3))) c2 t2 (fun S5 c5 t5 a5 => mm_E call pX8_branch 0 28 [some (.inr 27), some (.inl x1), some (.inl x2), some (.inl x3), some (.inl (x4 + 1)), some (.inl (x5 + 1)), some (.inl (S 40 q1)), some (.inl a2)] [] S5 c5 t5) else mm_bd (call 142 [.inr 27, .inl x5, .inl x4, .inl x1, .inl x3, .inl (S 40 q1)] (mm_put S2 39 q4 (S2 39 q3))) c2 t2 (fun S6 c6 t6 a6 => mm_E call pX8_branch 0 28 [some (.inr 27), some (.inl x1), some (.inl x2), some (.inl x3), some (.inl (x4 + 1)), some (.inl (x5 + 1)), some (.inl (S 40 q1)), some (.inl a2)] [] S6 c6 t6)))) else (if a2 = x2 then mm_arr S2 1 39 x5 (fun q7 => mm_arr S2 1 39 x4 (fun q8 => (if a2 = ((-1)) then mm_bd (call 142 [.inr 27, .inl x5, .inl x4, .inl x1, .inl x3, .inl ((-1))] (mm_put S2 39 q8 (S2 39 q7))) c2 t2 (fun S9 c9 t9 a9 => mm_E call pX8_branch 0 28 [some (.inr 27), some (.inl x1), some (.inl x2), some (.inl x3), some (.inl (x4 + 1)), some (.inl (x5 + 1)), some (.inl (S 40 q1)), some (.inl a2)] [] S9 c9 t9) else mm_bd (call 142 [.inr 27, .inl x5, .inl x4, .inl x1, .inl x3, .inl (S 40 q1)] (mm_put S2 39 q8 (S2 39 q7))) c2 t2 (fun S10 c10 t10 a10 => mm_E call pX8_branch 0 28 [some (.inr 27), some (.inl x1), some (.inl x2), some (.inl x3), some (.inl (x4 + 1)), some (.inl (x5 + 1)), some (.inl (S 40 q1)), some (.inl a2)] [] S10 c10 t10)))) else mm_E call pX8_branch 0 28 [some (.inr 27), some (.inl x1), some (.inl x2), some (.inl x3), some (.inl x4), some (.inl (x5 + 1)), some (.inl (S 40 q1)), some (.inl a2)] [] S2 c2 t2))))) := by
  refine mm_E_eq [0, 28, 87, 106, 128] 45 ?_
  generalize mm_E call pX8_branch 0 = k
  rfl
set_option maxRecDepth 100000 in
theorem eX8_branch_87 {call : Nat → List MV → Mem → Option Res} {S : Mem} {kc ks : Nat} {x1 : Int32} {x2 : Int32} {x3 : Int32} {o4 : Option MV} {x5 : Int32} {o6 : Option MV} {o7 : Option MV} : mm_E call pX8_branch 0 87 [some (.inr 27), some (.inl x1), some (.inl x2), some (.inl x3), o4, some (.inl x5), o6, o7] [] S kc ks = (if x5 ≤ x1 then mm_E call pX8_branch 0 106 [some (.inr 27), some (.inl x1), some (.inl x2), some (.inl x3), o4, some (.inl x1), o6, o7] [] S kc ks else mm_arr S 1 38 x5 (fun q1 => mm_arr S 1 38 ((x5 + x3) - 1) (fun q2 => mm_E call pX8_branch 0 87 [some (.inr 27), some (.inl x1), some (.inl x2), some (.inl x3), o4, some (.inl (x5 + (-1))), o6, o7] [] (mm_put S 38 q2 (S 38 q1)) kc ks))) := by
  refine mm_E_eq [0, 28, 87, 106, 128] 17 ?_
  generalize mm_E call pX8_branch 0 = k
  rfl
set_option maxRecDepth 100000 in
theorem eX8_branch_106 {call : Nat → List MV → Mem → Option Res} {S : Mem} {kc ks : Nat} {x1 : Int32} {x2 : Int32} {x3 : Int32} {o4 : Option MV} {x5 : Int32} {o6 : Option MV} {o7 : Option MV} : mm_E call pX8_branch 0 106 [some (.inr 27), some (.inl x1), some (.inl x2), some (.inl x3), o4, some (.inl x5), o6, o7] [] S kc ks = (if x3 = 0 then (if (S 27 17) ≤ (x5 + 1) then mm_E call pX8_branch 0 128 [some (.inr 27), some (.inl x1), some (.inl x2), some (.inl x3), o4, some (.inl 0), o6, o7] [] S kc ks else mm_arr S 1 38 (x5 + 1) (fun q1 => mm_arr S 1 38 x5 (fun q2 => mm_E call pX8_branch 0 106 [some (.inr 27), some (.inl x1), some (.inl x2), some (.inl x3), o4, some (.inl (x5 + 1)), o6, o7] [] (mm_put S 38 q2 (S 38 q1)) kc ks))) else mm_E call pX8_branch 0 128 [some (.inr 27), some (.inl x1), some (.inl x2), some (.inl x3), o4, some (.inl 0), o6, o7] [] S kc ks) := by
  refine mm_E_eq [0, 28, 87, 106, 128] 20 ?_
  generalize mm_E call pX8_branch 0 = k
  rfl
set_option maxRecDepth 100000 in
theorem eX8_branch_128 {call : Nat → List MV → Mem → Option Res} {S : Mem} {kc ks : Nat} {x1 : Int32} {x2 : Int32} {x3 : Int32} {o4 : Option MV} {x5 : Int32} {o6 : Option MV} {o7 : Option MV} : mm_E call pX8_branch 0 128 [some (.inr 27), some (.inl x1), some (.inl x2), some (.inl x3), o4, some (.inl x5), o6, o7] [] S kc ks = (if x3 ≤ x5 then mm_bd (call 139 [.inr 27] (mm_put S 27 17 ((S 27 17) + (x3 - 1)))) kc ks (fun S1 c1 t1 a1 => some (S1, c1, t1, 0, 0)) else mm_arr S 1 29 ((3 * x2) + x5) (fun q2 => mm_arr S 1 38 (x1 + x5) (fun q3 => mm_E call pX8_branch 0 128 [some (.inr 27), some (.inl x1), some (.inl x2), some (.inl x3), o4, some (.inl (x5 + 1)), o6, o7] [] (mm_put S 38 q3 (S 29 q2)) kc ks))) := by
  refine mm_E_eq [0, 28, 87, 106, 128] 19 ?_
  generalize mm_E call pX8_branch 0 = k
  rfl
set_option maxRecDepth 100000 in
theorem eX8_widen_0 {call : Nat → List MV → Mem → Option Res} {S : Mem} {kc ks : Nat} {x1 : Int32} {x2 : Int32} {x3 : Int32} {x4 : Int32} {x5 : Int32} : mm_E call pX8_widen 0 0 [some (.inr 27), some (.inl x1), some (.inl x2), some (.inl x3), some (.inl x4), some (.inl x5), none, none] [] S kc ks = mm_E call pX8_widen 0 2 [some (.inr 27), some (.inl x1), some (.inl x2), some (.inl x3), some (.inl x4), some (.inl x5), some (.inl 0), none] [] S kc ks := by
  refine mm_E_eq [0, 2, 22, 50, 81] 2 ?_
  generalize mm_E call pX8_widen 0 = k
  rfl
set_option maxRecDepth 100000 in
theorem eX8_widen_2 {call : Nat → List MV → Mem → Option Res} {S : Mem} {kc ks : Nat} {x1 : Int32} {x2 : Int32} {x3 : Int32} {x4 : Int32} {x5 : Int32} {x6 : Int32} {o7 : Option MV} : mm_E call pX8_widen 0 2 [some (.inr 27), some (.inl x1), some (.inl x2), some (.inl x3), some (.inl x4), some (.inl x5), some (.inl x6), o7] [] S kc ks = (if (S 27 17) ≤ x6 then mm_E call pX8_widen 0 22 [some (.inr 27), some (.inl x1), some (.inl x2), some (.inl x3), some (.inl x4), some (.inl x5), some (.inl 0), o7] [] S kc ks else mm_arr S 1 40 ((44 * x1) + x6) (fun q1 => mm_arr S 1 41 x6 (fun q2 => mm_E call pX8_widen 0 2 [some (.inr 27), some (.inl x1), some (.inl x2), some (.inl x3), some (.inl x4), some (.inl x5), some (.inl (x6 + 1)), o7] [] (mm_put S 41 q2 (S 40 q1)) kc ks))) := by
  refine mm_E_eq [0, 2, 22, 50, 81] 18 ?_
  generalize mm_E call pX8_widen 0 = k
  rfl
set_option maxRecDepth 100000 in
theorem eX8_widen_22 {call : Nat → List MV → Mem → Option Res} {S : Mem} {kc ks : Nat} {o1 : Option MV} {x2 : Int32} {x3 : Int32} {x4 : Int32} {x5 : Int32} {x6 : Int32} {o7 : Option MV} : mm_E call pX8_widen 0 22 [some (.inr 27), o1, some (.inl x2), some (.inl x3), some (.inl x4), some (.inl x5), some (.inl x6), o7] [] S kc ks = (if x3 ≤ x6 then (if x5 = ((-1)) then mm_E call pX8_widen 0 50 [some (.inr 27), o1, some (.inl x2), some (.inl x3), some (.inl x4), some (.inl x5), some (.inl ((-1))), some (.inl 0)] [] S kc ks else mm_E call pX8_widen 0 50 [some (.inr 27), o1, some (.inl x2), some (.inl x3), some (.inl x4), some (.inl x5), some (.inl (x5 + 1)), some (.inl 0)] [] S kc ks) else mm_arr S 1 41 x6 (fun q1 => mm_arr S 1 40 ((44 * x2) + x6) (fun q2 => mm_E call pX8_widen 0 22 [some (.inr 27), o1, some (.inl x2), some (.inl x3), some (.inl x4), some (.inl x5), some (.inl (x6 + 1)), o7] [] (mm_put S 40 q2 (S 41 q1)) kc ks))) := by
  refine mm_E_eq [0, 2, 22, 50, 81] 17 ?_
  generalize mm_E call pX8_widen 0 = k
  rfl
set_option maxRecDepth 100000 in
theorem eX8_widen_50 {call : Nat → List MV → Mem → Option Res} {S : Mem} {kc ks : Nat} {o1 : Option MV} {x2 : Int32} {x3 : Int32} {x4 : Int32} {o5 : Option MV} {x6 : Int32} {x7 : Int32} : mm_E call pX8_widen 0 50 [some (.inr 27), o1, some (.inl x2), some (.inl x3), some (.inl x4), o5, some (.inl x6), some (.inl x7)] [] S kc ks = (if x4 ≤ x7 then mm_E call pX8_widen 0 81 [some (.inr 27), o1, some (.inl x2), some (.inl x3), some (.inl x4), o5, some (.inl x6), some (.inl (x3 + 1))] [] S kc ks else mm_arr S 1 40 (((44 * x2) + x3) + x7) (fun q1 => (if x6 = ((-1)) then mm_E call pX8_widen 0 50 [some (.inr 27), o1, some (.inl x2), some (.inl x3), some (.inl x4), o5, some (.inl ((-1))), some (.inl (x7 + 1))] [] (mm_put S 40 q1 x6) kc ks else mm_bd (call 132 [.inr 27, .inr 32, .inl x6] (mm_put S 40 q1 x6)) kc ks (fun S2 c2 t2 a2 => mm_E call pX8_widen 0 50 [some (.inr 27), o1, some (.inl x2), some (.inl x3), some (.inl x4), o5, some (.inl a2), some (.inl (x7 + 1))] [] S2 c2 t2)))) := by
  refine mm_E_eq [0, 2, 22, 50, 81] 25 ?_
  generalize mm_E call pX8_widen 0 = k
  rfl
set_option maxRecDepth 100000 in
theorem eX8_widen_81 {call : Nat → List MV → Mem → Option Res} {S : Mem} {kc ks : Nat} {o1 : Option MV} {x2 : Int32} {o3 : Option MV} {x4 : Int32} {o5 : Option MV} {o6 : Option MV} {x7 : Int32} : mm_E call pX8_widen 0 81 [some (.inr 27), o1, some (.inl x2), o3, some (.inl x4), o5, o6, some (.inl x7)] [] S kc ks = (if (S 27 17) ≤ x7 then some (S, kc, ks, 0, 0) else mm_arr S 1 41 x7 (fun q1 => mm_arr S 1 40 ((((44 * x2) + x7) + x4) - 1) (fun q2 => mm_E call pX8_widen 0 81 [some (.inr 27), o1, some (.inl x2), o3, some (.inl x4), o5, o6, some (.inl (x7 + 1))] [] (mm_put S 40 q2 (S 41 q1)) kc ks))) := by
  refine mm_E_eq [0, 2, 22, 50, 81] 22 ?_
  generalize mm_E call pX8_widen 0 = k
  rfl
set_option maxRecDepth 100000 in
theorem eX8_tableOf_0 {call : Nat → List MV → Mem → Option Res} {S : Mem} {kc ks : Nat} {x1 : Int32} {x2 : Int32} : mm_E call pX8_tableOf 0 0 [some (.inr 27), some (.inl x1), some (.inl x2), none, none] [] S kc ks = mm_E call pX8_tableOf 0 4 [some (.inr 27), some (.inl x1), some (.inl x2), some (.inl 0), some (.inl x1)] [] S kc ks := by
  refine mm_E_eq [0, 4, 25] 4 ?_
  generalize mm_E call pX8_tableOf 0 = k
  rfl
set_option maxRecDepth 100000 in
theorem eX8_tableOf_4 {call : Nat → List MV → Mem → Option Res} {S : Mem} {kc ks : Nat} {o1 : Option MV} {x2 : Int32} {x3 : Int32} {x4 : Int32} : mm_E call pX8_tableOf 0 4 [some (.inr 27), o1, some (.inl x2), some (.inl x3), some (.inl x4)] [] S kc ks = (if x4 = ((-1)) then mm_bd (call 138 [.inr 27] S) kc ks (fun S1 c1 t1 a1 => mm_E call pX8_tableOf 0 25 [some (.inr 27), o1, some (.inl x2), some (.inl x3), some (.inl (x3 - 1))] [] S1 c1 t1) else mm_arr S 1 52 x3 (fun q2 => mm_arr (mm_put S 52 q2 x4) 1 47 x4 (fun q3 => mm_E call pX8_tableOf 0 4 [some (.inr 27), o1, some (.inl x2), some (.inl (x3 + 1)), some (.inl ((mm_put S 52 q2 x4) 47 q3))] [] (mm_put S 52 q2 x4) kc ks))) := by
  refine mm_E_eq [0, 4, 25] 15 ?_
  generalize mm_E call pX8_tableOf 0 = k
  rfl
set_option maxRecDepth 100000 in
theorem eX8_tableOf_25 {call : Nat → List MV → Mem → Option Res} {S : Mem} {kc ks : Nat} {o1 : Option MV} {x2 : Int32} {o3 : Option MV} {x4 : Int32} : mm_E call pX8_tableOf 0 25 [some (.inr 27), o1, some (.inl x2), o3, some (.inl x4)] [] S kc ks = (if x4 < 0 then some (S, kc, ks, 0, 0) else (if (S 27 22) = 0 then mm_arr S 1 52 x4 (fun q1 => mm_arr S 1 43 (S 52 q1) (fun q2 => (if x4 ≤ 0 then mm_bd (call 141 [.inr 27, .inl (S 43 q2), .inl x2] S) kc ks (fun S3 c3 t3 a3 => mm_E call pX8_tableOf 0 25 [some (.inr 27), o1, some (.inl x2), o3, some (.inl (x4 + (-1)))] [] S3 c3 t3) else mm_arr S 1 52 (x4 - 1) (fun q4 => mm_arr S 1 48 (S 52 q4) (fun q5 => mm_bd (call 141 [.inr 27, .inl (S 43 q2), .inl (S 48 q5)] S) kc ks (fun S6 c6 t6 a6 => mm_E call pX8_tableOf 0 25 [some (.inr 27), o1, some (.inl x2), o3, some (.inl (x4 + (-1)))] [] S6 c6 t6)))))) else some (S, kc, ks, 0, 0))) := by
  refine mm_E_eq [0, 4, 25] 28 ?_
  generalize mm_E call pX8_tableOf 0 = k
  rfl
set_option maxRecDepth 100000 in
theorem eX8_begin_0 {call : Nat → List MV → Mem → Option Res} {S : Mem} {kc ks : Nat} {x1 : Int32} {x2 : Int32} : mm_E call pX8_begin 0 0 [some (.inr 27), some (.inl x1), some (.inl x2), none, none, none] [] S kc ks = mm_bd (call 143 [.inr 27, .inl x1, .inl x2] S) kc ks (fun S1 c1 t1 a1 => (if (S1 27 22) = 0 then (if (S1 27 24) = 300 then some (mm_put S1 27 22 1, c1, t1, 0, 0) else mm_arr (mm_put S1 27 24 ((S1 27 24) + 1)) 1 47 (S1 27 24) (fun q2 => mm_arr (mm_put (mm_put S1 27 24 ((S1 27 24) + 1)) 47 q2 x1) 1 48 (S1 27 24) (fun q3 => mm_arr (mm_put (mm_put (mm_put S1 27 24 ((S1 27 24) + 1)) 47 q2 x1) 48 q3 x2) 1 49 (S1 27 24) (fun q4 => mm_arr (mm_put (mm_put (mm_put (mm_put S1 27 24 ((S1 27 24) + 1)) 47 q2 x1) 48 q3 x2) 49 q4 0) 1 45 (S1 27 24) (fun q5 => mm_E call pX8_begin 0 47 [some (.inr 27), some (.inl x1), some (.inl x2), some (.inl (S1 27 24)), some (.inl 0), none] [] (mm_put (mm_put (mm_put (mm_put (mm_put S1 27 24 ((S1 27 24) + 1)) 47 q2 x1) 48 q3 x2) 49 q4 0) 45 q5 ((mm_put (mm_put (mm_put (mm_put S1 27 24 ((S1 27 24) + 1)) 47 q2 x1) 48 q3 x2) 49 q4 0) 27 17)) c1 t1))))) else some (mm_put S1 27 22 1, c1, t1, 0, 0))) := by
  refine mm_E_eq [0, 47, 64, 121] 43 ?_
  generalize mm_E call pX8_begin 0 = k
  rfl
set_option maxRecDepth 100000 in
theorem eX8_begin_47 {call : Nat → List MV → Mem → Option Res} {S : Mem} {kc ks : Nat} {o1 : Option MV} {o2 : Option MV} {x3 : Int32} {x4 : Int32} {o5 : Option MV} : mm_E call pX8_begin 0 47 [some (.inr 27), o1, o2, some (.inl x3), some (.inl x4), o5] [] S kc ks = (if (S 27 18) ≤ 0 then mm_E call pX8_begin 0 64 [some (.inr 27), o1, o2, some (.inl x3), some (.inl x4), o5] [] S kc ks else (if (S 27 17) ≤ x4 then mm_E call pX8_begin 0 64 [some (.inr 27), o1, o2, some (.inl x3), some (.inl x4), o5] [] S kc ks else mm_arr S 1 40 x4 (fun q1 => mm_bd (call 137 [.inr 27, .inl (S 40 q1)] S) kc ks (fun S2 c2 t2 a2 => (if a2 = ((-1)) then mm_E call pX8_begin 0 47 [some (.inr 27), o1, o2, some (.inl x3), some (.inl (x4 + 1)), o5] [] S2 c2 t2 else mm_E call pX8_begin 0 64 [some (.inr 27), o1, o2, some (.inl x3), some (.inl x4), o5] [] S2 c2 t2))))) := by
  refine mm_E_eq [0, 47, 64, 121] 17 ?_
  generalize mm_E call pX8_begin 0 = k
  rfl
set_option maxRecDepth 100000 in
theorem eX8_begin_64 {call : Nat → List MV → Mem → Option Res} {S : Mem} {kc ks : Nat} {o1 : Option MV} {o2 : Option MV} {x3 : Int32} {x4 : Int32} {o5 : Option MV} : mm_E call pX8_begin 0 64 [some (.inr 27), o1, o2, some (.inl x3), some (.inl x4), o5] [] S kc ks = (if (S 27 18) = 0 then mm_arr S 1 42 x3 (fun q1 => mm_arr (mm_put S 42 q1 0) 1 42 x3 (fun q2 => (if ((mm_put S 42 q1 0) 42 q2) = 1 then mm_arr (mm_put S 42 q1 0) 1 39 0 (fun q3 => mm_arr (mm_put S 42 q1 0) 1 46 x3 (fun q4 => mm_arr (mm_put (mm_put S 42 q1 0) 46 q4 ((mm_put S 42 q1 0) 39 q3)) 1 42 x3 (fun q5 => (if ((mm_put (mm_put S 42 q1 0) 46 q4 ((mm_put S 42 q1 0) 39 q3)) 42 q5) = 2 then mm_arr (mm_put (mm_put S 42 q1 0) 46 q4 ((mm_put S 42 q1 0) 39 q3)) 1 43 x3 (fun q6 => mm_arr (mm_put (mm_put (mm_put S 42 q1 0) 46 q4 ((mm_put S 42 q1 0) 39 q3)) 43 q6 x4) 1 38 x4 (fun q7 => mm_arr (mm_put (mm_put (mm_put S 42 q1 0) 46 q4 ((mm_put S 42 q1 0) 39 q3)) 43 q6 x4) 1 44 x3 (fun q8 => mm_E call pX8_begin 0 121 [some (.inr 27), o1, o2, some (.inl x3), some (.inl x4), some (.inl (((mm_put (mm_put (mm_put (mm_put S 42 q1 0) 46 q4 ((mm_put S 42 q1 0) 39 q3)) 43 q6 x4) 44 q8 ((mm_put (mm_put (mm_put S 42 q1 0) 46 q4 ((mm_put S 42 q1 0) 39 q3)) 43 q6 x4) 38 q7)) 27 2) - 1))] [] (mm_put (mm_put (mm_put (mm_put S 42 q1 0) 46 q4 ((mm_put S 42 q1 0) 39 q3)) 43 q6 x4) 44 q8 ((mm_put (mm_put (mm_put S 42 q1 0) 46 q4 ((mm_put S 42 q1 0) 39 q3)) 43 q6 x4) 38 q7)) kc ks))) else some (mm_put (mm_put S 42 q1 0) 46 q4 ((mm_put S 42 q1 0) 39 q3), kc, ks, 0, 0))))) else mm_arr (mm_put S 42 q1 0) 1 46 x3 (fun q9 => mm_arr (mm_put (mm_put S 42 q1 0) 46 q9 ((-1))) 1 42 x3 (fun q10 => (if ((mm_put (mm_put S 42 q1 0) 46 q9 ((-1))) 42 q10) = 2 then mm_arr (mm_put (mm_put S 42 q1 0) 46 q9 ((-1))) 1 43 x3 (fun q11 => mm_arr (mm_put (mm_put (mm_put S 42 q1 0) 46 q9 ((-1))) 43 q11 x4) 1 38 x4 (fun q12 => mm_arr (mm_put (mm_put (mm_put S 42 q1 0) 46 q9 ((-1))) 43 q11 x4) 1 44 x3 (fun q13 => mm_E call pX8_begin 0 121 [some (.inr 27), o1, o2, some (.inl x3), some (.inl x4), some (.inl (((mm_put (mm_put (mm_put (mm_put S 42 q1 0) 46 q9 ((-1))) 43 q11 x4) 44 q13 ((mm_put (mm_put (mm_put S 42 q1 0) 46 q9 ((-1))) 43 q11 x4) 38 q12)) 27 2) - 1))] [] (mm_put (mm_put (mm_put (mm_put S 42 q1 0) 46 q9 ((-1))) 43 q11 x4) 44 q13 ((mm_put (mm_put (mm_put S 42 q1 0) 46 q9 ((-1))) 43 q11 x4) 38 q12)) kc ks))) else some (mm_put (mm_put S 42 q1 0) 46 q9 ((-1)), kc, ks, 0, 0))))))) else (if x4 = (S 27 17) then mm_arr S 1 42 x3 (fun q14 => mm_arr (mm_put S 42 q14 1) 1 42 x3 (fun q15 => (if ((mm_put S 42 q14 1) 42 q15) = 1 then mm_arr (mm_put S 42 q14 1) 1 39 0 (fun q16 => mm_arr (mm_put S 42 q14 1) 1 46 x3 (fun q17 => mm_arr (mm_put (mm_put S 42 q14 1) 46 q17 ((mm_put S 42 q14 1) 39 q16)) 1 42 x3 (fun q18 => (if ((mm_put (mm_put S 42 q14 1) 46 q17 ((mm_put S 42 q14 1) 39 q16)) 42 q18) = 2 then mm_arr (mm_put (mm_put S 42 q14 1) 46 q17 ((mm_put S 42 q14 1) 39 q16)) 1 43 x3 (fun q19 => mm_arr (mm_put (mm_put (mm_put S 42 q14 1) 46 q17 ((mm_put S 42 q14 1) 39 q16)) 43 q19 x4) 1 38 x4 (fun q20 => mm_arr (mm_put (mm_put (mm_put S 42 q14 1) 46 q17 ((mm_put S 42 q14 1) 39 q16)) 43 q19 x4) 1 44 x3 (fun q21 => mm_E call pX8_begin 0 121 [some (.inr 27), o1, o2, some (.inl x3), some (.inl x4), some (.inl (((mm_put (mm_put (mm_put (mm_put S 42 q14 1) 46 q17 ((mm_put S 42 q14 1) 39 q16)) 43 q19 x4) 44 q21 ((mm_put (mm_put (mm_put S 42 q14 1) 46 q17 ((mm_put S 42 q14 1) 39 q16)) 43 q19 x4) 38 q20)) 27 2) - 1))] [] (mm_put (mm_put (mm_put (mm_put S 42 q14 1) 46 q17 ((mm_put S 42 q14 1) 39 q16)) 43 q19 x4) 44 q21 ((mm_put (mm_put (mm_put S 42 q14 1) 46 q17 ((mm_put S 42 q14 1) 39 q16)) 43 q19 x4) 38 q20)) kc ks))) else some (mm_put (mm_put S 42 q14 1) 46 q17 ((mm_put S 42 q14 1) 39 q16), kc, ks, 0, 0))))) else mm_arr (mm_put S 42 q14 1) 1 46 x3 (fun q22 => mm_arr (mm_put (mm_put S 42 q14 1) 46 q22 ((-1))) 1 42 x3 (fun q23 => (if ((mm_put (mm_put S 42 q14 1) 46 q22 ((-1))) 42 q23) = 2 then mm_arr (mm_put (mm_put S 42 q14 1) 46 q22 ((-1))) 1 43 x3 (fun q24 => mm_arr (mm_put (mm_put (mm_put S 42 q14 1) 46 q22 ((-1))) 43 q24 x4) 1 38 x4 (fun q25 => mm_arr (mm_put (mm_put (mm_put S 42 q14 1) 46 q22 ((-1))) 43 q24 x4) 1 44 x3 (fun q26 => mm_E call pX8_begin 0 121 [some (.inr 27), o1, o2, some (.inl x3), some (.inl x4), some (.inl (((mm_put (mm_put (mm_put (mm_put S 42 q14 1) 46 q22 ((-1))) 43 q24 x4) 44 q26 ((mm_put (mm_put (mm_put S 42 q14 1) 46 q22 ((-1))) 43 q24 x4) 38 q25)) 27 2) - 1))] [] (mm_put (mm_put (mm_put (mm_put S 42 q14 1) 46 q22 ((-1))) 43 q24 x4) 44 q26 ((mm_put (mm_put (mm_put S 42 q14 1) 46 q22 ((-1))) 43 q24 x4) 38 q25)) kc ks))) else some (mm_put (mm_put S 42 q14 1) 46 q22 ((-1)), kc, ks, 0, 0))))))) else mm_arr S 1 42 x3 (fun q27 => mm_arr (mm_put S 42 q27 2) 1 42 x3 (fun q28 => (if ((mm_put S 42 q27 2) 42 q28) = 1 then mm_arr (mm_put S 42 q27 2) 1 39 0 (fun q29 => mm_arr (mm_put S 42 q27 2) 1 46 x3 (fun q30 => mm_arr (mm_put (mm_put S 42 q27 2) 46 q30 ((mm_put S 42 q27 2) 39 q29)) 1 42 x3 (fun q31 => (if ((mm_put (mm_put S 42 q27 2) 46 q30 ((mm_put S 42 q27 2) 39 q29)) 42 q31) = 2 then mm_arr (mm_put (mm_put S 42 q27 2) 46 q30 ((mm_put S 42 q27 2) 39 q29)) 1 43 x3 (fun q32 => mm_arr (mm_put (mm_put (mm_put S 42 q27 2) 46 q30 ((mm_put S 42 q27 2) 39 q29)) 43 q32 x4) 1 38 x4 (fun q33 => mm_arr (mm_put (mm_put (mm_put S 42 q27 2) 46 q30 ((mm_put S 42 q27 2) 39 q29)) 43 q32 x4) 1 44 x3 (fun q34 => mm_E call pX8_begin 0 121 [some (.inr 27), o1, o2, some (.inl x3), some (.inl x4), some (.inl (((mm_put (mm_put (mm_put (mm_put S 42 q27 2) 46 q30 ((mm_put S 42 q27 2) 39 q29)) 43 q32 x4) 44 q34 ((mm_put (mm_put (mm_put S 42 q27 2) 46 q30 ((mm_put S 42 q27 2) 39 q29)) 43 q32 x4) 38 q33)) 27 2) - 1))] [] (mm_put (mm_put (mm_put (mm_put S 42 q27 2) 46 q30 ((mm_put S 42 q27 2) 39 q29)) 43 q32 x4) 44 q34 ((mm_put (mm_put (mm_put S 42 q27 2) 46 q30 ((mm_put S 42 q27 2) 39 q29)) 43 q32 x4) 38 q33)) kc ks))) else some (mm_put (mm_put S 42 q27 2) 46 q30 ((mm_put S 42 q27 2) 39 q29), kc, ks, 0, 0))))) else mm_arr (mm_put S 42 q27 2) 1 46 x3 (fun q35 => mm_arr (mm_put (mm_put S 42 q27 2) 46 q35 ((-1))) 1 42 x3 (fun q36 => (if ((mm_put (mm_put S 42 q27 2) 46 q35 ((-1))) 42 q36) = 2 then mm_arr (mm_put (mm_put S 42 q27 2) 46 q35 ((-1))) 1 43 x3 (fun q37 => mm_arr (mm_put (mm_put (mm_put S 42 q27 2) 46 q35 ((-1))) 43 q37 x4) 1 38 x4 (fun q38 => mm_arr (mm_put (mm_put (mm_put S 42 q27 2) 46 q35 ((-1))) 43 q37 x4) 1 44 x3 (fun q39 => mm_E call pX8_begin 0 121 [some (.inr 27), o1, o2, some (.inl x3), some (.inl x4), some (.inl (((mm_put (mm_put (mm_put (mm_put S 42 q27 2) 46 q35 ((-1))) 43 q37 x4) 44 q39 ((mm_put (mm_put (mm_put S 42 q27 2) 46 q35 ((-1))) 43 q37 x4) 38 q38)) 27 2) - 1))] [] (mm_put (mm_put (mm_put (mm_put S 42 q27 2) 46 q35 ((-1))) 43 q37 x4) 44 q39 ((mm_put (mm_put (mm_put S 42 q27 2) 46 q35 ((-1))) 43 q37 x4) 38 q38)) kc ks))) else some (mm_put (mm_put S 42 q27 2) 46 q35 ((-1)), kc, ks, 0, 0))))))))) := by
  refine mm_E_eq [0, 47, 64, 121] 52 ?_
  generalize mm_E call pX8_begin 0 = k
  rfl
set_option maxRecDepth 100000 in
theorem eX8_begin_121 {call : Nat → List MV → Mem → Option Res} {S : Mem} {kc ks : Nat} {o1 : Option MV} {o2 : Option MV} {x3 : Int32} {o4 : Option MV} {x5 : Int32} : mm_E call pX8_begin 0 121 [some (.inr 27), o1, o2, some (.inl x3), o4, some (.inl x5)] [] S kc ks = (if x5 < 0 then some (S, kc, ks, 0, 0) else mm_arr S 1 28 x5 (fun q1 => mm_arr S 1 44 x3 (fun q2 => (if (S 28 q1) = (S 44 q2) then mm_bd (call 122 [.inr 27, .inl x5] S) kc ks (fun S3 c3 t3 a3 => (if a3 = 0 then mm_arr S3 1 50 (S3 27 25) (fun q4 => mm_arr (mm_put S3 50 q4 x3) 1 51 ((mm_put S3 50 q4 x3) 27 25) (fun q5 => mm_arr (mm_put (mm_put (mm_put S3 50 q4 x3) 51 q5 x5) 27 25 (((mm_put (mm_put S3 50 q4 x3) 51 q5 x5) 27 25) + 1)) 1 49 x3 (fun q6 => mm_arr (mm_put (mm_put (mm_put S3 50 q4 x3) 51 q5 x5) 27 25 (((mm_put (mm_put S3 50 q4 x3) 51 q5 x5) 27 25) + 1)) 1 49 x3 (fun q7 => mm_E call pX8_begin 0 121 [some (.inr 27), o1, o2, some (.inl x3), o4, some (.inl (x5 + (-1)))] [] (mm_put (mm_put (mm_put (mm_put S3 50 q4 x3) 51 q5 x5) 27 25 (((mm_put (mm_put S3 50 q4 x3) 51 q5 x5) 27 25) + 1)) 49 q7 (((mm_put (mm_put (mm_put S3 50 q4 x3) 51 q5 x5) 27 25 (((mm_put (mm_put S3 50 q4 x3) 51 q5 x5) 27 25) + 1)) 49 q6) + 1)) c3 t3)))) else mm_E call pX8_begin 0 121 [some (.inr 27), o1, o2, some (.inl x3), o4, some (.inl (x5 + (-1)))] [] S3 c3 t3)) else mm_E call pX8_begin 0 121 [some (.inr 27), o1, o2, some (.inl x3), o4, some (.inl (x5 + (-1)))] [] S kc ks)))) := by
  refine mm_E_eq [0, 47, 64, 121] 43 ?_
  generalize mm_E call pX8_begin 0 = k
  rfl
set_option maxRecDepth 100000 in
theorem eX8_compile_0 {call : Nat → List MV → Mem → Option Res} {S : Mem} {kc ks : Nat}  : mm_E call pX8_compile 1 0 [some (.inr 27)] [] S kc ks = (if (S 27 6) = 0 then (if ((mm_put S 27 0 1) 27 0) ≤ 0 then mm_bd (call 121 [.inr 27] (mm_put S 27 0 1)) kc ks (fun S1 c1 t1 a1 => mm_bd (call 144 [.inr 27, .inl ((-1)), .inl ((-1))] (mm_put (mm_put (mm_put S1 27 24 0) 27 25 0) 27 22 0)) c1 t1 (fun S2 c2 t2 a2 => mm_E call pX8_compile 1 28 [some (.inr 27)] [] S2 c2 t2)) else some (mm_put S 27 0 1, kc, ks, 0, 0)) else (if ((mm_put S 27 0 0) 27 0) ≤ 0 then mm_bd (call 121 [.inr 27] (mm_put S 27 0 0)) kc ks (fun S3 c3 t3 a3 => mm_bd (call 144 [.inr 27, .inl ((-1)), .inl ((-1))] (mm_put (mm_put (mm_put S3 27 24 0) 27 25 0) 27 22 0)) c3 t3 (fun S4 c4 t4 a4 => mm_E call pX8_compile 1 28 [some (.inr 27)] [] S4 c4 t4)) else some (mm_put S 27 0 0, kc, ks, 0, 0))) := by
  refine mm_E_eq [0, 28] 25 ?_
  generalize mm_E call pX8_compile 1 = k
  rfl
set_option maxRecDepth 100000 in
theorem eX8_compile_28 {call : Nat → List MV → Mem → Option Res} {S : Mem} {kc ks : Nat}  : mm_E call pX8_compile 1 28 [some (.inr 27)] [] S kc ks = (if (S 27 25) ≤ 0 then (if (S 27 22) = 0 then some (S, kc, ks, 0, S 27 24) else some (mm_put (mm_put S 27 24 ((-1))) 27 0 2, kc, ks, 0, 0)) else (if (S 27 22) = 0 then mm_arr (mm_put S 27 25 ((S 27 25) - 1)) 1 50 ((mm_put S 27 25 ((S 27 25) - 1)) 27 25) (fun q1 => mm_arr (mm_put S 27 25 ((S 27 25) - 1)) 1 51 ((mm_put S 27 25 ((S 27 25) - 1)) 27 25) (fun q2 => mm_bd (call 144 [.inr 27, .inl ((mm_put S 27 25 ((S 27 25) - 1)) 50 q1), .inl ((mm_put S 27 25 ((S 27 25) - 1)) 51 q2)] (mm_put S 27 25 ((S 27 25) - 1))) kc ks (fun S3 c3 t3 a3 => mm_E call pX8_compile 1 28 [some (.inr 27)] [] S3 c3 t3))) else (if (S 27 22) = 0 then some (S, kc, ks, 0, S 27 24) else some (mm_put (mm_put S 27 24 ((-1))) 27 0 2, kc, ks, 0, 0)))) := by
  refine mm_E_eq [0, 28] 25 ?_
  generalize mm_E call pX8_compile 1 = k
  rfl
set_option maxRecDepth 100000 in
theorem eX8_isNode_0 {call : Nat → List MV → Mem → Option Res} {S : Mem} {kc ks : Nat} {x1 : Int32} : mm_E call pX8_isNode 2 0 [some (.inr 27), some (.inl x1)] [] S kc ks = (if x1 < 0 then (if ((mm_put S 27 0 1) 27 0) = 0 then some (mm_put S 27 0 1, kc, ks, 0, 1) else some (mm_put S 27 0 1, kc, ks, 0, 0)) else (if (S 27 24) ≤ x1 then (if ((mm_put S 27 0 1) 27 0) = 0 then some (mm_put S 27 0 1, kc, ks, 0, 1) else some (mm_put S 27 0 1, kc, ks, 0, 0)) else (if ((mm_put S 27 0 0) 27 0) = 0 then some (mm_put S 27 0 0, kc, ks, 0, 1) else some (mm_put S 27 0 0, kc, ks, 0, 0)))) := by
  refine mm_E_eq [0] 16 ?_
  generalize mm_E call pX8_isNode 2 = k
  rfl
set_option maxRecDepth 100000 in
theorem eX8_branchOf_0 {call : Nat → List MV → Mem → Option Res} {S : Mem} {kc ks : Nat} {x1 : Int32} {x2 : Int32} : mm_E call pX8_branchOf 1 0 [some (.inr 27), some (.inl x1), some (.inl x2), none, none] [] S kc ks = mm_E call pX8_branchOf 1 6 [some (.inr 27), some (.inl x1), some (.inl x2), some (.inl 0), some (.inl (x1 + 1))] [] S kc ks := by
  refine mm_E_eq [0, 6] 6 ?_
  generalize mm_E call pX8_branchOf 1 = k
  rfl
set_option maxRecDepth 100000 in
theorem eX8_branchOf_6 {call : Nat → List MV → Mem → Option Res} {S : Mem} {kc ks : Nat} {x1 : Int32} {x2 : Int32} {x3 : Int32} {x4 : Int32} : mm_E call pX8_branchOf 1 6 [some (.inr 27), some (.inl x1), some (.inl x2), some (.inl x3), some (.inl x4)] [] S kc ks = (if (S 27 24) ≤ x4 then some (S, kc, ks, 0, (-1)) else mm_arr S 1 47 x4 (fun q1 => (if (S 47 q1) = x1 then (if x3 = x2 then some (S, kc, ks, 0, x4) else mm_E call pX8_branchOf 1 6 [some (.inr 27), some (.inl x1), some (.inl x2), some (.inl (x3 + 1)), some (.inl (x4 + 1))] [] S kc ks) else mm_E call pX8_branchOf 1 6 [some (.inr 27), some (.inl x1), some (.inl x2), some (.inl x3), some (.inl (x4 + 1))] [] S kc ks))) := by
  refine mm_E_eq [0, 6] 16 ?_
  generalize mm_E call pX8_branchOf 1 = k
  rfl
set_option maxRecDepth 100000 in
theorem eX8_missing_0 {call : Nat → List MV → Mem → Option Res} {S : Mem} {kc ks : Nat}  : mm_E call pX8_missing 1 0 [some (.inr 27), none, none] [] S kc ks = mm_E call pX8_missing 1 7 [some (.inr 27), some (.inl 0), some (.inl 0)] [] (mm_put S 27 0 0) kc ks := by
  refine mm_E_eq [0, 7] 7 ?_
  generalize mm_E call pX8_missing 1 = k
  rfl
set_option maxRecDepth 100000 in
theorem eX8_missing_7 {call : Nat → List MV → Mem → Option Res} {S : Mem} {kc ks : Nat} {x1 : Int32} {x2 : Int32} : mm_E call pX8_missing 1 7 [some (.inr 27), some (.inl x1), some (.inl x2)] [] S kc ks = (if (S 27 24) ≤ x2 then (if (S 27 24) = ((-1)) then some (S, kc, ks, 0, (-1)) else some (S, kc, ks, 0, x1)) else mm_arr S 1 42 x2 (fun q1 => (if (S 42 q1) = 0 then mm_E call pX8_missing 1 7 [some (.inr 27), some (.inl (x1 + 1)), some (.inl (x2 + 1))] [] S kc ks else mm_E call pX8_missing 1 7 [some (.inr 27), some (.inl (x1 + 0)), some (.inl (x2 + 1))] [] S kc ks))) := by
  refine mm_E_eq [0, 7] 16 ?_
  generalize mm_E call pX8_missing 1 = k
  rfl
set_option maxRecDepth 100000 in
theorem eX8_missingSign_0 {call : Nat → List MV → Mem → Option Res} {S : Mem} {kc ks : Nat} {x1 : Int32} {x2 : Int32} : mm_E call pX8_missingSign 1 0 [some (.inr 27), some (.inl x1), some (.inl x2), none, none, none] [] S kc ks = (if x1 < 0 then (if ((mm_put S 27 0 1) 27 0) ≤ 0 then mm_E call pX8_missingSign 1 20 [some (.inr 27), some (.inl x1), some (.inl x2), some (.inl 0), some (.inl x1), none] [] (mm_put S 27 0 1) kc ks else some (mm_put S 27 0 1, kc, ks, 0, 0)) else mm_bd (call 149 [.inr 27] S) kc ks (fun S1 c1 t1 a1 => (if a1 ≤ x1 then (if ((mm_put S1 27 0 1) 27 0) ≤ 0 then mm_E call pX8_missingSign 1 20 [some (.inr 27), some (.inl x1), some (.inl x2), some (.inl 0), some (.inl x1), none] [] (mm_put S1 27 0 1) c1 t1 else some (mm_put S1 27 0 1, c1, t1, 0, 0)) else (if ((mm_put S1 27 0 0) 27 0) ≤ 0 then mm_E call pX8_missingSign 1 20 [some (.inr 27), some (.inl x1), some (.inl x2), some (.inl 0), some (.inl x1), none] [] (mm_put S1 27 0 0) c1 t1 else some (mm_put S1 27 0 0, c1, t1, 0, 0))))) := by
  refine mm_E_eq [0, 20] 17 ?_
  generalize mm_E call pX8_missingSign 1 = k
  rfl
set_option maxRecDepth 100000 in
theorem eX8_missingSign_20 {call : Nat → List MV → Mem → Option Res} {S : Mem} {kc ks : Nat} {o1 : Option MV} {x2 : Int32} {x3 : Int32} {x4 : Int32} {o5 : Option MV} : mm_E call pX8_missingSign 1 20 [some (.inr 27), o1, some (.inl x2), some (.inl x3), some (.inl x4), o5] [] S kc ks = mm_arr S 1 42 x3 (fun q1 => (if (S 42 q1) = 0 then (if x4 ≤ 0 then mm_bd (call 151 [.inr 27, .inl x3] S) kc ks (fun S2 c2 t2 a2 => (if x2 < 0 then some (S2, c2, t2, 0, (-3)) else (if a2 ≤ x2 then some (S2, c2, t2, 0, (-3)) else mm_arr S2 1 53 x2 (fun q3 => some (S2, c2, t2, 0, S2 53 q3))))) else mm_arr S 1 42 x3 (fun q4 => (if (S 42 q4) = 0 then mm_E call pX8_missingSign 1 20 [some (.inr 27), o1, some (.inl x2), some (.inl (x3 + 1)), some (.inl (x4 - 1)), o5] [] S kc ks else mm_E call pX8_missingSign 1 20 [some (.inr 27), o1, some (.inl x2), some (.inl (x3 + 1)), some (.inl (x4 - 0)), o5] [] S kc ks))) else mm_arr S 1 42 x3 (fun q5 => (if (S 42 q5) = 0 then mm_E call pX8_missingSign 1 20 [some (.inr 27), o1, some (.inl x2), some (.inl (x3 + 1)), some (.inl (x4 - 1)), o5] [] S kc ks else mm_E call pX8_missingSign 1 20 [some (.inr 27), o1, some (.inl x2), some (.inl (x3 + 1)), some (.inl (x4 - 0)), o5] [] S kc ks)))) := by
  refine mm_E_eq [0, 20] 22 ?_
  generalize mm_E call pX8_missingSign 1 = k
  rfl
set_option maxRecDepth 100000 in
theorem eX8_tell_0 {call : Nat → List MV → Mem → Option Res} {S : Mem} {kc ks : Nat} {x1 : Int32} : mm_E call pX8_tell 1 0 [some (.inr 27), some (.inl x1), none, none, none, none, none, none, none, none] [] S kc ks = mm_E call pX8_tell 1 4 [some (.inr 27), some (.inl x1), some (.inl 0), some (.inl x1), none, none, none, none, none, none] [] S kc ks := by
  refine mm_E_eq [0, 4, 27, 42, 57, 95, 117] 4 ?_
  generalize mm_E call pX8_tell 1 = k
  rfl
set_option maxRecDepth 100000 in
theorem eX8_tell_4 {call : Nat → List MV → Mem → Option Res} {S : Mem} {kc ks : Nat} {o1 : Option MV} {x2 : Int32} {x3 : Int32} {o4 : Option MV} {o5 : Option MV} {o6 : Option MV} {o7 : Option MV} {o8 : Option MV} {o9 : Option MV} : mm_E call pX8_tell 1 4 [some (.inr 27), o1, some (.inl x2), some (.inl x3), o4, o5, o6, o7, o8, o9] [] S kc ks = mm_arr S 1 47 x3 (fun q1 => (if (S 47 q1) = ((-1)) then mm_E call pX8_tell 1 27 [some (.inr 27), o1, some (.inl x2), some (.inl (S 27 6)), some (.inl 0), o5, o6, o7, o8, o9] [] S kc ks else mm_arr S 1 52 x2 (fun q2 => mm_arr (mm_put S 52 q2 x3) 1 47 x3 (fun q3 => mm_E call pX8_tell 1 4 [some (.inr 27), o1, some (.inl (x2 + 1)), some (.inl ((mm_put S 52 q2 x3) 47 q3)), o4, o5, o6, o7, o8, o9] [] (mm_put S 52 q2 x3) kc ks)))) := by
  refine mm_E_eq [0, 4, 27, 42, 57, 95, 117] 18 ?_
  generalize mm_E call pX8_tell 1 = k
  rfl
set_option maxRecDepth 100000 in
theorem eX8_tell_27 {call : Nat → List MV → Mem → Option Res} {S : Mem} {kc ks : Nat} {o1 : Option MV} {x2 : Int32} {x3 : Int32} {x4 : Int32} {o5 : Option MV} {o6 : Option MV} {o7 : Option MV} {o8 : Option MV} {o9 : Option MV} : mm_E call pX8_tell 1 27 [some (.inr 27), o1, some (.inl x2), some (.inl x3), some (.inl x4), o5, o6, o7, o8, o9] [] S kc ks = (if (S 27 6) ≤ x4 then mm_E call pX8_tell 1 42 [some (.inr 27), o1, some (.inl x2), some (.inl x3), some (.inl (x2 - 1)), o5, o6, o7, o8, o9] [] S kc ks else mm_arr S 1 53 x4 (fun q1 => mm_E call pX8_tell 1 27 [some (.inr 27), o1, some (.inl x2), some (.inl x3), some (.inl (x4 + 1)), o5, o6, o7, o8, o9] [] (mm_put S 53 q1 ((-1))) kc ks)) := by
  refine mm_E_eq [0, 4, 27, 42, 57, 95, 117] 11 ?_
  generalize mm_E call pX8_tell 1 = k
  rfl
set_option maxRecDepth 100000 in
theorem eX8_tell_42 {call : Nat → List MV → Mem → Option Res} {S : Mem} {kc ks : Nat} {o1 : Option MV} {o2 : Option MV} {x3 : Int32} {x4 : Int32} {o5 : Option MV} {o6 : Option MV} {o7 : Option MV} {o8 : Option MV} {o9 : Option MV} : mm_E call pX8_tell 1 42 [some (.inr 27), o1, o2, some (.inl x3), some (.inl x4), o5, o6, o7, o8, o9] [] S kc ks = (if x4 < 0 then some (S, kc, ks, 0, x3) else mm_arr S 1 52 x4 (fun q1 => mm_arr S 1 47 (S 52 q1) (fun q2 => mm_arr S 1 43 (S 47 q2) (fun q3 => mm_E call pX8_tell 1 57 [some (.inr 27), o1, o2, some (.inl x3), some (.inl x4), some (.inl (S 43 q3)), some (.inl 0), o7, o8, o9] [] S kc ks)))) := by
  refine mm_E_eq [0, 4, 27, 42, 57, 95, 117] 15 ?_
  generalize mm_E call pX8_tell 1 = k
  rfl
set_option maxRecDepth 100000 in
theorem eX8_tell_57 {call : Nat → List MV → Mem → Option Res} {S : Mem} {kc ks : Nat} {o1 : Option MV} {o2 : Option MV} {x3 : Int32} {x4 : Int32} {x5 : Int32} {x6 : Int32} {o7 : Option MV} {o8 : Option MV} {o9 : Option MV} : mm_E call pX8_tell 1 57 [some (.inr 27), o1, o2, some (.inl x3), some (.inl x4), some (.inl x5), some (.inl x6), o7, o8, o9] [] S kc ks = mm_arr S 1 53 x6 (fun q1 => (if (S 53 q1) = ((-1)) then (if x5 ≤ 0 then mm_arr S 1 52 x4 (fun q2 => mm_arr S 1 48 (S 52 q2) (fun q3 => mm_bd (call 117 [.inr 27, .inl (S 48 q3)] S) kc ks (fun S4 c4 t4 a4 => mm_E call pX8_tell 1 95 [some (.inr 27), o1, o2, some (.inl x3), some (.inl x4), some (.inl x5), some (.inl x6), some (.inl (S 48 q3)), some (.inl a4), some (.inl (x3 - 1))] [] S4 c4 t4))) else mm_arr S 1 53 x6 (fun q5 => (if (S 53 q5) = ((-1)) then mm_E call pX8_tell 1 57 [some (.inr 27), o1, o2, some (.inl x3), some (.inl x4), some (.inl (x5 - 1)), some (.inl (x6 + 1)), o7, o8, o9] [] S kc ks else mm_E call pX8_tell 1 57 [some (.inr 27), o1, o2, some (.inl x3), some (.inl x4), some (.inl (x5 - 0)), some (.inl (x6 + 1)), o7, o8, o9] [] S kc ks))) else mm_arr S 1 53 x6 (fun q6 => (if (S 53 q6) = ((-1)) then mm_E call pX8_tell 1 57 [some (.inr 27), o1, o2, some (.inl x3), some (.inl x4), some (.inl (x5 - 1)), some (.inl (x6 + 1)), o7, o8, o9] [] S kc ks else mm_E call pX8_tell 1 57 [some (.inr 27), o1, o2, some (.inl x3), some (.inl x4), some (.inl (x5 - 0)), some (.inl (x6 + 1)), o7, o8, o9] [] S kc ks)))) := by
  refine mm_E_eq [0, 4, 27, 42, 57, 95, 117] 24 ?_
  generalize mm_E call pX8_tell 1 = k
  rfl
set_option maxRecDepth 100000 in
theorem eX8_tell_95 {call : Nat → List MV → Mem → Option Res} {S : Mem} {kc ks : Nat} {o1 : Option MV} {o2 : Option MV} {x3 : Int32} {x4 : Int32} {o5 : Option MV} {x6 : Int32} {x7 : Int32} {x8 : Int32} {x9 : Int32} : mm_E call pX8_tell 1 95 [some (.inr 27), o1, o2, some (.inl x3), some (.inl x4), o5, some (.inl x6), some (.inl x7), some (.inl x8), some (.inl x9)] [] S kc ks = (if x9 ≤ x6 then mm_arr S 1 53 x6 (fun q1 => mm_E call pX8_tell 1 117 [some (.inr 27), o1, o2, some (.inl x3), some (.inl x4), o5, some (.inl x6), some (.inl x7), some (.inl x8), some (.inl 1)] [] (mm_put S 53 q1 x7) kc ks) else mm_arr S 1 53 x9 (fun q2 => mm_arr S 1 53 (x9 + x8) (fun q3 => mm_E call pX8_tell 1 95 [some (.inr 27), o1, o2, some (.inl x3), some (.inl x4), o5, some (.inl x6), some (.inl x7), some (.inl x8), some (.inl (x9 + (-1)))] [] (mm_put S 53 q3 (S 53 q2)) kc ks))) := by
  refine mm_E_eq [0, 4, 27, 42, 57, 95, 117] 15 ?_
  generalize mm_E call pX8_tell 1 = k
  rfl
set_option maxRecDepth 100000 in
theorem eX8_tell_117 {call : Nat → List MV → Mem → Option Res} {S : Mem} {kc ks : Nat} {o1 : Option MV} {o2 : Option MV} {x3 : Int32} {x4 : Int32} {o5 : Option MV} {x6 : Int32} {o7 : Option MV} {x8 : Int32} {x9 : Int32} : mm_E call pX8_tell 1 117 [some (.inr 27), o1, o2, some (.inl x3), some (.inl x4), o5, some (.inl x6), o7, some (.inl x8), some (.inl x9)] [] S kc ks = (if x8 < x9 then mm_E call pX8_tell 1 42 [some (.inr 27), o1, o2, some (.inl (x3 + x8)), some (.inl (x4 + (-1))), o5, some (.inl x6), o7, some (.inl x8), some (.inl x9)] [] S kc ks else mm_arr S 1 53 (x6 + x9) (fun q1 => mm_E call pX8_tell 1 117 [some (.inr 27), o1, o2, some (.inl x3), some (.inl x4), o5, some (.inl x6), o7, some (.inl x8), some (.inl (x9 + 1))] [] (mm_put S 53 q1 ((-1))) kc ks)) := by
  refine mm_E_eq [0, 4, 27, 42, 57, 95, 117] 12 ?_
  generalize mm_E call pX8_tell 1 = k
  rfl
set_option maxRecDepth 100000 in
theorem eX8_isIdle_0 {call : Nat → List MV → Mem → Option Res} {S : Mem} {kc ks : Nat} {x1 : Int32} : mm_E call pX8_isIdle 2 0 [some (.inr 27), some (.inl x1), none, none] [] S kc ks = (if x1 < 0 then (if ((mm_put S 27 0 1) 27 0) ≤ 0 then mm_E call pX8_isIdle 2 24 [some (.inr 27), some (.inl x1), some (.inl 1), some (.inl 0)] [] (mm_put S 27 0 1) kc ks else some (mm_put S 27 0 1, kc, ks, 0, 0)) else (if (S 27 7) ≤ x1 then (if ((mm_put S 27 0 1) 27 0) ≤ 0 then mm_E call pX8_isIdle 2 24 [some (.inr 27), some (.inl x1), some (.inl 1), some (.inl 0)] [] (mm_put S 27 0 1) kc ks else some (mm_put S 27 0 1, kc, ks, 0, 0)) else (if (S 27 24) = ((-1)) then (if ((mm_put S 27 0 1) 27 0) ≤ 0 then mm_E call pX8_isIdle 2 24 [some (.inr 27), some (.inl x1), some (.inl 1), some (.inl 0)] [] (mm_put S 27 0 1) kc ks else some (mm_put S 27 0 1, kc, ks, 0, 0)) else (if ((mm_put S 27 0 0) 27 0) ≤ 0 then mm_E call pX8_isIdle 2 24 [some (.inr 27), some (.inl x1), some (.inl 1), some (.inl 0)] [] (mm_put S 27 0 0) kc ks else some (mm_put S 27 0 0, kc, ks, 0, 0))))) := by
  refine mm_E_eq [0, 24] 21 ?_
  generalize mm_E call pX8_isIdle 2 = k
  rfl
set_option maxRecDepth 100000 in
theorem eX8_isIdle_24 {call : Nat → List MV → Mem → Option Res} {S : Mem} {kc ks : Nat} {x1 : Int32} {x2 : Int32} {x3 : Int32} : mm_E call pX8_isIdle 2 24 [some (.inr 27), some (.inl x1), some (.inl x2), some (.inl x3)] [] S kc ks = (if (S 27 24) ≤ x3 then (if x2 = 0 ∨ x2 = 1 then some (S, kc, ks, 0, x2) else none) else (if x2 = 0 then mm_E call pX8_isIdle 2 24 [some (.inr 27), some (.inl x1), some (.inl 0), some (.inl (x3 + 1))] [] S kc ks else mm_arr S 1 42 x3 (fun q1 => (if (S 42 q1) = 1 then mm_arr S 1 46 x3 (fun q2 => (if (S 46 q2) = x1 then mm_E call pX8_isIdle 2 24 [some (.inr 27), some (.inl x1), some (.inl 0), some (.inl (x3 + 1))] [] S kc ks else mm_E call pX8_isIdle 2 24 [some (.inr 27), some (.inl x1), some (.inl 1), some (.inl (x3 + 1))] [] S kc ks)) else mm_E call pX8_isIdle 2 24 [some (.inr 27), some (.inl x1), some (.inl 1), some (.inl (x3 + 1))] [] S kc ks)))) := by
  refine mm_E_eq [0, 24] 23 ?_
  generalize mm_E call pX8_isIdle 2 = k
  rfl
set_option maxRecDepth 100000 in
theorem eX8_tests_0 {call : Nat → List MV → Mem → Option Res} {S : Mem} {kc ks : Nat}  : mm_E call pX8_tests 1 0 [some (.inr 27), none, none, none, none, none, none, none, none, none, none] [] S kc ks = mm_bd (call 135 [.inr 27] S) kc ks (fun S1 c1 t1 a1 => (if a1 = 0 then some (S1, c1, t1, 0, 0) else (if (S1 27 24) = ((-1)) then some (mm_put S1 27 0 3, c1, t1, 0, 0) else mm_E call pX8_tests 1 25 [some (.inr 27), some (.inl 0), some (.inl 0), some (.inl (S1 27 6)), some (.inl 0), some (.inl 0), none, none, none, none, none] [] S1 c1 t1))) := by
  refine mm_E_eq [0, 25, 42, 72, 94, 119, 147] 18 ?_
  generalize mm_E call pX8_tests 1 = k
  rfl
set_option maxRecDepth 100000 in
theorem eX8_tests_25 {call : Nat → List MV → Mem → Option Res} {S : Mem} {kc ks : Nat} {x1 : Int32} {x2 : Int32} {x3 : Int32} {x4 : Int32} {x5 : Int32} {o6 : Option MV} {o7 : Option MV} {o8 : Option MV} {o9 : Option MV} {o10 : Option MV} : mm_E call pX8_tests 1 25 [some (.inr 27), some (.inl x1), some (.inl x2), some (.inl x3), some (.inl x4), some (.inl x5), o6, o7, o8, o9, o10] [] S kc ks = (if (S 27 6) ≤ x5 then mm_E call pX8_tests 1 42 [some (.inr 27), some (.inl x1), some (.inl x2), some (.inl x3), some (.inl x4), some (.inl x5), o6, o7, o8, o9, o10] [] S kc ks else mm_arr S 1 41 x5 (fun q1 => mm_bd (call 132 [.inr 27, .inr 35, .inl x4] (mm_put S 41 q1 x4)) kc ks (fun S2 c2 t2 a2 => mm_E call pX8_tests 1 25 [some (.inr 27), some (.inl x1), some (.inl x2), some (.inl x3), some (.inl a2), some (.inl (x5 + 1)), o6, o7, o8, o9, o10] [] S2 c2 t2))) := by
  refine mm_E_eq [0, 25, 42, 72, 94, 119, 147] 17 ?_
  generalize mm_E call pX8_tests 1 = k
  rfl
set_option maxRecDepth 100000 in
theorem eX8_tests_42 {call : Nat → List MV → Mem → Option Res} {S : Mem} {kc ks : Nat} {x1 : Int32} {x2 : Int32} {x3 : Int32} {o4 : Option MV} {o5 : Option MV} {o6 : Option MV} {o7 : Option MV} {o8 : Option MV} {o9 : Option MV} {o10 : Option MV} : mm_E call pX8_tests 1 42 [some (.inr 27), some (.inl x1), some (.inl x2), some (.inl x3), o4, o5, o6, o7, o8, o9, o10] [] S kc ks = mm_arr S 1 42 x1 (fun q1 => (if (S 42 q1) = 2 then mm_arr S 1 43 x1 (fun q2 => mm_arr S 1 41 (S 43 q2) (fun q3 => mm_arr S 1 35 (S 41 q3) (fun q4 => mm_bd (call 117 [.inr 27, .inl (S 35 q4)] S) kc ks (fun S5 c5 t5 a5 => mm_E call pX8_tests 1 72 [some (.inr 27), some (.inl x1), some (.inl (x2 + 1)), some (.inl x3), o4, some (.inl (S 43 q2)), some (.inl (S 41 q3)), some (.inl (S 35 q4)), some (.inl a5), some (.inl (x3 - 1)), o10] [] S5 c5 t5)))) else some (S, kc, ks, 0, x2))) := by
  refine mm_E_eq [0, 25, 42, 72, 94, 119, 147] 30 ?_
  generalize mm_E call pX8_tests 1 = k
  rfl
set_option maxRecDepth 100000 in
theorem eX8_tests_72 {call : Nat → List MV → Mem → Option Res} {S : Mem} {kc ks : Nat} {x1 : Int32} {x2 : Int32} {x3 : Int32} {o4 : Option MV} {x5 : Int32} {x6 : Int32} {x7 : Int32} {x8 : Int32} {x9 : Int32} {o10 : Option MV} : mm_E call pX8_tests 1 72 [some (.inr 27), some (.inl x1), some (.inl x2), some (.inl x3), o4, some (.inl x5), some (.inl x6), some (.inl x7), some (.inl x8), some (.inl x9), o10] [] S kc ks = (if x8 ≤ 1 then mm_E call pX8_tests 1 94 [some (.inr 27), some (.inl x1), some (.inl x2), some (.inl x3), o4, some (.inl x5), some (.inl x6), some (.inl x7), some (.inl x8), some (.inl x5), o10] [] S kc ks else (if x9 ≤ x5 then mm_E call pX8_tests 1 94 [some (.inr 27), some (.inl x1), some (.inl x2), some (.inl x3), o4, some (.inl x5), some (.inl x6), some (.inl x7), some (.inl x8), some (.inl x5), o10] [] S kc ks else mm_arr S 1 41 x9 (fun q1 => mm_arr S 1 41 ((x9 + x8) - 1) (fun q2 => mm_E call pX8_tests 1 72 [some (.inr 27), some (.inl x1), some (.inl x2), some (.inl x3), o4, some (.inl x5), some (.inl x6), some (.inl x7), some (.inl x8), some (.inl (x9 + (-1))), o10] [] (mm_put S 41 q2 (S 41 q1)) kc ks)))) := by
  refine mm_E_eq [0, 25, 42, 72, 94, 119, 147] 20 ?_
  generalize mm_E call pX8_tests 1 = k
  rfl
set_option maxRecDepth 100000 in
theorem eX8_tests_94 {call : Nat → List MV → Mem → Option Res} {S : Mem} {kc ks : Nat} {x1 : Int32} {x2 : Int32} {x3 : Int32} {o4 : Option MV} {x5 : Int32} {x6 : Int32} {x7 : Int32} {x8 : Int32} {x9 : Int32} {o10 : Option MV} : mm_E call pX8_tests 1 94 [some (.inr 27), some (.inl x1), some (.inl x2), some (.inl x3), o4, some (.inl x5), some (.inl x6), some (.inl x7), some (.inl x8), some (.inl x9), o10] [] S kc ks = (if x8 = 0 then (if x3 ≤ (x9 + 1) then mm_E call pX8_tests 1 119 [some (.inr 27), some (.inl x1), some (.inl x2), some (.inl x3), o4, some (.inl x5), some (.inl x6), some (.inl x7), some (.inl x8), some (.inl (x6 + 1)), some (.inl 0)] [] S kc ks else mm_arr S 1 41 (x9 + 1) (fun q1 => mm_arr S 1 41 x9 (fun q2 => mm_E call pX8_tests 1 94 [some (.inr 27), some (.inl x1), some (.inl x2), some (.inl x3), o4, some (.inl x5), some (.inl x6), some (.inl x7), some (.inl x8), some (.inl (x9 + 1)), o10] [] (mm_put S 41 q2 (S 41 q1)) kc ks))) else mm_E call pX8_tests 1 119 [some (.inr 27), some (.inl x1), some (.inl x2), some (.inl x3), o4, some (.inl x5), some (.inl x6), some (.inl x7), some (.inl x8), some (.inl (x6 + 1)), some (.inl 0)] [] S kc ks) := by
  refine mm_E_eq [0, 25, 42, 72, 94, 119, 147] 19 ?_
  generalize mm_E call pX8_tests 1 = k
  rfl
set_option maxRecDepth 100000 in
theorem eX8_tests_119 {call : Nat → List MV → Mem → Option Res} {S : Mem} {kc ks : Nat} {x1 : Int32} {x2 : Int32} {x3 : Int32} {o4 : Option MV} {x5 : Int32} {o6 : Option MV} {x7 : Int32} {x8 : Int32} {x9 : Int32} {x10 : Int32} : mm_E call pX8_tests 1 119 [some (.inr 27), some (.inl x1), some (.inl x2), some (.inl x3), o4, some (.inl x5), o6, some (.inl x7), some (.inl x8), some (.inl x9), some (.inl x10)] [] S kc ks = (if x8 ≤ x10 then mm_E call pX8_tests 1 147 [some (.inr 27), some (.inl x1), some (.inl x2), some (.inl (x3 + (x8 - 1))), o4, some (.inl x5), o6, some (.inl x7), some (.inl x8), some (.inl x9), some (.inl (x1 + 1))] [] S kc ks else mm_arr S 1 41 (x5 + x10) (fun q1 => mm_bd (call 132 [.inr 27, .inr 35, .inl x9] (mm_put S 41 q1 x9)) kc ks (fun S2 c2 t2 a2 => mm_E call pX8_tests 1 119 [some (.inr 27), some (.inl x1), some (.inl x2), some (.inl x3), o4, some (.inl x5), o6, some (.inl x7), some (.inl x8), some (.inl a2), some (.inl (x10 + 1))] [] S2 c2 t2))) := by
  refine mm_E_eq [0, 25, 42, 72, 94, 119, 147] 18 ?_
  generalize mm_E call pX8_tests 1 = k
  rfl
set_option maxRecDepth 100000 in
theorem eX8_tests_147 {call : Nat → List MV → Mem → Option Res} {S : Mem} {kc ks : Nat} {x1 : Int32} {x2 : Int32} {x3 : Int32} {o4 : Option MV} {o5 : Option MV} {o6 : Option MV} {x7 : Int32} {o8 : Option MV} {o9 : Option MV} {x10 : Int32} : mm_E call pX8_tests 1 147 [some (.inr 27), some (.inl x1), some (.inl x2), some (.inl x3), o4, o5, o6, some (.inl x7), o8, o9, some (.inl x10)] [] S kc ks = mm_arr S 1 47 x10 (fun q1 => (if (S 47 q1) = x1 then mm_arr S 1 48 x10 (fun q2 => (if (S 48 q2) = x7 then mm_E call pX8_tests 1 42 [some (.inr 27), some (.inl x10), some (.inl x2), some (.inl x3), o4, o5, o6, some (.inl x7), o8, o9, some (.inl x10)] [] S kc ks else mm_E call pX8_tests 1 147 [some (.inr 27), some (.inl x1), some (.inl x2), some (.inl x3), o4, o5, o6, some (.inl x7), o8, o9, some (.inl (x10 + 1))] [] S kc ks)) else mm_E call pX8_tests 1 147 [some (.inr 27), some (.inl x1), some (.inl x2), some (.inl x3), o4, o5, o6, some (.inl x7), o8, o9, some (.inl (x10 + 1))] [] S kc ks)) := by
  refine mm_E_eq [0, 25, 42, 72, 94, 119, 147] 15 ?_
  generalize mm_E call pX8_tests 1 = k
  rfl
end
section
set_option maxRecDepth 100000 in
theorem dX0_forget {d : Nat} {S : Mem}  : mm_runD (d + 1) 0 [.inr 23] S = mm_E (mm_runD d) pX0_forget 0 0 [some (.inr 23)] [] S 0 0 := mm_runD_eq (q := (0, yX0_forget, cX0_forget, 1, 0, 0, pX0_forget, qX0_forget)) (by decide) rfl rfl rfl rfl
set_option maxRecDepth 100000 in
theorem dX0_shown {d : Nat} {S : Mem}  : mm_runD (d + 1) 1 [.inr 23] S = mm_E (mm_runD d) pX0_shown 1 0 [some (.inr 23)] [] S 0 0 := mm_runD_eq (q := (0, yX0_shown, cX0_shown, 1, 1, 0, pX0_shown, qX0_shown)) (by decide) rfl rfl rfl rfl
set_option maxRecDepth 100000 in
theorem dX0_show {d : Nat} {S : Mem} {x1 : Int32} {x2 : Int32} : mm_runD (d + 1) 2 [.inr 23, .inl x1, .inl x2] S = mm_E (mm_runD d) pX0_show 0 0 [some (.inr 23), some (.inl x1), some (.inl x2), none, none, none, none] [] S 0 0 := mm_runD_eq (q := (0, yX0_show, cX0_show, 7, 0, 2, pX0_show, qX0_show)) (by decide) rfl rfl rfl rfl
set_option maxRecDepth 100000 in
theorem dX0_signAt {d : Nat} {S : Mem} {x1 : Int32} : mm_runD (d + 1) 3 [.inr 23, .inl x1] S = mm_E (mm_runD d) pX0_signAt 1 0 [some (.inr 23), some (.inl x1)] [] S 0 0 := mm_runD_eq (q := (0, yX0_signAt, cX0_signAt, 2, 1, 1, pX0_signAt, qX0_signAt)) (by decide) rfl rfl rfl rfl
set_option maxRecDepth 100000 in
theorem dX0_putFound {d : Nat} {S : Mem} {x1 : Int32} {x2 : Int32} : mm_runD (d + 1) 4 [.inr 23, .inl x1, .inl x2] S = mm_E (mm_runD d) pX0_putFound 0 0 [some (.inr 23), some (.inl x1), some (.inl x2), none, none, none] [] S 0 0 := mm_runD_eq (q := (0, yX0_putFound, cX0_putFound, 6, 0, 2, pX0_putFound, qX0_putFound)) (by decide) rfl rfl rfl rfl
set_option maxRecDepth 100000 in
theorem dX0_anyOf {d : Nat} {S : Mem} {x1 : Int32} : mm_runD (d + 1) 5 [.inr 23, .inl x1] S = mm_E (mm_runD d) pX0_anyOf 1 0 [some (.inr 23), some (.inl x1), none, none] [] S 0 0 := mm_runD_eq (q := (0, yX0_anyOf, cX0_anyOf, 4, 1, 1, pX0_anyOf, qX0_anyOf)) (by decide) rfl rfl rfl rfl
set_option maxRecDepth 100000 in
theorem dX1_begin_11 {d : Nat} {S : Mem} {x2 : Int32} : mm_runD (d + 1) 6 [.inr 11, .inr 7, .inl x2] S = mm_E (mm_runD d) pX1_begin 0 0 [some (.inr 11), some (.inr 7), some (.inl x2), none] [] S 0 0 := mm_runD_eq (q := (1, yX1_begin, cX1_begin, 4, 0, 2, pX1_begin, qX1_begin)) (by decide) rfl rfl rfl rfl
set_option maxRecDepth 100000 in
theorem dX1_begin_15 {d : Nat} {S : Mem} {x2 : Int32} : mm_runD (d + 1) 6 [.inr 15, .inr 7, .inl x2] S = mm_E (mm_runD d) pX1_begin 0 0 [some (.inr 15), some (.inr 7), some (.inl x2), none] [] S 0 0 := mm_runD_eq (q := (1, yX1_begin, cX1_begin, 4, 0, 2, pX1_begin, qX1_begin)) (by decide) rfl rfl rfl rfl
set_option maxRecDepth 100000 in
theorem dX1_count_11 {d : Nat} {S : Mem}  : mm_runD (d + 1) 7 [.inr 11] S = mm_E (mm_runD d) pX1_count 1 0 [some (.inr 11)] [] S 0 0 := mm_runD_eq (q := (1, yX1_count, cX1_count, 1, 1, 0, pX1_count, qX1_count)) (by decide) rfl rfl rfl rfl
set_option maxRecDepth 100000 in
theorem dX1_count_15 {d : Nat} {S : Mem}  : mm_runD (d + 1) 7 [.inr 15] S = mm_E (mm_runD d) pX1_count 1 0 [some (.inr 15)] [] S 0 0 := mm_runD_eq (q := (1, yX1_count, cX1_count, 1, 1, 0, pX1_count, qX1_count)) (by decide) rfl rfl rfl rfl
set_option maxRecDepth 100000 in
theorem dX1_isFull_11 {d : Nat} {S : Mem}  : mm_runD (d + 1) 8 [.inr 11] S = mm_E (mm_runD d) pX1_isFull 2 0 [some (.inr 11)] [] S 0 0 := mm_runD_eq (q := (1, yX1_isFull, cX1_isFull, 1, 2, 0, pX1_isFull, qX1_isFull)) (by decide) rfl rfl rfl rfl
set_option maxRecDepth 100000 in
theorem dX1_isFull_15 {d : Nat} {S : Mem}  : mm_runD (d + 1) 8 [.inr 15] S = mm_E (mm_runD d) pX1_isFull 2 0 [some (.inr 15)] [] S 0 0 := mm_runD_eq (q := (1, yX1_isFull, cX1_isFull, 1, 2, 0, pX1_isFull, qX1_isFull)) (by decide) rfl rfl rfl rfl
set_option maxRecDepth 100000 in
theorem dX1_asks_11 {d : Nat} {S : Mem}  : mm_runD (d + 1) 9 [.inr 11] S = mm_E (mm_runD d) pX1_asks 2 0 [some (.inr 11)] [] S 0 0 := mm_runD_eq (q := (1, yX1_asks, cX1_asks, 1, 2, 0, pX1_asks, qX1_asks)) (by decide) rfl rfl rfl rfl
set_option maxRecDepth 100000 in
theorem dX1_asks_15 {d : Nat} {S : Mem}  : mm_runD (d + 1) 9 [.inr 15] S = mm_E (mm_runD d) pX1_asks 2 0 [some (.inr 15)] [] S 0 0 := mm_runD_eq (q := (1, yX1_asks, cX1_asks, 1, 2, 0, pX1_asks, qX1_asks)) (by decide) rfl rfl rfl rfl
set_option maxRecDepth 100000 in
theorem dX1_takesMaker_11 {d : Nat} {S : Mem} {x1 : Int32} : mm_runD (d + 1) 10 [.inr 11, .inl x1] S = mm_E (mm_runD d) pX1_takesMaker 2 0 [some (.inr 11), some (.inl x1)] [] S 0 0 := mm_runD_eq (q := (1, yX1_takesMaker, cX1_takesMaker, 2, 2, 1, pX1_takesMaker, qX1_takesMaker)) (by decide) rfl rfl rfl rfl
set_option maxRecDepth 100000 in
theorem dX1_takesMaker_15 {d : Nat} {S : Mem} {x1 : Int32} : mm_runD (d + 1) 10 [.inr 15, .inl x1] S = mm_E (mm_runD d) pX1_takesMaker 2 0 [some (.inr 15), some (.inl x1)] [] S 0 0 := mm_runD_eq (q := (1, yX1_takesMaker, cX1_takesMaker, 2, 2, 1, pX1_takesMaker, qX1_takesMaker)) (by decide) rfl rfl rfl rfl
set_option maxRecDepth 100000 in
theorem dX1_put_11 {d : Nat} {S : Mem} {x1 : Int32} : mm_runD (d + 1) 11 [.inr 11, .inl x1] S = mm_E (mm_runD d) pX1_put 1 0 [some (.inr 11), some (.inl x1), none, none] [] S 0 0 := mm_runD_eq (q := (1, yX1_put, cX1_put, 4, 1, 1, pX1_put, qX1_put)) (by decide) rfl rfl rfl rfl
set_option maxRecDepth 100000 in
theorem dX1_put_15 {d : Nat} {S : Mem} {x1 : Int32} : mm_runD (d + 1) 11 [.inr 15, .inl x1] S = mm_E (mm_runD d) pX1_put 1 0 [some (.inr 15), some (.inl x1), none, none] [] S 0 0 := mm_runD_eq (q := (1, yX1_put, cX1_put, 4, 1, 1, pX1_put, qX1_put)) (by decide) rfl rfl rfl rfl
set_option maxRecDepth 100000 in
theorem dX1_signAt_11 {d : Nat} {S : Mem} {x1 : Int32} : mm_runD (d + 1) 12 [.inr 11, .inl x1] S = mm_E (mm_runD d) pX1_signAt 1 0 [some (.inr 11), some (.inl x1)] [] S 0 0 := mm_runD_eq (q := (1, yX1_signAt, cX1_signAt, 2, 1, 1, pX1_signAt, qX1_signAt)) (by decide) rfl rfl rfl rfl
set_option maxRecDepth 100000 in
theorem dX1_signAt_15 {d : Nat} {S : Mem} {x1 : Int32} : mm_runD (d + 1) 12 [.inr 15, .inl x1] S = mm_E (mm_runD d) pX1_signAt 1 0 [some (.inr 15), some (.inl x1)] [] S 0 0 := mm_runD_eq (q := (1, yX1_signAt, cX1_signAt, 2, 1, 1, pX1_signAt, qX1_signAt)) (by decide) rfl rfl rfl rfl
set_option maxRecDepth 100000 in
theorem dX1_endAt_11 {d : Nat} {S : Mem} {x1 : Int32} : mm_runD (d + 1) 13 [.inr 11, .inl x1] S = mm_E (mm_runD d) pX1_endAt 1 0 [some (.inr 11), some (.inl x1)] [] S 0 0 := mm_runD_eq (q := (1, yX1_endAt, cX1_endAt, 2, 1, 1, pX1_endAt, qX1_endAt)) (by decide) rfl rfl rfl rfl
set_option maxRecDepth 100000 in
theorem dX1_endAt_15 {d : Nat} {S : Mem} {x1 : Int32} : mm_runD (d + 1) 13 [.inr 15, .inl x1] S = mm_E (mm_runD d) pX1_endAt 1 0 [some (.inr 15), some (.inl x1)] [] S 0 0 := mm_runD_eq (q := (1, yX1_endAt, cX1_endAt, 2, 1, 1, pX1_endAt, qX1_endAt)) (by decide) rfl rfl rfl rfl
set_option maxRecDepth 100000 in
theorem dX1_findEnds_11 {d : Nat} {S : Mem}  : mm_runD (d + 1) 14 [.inr 11] S = mm_E (mm_runD d) pX1_findEnds 0 0 [some (.inr 11), none, none, none, none, none] [] S 0 0 := mm_runD_eq (q := (1, yX1_findEnds, cX1_findEnds, 6, 0, 0, pX1_findEnds, qX1_findEnds)) (by decide) rfl rfl rfl rfl
set_option maxRecDepth 100000 in
theorem dX1_findEnds_15 {d : Nat} {S : Mem}  : mm_runD (d + 1) 14 [.inr 15] S = mm_E (mm_runD d) pX1_findEnds 0 0 [some (.inr 15), none, none, none, none, none] [] S 0 0 := mm_runD_eq (q := (1, yX1_findEnds, cX1_findEnds, 6, 0, 0, pX1_findEnds, qX1_findEnds)) (by decide) rfl rfl rfl rfl
set_option maxRecDepth 100000 in
theorem dX1_nextAsked_11 {d : Nat} {S : Mem}  : mm_runD (d + 1) 15 [.inr 11] S = mm_E (mm_runD d) pX1_nextAsked 1 0 [some (.inr 11)] [] S 0 0 := mm_runD_eq (q := (1, yX1_nextAsked, cX1_nextAsked, 1, 1, 0, pX1_nextAsked, qX1_nextAsked)) (by decide) rfl rfl rfl rfl
set_option maxRecDepth 100000 in
theorem dX1_nextAsked_15 {d : Nat} {S : Mem}  : mm_runD (d + 1) 15 [.inr 15] S = mm_E (mm_runD d) pX1_nextAsked 1 0 [some (.inr 15)] [] S 0 0 := mm_runD_eq (q := (1, yX1_nextAsked, cX1_nextAsked, 1, 1, 0, pX1_nextAsked, qX1_nextAsked)) (by decide) rfl rfl rfl rfl
set_option maxRecDepth 100000 in
theorem dX1_ask_11 {d : Nat} {S : Mem} {x1 : Int32} : mm_runD (d + 1) 16 [.inr 11, .inl x1] S = mm_E (mm_runD d) pX1_ask 0 0 [some (.inr 11), some (.inl x1)] [] S 0 0 := mm_runD_eq (q := (1, yX1_ask, cX1_ask, 2, 0, 1, pX1_ask, qX1_ask)) (by decide) rfl rfl rfl rfl
set_option maxRecDepth 100000 in
theorem dX1_ask_15 {d : Nat} {S : Mem} {x1 : Int32} : mm_runD (d + 1) 16 [.inr 15, .inl x1] S = mm_E (mm_runD d) pX1_ask 0 0 [some (.inr 15), some (.inl x1)] [] S 0 0 := mm_runD_eq (q := (1, yX1_ask, cX1_ask, 2, 0, 1, pX1_ask, qX1_ask)) (by decide) rfl rfl rfl rfl
set_option maxRecDepth 100000 in
theorem dX2_typeCount {d : Nat} {S : Mem}  : mm_runD (d + 1) 17 [.inr 1] S = mm_E (mm_runD d) pX2_typeCount 1 0 [some (.inr 1)] [] S 0 0 := mm_runD_eq (q := (2, yX2_typeCount, cX2_typeCount, 1, 1, 0, pX2_typeCount, qX2_typeCount)) (by decide) rfl rfl rfl rfl
set_option maxRecDepth 100000 in
theorem dX2_makerCount {d : Nat} {S : Mem}  : mm_runD (d + 1) 18 [.inr 1] S = mm_E (mm_runD d) pX2_makerCount 1 0 [some (.inr 1)] [] S 0 0 := mm_runD_eq (q := (2, yX2_makerCount, cX2_makerCount, 1, 1, 0, pX2_makerCount, qX2_makerCount)) (by decide) rfl rfl rfl rfl
set_option maxRecDepth 100000 in
theorem dX2_hasType {d : Nat} {S : Mem} {x1 : Int32} : mm_runD (d + 1) 19 [.inr 1, .inl x1] S = mm_E (mm_runD d) pX2_hasType 2 0 [some (.inr 1), some (.inl x1)] [] S 0 0 := mm_runD_eq (q := (2, yX2_hasType, cX2_hasType, 2, 2, 1, pX2_hasType, qX2_hasType)) (by decide) rfl rfl rfl rfl
set_option maxRecDepth 100000 in
theorem dX2_hasMaker {d : Nat} {S : Mem} {x1 : Int32} : mm_runD (d + 1) 20 [.inr 1, .inl x1] S = mm_E (mm_runD d) pX2_hasMaker 2 0 [some (.inr 1), some (.inl x1)] [] S 0 0 := mm_runD_eq (q := (2, yX2_hasMaker, cX2_hasMaker, 2, 2, 1, pX2_hasMaker, qX2_hasMaker)) (by decide) rfl rfl rfl rfl
set_option maxRecDepth 100000 in
theorem dX2_hasRoomForMaker {d : Nat} {S : Mem} {x1 : Int32} : mm_runD (d + 1) 21 [.inr 1, .inl x1] S = mm_E (mm_runD d) pX2_hasRoomForMaker 2 0 [some (.inr 1), some (.inl x1)] [] S 0 0 := mm_runD_eq (q := (2, yX2_hasRoomForMaker, cX2_hasRoomForMaker, 2, 2, 1, pX2_hasRoomForMaker, qX2_hasRoomForMaker)) (by decide) rfl rfl rfl rfl
set_option maxRecDepth 100000 in
theorem dX2_hasValue {d : Nat} {S : Mem} {x1 : Int32} : mm_runD (d + 1) 22 [.inr 1, .inl x1] S = mm_E (mm_runD d) pX2_hasValue 2 0 [some (.inr 1), some (.inl x1)] [] S 0 0 := mm_runD_eq (q := (2, yX2_hasValue, cX2_hasValue, 2, 2, 1, pX2_hasValue, qX2_hasValue)) (by decide) rfl rfl rfl rfl
set_option maxRecDepth 100000 in
theorem dX2_typeOf {d : Nat} {S : Mem} {x1 : Int32} : mm_runD (d + 1) 23 [.inr 1, .inl x1] S = mm_E (mm_runD d) pX2_typeOf 1 0 [some (.inr 1), some (.inl x1)] [] S 0 0 := mm_runD_eq (q := (2, yX2_typeOf, cX2_typeOf, 2, 1, 1, pX2_typeOf, qX2_typeOf)) (by decide) rfl rfl rfl rfl
set_option maxRecDepth 100000 in
theorem dX2_fieldCount {d : Nat} {S : Mem} {x1 : Int32} : mm_runD (d + 1) 24 [.inr 1, .inl x1] S = mm_E (mm_runD d) pX2_fieldCount 1 0 [some (.inr 1), some (.inl x1)] [] S 0 0 := mm_runD_eq (q := (2, yX2_fieldCount, cX2_fieldCount, 2, 1, 1, pX2_fieldCount, qX2_fieldCount)) (by decide) rfl rfl rfl rfl
set_option maxRecDepth 100000 in
theorem dX2_fieldType {d : Nat} {S : Mem} {x1 : Int32} {x2 : Int32} : mm_runD (d + 1) 25 [.inr 1, .inl x1, .inl x2] S = mm_E (mm_runD d) pX2_fieldType 1 0 [some (.inr 1), some (.inl x1), some (.inl x2), none] [] S 0 0 := mm_runD_eq (q := (2, yX2_fieldType, cX2_fieldType, 4, 1, 2, pX2_fieldType, qX2_fieldType)) (by decide) rfl rfl rfl rfl
set_option maxRecDepth 100000 in
theorem dX2_isDead {d : Nat} {S : Mem} {x1 : Int32} : mm_runD (d + 1) 26 [.inr 1, .inl x1] S = mm_E (mm_runD d) pX2_isDead 2 0 [some (.inr 1), some (.inl x1), none] [] S 0 0 := mm_runD_eq (q := (2, yX2_isDead, cX2_isDead, 3, 2, 1, pX2_isDead, qX2_isDead)) (by decide) rfl rfl rfl rfl
set_option maxRecDepth 100000 in
theorem dX2_addType {d : Nat} {S : Mem}  : mm_runD (d + 1) 27 [.inr 1] S = mm_E (mm_runD d) pX2_addType 1 0 [some (.inr 1), none] [] S 0 0 := mm_runD_eq (q := (2, yX2_addType, cX2_addType, 2, 1, 0, pX2_addType, qX2_addType)) (by decide) rfl rfl rfl rfl
set_option maxRecDepth 100000 in
theorem dX2_addMaker {d : Nat} {S : Mem} {x1 : Int32} {x2 : Int32} {x3 : Int32} {x4 : Int32} {x5 : Int32} : mm_runD (d + 1) 28 [.inr 1, .inl x1, .inl x2, .inl x3, .inl x4, .inl x5] S = mm_E (mm_runD d) pX2_addMaker 1 0 [some (.inr 1), some (.inl x1), some (.inl x2), some (.inl x3), some (.inl x4), some (.inl x5), none] [] S 0 0 := mm_runD_eq (q := (2, yX2_addMaker, cX2_addMaker, 7, 1, 5, pX2_addMaker, qX2_addMaker)) (by decide) rfl rfl rfl rfl
set_option maxRecDepth 100000 in
theorem dX2_findValued {d : Nat} {S : Mem}  : mm_runD (d + 1) 29 [.inr 1] S = mm_E (mm_runD d) pX2_findValued 0 0 [some (.inr 1), none, none, none, none] [] S 0 0 := mm_runD_eq (q := (2, yX2_findValued, cX2_findValued, 5, 0, 0, pX2_findValued, qX2_findValued)) (by decide) rfl rfl rfl rfl
set_option maxRecDepth 100000 in
theorem dX3_clear {d : Nat} {S : Mem}  : mm_runD (d + 1) 30 [.inr 8] S = mm_E (mm_runD d) pX3_clear 0 0 [some (.inr 8)] [] S 0 0 := mm_runD_eq (q := (3, yX3_clear, cX3_clear, 1, 0, 0, pX3_clear, qX3_clear)) (by decide) rfl rfl rfl rfl
set_option maxRecDepth 100000 in
theorem dX3_count {d : Nat} {S : Mem}  : mm_runD (d + 1) 31 [.inr 8] S = mm_E (mm_runD d) pX3_count 1 0 [some (.inr 8)] [] S 0 0 := mm_runD_eq (q := (3, yX3_count, cX3_count, 1, 1, 0, pX3_count, qX3_count)) (by decide) rfl rfl rfl rfl
set_option maxRecDepth 100000 in
theorem dX3_add {d : Nat} {S : Mem}  : mm_runD (d + 1) 32 [.inr 8, .inr 11] S = mm_E (mm_runD d) pX3_add 1 0 [some (.inr 8), some (.inr 11), none, none, none] [] S 0 0 := mm_runD_eq (q := (3, yX3_add, cX3_add, 5, 1, 1, pX3_add, qX3_add)) (by decide) rfl rfl rfl rfl
set_option maxRecDepth 100000 in
theorem dX3_startOf {d : Nat} {S : Mem} {x1 : Int32} : mm_runD (d + 1) 33 [.inr 8, .inl x1] S = mm_E (mm_runD d) pX3_startOf 1 0 [some (.inr 8), some (.inl x1)] [] S 0 0 := mm_runD_eq (q := (3, yX3_startOf, cX3_startOf, 2, 1, 1, pX3_startOf, qX3_startOf)) (by decide) rfl rfl rfl rfl
set_option maxRecDepth 100000 in
theorem dX3_signAt {d : Nat} {S : Mem} {x1 : Int32} : mm_runD (d + 1) 34 [.inr 8, .inl x1] S = mm_E (mm_runD d) pX3_signAt 1 0 [some (.inr 8), some (.inl x1)] [] S 0 0 := mm_runD_eq (q := (3, yX3_signAt, cX3_signAt, 2, 1, 1, pX3_signAt, qX3_signAt)) (by decide) rfl rfl rfl rfl
set_option maxRecDepth 100000 in
theorem dX3_endAt {d : Nat} {S : Mem} {x1 : Int32} : mm_runD (d + 1) 35 [.inr 8, .inl x1] S = mm_E (mm_runD d) pX3_endAt 1 0 [some (.inr 8), some (.inl x1)] [] S 0 0 := mm_runD_eq (q := (3, yX3_endAt, cX3_endAt, 2, 1, 1, pX3_endAt, qX3_endAt)) (by decide) rfl rfl rfl rfl
set_option maxRecDepth 100000 in
theorem dX4_begin {d : Nat} {S : Mem} {x1 : Int32} : mm_runD (d + 1) 36 [.inr 25, .inl x1] S = mm_E (mm_runD d) pX4_begin 0 0 [some (.inr 25), some (.inl x1), none, none] [] S 0 0 := mm_runD_eq (q := (4, yX4_begin, cX4_begin, 4, 0, 1, pX4_begin, qX4_begin)) (by decide) rfl rfl rfl rfl
set_option maxRecDepth 100000 in
theorem dX4_makerAt {d : Nat} {S : Mem} {x1 : Int32} : mm_runD (d + 1) 37 [.inr 25, .inl x1] S = mm_E (mm_runD d) pX4_makerAt 1 0 [some (.inr 25), some (.inl x1)] [] S 0 0 := mm_runD_eq (q := (4, yX4_makerAt, cX4_makerAt, 2, 1, 1, pX4_makerAt, qX4_makerAt)) (by decide) rfl rfl rfl rfl
set_option maxRecDepth 100000 in
theorem dX4_openUp {d : Nat} {S : Mem} {x1 : Int32} {x2 : Int32} : mm_runD (d + 1) 38 [.inr 25, .inl x1, .inl x2] S = mm_E (mm_runD d) pX4_openUp 0 0 [some (.inr 25), some (.inl x1), some (.inl x2), none, none, none] [] S 0 0 := mm_runD_eq (q := (4, yX4_openUp, cX4_openUp, 6, 0, 2, pX4_openUp, qX4_openUp)) (by decide) rfl rfl rfl rfl
set_option maxRecDepth 100000 in
theorem dX4_makeGap {d : Nat} {S : Mem} {x1 : Int32} {x2 : Int32} : mm_runD (d + 1) 39 [.inr 25, .inl x1, .inl x2] S = mm_E (mm_runD d) pX4_makeGap 0 0 [some (.inr 25), some (.inl x1), some (.inl x2), none, none] [] S 0 0 := mm_runD_eq (q := (4, yX4_makeGap, cX4_makeGap, 5, 0, 2, pX4_makeGap, qX4_makeGap)) (by decide) rfl rfl rfl rfl
set_option maxRecDepth 100000 in
theorem dX4_isSeat {d : Nat} {S : Mem} {x1 : Int32} : mm_runD (d + 1) 40 [.inr 25, .inl x1] S = mm_E (mm_runD d) pX4_isSeat 2 0 [some (.inr 25), some (.inl x1)] [] S 0 0 := mm_runD_eq (q := (4, yX4_isSeat, cX4_isSeat, 2, 2, 1, pX4_isSeat, qX4_isSeat)) (by decide) rfl rfl rfl rfl
set_option maxRecDepth 100000 in
theorem dX5_begin {d : Nat} {S : Mem} {x2 : Int32} : mm_runD (d + 1) 41 [.inr 21, .inr 7, .inl x2] S = mm_E (mm_runD d) pX5_begin 0 0 [some (.inr 21), some (.inr 7), some (.inl x2), none, none, none, none] [] S 0 0 := mm_runD_eq (q := (5, yX5_begin, cX5_begin, 7, 0, 2, pX5_begin, qX5_begin)) (by decide) rfl rfl rfl rfl
set_option maxRecDepth 100000 in
theorem dX5_hasOpen {d : Nat} {S : Mem}  : mm_runD (d + 1) 42 [.inr 21] S = mm_E (mm_runD d) pX5_hasOpen 2 0 [some (.inr 21)] [] S 0 0 := mm_runD_eq (q := (5, yX5_hasOpen, cX5_hasOpen, 1, 2, 0, pX5_hasOpen, qX5_hasOpen)) (by decide) rfl rfl rfl rfl
set_option maxRecDepth 100000 in
theorem dX5_drop {d : Nat} {S : Mem}  : mm_runD (d + 1) 43 [.inr 21] S = mm_E (mm_runD d) pX5_drop 0 0 [some (.inr 21)] [] S 0 0 := mm_runD_eq (q := (5, yX5_drop, cX5_drop, 1, 0, 0, pX5_drop, qX5_drop)) (by decide) rfl rfl rfl rfl
set_option maxRecDepth 100000 in
theorem dX5_placeCount {d : Nat} {S : Mem}  : mm_runD (d + 1) 44 [.inr 21] S = mm_E (mm_runD d) pX5_placeCount 1 0 [some (.inr 21)] [] S 0 0 := mm_runD_eq (q := (5, yX5_placeCount, cX5_placeCount, 1, 1, 0, pX5_placeCount, qX5_placeCount)) (by decide) rfl rfl rfl rfl
set_option maxRecDepth 100000 in
theorem dX5_lineCount {d : Nat} {S : Mem}  : mm_runD (d + 1) 45 [.inr 21] S = mm_E (mm_runD d) pX5_lineCount 1 0 [some (.inr 21)] [] S 0 0 := mm_runD_eq (q := (5, yX5_lineCount, cX5_lineCount, 1, 1, 0, pX5_lineCount, qX5_lineCount)) (by decide) rfl rfl rfl rfl
set_option maxRecDepth 100000 in
theorem dX5_openNode {d : Nat} {S : Mem}  : mm_runD (d + 1) 46 [.inr 21] S = mm_E (mm_runD d) pX5_openNode 1 0 [some (.inr 21)] [] S 0 0 := mm_runD_eq (q := (5, yX5_openNode, cX5_openNode, 1, 1, 0, pX5_openNode, qX5_openNode)) (by decide) rfl rfl rfl rfl
set_option maxRecDepth 100000 in
theorem dX5_typeAt {d : Nat} {S : Mem} {x1 : Int32} : mm_runD (d + 1) 47 [.inr 21, .inl x1] S = mm_E (mm_runD d) pX5_typeAt 1 0 [some (.inr 21), some (.inl x1)] [] S 0 0 := mm_runD_eq (q := (5, yX5_typeAt, cX5_typeAt, 2, 1, 1, pX5_typeAt, qX5_typeAt)) (by decide) rfl rfl rfl rfl
set_option maxRecDepth 100000 in
theorem dX5_firstRow {d : Nat} {S : Mem}  : mm_runD (d + 1) 48 [.inr 21] S = mm_E (mm_runD d) pX5_firstRow 1 0 [some (.inr 21)] [] S 0 0 := mm_runD_eq (q := (5, yX5_firstRow, cX5_firstRow, 1, 1, 0, pX5_firstRow, qX5_firstRow)) (by decide) rfl rfl rfl rfl
set_option maxRecDepth 100000 in
theorem dX5_splitEithers {d : Nat} {S : Mem}  : mm_runD (d + 1) 49 [.inr 21] S = mm_E (mm_runD d) pX5_splitEithers 2 0 [some (.inr 21), none, none] [] S 0 0 := mm_runD_eq (q := (5, yX5_splitEithers, cX5_splitEithers, 3, 2, 0, pX5_splitEithers, qX5_splitEithers)) (by decide) rfl rfl rfl rfl
set_option maxRecDepth 100000 in
theorem dX5_firstTested {d : Nat} {S : Mem}  : mm_runD (d + 1) 50 [.inr 21] S = mm_E (mm_runD d) pX5_firstTested 1 0 [some (.inr 21), none] [] S 0 0 := mm_runD_eq (q := (5, yX5_firstTested, cX5_firstTested, 2, 1, 0, pX5_firstTested, qX5_firstTested)) (by decide) rfl rfl rfl rfl
set_option maxRecDepth 100000 in
theorem dX5_keepFor {d : Nat} {S : Mem} {x1 : Int32} {x2 : Int32} : mm_runD (d + 1) 51 [.inr 21, .inl x1, .inl x2] S = mm_E (mm_runD d) pX5_keepFor 0 0 [some (.inr 21), some (.inl x1), some (.inl x2)] [] S 0 0 := mm_runD_eq (q := (5, yX5_keepFor, cX5_keepFor, 3, 0, 2, pX5_keepFor, qX5_keepFor)) (by decide) rfl rfl rfl rfl
set_option maxRecDepth 100000 in
theorem dX5_nextBranch {d : Nat} {S : Mem}  : mm_runD (d + 1) 52 [.inr 21] S = mm_E (mm_runD d) pX5_nextBranch 1 0 [some (.inr 21), none, none] [] S 0 0 := mm_runD_eq (q := (5, yX5_nextBranch, cX5_nextBranch, 3, 1, 0, pX5_nextBranch, qX5_nextBranch)) (by decide) rfl rfl rfl rfl
set_option maxRecDepth 100000 in
theorem dX5_openBranch {d : Nat} {S : Mem} {x1 : Int32} {x2 : Int32} : mm_runD (d + 1) 53 [.inr 21, .inl x1, .inl x2] S = mm_E (mm_runD d) pX5_openBranch 2 0 [some (.inr 21), some (.inl x1), some (.inl x2), none, none, none, none, none, none, none, none] [] S 0 0 := mm_runD_eq (q := (5, yX5_openBranch, cX5_openBranch, 11, 2, 2, pX5_openBranch, qX5_openBranch)) (by decide) rfl rfl rfl rfl
set_option maxRecDepth 100000 in
theorem dX5_pile {d : Nat} {S : Mem} {x1 : Int32} {x2 : Int32} : mm_runD (d + 1) 54 [.inr 21, .inl x1, .inl x2] S = mm_E (mm_runD d) pX5_pile 0 0 [some (.inr 21), some (.inl x1), some (.inl x2)] [] S 0 0 := mm_runD_eq (q := (5, yX5_pile, cX5_pile, 3, 0, 2, pX5_pile, qX5_pile)) (by decide) rfl rfl rfl rfl
set_option maxRecDepth 100000 in
theorem dX5_addLine {d : Nat} {S : Mem} {x1 : Int32} : mm_runD (d + 1) 55 [.inr 21, .inl x1] S = mm_E (mm_runD d) pX5_addLine 1 0 [some (.inr 21), some (.inl x1), none] [] S 0 0 := mm_runD_eq (q := (5, yX5_addLine, cX5_addLine, 3, 1, 1, pX5_addLine, qX5_addLine)) (by decide) rfl rfl rfl rfl
set_option maxRecDepth 100000 in
theorem dX5_splitAt {d : Nat} {S : Mem} {x1 : Int32} {x2 : Int32} : mm_runD (d + 1) 56 [.inr 21, .inl x1, .inl x2] S = mm_E (mm_runD d) pX5_splitAt 2 0 [some (.inr 21), some (.inl x1), some (.inl x2), none, none, none, none] [] S 0 0 := mm_runD_eq (q := (5, yX5_splitAt, cX5_splitAt, 7, 2, 2, pX5_splitAt, qX5_splitAt)) (by decide) rfl rfl rfl rfl
set_option maxRecDepth 100000 in
theorem dX5_isEither {d : Nat} {S : Mem} {x1 : Int32} : mm_runD (d + 1) 57 [.inr 21, .inl x1] S = mm_E (mm_runD d) pX5_isEither 2 0 [some (.inr 21), some (.inl x1)] [] S 0 0 := mm_runD_eq (q := (5, yX5_isEither, cX5_isEither, 2, 2, 1, pX5_isEither, qX5_isEither)) (by decide) rfl rfl rfl rfl
set_option maxRecDepth 100000 in
theorem dX5_doubleLine {d : Nat} {S : Mem} {x1 : Int32} : mm_runD (d + 1) 58 [.inr 21, .inl x1] S = mm_E (mm_runD d) pX5_doubleLine 0 0 [some (.inr 21), some (.inl x1), none, none] [] S 0 0 := mm_runD_eq (q := (5, yX5_doubleLine, cX5_doubleLine, 4, 0, 1, pX5_doubleLine, qX5_doubleLine)) (by decide) rfl rfl rfl rfl
set_option maxRecDepth 100000 in
theorem dX5_copyAround {d : Nat} {S : Mem} {x1 : Int32} {x2 : Int32} {x3 : Int32} {x4 : Int32} {x5 : Int32} : mm_runD (d + 1) 59 [.inr 21, .inl x1, .inl x2, .inl x3, .inl x4, .inl x5] S = mm_E (mm_runD d) pX5_copyAround 0 0 [some (.inr 21), some (.inl x1), some (.inl x2), some (.inl x3), some (.inl x4), some (.inl x5)] [] S 0 0 := mm_runD_eq (q := (5, yX5_copyAround, cX5_copyAround, 6, 0, 5, pX5_copyAround, qX5_copyAround)) (by decide) rfl rfl rfl rfl
set_option maxRecDepth 100000 in
theorem dX5_putFields {d : Nat} {S : Mem} {x1 : Int32} {x2 : Int32} {x3 : Int32} : mm_runD (d + 1) 60 [.inr 21, .inl x1, .inl x2, .inl x3] S = mm_E (mm_runD d) pX5_putFields 0 0 [some (.inr 21), some (.inl x1), some (.inl x2), some (.inl x3), none, none] [] S 0 0 := mm_runD_eq (q := (5, yX5_putFields, cX5_putFields, 6, 0, 3, pX5_putFields, qX5_putFields)) (by decide) rfl rfl rfl rfl
set_option maxRecDepth 100000 in
theorem dX5_cellOf {d : Nat} {S : Mem} {x1 : Int32} : mm_runD (d + 1) 61 [.inr 21, .inl x1] S = mm_E (mm_runD d) pX5_cellOf 1 0 [some (.inr 21), some (.inl x1)] [] S 0 0 := mm_runD_eq (q := (5, yX5_cellOf, cX5_cellOf, 2, 1, 1, pX5_cellOf, qX5_cellOf)) (by decide) rfl rfl rfl rfl
set_option maxRecDepth 100000 in
theorem dX5_lineAt {d : Nat} {S : Mem} {x1 : Int32} : mm_runD (d + 1) 62 [.inr 21, .inl x1] S = mm_E (mm_runD d) pX5_lineAt 1 0 [some (.inr 21), some (.inl x1)] [] S 0 0 := mm_runD_eq (q := (5, yX5_lineAt, cX5_lineAt, 2, 1, 1, pX5_lineAt, qX5_lineAt)) (by decide) rfl rfl rfl rfl
set_option maxRecDepth 100000 in
theorem dX5_head {d : Nat} {S : Mem} {x1 : Int32} : mm_runD (d + 1) 63 [.inr 21, .inl x1] S = mm_E (mm_runD d) pX5_head 1 0 [some (.inr 21), some (.inl x1)] [] S 0 0 := mm_runD_eq (q := (5, yX5_head, cX5_head, 2, 1, 1, pX5_head, qX5_head)) (by decide) rfl rfl rfl rfl
set_option maxRecDepth 100000 in
theorem dX5_get {d : Nat} {S : Mem} {x1 : Int32} : mm_runD (d + 1) 64 [.inr 21, .inl x1] S = mm_E (mm_runD d) pX5_get 1 0 [some (.inr 21), some (.inl x1)] [] S 0 0 := mm_runD_eq (q := (5, yX5_get, cX5_get, 2, 1, 1, pX5_get, qX5_get)) (by decide) rfl rfl rfl rfl
set_option maxRecDepth 100000 in
theorem dX5_set {d : Nat} {S : Mem} {x1 : Int32} {x2 : Int32} : mm_runD (d + 1) 65 [.inr 21, .inl x1, .inl x2] S = mm_E (mm_runD d) pX5_set 0 0 [some (.inr 21), some (.inl x1), some (.inl x2)] [] S 0 0 := mm_runD_eq (q := (5, yX5_set, cX5_set, 3, 0, 2, pX5_set, qX5_set)) (by decide) rfl rfl rfl rfl
set_option maxRecDepth 100000 in
theorem dX5_copy {d : Nat} {S : Mem} {x1 : Int32} {x2 : Int32} {x3 : Int32} : mm_runD (d + 1) 66 [.inr 21, .inl x1, .inl x2, .inl x3] S = mm_E (mm_runD d) pX5_copy 0 0 [some (.inr 21), some (.inl x1), some (.inl x2), some (.inl x3), none] [] S 0 0 := mm_runD_eq (q := (5, yX5_copy, cX5_copy, 5, 0, 3, pX5_copy, qX5_copy)) (by decide) rfl rfl rfl rfl
set_option maxRecDepth 100000 in
theorem dX6_fell {d : Nat} {S : Mem}  : mm_runD (d + 1) 68 [.inr 19] S = mm_E (mm_runD d) pX6_fell 0 0 [some (.inr 19)] [] S 0 0 := mm_runD_eq (q := (6, yX6_fell, cX6_fell, 1, 0, 0, pX6_fell, qX6_fell)) (by decide) rfl rfl rfl rfl
set_option maxRecDepth 100000 in
theorem dX6_stand {d : Nat} {S : Mem}  : mm_runD (d + 1) 69 [.inr 19] S = mm_E (mm_runD d) pX6_stand 0 0 [some (.inr 19)] [] S 0 0 := mm_runD_eq (q := (6, yX6_stand, cX6_stand, 1, 0, 0, pX6_stand, qX6_stand)) (by decide) rfl rfl rfl rfl
set_option maxRecDepth 100000 in
theorem dX6_stands {d : Nat} {S : Mem}  : mm_runD (d + 1) 70 [.inr 19] S = mm_E (mm_runD d) pX6_stands 2 0 [some (.inr 19)] [] S 0 0 := mm_runD_eq (q := (6, yX6_stands, cX6_stands, 1, 2, 0, pX6_stands, qX6_stands)) (by decide) rfl rfl rfl rfl
set_option maxRecDepth 100000 in
theorem dX6_count {d : Nat} {S : Mem}  : mm_runD (d + 1) 71 [.inr 19] S = mm_E (mm_runD d) pX6_count 1 0 [some (.inr 19)] [] S 0 0 := mm_runD_eq (q := (6, yX6_count, cX6_count, 1, 1, 0, pX6_count, qX6_count)) (by decide) rfl rfl rfl rfl
set_option maxRecDepth 100000 in
theorem dX6_failCount {d : Nat} {S : Mem}  : mm_runD (d + 1) 72 [.inr 19] S = mm_E (mm_runD d) pX6_failCount 1 0 [some (.inr 19)] [] S 0 0 := mm_runD_eq (q := (6, yX6_failCount, cX6_failCount, 1, 1, 0, pX6_failCount, qX6_failCount)) (by decide) rfl rfl rfl rfl
set_option maxRecDepth 100000 in
theorem dX6_add {d : Nat} {S : Mem} {x1 : Int32} {x2 : Int32} : mm_runD (d + 1) 73 [.inr 19, .inl x1, .inl x2] S = mm_E (mm_runD d) pX6_add 1 0 [some (.inr 19), some (.inl x1), some (.inl x2), none, none] [] S 0 0 := mm_runD_eq (q := (6, yX6_add, cX6_add, 5, 1, 2, pX6_add, qX6_add)) (by decide) rfl rfl rfl rfl
set_option maxRecDepth 100000 in
theorem dX6_makeFail {d : Nat} {S : Mem} {x1 : Int32} : mm_runD (d + 1) 74 [.inr 19, .inl x1] S = mm_E (mm_runD d) pX6_makeFail 0 0 [some (.inr 19), some (.inl x1)] [] S 0 0 := mm_runD_eq (q := (6, yX6_makeFail, cX6_makeFail, 2, 0, 1, pX6_makeFail, qX6_makeFail)) (by decide) rfl rfl rfl rfl
set_option maxRecDepth 100000 in
theorem dX6_makeLeaf {d : Nat} {S : Mem} {x1 : Int32} {x2 : Int32} : mm_runD (d + 1) 75 [.inr 19, .inl x1, .inl x2] S = mm_E (mm_runD d) pX6_makeLeaf 0 0 [some (.inr 19), some (.inl x1), some (.inl x2)] [] S 0 0 := mm_runD_eq (q := (6, yX6_makeLeaf, cX6_makeLeaf, 3, 0, 2, pX6_makeLeaf, qX6_makeLeaf)) (by decide) rfl rfl rfl rfl
set_option maxRecDepth 100000 in
theorem dX6_makeTest {d : Nat} {S : Mem} {x1 : Int32} {x2 : Int32} {x3 : Int32} {x4 : Int32} : mm_runD (d + 1) 76 [.inr 19, .inl x1, .inl x2, .inl x3, .inl x4] S = mm_E (mm_runD d) pX6_makeTest 0 0 [some (.inr 19), some (.inl x1), some (.inl x2), some (.inl x3), some (.inl x4)] [] S 0 0 := mm_runD_eq (q := (6, yX6_makeTest, cX6_makeTest, 5, 0, 4, pX6_makeTest, qX6_makeTest)) (by decide) rfl rfl rfl rfl
set_option maxRecDepth 100000 in
theorem dX6_kindOf {d : Nat} {S : Mem} {x1 : Int32} : mm_runD (d + 1) 77 [.inr 19, .inl x1] S = mm_E (mm_runD d) pX6_kindOf 1 0 [some (.inr 19), some (.inl x1)] [] S 0 0 := mm_runD_eq (q := (6, yX6_kindOf, cX6_kindOf, 2, 1, 1, pX6_kindOf, qX6_kindOf)) (by decide) rfl rfl rfl rfl
set_option maxRecDepth 100000 in
theorem dX6_testedPlace {d : Nat} {S : Mem} {x1 : Int32} : mm_runD (d + 1) 78 [.inr 19, .inl x1] S = mm_E (mm_runD d) pX6_testedPlace 1 0 [some (.inr 19), some (.inl x1)] [] S 0 0 := mm_runD_eq (q := (6, yX6_testedPlace, cX6_testedPlace, 2, 1, 1, pX6_testedPlace, qX6_testedPlace)) (by decide) rfl rfl rfl rfl
set_option maxRecDepth 100000 in
theorem dX6_makerOf {d : Nat} {S : Mem} {x1 : Int32} : mm_runD (d + 1) 79 [.inr 19, .inl x1] S = mm_E (mm_runD d) pX6_makerOf 1 0 [some (.inr 19), some (.inl x1)] [] S 0 0 := mm_runD_eq (q := (6, yX6_makerOf, cX6_makerOf, 2, 1, 1, pX6_makerOf, qX6_makerOf)) (by decide) rfl rfl rfl rfl
set_option maxRecDepth 100000 in
theorem dX6_tell {d : Nat} {S : Mem} {x1 : Int32} {x2 : Int32} : mm_runD (d + 1) 80 [.inr 19, .inl x1, .inl x2] S = mm_E (mm_runD d) pX6_tell 1 0 [some (.inr 19), some (.inl x1), some (.inl x2)] [] S 0 0 := mm_runD_eq (q := (6, yX6_tell, cX6_tell, 3, 1, 2, pX6_tell, qX6_tell)) (by decide) rfl rfl rfl rfl
set_option maxRecDepth 100000 in
theorem dX6_branchOf {d : Nat} {S : Mem} {x1 : Int32} {x2 : Int32} : mm_runD (d + 1) 81 [.inr 19, .inl x1, .inl x2] S = mm_E (mm_runD d) pX6_branchOf 1 0 [some (.inr 19), some (.inl x1), some (.inl x2), none, none] [] S 0 0 := mm_runD_eq (q := (6, yX6_branchOf, cX6_branchOf, 5, 1, 2, pX6_branchOf, qX6_branchOf)) (by decide) rfl rfl rfl rfl
set_option maxRecDepth 100000 in
theorem dX6_branchTowards {d : Nat} {S : Mem} {x1 : Int32} {x2 : Int32} : mm_runD (d + 1) 82 [.inr 19, .inl x1, .inl x2] S = mm_E (mm_runD d) pX6_branchTowards 1 0 [some (.inr 19), some (.inl x1), some (.inl x2), none, none, none] [] S 0 0 := mm_runD_eq (q := (6, yX6_branchTowards, cX6_branchTowards, 6, 1, 2, pX6_branchTowards, qX6_branchTowards)) (by decide) rfl rfl rfl rfl
set_option maxRecDepth 100000 in
theorem dX6_failNode {d : Nat} {S : Mem} {x1 : Int32} : mm_runD (d + 1) 83 [.inr 19, .inl x1] S = mm_E (mm_runD d) pX6_failNode 1 0 [some (.inr 19), some (.inl x1), none, none] [] S 0 0 := mm_runD_eq (q := (6, yX6_failNode, cX6_failNode, 4, 1, 1, pX6_failNode, qX6_failNode)) (by decide) rfl rfl rfl rfl
set_option maxRecDepth 100000 in
theorem dX6_hasLeafOf {d : Nat} {S : Mem} {x1 : Int32} : mm_runD (d + 1) 84 [.inr 19, .inl x1] S = mm_E (mm_runD d) pX6_hasLeafOf 2 0 [some (.inr 19), some (.inl x1), none] [] S 0 0 := mm_runD_eq (q := (6, yX6_hasLeafOf, cX6_hasLeafOf, 3, 2, 1, pX6_hasLeafOf, qX6_hasLeafOf)) (by decide) rfl rfl rfl rfl
set_option maxRecDepth 100000 in
theorem dX6_branchAt {d : Nat} {S : Mem} {x1 : Int32} {x2 : Int32} : mm_runD (d + 1) 85 [.inr 19, .inl x1, .inl x2] S = mm_E (mm_runD d) pX6_branchAt 1 0 [some (.inr 19), some (.inl x1), some (.inl x2), none, none] [] S 0 0 := mm_runD_eq (q := (6, yX6_branchAt, cX6_branchAt, 5, 1, 2, pX6_branchAt, qX6_branchAt)) (by decide) rfl rfl rfl rfl
set_option maxRecDepth 100000 in
theorem dX6_hang {d : Nat} {S : Mem} {x1 : Int32} {x2 : Int32} : mm_runD (d + 1) 86 [.inr 19, .inl x1, .inl x2] S = mm_E (mm_runD d) pX6_hang 0 0 [some (.inr 19), some (.inl x1), some (.inl x2), none] [] S 0 0 := mm_runD_eq (q := (6, yX6_hang, cX6_hang, 4, 0, 2, pX6_hang, qX6_hang)) (by decide) rfl rfl rfl rfl
set_option maxRecDepth 100000 in
theorem dX6_get {d : Nat} {S : Mem} {x1 : Int32} {x2 : Int32} : mm_runD (d + 1) 87 [.inr 19, .inl x1, .inl x2] S = mm_E (mm_runD d) pX6_get 1 0 [some (.inr 19), some (.inl x1), some (.inl x2), none] [] S 0 0 := mm_runD_eq (q := (6, yX6_get, cX6_get, 4, 1, 2, pX6_get, qX6_get)) (by decide) rfl rfl rfl rfl
set_option maxRecDepth 100000 in
theorem dX6_set {d : Nat} {S : Mem} {x1 : Int32} {x2 : Int32} {x3 : Int32} : mm_runD (d + 1) 88 [.inr 19, .inl x1, .inl x2, .inl x3] S = mm_E (mm_runD d) pX6_set 0 0 [some (.inr 19), some (.inl x1), some (.inl x2), some (.inl x3)] [] S 0 0 := mm_runD_eq (q := (6, yX6_set, cX6_set, 4, 0, 3, pX6_set, qX6_set)) (by decide) rfl rfl rfl rfl
set_option maxRecDepth 100000 in
theorem dX7_type {d : Nat} {S : Mem}  : mm_runD (d + 1) 89 [.inr 0] S = mm_E (mm_runD d) pX7_type 1 0 [some (.inr 0)] [] S 0 0 := mm_runD_eq (q := (7, yX7_type, cX7_type, 1, 1, 0, pX7_type, qX7_type)) (by decide) rfl rfl rfl rfl
set_option maxRecDepth 100000 in
theorem dX7_maker {d : Nat} {S : Mem} {x1 : Int32} {x2 : Int32} {x3 : Int32} {x4 : Int32} : mm_runD (d + 1) 90 [.inr 0, .inl x1, .inl x2, .inl x3, .inl x4] S = mm_E (mm_runD d) pX7_maker 1 0 [some (.inr 0), some (.inl x1), some (.inl x2), some (.inl x3), some (.inl x4), none] [] S 0 0 := mm_runD_eq (q := (7, yX7_maker, cX7_maker, 6, 1, 4, pX7_maker, qX7_maker)) (by decide) rfl rfl rfl rfl
set_option maxRecDepth 100000 in
theorem dX7_isEmpty {d : Nat} {S : Mem} {x1 : Int32} : mm_runD (d + 1) 91 [.inr 0, .inl x1] S = mm_E (mm_runD d) pX7_isEmpty 2 0 [some (.inr 0), some (.inl x1)] [] S 0 0 := mm_runD_eq (q := (7, yX7_isEmpty, cX7_isEmpty, 2, 2, 1, pX7_isEmpty, qX7_isEmpty)) (by decide) rfl rfl rfl rfl
set_option maxRecDepth 100000 in
theorem dX7_match {d : Nat} {S : Mem} {x1 : Int32} {x2 : Int32} {x3 : Int32} : mm_runD (d + 1) 92 [.inr 0, .inl x1, .inl x2, .inl x3] S = mm_E (mm_runD d) pX7_match 0 0 [some (.inr 0), some (.inl x1), some (.inl x2), some (.inl x3), none] [] S 0 0 := mm_runD_eq (q := (7, yX7_match, cX7_match, 5, 0, 3, pX7_match, qX7_match)) (by decide) rfl rfl rfl rfl
set_option maxRecDepth 100000 in
theorem dX7_sign {d : Nat} {S : Mem} {x1 : Int32} : mm_runD (d + 1) 93 [.inr 0, .inl x1] S = mm_E (mm_runD d) pX7_sign 1 0 [some (.inr 0), some (.inl x1), none] [] S 0 0 := mm_runD_eq (q := (7, yX7_sign, cX7_sign, 3, 1, 1, pX7_sign, qX7_sign)) (by decide) rfl rfl rfl rfl
set_option maxRecDepth 100000 in
theorem dX7_row {d : Nat} {S : Mem}  : mm_runD (d + 1) 94 [.inr 0] S = mm_E (mm_runD d) pX7_row 1 0 [some (.inr 0), none] [] S 0 0 := mm_runD_eq (q := (7, yX7_row, cX7_row, 2, 1, 0, pX7_row, qX7_row)) (by decide) rfl rfl rfl rfl
set_option maxRecDepth 100000 in
theorem dX7_compile {d : Nat} {S : Mem}  : mm_runD (d + 1) 95 [.inr 0] S = mm_E (mm_runD d) pX7_compile 1 0 [some (.inr 0), none] [] S 0 0 := mm_runD_eq (q := (7, yX7_compile, cX7_compile, 2, 1, 0, pX7_compile, qX7_compile)) (by decide) rfl rfl rfl rfl
set_option maxRecDepth 100000 in
theorem dX7_node {d : Nat} {S : Mem} {x1 : Int32} {x2 : Int32} : mm_runD (d + 1) 96 [.inr 0, .inl x1, .inl x2] S = mm_E (mm_runD d) pX7_node 1 0 [some (.inr 0), some (.inl x1), some (.inl x2)] [] S 0 0 := mm_runD_eq (q := (7, yX7_node, cX7_node, 3, 1, 2, pX7_node, qX7_node)) (by decide) rfl rfl rfl rfl
set_option maxRecDepth 100000 in
theorem dX7_missing {d : Nat} {S : Mem}  : mm_runD (d + 1) 97 [.inr 0] S = mm_E (mm_runD d) pX7_missing 1 0 [some (.inr 0)] [] S 0 0 := mm_runD_eq (q := (7, yX7_missing, cX7_missing, 1, 1, 0, pX7_missing, qX7_missing)) (by decide) rfl rfl rfl rfl
set_option maxRecDepth 100000 in
theorem dX7_missingSign {d : Nat} {S : Mem} {x1 : Int32} {x2 : Int32} : mm_runD (d + 1) 98 [.inr 0, .inl x1, .inl x2] S = mm_E (mm_runD d) pX7_missingSign 1 0 [some (.inr 0), some (.inl x1), some (.inl x2)] [] S 0 0 := mm_runD_eq (q := (7, yX7_missingSign, cX7_missingSign, 3, 1, 2, pX7_missingSign, qX7_missingSign)) (by decide) rfl rfl rfl rfl
set_option maxRecDepth 100000 in
theorem dX7_isIdle {d : Nat} {S : Mem} {x1 : Int32} : mm_runD (d + 1) 99 [.inr 0, .inl x1] S = mm_E (mm_runD d) pX7_isIdle 2 0 [some (.inr 0), some (.inl x1)] [] S 0 0 := mm_runD_eq (q := (7, yX7_isIdle, cX7_isIdle, 2, 2, 1, pX7_isIdle, qX7_isIdle)) (by decide) rfl rfl rfl rfl
set_option maxRecDepth 100000 in
theorem dX7_give {d : Nat} {S : Mem} {x1 : Int32} : mm_runD (d + 1) 100 [.inr 0, .inl x1] S = mm_E (mm_runD d) pX7_give 1 0 [some (.inr 0), some (.inl x1)] [] S 0 0 := mm_runD_eq (q := (7, yX7_give, cX7_give, 2, 1, 1, pX7_give, qX7_give)) (by decide) rfl rfl rfl rfl
set_option maxRecDepth 100000 in
theorem dX7_answer {d : Nat} {S : Mem}  : mm_runD (d + 1) 101 [.inr 0] S = mm_E (mm_runD d) pX7_answer 1 0 [some (.inr 0), none] [] S 0 0 := mm_runD_eq (q := (7, yX7_answer, cX7_answer, 2, 1, 0, pX7_answer, qX7_answer)) (by decide) rfl rfl rfl rfl
set_option maxRecDepth 100000 in
theorem dX7_tests {d : Nat} {S : Mem}  : mm_runD (d + 1) 102 [.inr 0] S = mm_E (mm_runD d) pX7_tests 1 0 [some (.inr 0)] [] S 0 0 := mm_runD_eq (q := (7, yX7_tests, cX7_tests, 1, 1, 0, pX7_tests, qX7_tests)) (by decide) rfl rfl rfl rfl
set_option maxRecDepth 100000 in
theorem dX7_empty {d : Nat} {S : Mem}  : mm_runD (d + 1) 103 [.inr 0] S = mm_E (mm_runD d) pX7_empty 0 0 [some (.inr 0)] [] S 0 0 := mm_runD_eq (q := (7, yX7_empty, cX7_empty, 1, 0, 0, pX7_empty, qX7_empty)) (by decide) rfl rfl rfl rfl
set_option maxRecDepth 100000 in
theorem dX7_about {d : Nat} {S : Mem} {x1 : Int32} : mm_runD (d + 1) 104 [.inr 0, .inl x1] S = mm_E (mm_runD d) pX7_about 1 0 [some (.inr 0), some (.inl x1)] [] S 0 0 := mm_runD_eq (q := (7, yX7_about, cX7_about, 2, 1, 1, pX7_about, qX7_about)) (by decide) rfl rfl rfl rfl
set_option maxRecDepth 100000 in
theorem dX7_countTypes {d : Nat} {S : Mem} {x1 : Int32} {x2 : Int32} {x3 : Int32} : mm_runD (d + 1) 105 [.inr 0, .inl x1, .inl x2, .inl x3] S = mm_E (mm_runD d) pX7_countTypes 1 0 [some (.inr 0), some (.inl x1), some (.inl x2), some (.inl x3)] [] S 0 0 := mm_runD_eq (q := (7, yX7_countTypes, cX7_countTypes, 4, 1, 3, pX7_countTypes, qX7_countTypes)) (by decide) rfl rfl rfl rfl
set_option maxRecDepth 100000 in
theorem dX7_beginMatch {d : Nat} {S : Mem} {x1 : Int32} {x2 : Int32} {x3 : Int32} {x4 : Int32} : mm_runD (d + 1) 106 [.inr 0, .inl x1, .inl x2, .inl x3, .inl x4] S = mm_E (mm_runD d) pX7_beginMatch 0 0 [some (.inr 0), some (.inl x1), some (.inl x2), some (.inl x3), some (.inl x4)] [] S 0 0 := mm_runD_eq (q := (7, yX7_beginMatch, cX7_beginMatch, 5, 0, 4, pX7_beginMatch, qX7_beginMatch)) (by decide) rfl rfl rfl rfl
set_option maxRecDepth 100000 in
theorem dX7_refuseWithoutMatch {d : Nat} {S : Mem}  : mm_runD (d + 1) 107 [.inr 0] S = mm_E (mm_runD d) pX7_refuseWithoutMatch 0 0 [some (.inr 0)] [] S 0 0 := mm_runD_eq (q := (7, yX7_refuseWithoutMatch, cX7_refuseWithoutMatch, 1, 0, 0, pX7_refuseWithoutMatch, qX7_refuseWithoutMatch)) (by decide) rfl rfl rfl rfl
set_option maxRecDepth 100000 in
theorem dX7_refuseWithoutWholeValues {d : Nat} {S : Mem}  : mm_runD (d + 1) 108 [.inr 0] S = mm_E (mm_runD d) pX7_refuseWithoutWholeValues 0 0 [some (.inr 0)] [] S 0 0 := mm_runD_eq (q := (7, yX7_refuseWithoutWholeValues, cX7_refuseWithoutWholeValues, 1, 0, 0, pX7_refuseWithoutWholeValues, qX7_refuseWithoutWholeValues)) (by decide) rfl rfl rfl rfl
set_option maxRecDepth 100000 in
theorem dX7_rowTakesValues {d : Nat} {S : Mem} {x1 : Int32} : mm_runD (d + 1) 109 [.inr 0, .inl x1] S = mm_E (mm_runD d) pX7_rowTakesValues 2 0 [some (.inr 0), some (.inl x1), none, none, none] [] S 0 0 := mm_runD_eq (q := (7, yX7_rowTakesValues, cX7_rowTakesValues, 5, 2, 1, pX7_rowTakesValues, qX7_rowTakesValues)) (by decide) rfl rfl rfl rfl
set_option maxRecDepth 100000 in
theorem dX7_takes {d : Nat} {S : Mem} {x1 : Int32} {x2 : Int32} {x3 : Int32} : mm_runD (d + 1) 110 [.inr 0, .inl x1, .inl x2, .inl x3] S = mm_E (mm_runD d) pX7_takes 2 0 [some (.inr 0), some (.inl x1), some (.inl x2), some (.inl x3), none, none, none, none, none] [] S 0 0 := mm_runD_eq (q := (7, yX7_takes, cX7_takes, 9, 2, 3, pX7_takes, qX7_takes)) (by decide) rfl rfl rfl rfl
set_option maxRecDepth 100000 in
theorem dX7_countTests {d : Nat} {S : Mem}  : mm_runD (d + 1) 111 [.inr 0] S = mm_E (mm_runD d) pX7_countTests 1 0 [some (.inr 0), none, none, none, none] [] S 0 0 := mm_runD_eq (q := (7, yX7_countTests, cX7_countTests, 5, 1, 0, pX7_countTests, qX7_countTests)) (by decide) rfl rfl rfl rfl
set_option maxRecDepth 100000 in
theorem dX7_growTree {d : Nat} {S : Mem}  : mm_runD (d + 1) 112 [.inr 0] S = mm_E (mm_runD d) pX7_growTree 2 0 [some (.inr 0), none, none, none, none] [] S 0 0 := mm_runD_eq (q := (7, yX7_growTree, cX7_growTree, 5, 2, 0, pX7_growTree, qX7_growTree)) (by decide) rfl rfl rfl rfl
set_option maxRecDepth 100000 in
theorem dX7_addNode {d : Nat} {S : Mem} {x1 : Int32} {x2 : Int32} : mm_runD (d + 1) 113 [.inr 0, .inl x1, .inl x2] S = mm_E (mm_runD d) pX7_addNode 2 0 [some (.inr 0), some (.inl x1), some (.inl x2), none, none, none] [] S 0 0 := mm_runD_eq (q := (7, yX7_addNode, cX7_addNode, 6, 2, 2, pX7_addNode, qX7_addNode)) (by decide) rfl rfl rfl rfl
set_option maxRecDepth 100000 in
theorem dX8_thrown {d : Nat} {S : Mem}  : mm_runD (d + 1) 114 [.inr 27] S = mm_E (mm_runD d) pX8_thrown 1 0 [some (.inr 27)] [] S 0 0 := mm_runD_eq (q := (8, yX8_thrown, cX8_thrown, 1, 1, 0, pX8_thrown, qX8_thrown)) (by decide) rfl rfl rfl rfl
set_option maxRecDepth 100000 in
theorem dX8_isType {d : Nat} {S : Mem} {x1 : Int32} : mm_runD (d + 1) 115 [.inr 27, .inl x1] S = mm_E (mm_runD d) pX8_isType 2 0 [some (.inr 27), some (.inl x1)] [] S 0 0 := mm_runD_eq (q := (8, yX8_isType, cX8_isType, 2, 2, 1, pX8_isType, qX8_isType)) (by decide) rfl rfl rfl rfl
set_option maxRecDepth 100000 in
theorem dX8_makersOf {d : Nat} {S : Mem} {x1 : Int32} : mm_runD (d + 1) 116 [.inr 27, .inl x1] S = mm_E (mm_runD d) pX8_makersOf 1 0 [some (.inr 27), some (.inl x1), none, none] [] S 0 0 := mm_runD_eq (q := (8, yX8_makersOf, cX8_makersOf, 4, 1, 1, pX8_makersOf, qX8_makersOf)) (by decide) rfl rfl rfl rfl
set_option maxRecDepth 100000 in
theorem dX8_fields {d : Nat} {S : Mem} {x1 : Int32} : mm_runD (d + 1) 117 [.inr 27, .inl x1] S = mm_E (mm_runD d) pX8_fields 1 0 [some (.inr 27), some (.inl x1)] [] S 0 0 := mm_runD_eq (q := (8, yX8_fields, cX8_fields, 2, 1, 1, pX8_fields, qX8_fields)) (by decide) rfl rfl rfl rfl
set_option maxRecDepth 100000 in
theorem dX8_type {d : Nat} {S : Mem}  : mm_runD (d + 1) 118 [.inr 27] S = mm_E (mm_runD d) pX8_type 1 0 [some (.inr 27)] [] S 0 0 := mm_runD_eq (q := (8, yX8_type, cX8_type, 1, 1, 0, pX8_type, qX8_type)) (by decide) rfl rfl rfl rfl
set_option maxRecDepth 100000 in
theorem dX8_areTypes {d : Nat} {S : Mem} {x1 : Int32} {x2 : Int32} {x3 : Int32} : mm_runD (d + 1) 119 [.inr 27, .inl x1, .inl x2, .inl x3] S = mm_E (mm_runD d) pX8_areTypes 2 0 [some (.inr 27), some (.inl x1), some (.inl x2), some (.inl x3)] [] S 0 0 := mm_runD_eq (q := (8, yX8_areTypes, cX8_areTypes, 4, 2, 3, pX8_areTypes, qX8_areTypes)) (by decide) rfl rfl rfl rfl
set_option maxRecDepth 100000 in
theorem dX8_maker {d : Nat} {S : Mem} {x1 : Int32} {x2 : Int32} {x3 : Int32} {x4 : Int32} : mm_runD (d + 1) 120 [.inr 27, .inl x1, .inl x2, .inl x3, .inl x4] S = mm_E (mm_runD d) pX8_maker 1 0 [some (.inr 27), some (.inl x1), some (.inl x2), some (.inl x3), some (.inl x4)] [] S 0 0 := mm_runD_eq (q := (8, yX8_maker, cX8_maker, 5, 1, 4, pX8_maker, qX8_maker)) (by decide) rfl rfl rfl rfl
set_option maxRecDepth 100000 in
theorem dX8_find {d : Nat} {S : Mem}  : mm_runD (d + 1) 121 [.inr 27] S = mm_E (mm_runD d) pX8_find 0 0 [some (.inr 27), none, none] [] S 0 0 := mm_runD_eq (q := (8, yX8_find, cX8_find, 3, 0, 0, pX8_find, qX8_find)) (by decide) rfl rfl rfl rfl
set_option maxRecDepth 100000 in
theorem dX8_isDead {d : Nat} {S : Mem} {x1 : Int32} : mm_runD (d + 1) 122 [.inr 27, .inl x1] S = mm_E (mm_runD d) pX8_isDead 2 0 [some (.inr 27), some (.inl x1), none, none] [] S 0 0 := mm_runD_eq (q := (8, yX8_isDead, cX8_isDead, 4, 2, 1, pX8_isDead, qX8_isDead)) (by decide) rfl rfl rfl rfl
set_option maxRecDepth 100000 in
theorem dX8_isEmpty {d : Nat} {S : Mem} {x1 : Int32} : mm_runD (d + 1) 123 [.inr 27, .inl x1] S = mm_E (mm_runD d) pX8_isEmpty 2 0 [some (.inr 27), some (.inl x1)] [] S 0 0 := mm_runD_eq (q := (8, yX8_isEmpty, cX8_isEmpty, 2, 2, 1, pX8_isEmpty, qX8_isEmpty)) (by decide) rfl rfl rfl rfl
set_option maxRecDepth 100000 in
theorem dX8_forget {d : Nat} {S : Mem}  : mm_runD (d + 1) 124 [.inr 27] S = mm_E (mm_runD d) pX8_forget 0 0 [some (.inr 27)] [] S 0 0 := mm_runD_eq (q := (8, yX8_forget, cX8_forget, 1, 0, 0, pX8_forget, qX8_forget)) (by decide) rfl rfl rfl rfl
set_option maxRecDepth 100000 in
theorem dX8_match {d : Nat} {S : Mem} {x1 : Int32} {x2 : Int32} {x3 : Int32} : mm_runD (d + 1) 125 [.inr 27, .inl x1, .inl x2, .inl x3] S = mm_E (mm_runD d) pX8_match 0 0 [some (.inr 27), some (.inl x1), some (.inl x2), some (.inl x3)] [] S 0 0 := mm_runD_eq (q := (8, yX8_match, cX8_match, 4, 0, 3, pX8_match, qX8_match)) (by decide) rfl rfl rfl rfl
set_option maxRecDepth 100000 in
theorem dX8_next_34 {d : Nat} {S : Mem} {x2 : Int32} : mm_runD (d + 1) 126 [.inr 27, .inr 34, .inl x2] S = mm_E (mm_runD d) pX8_next 1 0 [some (.inr 27), some (.inr 34), some (.inl x2), none, none, none, none, none] [] S 0 0 := mm_runD_eq (q := (8, yX8_next, cX8_next, 8, 1, 2, pX8_next, qX8_next)) (by decide) rfl rfl rfl rfl
set_option maxRecDepth 100000 in
theorem dX8_next_35 {d : Nat} {S : Mem} {x2 : Int32} : mm_runD (d + 1) 126 [.inr 27, .inr 35, .inl x2] S = mm_E (mm_runD d) pX8_next 1 0 [some (.inr 27), some (.inr 35), some (.inl x2), none, none, none, none, none] [] S 0 0 := mm_runD_eq (q := (8, yX8_next, cX8_next, 8, 1, 2, pX8_next, qX8_next)) (by decide) rfl rfl rfl rfl
set_option maxRecDepth 100000 in
theorem dX8_isMakerOf {d : Nat} {S : Mem} {x1 : Int32} {x2 : Int32} : mm_runD (d + 1) 127 [.inr 27, .inl x1, .inl x2] S = mm_E (mm_runD d) pX8_isMakerOf 2 0 [some (.inr 27), some (.inl x1), some (.inl x2)] [] S 0 0 := mm_runD_eq (q := (8, yX8_isMakerOf, cX8_isMakerOf, 3, 2, 2, pX8_isMakerOf, qX8_isMakerOf)) (by decide) rfl rfl rfl rfl
set_option maxRecDepth 100000 in
theorem dX8_sign {d : Nat} {S : Mem} {x1 : Int32} : mm_runD (d + 1) 128 [.inr 27, .inl x1] S = mm_E (mm_runD d) pX8_sign 1 0 [some (.inr 27), some (.inl x1), none] [] S 0 0 := mm_runD_eq (q := (8, yX8_sign, cX8_sign, 3, 1, 1, pX8_sign, qX8_sign)) (by decide) rfl rfl rfl rfl
set_option maxRecDepth 100000 in
theorem dX8_row {d : Nat} {S : Mem}  : mm_runD (d + 1) 129 [.inr 27] S = mm_E (mm_runD d) pX8_row 1 0 [some (.inr 27), none, none] [] S 0 0 := mm_runD_eq (q := (8, yX8_row, cX8_row, 3, 1, 0, pX8_row, qX8_row)) (by decide) rfl rfl rfl rfl
set_option maxRecDepth 100000 in
theorem dX8_give {d : Nat} {S : Mem} {x1 : Int32} : mm_runD (d + 1) 130 [.inr 27, .inl x1] S = mm_E (mm_runD d) pX8_give 1 0 [some (.inr 27), some (.inl x1)] [] S 0 0 := mm_runD_eq (q := (8, yX8_give, cX8_give, 2, 1, 1, pX8_give, qX8_give)) (by decide) rfl rfl rfl rfl
set_option maxRecDepth 100000 in
theorem dX8_empty {d : Nat} {S : Mem}  : mm_runD (d + 1) 131 [.inr 27] S = mm_E (mm_runD d) pX8_empty 0 0 [some (.inr 27)] [] S 0 0 := mm_runD_eq (q := (8, yX8_empty, cX8_empty, 1, 0, 0, pX8_empty, qX8_empty)) (by decide) rfl rfl rfl rfl
set_option maxRecDepth 100000 in
theorem dX8_behind_32 {d : Nat} {S : Mem} {x2 : Int32} : mm_runD (d + 1) 132 [.inr 27, .inr 32, .inl x2] S = mm_E (mm_runD d) pX8_behind 1 0 [some (.inr 27), some (.inr 32), some (.inl x2), none, none, none] [] S 0 0 := mm_runD_eq (q := (8, yX8_behind, cX8_behind, 6, 1, 2, pX8_behind, qX8_behind)) (by decide) rfl rfl rfl rfl
set_option maxRecDepth 100000 in
theorem dX8_behind_35 {d : Nat} {S : Mem} {x2 : Int32} : mm_runD (d + 1) 132 [.inr 27, .inr 35, .inl x2] S = mm_E (mm_runD d) pX8_behind 1 0 [some (.inr 27), some (.inr 35), some (.inl x2), none, none, none] [] S 0 0 := mm_runD_eq (q := (8, yX8_behind, cX8_behind, 6, 1, 2, pX8_behind, qX8_behind)) (by decide) rfl rfl rfl rfl
set_option maxRecDepth 100000 in
theorem dX8_rowTakes {d : Nat} {S : Mem} {x1 : Int32} : mm_runD (d + 1) 133 [.inr 27, .inl x1] S = mm_E (mm_runD d) pX8_rowTakes 2 0 [some (.inr 27), some (.inl x1), none, none, none, none] [] S 0 0 := mm_runD_eq (q := (8, yX8_rowTakes, cX8_rowTakes, 6, 2, 1, pX8_rowTakes, qX8_rowTakes)) (by decide) rfl rfl rfl rfl
set_option maxRecDepth 100000 in
theorem dX8_fieldsTake {d : Nat} {S : Mem} {x1 : Int32} {x2 : Int32} : mm_runD (d + 1) 134 [.inr 27, .inl x1, .inl x2] S = mm_E (mm_runD d) pX8_fieldsTake 2 0 [some (.inr 27), some (.inl x1), some (.inl x2), none, none, none, none] [] S 0 0 := mm_runD_eq (q := (8, yX8_fieldsTake, cX8_fieldsTake, 7, 2, 2, pX8_fieldsTake, qX8_fieldsTake)) (by decide) rfl rfl rfl rfl
set_option maxRecDepth 100000 in
theorem dX8_canAnswer {d : Nat} {S : Mem}  : mm_runD (d + 1) 135 [.inr 27] S = mm_E (mm_runD d) pX8_canAnswer 2 0 [some (.inr 27)] [] S 0 0 := mm_runD_eq (q := (8, yX8_canAnswer, cX8_canAnswer, 1, 2, 0, pX8_canAnswer, qX8_canAnswer)) (by decide) rfl rfl rfl rfl
set_option maxRecDepth 100000 in
theorem dX8_answer {d : Nat} {S : Mem}  : mm_runD (d + 1) 136 [.inr 27] S = mm_E (mm_runD d) pX8_answer 1 0 [some (.inr 27), none] [] S 0 0 := mm_runD_eq (q := (8, yX8_answer, cX8_answer, 2, 1, 0, pX8_answer, qX8_answer)) (by decide) rfl rfl rfl rfl
set_option maxRecDepth 100000 in
theorem dX8_signOf {d : Nat} {S : Mem} {x1 : Int32} : mm_runD (d + 1) 137 [.inr 27, .inl x1] S = mm_E (mm_runD d) pX8_signOf 1 0 [some (.inr 27), some (.inl x1)] [] S 0 0 := mm_runD_eq (q := (8, yX8_signOf, cX8_signOf, 2, 1, 1, pX8_signOf, qX8_signOf)) (by decide) rfl rfl rfl rfl
set_option maxRecDepth 100000 in
theorem dX8_firstTable {d : Nat} {S : Mem}  : mm_runD (d + 1) 138 [.inr 27] S = mm_E (mm_runD d) pX8_firstTable 0 0 [some (.inr 27), none, none, none] [] S 0 0 := mm_runD_eq (q := (8, yX8_firstTable, cX8_firstTable, 4, 0, 0, pX8_firstTable, qX8_firstTable)) (by decide) rfl rfl rfl rfl
set_option maxRecDepth 100000 in
theorem dX8_part {d : Nat} {S : Mem}  : mm_runD (d + 1) 139 [.inr 27] S = mm_E (mm_runD d) pX8_part 0 0 [some (.inr 27), none, none, none, none] [] S 0 0 := mm_runD_eq (q := (8, yX8_part, cX8_part, 5, 0, 0, pX8_part, qX8_part)) (by decide) rfl rfl rfl rfl
set_option maxRecDepth 100000 in
theorem dX8_doubled {d : Nat} {S : Mem} {x1 : Int32} {x2 : Int32} {x3 : Int32} : mm_runD (d + 1) 140 [.inr 27, .inl x1, .inl x2, .inl x3] S = mm_E (mm_runD d) pX8_doubled 0 0 [some (.inr 27), some (.inl x1), some (.inl x2), some (.inl x3), none, none] [] S 0 0 := mm_runD_eq (q := (8, yX8_doubled, cX8_doubled, 6, 0, 3, pX8_doubled, qX8_doubled)) (by decide) rfl rfl rfl rfl
set_option maxRecDepth 100000 in
theorem dX8_branch {d : Nat} {S : Mem} {x1 : Int32} {x2 : Int32} : mm_runD (d + 1) 141 [.inr 27, .inl x1, .inl x2] S = mm_E (mm_runD d) pX8_branch 0 0 [some (.inr 27), some (.inl x1), some (.inl x2), none, none, none, none, none] [] S 0 0 := mm_runD_eq (q := (8, yX8_branch, cX8_branch, 8, 0, 2, pX8_branch, qX8_branch)) (by decide) rfl rfl rfl rfl
set_option maxRecDepth 100000 in
theorem dX8_widen {d : Nat} {S : Mem} {x1 : Int32} {x2 : Int32} {x3 : Int32} {x4 : Int32} {x5 : Int32} : mm_runD (d + 1) 142 [.inr 27, .inl x1, .inl x2, .inl x3, .inl x4, .inl x5] S = mm_E (mm_runD d) pX8_widen 0 0 [some (.inr 27), some (.inl x1), some (.inl x2), some (.inl x3), some (.inl x4), some (.inl x5), none, none] [] S 0 0 := mm_runD_eq (q := (8, yX8_widen, cX8_widen, 8, 0, 5, pX8_widen, qX8_widen)) (by decide) rfl rfl rfl rfl
set_option maxRecDepth 100000 in
theorem dX8_tableOf {d : Nat} {S : Mem} {x1 : Int32} {x2 : Int32} : mm_runD (d + 1) 143 [.inr 27, .inl x1, .inl x2] S = mm_E (mm_runD d) pX8_tableOf 0 0 [some (.inr 27), some (.inl x1), some (.inl x2), none, none] [] S 0 0 := mm_runD_eq (q := (8, yX8_tableOf, cX8_tableOf, 5, 0, 2, pX8_tableOf, qX8_tableOf)) (by decide) rfl rfl rfl rfl
set_option maxRecDepth 100000 in
theorem dX8_begin {d : Nat} {S : Mem} {x1 : Int32} {x2 : Int32} : mm_runD (d + 1) 144 [.inr 27, .inl x1, .inl x2] S = mm_E (mm_runD d) pX8_begin 0 0 [some (.inr 27), some (.inl x1), some (.inl x2), none, none, none] [] S 0 0 := mm_runD_eq (q := (8, yX8_begin, cX8_begin, 6, 0, 2, pX8_begin, qX8_begin)) (by decide) rfl rfl rfl rfl
set_option maxRecDepth 100000 in
theorem dX8_compile {d : Nat} {S : Mem}  : mm_runD (d + 1) 145 [.inr 27] S = mm_E (mm_runD d) pX8_compile 1 0 [some (.inr 27)] [] S 0 0 := mm_runD_eq (q := (8, yX8_compile, cX8_compile, 1, 1, 0, pX8_compile, qX8_compile)) (by decide) rfl rfl rfl rfl
set_option maxRecDepth 100000 in
theorem dX8_isNode {d : Nat} {S : Mem} {x1 : Int32} : mm_runD (d + 1) 146 [.inr 27, .inl x1] S = mm_E (mm_runD d) pX8_isNode 2 0 [some (.inr 27), some (.inl x1)] [] S 0 0 := mm_runD_eq (q := (8, yX8_isNode, cX8_isNode, 2, 2, 1, pX8_isNode, qX8_isNode)) (by decide) rfl rfl rfl rfl
set_option maxRecDepth 100000 in
theorem dX8_branchOf {d : Nat} {S : Mem} {x1 : Int32} {x2 : Int32} : mm_runD (d + 1) 147 [.inr 27, .inl x1, .inl x2] S = mm_E (mm_runD d) pX8_branchOf 1 0 [some (.inr 27), some (.inl x1), some (.inl x2), none, none] [] S 0 0 := mm_runD_eq (q := (8, yX8_branchOf, cX8_branchOf, 5, 1, 2, pX8_branchOf, qX8_branchOf)) (by decide) rfl rfl rfl rfl
set_option maxRecDepth 100000 in
theorem dX8_node {d : Nat} {S : Mem} {x1 : Int32} {x2 : Int32} : mm_runD (d + 1) 148 [.inr 27, .inl x1, .inl x2] S = mm_E (mm_runD d) pX8_node 1 0 [some (.inr 27), some (.inl x1), some (.inl x2), none] [] S 0 0 := mm_runD_eq (q := (8, yX8_node, cX8_node, 4, 1, 2, pX8_node, qX8_node)) (by decide) rfl rfl rfl rfl
set_option maxRecDepth 100000 in
theorem dX8_missing {d : Nat} {S : Mem}  : mm_runD (d + 1) 149 [.inr 27] S = mm_E (mm_runD d) pX8_missing 1 0 [some (.inr 27), none, none] [] S 0 0 := mm_runD_eq (q := (8, yX8_missing, cX8_missing, 3, 1, 0, pX8_missing, qX8_missing)) (by decide) rfl rfl rfl rfl
set_option maxRecDepth 100000 in
theorem dX8_missingSign {d : Nat} {S : Mem} {x1 : Int32} {x2 : Int32} : mm_runD (d + 1) 150 [.inr 27, .inl x1, .inl x2] S = mm_E (mm_runD d) pX8_missingSign 1 0 [some (.inr 27), some (.inl x1), some (.inl x2), none, none, none] [] S 0 0 := mm_runD_eq (q := (8, yX8_missingSign, cX8_missingSign, 6, 1, 2, pX8_missingSign, qX8_missingSign)) (by decide) rfl rfl rfl rfl
set_option maxRecDepth 100000 in
theorem dX8_tell {d : Nat} {S : Mem} {x1 : Int32} : mm_runD (d + 1) 151 [.inr 27, .inl x1] S = mm_E (mm_runD d) pX8_tell 1 0 [some (.inr 27), some (.inl x1), none, none, none, none, none, none, none, none] [] S 0 0 := mm_runD_eq (q := (8, yX8_tell, cX8_tell, 10, 1, 1, pX8_tell, qX8_tell)) (by decide) rfl rfl rfl rfl
set_option maxRecDepth 100000 in
theorem dX8_isIdle {d : Nat} {S : Mem} {x1 : Int32} : mm_runD (d + 1) 152 [.inr 27, .inl x1] S = mm_E (mm_runD d) pX8_isIdle 2 0 [some (.inr 27), some (.inl x1), none, none] [] S 0 0 := mm_runD_eq (q := (8, yX8_isIdle, cX8_isIdle, 4, 2, 1, pX8_isIdle, qX8_isIdle)) (by decide) rfl rfl rfl rfl
set_option maxRecDepth 100000 in
theorem dX8_tests {d : Nat} {S : Mem}  : mm_runD (d + 1) 153 [.inr 27] S = mm_E (mm_runD d) pX8_tests 1 0 [some (.inr 27), none, none, none, none, none, none, none, none, none, none] [] S 0 0 := mm_runD_eq (q := (8, yX8_tests, cX8_tests, 11, 1, 0, pX8_tests, qX8_tests)) (by decide) rfl rfl rfl rfl
set_option maxRecDepth 100000 in
theorem dX8_about {d : Nat} {S : Mem} {x1 : Int32} : mm_runD (d + 1) 154 [.inr 27, .inl x1] S = mm_E (mm_runD d) pX8_about 1 0 [some (.inr 27), some (.inl x1)] [] S 0 0 := mm_runD_eq (q := (8, yX8_about, cX8_about, 2, 1, 1, pX8_about, qX8_about)) (by decide) rfl rfl rfl rfl
end
section
/-! PURE: the class's Kinds -/
/-- the numbers of types T and makers M, and what a maker is made of -/
def mp_K (S : Mem) (T M : Nat) (ty fc : Nat → Nat) (ft : Nat → Nat → Nat) : Prop :=
  S 1 0 = nI T ∧ T ≤ 8 ∧ S 1 1 = nI M ∧ M ≤ 40 ∧ ∀ m, m < M → (S 4 m = nI (ty m) ∧ ty m < T ∧ S 5 m = nI (fc m) ∧ fc m ≤ 3 ∧ ∀ k, k < fc m → S 6 (3 * m + k) = nI (ft m k) ∧ ft m k < T)
theorem mp_nge (x : Int32) (n : Nat) {j : Nat} (hx : x = nI n) (h : j < n) (hn : n < 2 ^ 31) : ¬ x ≤ nI j := by rw [hx]; exact nI_ge h hn
theorem mp_hasType_in {d : Nat} {S : Mem} {T j : Nat} (hT : S 1 0 = nI T) (h8 : T ≤ 8) (hj : j < T) : mm_runD (d + 1) 19 [.inr 1, .inl (nI j)] S = some (S, 0, 0, 0, 1) := by
  rw [dX2_hasType, eX2_hasType_0, if_neg (nI_pos (by omega)), hT, if_neg (nI_ge hj (by omega)), if_neg (mp_nge 8 8 rfl (by omega) (by decide))]
theorem mp_hasType_out {d : Nat} {S : Mem} {T : Nat} {t : Int32} (hT : S 1 0 = nI T) (h : t < 0 ∨ nI T ≤ t) : mm_runD (d + 1) 19 [.inr 1, .inl t] S = some (S, 0, 0, 0, 0) := by
  rw [dX2_hasType, eX2_hasType_0]
  by_cases h0 : t < 0
  · rw [if_pos h0]
  · rcases h with h | h
    · exact absurd h h0
    · rw [if_neg h0, hT, if_pos h]
theorem mp_hasMaker_in {d : Nat} {S : Mem} {M j : Nat} (hM : S 1 1 = nI M) (h8 : M ≤ 40) (hj : j < M) : mm_runD (d + 1) 20 [.inr 1, .inl (nI j)] S = some (S, 0, 0, 0, 1) := by
  rw [dX2_hasMaker, eX2_hasMaker_0, if_neg (nI_pos (by omega)), hM, if_neg (nI_ge hj (by omega)), if_neg (mp_nge 40 40 rfl (by omega) (by decide))]
theorem mp_hasMaker_out {d : Nat} {S : Mem} {M : Nat} {t : Int32} (hM : S 1 1 = nI M) (h : t < 0 ∨ nI M ≤ t) : mm_runD (d + 1) 20 [.inr 1, .inl t] S = some (S, 0, 0, 0, 0) := by
  rw [dX2_hasMaker, eX2_hasMaker_0]
  by_cases h0 : t < 0
  · rw [if_pos h0]
  · rcases h with h | h
    · exact absurd h h0
    · rw [if_neg h0, hM, if_pos h]
theorem mp_ix {S : Mem} {c n j : Nat} (h22 : Nat.beq c mm_RM = false) (h : j < n) (hn : n < 2 ^ 31) : ¬ (nI j < 0 ∨ mm_len S c n ≤ (nI j).toNatClampNeg) := by
  have : mm_len S c n = n := by unfold mm_len; rw [h22]
  rw [this]
  exact nI_in h hn
theorem mp_typeOf_in {d : Nat} {S : Mem} {M j : Nat} (hM : S 1 1 = nI M) (h8 : M ≤ 40) (hj : j < M) : mm_runD (d + 2) 23 [.inr 1, .inl (nI j)] S = some (S, 0, 0, 0, S 4 j) := by
  rw [dX2_typeOf, eX2_typeOf_0, mp_hasMaker_in hM h8 hj, mm_bd_ret, if_neg (by decide), mm_arr_in (n := 40) rfl (mp_ix rfl (by omega) (by decide)), nI_clamp (by omega)]
theorem mp_typeOf_out {d : Nat} {S : Mem} {M : Nat} {t : Int32} (hM : S 1 1 = nI M) (h : t < 0 ∨ nI M ≤ t) : mm_runD (d + 2) 23 [.inr 1, .inl t] S = some (S, 0, 0, 0, -1) := by
  rw [dX2_typeOf, eX2_typeOf_0, mp_hasMaker_out hM h, mm_bd_ret, if_pos rfl]
theorem mp_fieldCount_in {d : Nat} {S : Mem} {M j : Nat} (hM : S 1 1 = nI M) (h8 : M ≤ 40) (hj : j < M) : mm_runD (d + 2) 24 [.inr 1, .inl (nI j)] S = some (S, 0, 0, 0, S 5 j) := by
  rw [dX2_fieldCount, eX2_fieldCount_0, mp_hasMaker_in hM h8 hj, mm_bd_ret, if_neg (by decide), mm_arr_in (n := 40) rfl (mp_ix rfl (by omega) (by decide)), nI_clamp (by omega)]
theorem mp_fieldCount_out {d : Nat} {S : Mem} {M : Nat} {t : Int32} (hM : S 1 1 = nI M) (h : t < 0 ∨ nI M ≤ t) : mm_runD (d + 2) 24 [.inr 1, .inl t] S = some (S, 0, 0, 0, 0) := by
  rw [dX2_fieldCount, eX2_fieldCount_0, mp_hasMaker_out hM h, mm_bd_ret, if_pos rfl]
theorem mp_hasValue_in {d : Nat} {S : Mem} {T j : Nat} (hT : S 1 0 = nI T) (h8 : T ≤ 8) (hj : j < T) : mm_runD (d + 2) 22 [.inr 1, .inl (nI j)] S = some (S, 0, 0, 0, if S 3 j = 0 then 0 else 1) := by
  rw [dX2_hasValue, eX2_hasValue_0, mp_hasType_in hT h8 hj, mm_bd_ret, if_neg (by decide), mm_arr_in (n := 8) rfl (mp_ix rfl (by omega) (by decide)), nI_clamp (by omega)]
  split <;> rfl
theorem mp_fieldType_in {d : Nat} {S : Mem} {M j k f : Nat} (hM : S 1 1 = nI M) (h8 : M ≤ 40) (hj : j < M) (hf : S 5 j = nI f) (hf3 : f ≤ 3) (hk : k < f) : mm_runD (d + 3) 25 [.inr 1, .inl (nI j), .inl (nI k)] S = some (S, 0, 0, 0, S 6 (3 * j + k)) := by
  have e : nI j * 3 + nI k = nI (3 * j + k) := by
    rw [show (3 : Int32) = nI 3 from rfl, pk_mul, nI_add, Nat.mul_comm]
  rw [dX2_fieldType, eX2_fieldType_0, if_neg (nI_pos (by omega)), if_neg (mp_nge 3 3 rfl (by omega) (by decide)), mp_fieldCount_in hM h8 hj, mm_bd_ret, hf, if_neg (nI_ge hk (by omega)), e, mm_arr_in (n := 120) rfl (mp_ix rfl (by omega) (by decide)), nI_clamp (by omega)]
theorem mp_isDead_loop {d : Nat} {S : Mem} {T M m f : Nat} {ft : Nat → Nat} (hT : S 1 0 = nI T) (hT8 : T ≤ 8) (hM : S 1 1 = nI M) (hM40 : M ≤ 40) (hm : m < M) (hf : S 5 m = nI f) (hf3 : f ≤ 3) (hft : ∀ k, k < f → S 6 (3 * m + k) = nI (ft k) ∧ ft k < T) :
    ∀ (n i : Nat), f - i = n → i ≤ f → ((∀ k, i ≤ k → k < f → S 3 (ft k) ≠ 0) → mm_E (mm_runD (d + 3)) pX2_isDead 2 2 [some (.inr 1), some (.inl (nI m)), some (.inl (nI i))] [] S 0 0 = some (S, 0, 0, 0, 0)) ∧ ((∃ k, i ≤ k ∧ k < f ∧ S 3 (ft k) = 0) → mm_E (mm_runD (d + 3)) pX2_isDead 2 2 [some (.inr 1), some (.inl (nI m)), some (.inl (nI i))] [] S 0 0 = some (S, 0, 0, 0, 1)) := by
  intro n
  induction n with
  | zero =>
    intro i hn hi
    have e : i = f := by omega
    subst e
    refine ⟨fun _ => ?_, fun ⟨k, h1, h2, _⟩ => absurd h1 (by omega)⟩
    rw [eX2_isDead_2, mp_fieldCount_in hM hM40 hm, mm_bd_ret, hf, if_pos (nI_le (Nat.le_refl _) (by omega))]
  | succ n ih =>
    intro i hn hi
    have hlt : i < f := by omega
    obtain ⟨h1, h2⟩ := hft i hlt
    have step : mm_E (mm_runD (d + 3)) pX2_isDead 2 2 [some (.inr 1), some (.inl (nI m)), some (.inl (nI i))] [] S 0 0 = if S 3 (ft i) = 0 then some (S, 0, 0, 0, 1) else mm_E (mm_runD (d + 3)) pX2_isDead 2 2 [some (.inr 1), some (.inl (nI m)), some (.inl (nI (i + 1)))] [] S 0 0 := by
      rw [eX2_isDead_2, mp_fieldCount_in hM hM40 hm, mm_bd_ret, hf, if_neg (nI_ge hlt (by omega)), mp_fieldType_in hM hM40 hm hf hf3 hlt, mm_bd_ret, h1, mp_hasValue_in hT hT8 h2, mm_bd_ret, nI_1]
      by_cases hz : S 3 (ft i) = 0
      · rw [if_pos hz, if_pos hz, if_pos rfl]
      · rw [if_neg hz, if_neg hz, if_neg (by decide)]
    obtain ⟨ih1, ih2⟩ := ih (i + 1) (by omega) (by omega)
    refine ⟨fun h => ?_, fun ⟨k, k1, k2, k3⟩ => ?_⟩
    · rw [step, if_neg (h i (Nat.le_refl _) hlt)]
      exact ih1 (fun k a b => h k (by omega) b)
    · rw [step]
      by_cases hz : S 3 (ft i) = 0
      · rw [if_pos hz]
      · rw [if_neg hz]
        refine ih2 ⟨k, ?_, k2, k3⟩
        rcases Nat.lt_or_ge i k with z | z
        · exact z
        · have : k = i := by omega
          subst this; exact absurd k3 hz
/-- a maker is dead: a field's type has no value noted -/
def mp_dead (S : Mem) (f : Nat) (ft : Nat → Nat) : Prop := ∃ k, k < f ∧ S 3 (ft k) = 0
theorem mp_isDead {d : Nat} {S : Mem} {T M m f : Nat} {ft : Nat → Nat} (hT : S 1 0 = nI T) (hT8 : T ≤ 8) (hM : S 1 1 = nI M) (hM40 : M ≤ 40) (hm : m < M) (hf : S 5 m = nI f) (hf3 : f ≤ 3) (hft : ∀ k, k < f → S 6 (3 * m + k) = nI (ft k) ∧ ft k < T) :
    (¬ mp_dead S f ft → mm_runD (d + 4) 26 [.inr 1, .inl (nI m)] S = some (S, 0, 0, 0, 0)) ∧ (mp_dead S f ft → mm_runD (d + 4) 26 [.inr 1, .inl (nI m)] S = some (S, 0, 0, 0, 1)) := by
  obtain ⟨h1, h2⟩ := mp_isDead_loop (d := d) hT hT8 hM hM40 hm hf hf3 hft (f - 0) 0 rfl (Nat.zero_le _)
  refine ⟨fun h => ?_, fun ⟨k, k1, k2⟩ => ?_⟩
  · rw [dX2_isDead, eX2_isDead_0]
    exact h1 (fun k _ b q => h ⟨k, b, q⟩)
  · rw [dX2_isDead, eX2_isDead_0]
    exact h2 ⟨k, Nat.zero_le _, k1, k2⟩
end
section
/-! PURE: memory reads; promise 2 (type), class and reference -/
theorem mp_pp (S : Mem) (c k : Nat) (v : Int32) : mm_put S c k v c k = v := by unfold mm_put; rw [mm_stc_at]; exact pk_us
theorem mp_pk (S : Mem) (c : Nat) {k j : Nat} (v : Int32) (h : j ≠ k) : mm_put S c k v c j = S c j := by unfold mm_put; rw [mm_stc_at]; exact pk_un h
theorem mp_pn (S : Mem) {c x : Nat} (k : Nat) (v : Int32) (h : x ≠ c) : mm_put S c k v x = S x := mm_stc_ne _ _ h
theorem mp_typeCount {d : Nat} {S : Mem} : mm_runD (d + 1) 17 [.inr 1] S = some (S, 0, 0, 0, S 1 0) := by
  rw [dX2_typeCount, eX2_typeCount_0]
theorem mp_type_full {d : Nat} {S : Mem} (h : S 1 0 = nI 8) : mm_runD (d + 2) 89 [.inr 0] S = some (S, 1, 6, 1, 0) := by
  rw [dX7_type, eX7_type_0, mp_typeCount, mm_bd_ret, h, if_neg (by decide)]
theorem mp_type_ok {d T : Nat} {S : Mem} (h : S 1 0 = nI T) (hT : T < 8) : mm_runD (d + 2) 89 [.inr 0] S = some (mm_put S 1 0 (nI (T + 1)), 0, 0, 0, nI T) := by
  rw [dX7_type, eX7_type_0, mp_typeCount, mm_bd_ret, h, if_pos (show nI T < 8 from nI_lt (b := 8) hT (by decide)), dX2_addType, eX2_addType_0, h, if_neg (mp_nge 8 8 rfl hT (by decide)), mm_bd_ret, nI_1]
theorem mr_type_full {d : Nat} {S : Mem} (h : S 27 1 = nI 8) : mm_runD (d + 1) 118 [.inr 27] S = some (mm_put S 27 0 1, 0, 0, 0, 0) := by
  rw [dX8_type, eX8_type_0, h, if_pos (show nI 8 = 8 from rfl), mp_pp, if_neg (by decide)]
theorem mr_type_ok {d T : Nat} {S : Mem} (h : S 27 1 = nI T) (hT : T < 8) : mm_runD (d + 1) 118 [.inr 27] S = some (mm_put (mm_put S 27 0 0) 27 1 (nI (T + 1)), 0, 0, 0, nI T) := by
  have e1 : ¬ S 27 1 = 8 := by
    rw [h]
    exact fun q => absurd ((nI_eq (by omega) (by decide)).mp (show nI T = nI 8 from q)) (by omega)
  rw [dX8_type, eX8_type_0, if_neg e1, mp_pp, if_pos (by decide), mp_pp, mp_pk _ _ _ (by decide), h, nI_1, nI_pred]
theorem mr_isType_in {d T j : Nat} {S : Mem} (h : S 27 1 = nI T) (hT : T ≤ 8) (hj : j < T) : mm_runD (d + 1) 115 [.inr 27, .inl (nI j)] S = some (S, 0, 0, 0, 1) := by
  rw [dX8_isType, eX8_isType_0, if_neg (nI_pos (by omega)), h, if_neg (nI_ge hj (by omega))]
theorem mr_isType_out {d T : Nat} {t : Int32} {S : Mem} (h : S 27 1 = nI T) (ht : t < 0 ∨ nI T ≤ t) : mm_runD (d + 1) 115 [.inr 27, .inl t] S = some (S, 0, 0, 0, 0) := by
  rw [dX8_isType, eX8_isType_0]
  by_cases h0 : t < 0
  · rw [if_pos h0]
  · rcases ht with ht | ht
    · exact absurd ht h0
    · rw [if_neg h0, h, if_pos ht]
end
section
/-! PURE: numbers, so that a walk's tests are decided by omega -/
theorem nn_ltT {a b : Nat} (h : a < b) (hb : b < 2 ^ 31) : (nI a < nI b) = True := eq_true (nI_lt h hb)
theorem nn_ltF {a b : Nat} (h : b ≤ a) (ha : a < 2 ^ 31) : (nI a < nI b) = False := eq_false (nI_nlt h ha)
theorem nn_leT {a b : Nat} (h : a ≤ b) (hb : b < 2 ^ 31) : (nI a ≤ nI b) = True := eq_true (nI_le h hb)
theorem nn_leF {a b : Nat} (h : b < a) (ha : a < 2 ^ 31) : (nI a ≤ nI b) = False := eq_false (nI_ge h ha)
theorem nn_eqT {a b : Nat} (h : a = b) : (nI a = nI b) = True := eq_true (by rw [h])
theorem nn_eqF {a b : Nat} (h : a ≠ b) (ha : a < 2 ^ 31) (hb : b < 2 ^ 31) : (nI a = nI b) = False := eq_false (fun q => h ((nI_eq ha hb).mp q))
theorem nn_mul (a b : Nat) : nI a * nI b = nI (a * b) := (pk_mul a b)
abbrev N1 : Int32 := -1
abbrev N2 : Int32 := -2
theorem nn_n1 : -nI 1 = N1 := rfl
theorem nn_n2 : -nI 2 = N2 := rfl
theorem nn_sub {a b : Nat} (h : b ≤ a) : nI a - nI b = nI (a - b) := by
  obtain ⟨c, rfl⟩ : ∃ c, a = b + c := ⟨a - b, by omega⟩
  rw [← nI_add, Nat.add_sub_cancel_left, Int32.add_comm, Int32.add_sub_cancel]
theorem nn_dec {a : Nat} (h : 0 < a) : nI a + N1 = nI (a - 1) := by
  obtain ⟨c, rfl⟩ : ∃ c, a = c + 1 := ⟨a - 1, by omega⟩
  show nI (c + 1) + (-1) = nI (c + 1 - 1)
  rw [Nat.add_sub_cancel, ← Int32.sub_eq_add_neg, nI_pred]
theorem nn_sm (x : Int32) : x + (-1) = x - 1 := (Int32.sub_eq_add_neg (a := x) (b := 1)).symm
theorem nn_toI {x : Int32} : x = N1 ↔ x.toInt = -1 := ⟨fun h => by rw [h]; rfl, fun h => Int32.toInt_inj.mp (by rw [h]; rfl)⟩
theorem nn_a1 {a : Nat} (h : a < 2 ^ 31) : (nI a = N1) = False := eq_false (fun q => by have := congrArg Int32.toInt q; rw [nI_toInt h] at this; have e : N1.toInt = -1 := rfl; omega)
theorem nn_a2 {a : Nat} (h : a < 2 ^ 31) : (nI a = N2) = False := eq_false (fun q => by have := congrArg Int32.toInt q; rw [nI_toInt h] at this; have e : N2.toInt = -2 := rfl; omega)
theorem nn_a3 {a : Nat} (h : a < 2 ^ 31) : (N1 = nI a) = False := eq_false (fun q => by have e := nn_a1 h; rw [← q] at e; exact e.mp rfl)
theorem nn_a4 {a : Nat} (h : a < 2 ^ 31) : (N2 = nI a) = False := eq_false (fun q => by have e := nn_a2 h; rw [← q] at e; exact e.mp rfl)
theorem nn_a5 : (N1 = N2) = False := eq_false (by decide)
theorem nn_a6 : (N2 = N1) = False := eq_false (by decide)
theorem nn_a7 {a : Nat} (h : a < 2 ^ 31) : (N1 < nI a) = True := eq_true (by rw [Int32.lt_iff_toInt_lt, nI_toInt h]; have e : N1.toInt = -1 := rfl; omega)
theorem nn_a8 {a : Nat} (h : a < 2 ^ 31) : (nI a ≤ N1) = False := eq_false (by rw [Int32.le_iff_toInt_le, nI_toInt h]; have e : N1.toInt = -1 := rfl; omega)
theorem nn_a9 {a : Nat} (h : a < 2 ^ 31) : (nI a ≤ N2) = False := eq_false (by rw [Int32.le_iff_toInt_le, nI_toInt h]; have e : N2.toInt = -2 := rfl; omega)
theorem nn_a10 : N1 + nI 1 = nI 0 := rfl
theorem nn_a11 : nI 0 + N1 = N1 := rfl
theorem nn_a12 {a : Nat} (h : a < 2 ^ 31) : (N2 < nI a) = True := eq_true (by rw [Int32.lt_iff_toInt_lt, nI_toInt h]; have e : N2.toInt = -2 := rfl; omega)
theorem nn_a13 : nI 0 - nI 1 = N1 := rfl
theorem nn_nar0 : vp_nar .boolean 0 = 0 := by decide +kernel
theorem nn_nar1 : vp_nar .boolean 1 = 1 := by decide +kernel
/-- a test's answer -/
noncomputable def mb (p : Prop) : Int32 := @ite Int32 p (Classical.propDecidable p) 1 0
theorem mb_t {p : Prop} (h : p) : mb p = 1 := by unfold mb; rw [if_pos h]
theorem mb_f {p : Prop} (h : ¬ p) : mb p = 0 := by unfold mb; rw [if_neg h]
theorem mb_0 (p : Prop) : (mb p = 0) = ¬ p := by
  by_cases h : p
  · rw [mb_t h]; exact propext ⟨fun q => absurd q (by decide), fun q => absurd h q⟩
  · rw [mb_f h]; exact propext ⟨fun _ => h, fun _ => rfl⟩
theorem mb_nar (p : Prop) : vp_nar .boolean (mb p) = mb p := by
  by_cases h : p
  · rw [mb_t h]; exact nn_nar1
  · rw [mb_f h]; exact nn_nar0
theorem mb_01 (p : Prop) : mb p = 0 ∨ mb p = 1 := by
  by_cases h : p
  · exact Or.inr (mb_t h)
  · exact Or.inl (mb_f h)
theorem mb_iff {p q : Prop} (h : p ↔ q) : mb p = mb q := by rw [propext h]
/-- a walk whose row j is a loop's head -/
theorem mm_while {call : Nat → List MV → Mem → Option Res} {P : List PI} {rt j : Nat} {st : List MV} {Post : Option Res → Prop} (Q : Nat → List (Option MV) → Mem → Nat → Nat → Prop)
    (h : ∀ n L S kc ks, Q n L S kc ks → Post (mm_E call P rt j L st S kc ks) ∨ ∃ m L' S' kc' ks', m < n ∧ Q m L' S' kc' ks' ∧ mm_E call P rt j L st S kc ks = mm_E call P rt j L' st S' kc' ks') :
    ∀ n L S kc ks, Q n L S kc ks → Post (mm_E call P rt j L st S kc ks) := by
  intro n
  induction n using Nat.strongRecOn with
  | ind n ih =>
    intro L S kc ks hq
    rcases h n L S kc ks hq with h1 | ⟨m, L', S', kc', ks', h1, h2, h3⟩
    · exact h1
    · rw [h3]; exact ih m h1 L' S' kc' ks' h2
theorem ar_2 {S : Mem} {j : Nat} {k : Nat → Option Res} (h : j < 8) : mm_arr S 1 2 (nI j) k = k j := by
  rw [mm_arr_in (n := 8) rfl (mp_ix rfl h (by decide)), nI_clamp (by omega)]
theorem ar_3 {S : Mem} {j : Nat} {k : Nat → Option Res} (h : j < 8) : mm_arr S 2 3 (nI j) k = k j := by
  rw [mm_arr_in (n := 8) rfl (mp_ix rfl h (by decide)), nI_clamp (by omega)]
theorem ar_4 {S : Mem} {j : Nat} {k : Nat → Option Res} (h : j < 40) : mm_arr S 1 4 (nI j) k = k j := by
  rw [mm_arr_in (n := 40) rfl (mp_ix rfl h (by decide)), nI_clamp (by omega)]
theorem ar_5 {S : Mem} {j : Nat} {k : Nat → Option Res} (h : j < 40) : mm_arr S 1 5 (nI j) k = k j := by
  rw [mm_arr_in (n := 40) rfl (mp_ix rfl h (by decide)), nI_clamp (by omega)]
theorem ar_6 {S : Mem} {j : Nat} {k : Nat → Option Res} (h : j < 120) : mm_arr S 1 6 (nI j) k = k j := by
  rw [mm_arr_in (n := 120) rfl (mp_ix rfl h (by decide)), nI_clamp (by omega)]
theorem ar_7 {S : Mem} {j : Nat} {k : Nat → Option Res} (h : j < 3) : mm_arr S 1 7 (nI j) k = k j := by
  rw [mm_arr_in (n := 3) rfl (mp_ix rfl h (by decide)), nI_clamp (by omega)]
theorem ar_9 {S : Mem} {j : Nat} {k : Nat → Option Res} (h : j < 480) : mm_arr S 1 9 (nI j) k = k j := by
  rw [mm_arr_in (n := 480) rfl (mp_ix rfl h (by decide)), nI_clamp (by omega)]
theorem ar_10 {S : Mem} {j : Nat} {k : Nat → Option Res} (h : j < 480) : mm_arr S 1 10 (nI j) k = k j := by
  rw [mm_arr_in (n := 480) rfl (mp_ix rfl h (by decide)), nI_clamp (by omega)]
theorem ar_12 {S : Mem} {j : Nat} {k : Nat → Option Res} (h : j < 40) : mm_arr S 1 12 (nI j) k = k j := by
  rw [mm_arr_in (n := 40) rfl (mp_ix rfl h (by decide)), nI_clamp (by omega)]
theorem ar_13 {S : Mem} {j : Nat} {k : Nat → Option Res} (h : j < 40) : mm_arr S 1 13 (nI j) k = k j := by
  rw [mm_arr_in (n := 40) rfl (mp_ix rfl h (by decide)), nI_clamp (by omega)]
theorem ar_14 {S : Mem} {j : Nat} {k : Nat → Option Res} (h : j < 83) : mm_arr S 1 14 (nI j) k = k j := by
  rw [mm_arr_in (n := 83) rfl (mp_ix rfl h (by decide)), nI_clamp (by omega)]
theorem ar_16 {S : Mem} {j : Nat} {k : Nat → Option Res} (h : j < 60) : mm_arr S 1 16 (nI j) k = k j := by
  rw [mm_arr_in (n := 60) rfl (mp_ix rfl h (by decide)), nI_clamp (by omega)]
theorem ar_17 {S : Mem} {j : Nat} {k : Nat → Option Res} (h : j < 60) : mm_arr S 1 17 (nI j) k = k j := by
  rw [mm_arr_in (n := 60) rfl (mp_ix rfl h (by decide)), nI_clamp (by omega)]
theorem ar_18 {S : Mem} {j : Nat} {k : Nat → Option Res} (h : j < 123) : mm_arr S 1 18 (nI j) k = k j := by
  rw [mm_arr_in (n := 123) rfl (mp_ix rfl h (by decide)), nI_clamp (by omega)]
theorem ar_20 {S : Mem} {j : Nat} {k : Nat → Option Res} (h : j < 2700) : mm_arr S 1 20 (nI j) k = k j := by
  rw [mm_arr_in (n := 2700) rfl (mp_ix rfl h (by decide)), nI_clamp (by omega)]
theorem ar_24 {S : Mem} {j : Nat} {k : Nat → Option Res} (h : j < 340) : mm_arr S 1 24 (nI j) k = k j := by
  rw [mm_arr_in (n := 340) rfl (mp_ix rfl h (by decide)), nI_clamp (by omega)]
theorem ar_26 {S : Mem} {j : Nat} {k : Nat → Option Res} (h : j < 40) : mm_arr S 1 26 (nI j) k = k j := by
  rw [mm_arr_in (n := 40) rfl (mp_ix rfl h (by decide)), nI_clamp (by omega)]
theorem ar_28 {S : Mem} {j : Nat} {k : Nat → Option Res} (h : j < 40) : mm_arr S 1 28 (nI j) k = k j := by
  rw [mm_arr_in (n := 40) rfl (mp_ix rfl h (by decide)), nI_clamp (by omega)]
theorem ar_29 {S : Mem} {j : Nat} {k : Nat → Option Res} (h : j < 120) : mm_arr S 1 29 (nI j) k = k j := by
  rw [mm_arr_in (n := 120) rfl (mp_ix rfl h (by decide)), nI_clamp (by omega)]
theorem ar_30 {S : Mem} {j : Nat} {k : Nat → Option Res} (h : j < 8) : mm_arr S 2 30 (nI j) k = k j := by
  rw [mm_arr_in (n := 8) rfl (mp_ix rfl h (by decide)), nI_clamp (by omega)]
theorem ar_31 {S : Mem} {j : Nat} {k : Nat → Option Res} (h : j < 3) : mm_arr S 1 31 (nI j) k = k j := by
  rw [mm_arr_in (n := 3) rfl (mp_ix rfl h (by decide)), nI_clamp (by omega)]
theorem ar_32 {S : Mem} {j : Nat} {k : Nat → Option Res} (h : j < 480) : mm_arr S 1 32 (nI j) k = k j := by
  rw [mm_arr_in (n := 480) rfl (mp_ix rfl h (by decide)), nI_clamp (by omega)]
theorem ar_33 {S : Mem} {j : Nat} {k : Nat → Option Res} (h : j < 12) : mm_arr S 1 33 (nI j) k = k j := by
  rw [mm_arr_in (n := 12) rfl (mp_ix rfl h (by decide)), nI_clamp (by omega)]
theorem ar_34 {S : Mem} {j : Nat} {k : Nat → Option Res} (h : j < 40) : mm_arr S 1 34 (nI j) k = k j := by
  rw [mm_arr_in (n := 40) rfl (mp_ix rfl h (by decide)), nI_clamp (by omega)]
theorem ar_35 {S : Mem} {j : Nat} {k : Nat → Option Res} (h : j < 60) : mm_arr S 1 35 (nI j) k = k j := by
  rw [mm_arr_in (n := 60) rfl (mp_ix rfl h (by decide)), nI_clamp (by omega)]
theorem ar_36 {S : Mem} {j : Nat} {k : Nat → Option Res} (h : j < 300) : mm_arr S 1 36 (nI j) k = k j := by
  rw [mm_arr_in (n := 300) rfl (mp_ix rfl h (by decide)), nI_clamp (by omega)]
theorem ar_37 {S : Mem} {j : Nat} {k : Nat → Option Res} (h : j < 28800) : mm_arr S 2 37 (nI j) k = k j := by
  rw [mm_arr_in (n := 28800) rfl (mp_ix rfl h (by decide)), nI_clamp (by omega)]
theorem ar_38 {S : Mem} {j : Nat} {k : Nat → Option Res} (h : j < 44) : mm_arr S 1 38 (nI j) k = k j := by
  rw [mm_arr_in (n := 44) rfl (mp_ix rfl h (by decide)), nI_clamp (by omega)]
theorem ar_39 {S : Mem} {j : Nat} {k : Nat → Option Res} (h : j < 62) : mm_arr S 1 39 (nI j) k = k j := by
  rw [mm_arr_in (n := 62) rfl (mp_ix rfl h (by decide)), nI_clamp (by omega)]
theorem ar_40 {S : Mem} {j : Nat} {k : Nat → Option Res} (h : j < 2728) : mm_arr S 1 40 (nI j) k = k j := by
  rw [mm_arr_in (n := 2728) rfl (mp_ix rfl h (by decide)), nI_clamp (by omega)]
theorem ar_41 {S : Mem} {j : Nat} {k : Nat → Option Res} (h : j < 44) : mm_arr S 1 41 (nI j) k = k j := by
  rw [mm_arr_in (n := 44) rfl (mp_ix rfl h (by decide)), nI_clamp (by omega)]
theorem ar_42 {S : Mem} {j : Nat} {k : Nat → Option Res} (h : j < 301) : mm_arr S 1 42 (nI j) k = k j := by
  rw [mm_arr_in (n := 301) rfl (mp_ix rfl h (by decide)), nI_clamp (by omega)]
theorem ar_43 {S : Mem} {j : Nat} {k : Nat → Option Res} (h : j < 301) : mm_arr S 1 43 (nI j) k = k j := by
  rw [mm_arr_in (n := 301) rfl (mp_ix rfl h (by decide)), nI_clamp (by omega)]
theorem ar_44 {S : Mem} {j : Nat} {k : Nat → Option Res} (h : j < 301) : mm_arr S 1 44 (nI j) k = k j := by
  rw [mm_arr_in (n := 301) rfl (mp_ix rfl h (by decide)), nI_clamp (by omega)]
theorem ar_45 {S : Mem} {j : Nat} {k : Nat → Option Res} (h : j < 301) : mm_arr S 1 45 (nI j) k = k j := by
  rw [mm_arr_in (n := 301) rfl (mp_ix rfl h (by decide)), nI_clamp (by omega)]
theorem ar_46 {S : Mem} {j : Nat} {k : Nat → Option Res} (h : j < 301) : mm_arr S 1 46 (nI j) k = k j := by
  rw [mm_arr_in (n := 301) rfl (mp_ix rfl h (by decide)), nI_clamp (by omega)]
theorem ar_47 {S : Mem} {j : Nat} {k : Nat → Option Res} (h : j < 301) : mm_arr S 1 47 (nI j) k = k j := by
  rw [mm_arr_in (n := 301) rfl (mp_ix rfl h (by decide)), nI_clamp (by omega)]
theorem ar_48 {S : Mem} {j : Nat} {k : Nat → Option Res} (h : j < 301) : mm_arr S 1 48 (nI j) k = k j := by
  rw [mm_arr_in (n := 301) rfl (mp_ix rfl h (by decide)), nI_clamp (by omega)]
theorem ar_49 {S : Mem} {j : Nat} {k : Nat → Option Res} (h : j < 301) : mm_arr S 1 49 (nI j) k = k j := by
  rw [mm_arr_in (n := 301) rfl (mp_ix rfl h (by decide)), nI_clamp (by omega)]
theorem ar_50 {S : Mem} {j : Nat} {k : Nat → Option Res} (h : j < 2500) : mm_arr S 1 50 (nI j) k = k j := by
  rw [mm_arr_in (n := 2500) rfl (mp_ix rfl h (by decide)), nI_clamp (by omega)]
theorem ar_51 {S : Mem} {j : Nat} {k : Nat → Option Res} (h : j < 2500) : mm_arr S 1 51 (nI j) k = k j := by
  rw [mm_arr_in (n := 2500) rfl (mp_ix rfl h (by decide)), nI_clamp (by omega)]
theorem ar_52 {S : Mem} {j : Nat} {k : Nat → Option Res} (h : j < 301) : mm_arr S 1 52 (nI j) k = k j := by
  rw [mm_arr_in (n := 301) rfl (mp_ix rfl h (by decide)), nI_clamp (by omega)]
theorem ar_53 {S : Mem} {j : Nat} {k : Nat → Option Res} (h : j < 400) : mm_arr S 1 53 (nI j) k = k j := by
  rw [mm_arr_in (n := 400) rfl (mp_ix rfl h (by decide)), nI_clamp (by omega)]
theorem li_0 : (0 : Int32) = nI 0 := rfl
theorem li_1 : (1 : Int32) = nI 1 := rfl
theorem li_2 : (2 : Int32) = nI 2 := rfl
theorem li_3 : (3 : Int32) = nI 3 := rfl
theorem li_4 : (4 : Int32) = nI 4 := rfl
theorem li_5 : (5 : Int32) = nI 5 := rfl
theorem li_6 : (6 : Int32) = nI 6 := rfl
theorem li_7 : (7 : Int32) = nI 7 := rfl
theorem li_8 : (8 : Int32) = nI 8 := rfl
theorem li_9 : (9 : Int32) = nI 9 := rfl
theorem li_12 : (12 : Int32) = nI 12 := rfl
theorem li_40 : (40 : Int32) = nI 40 := rfl
theorem li_41 : (41 : Int32) = nI 41 := rfl
theorem li_42 : (42 : Int32) = nI 42 := rfl
theorem li_43 : (43 : Int32) = nI 43 := rfl
theorem li_44 : (44 : Int32) = nI 44 := rfl
theorem li_60 : (60 : Int32) = nI 60 := rfl
theorem li_100 : (100 : Int32) = nI 100 := rfl
theorem li_101 : (101 : Int32) = nI 101 := rfl
theorem li_300 : (300 : Int32) = nI 300 := rfl
theorem li_512 : (512 : Int32) = nI 512 := rfl
end
section
/-! PURE: kinds, apart from any memory -/
abbrev KK : Type := Nat × Nat × (Nat → Nat) × (Nat → Nat) × (Nat → Nat → Nat)
def kT (k : KK) : Nat := k.1
def kM (k : KK) : Nat := k.2.1
def kTy (k : KK) : Nat → Nat := k.2.2.1
def kFc (k : KK) : Nat → Nat := k.2.2.2.1
def kFt (k : KK) : Nat → Nat → Nat := k.2.2.2.2
def kW (k : KK) : Prop := kT k ≤ 8 ∧ kM k ≤ 40 ∧ ∀ m, m < kM k → kTy k m < kT k ∧ kFc k m ≤ 3 ∧ ∀ j, j < kFc k m → kFt k m j < kT k
/-- a type has a value -/
def kVal (k : KK) (t : Nat) : Prop := ∀ P : Nat → Prop, (∀ m, m < kM k → (∀ j, j < kFc k m → P (kFt k m j)) → P (kTy k m)) → P t
/-- a maker isn't dead -/
def kLive (k : KK) (m : Nat) : Prop := ∀ j, j < kFc k m → kVal k (kFt k m j)
theorem kVal_mk {k : KK} {m : Nat} (hm : m < kM k) (h : kLive k m) : kVal k (kTy k m) := fun P hP => hP m hm (fun j hj => h j hj P hP)
theorem kVal_lt {k : KK} (hW : kW k) {t : Nat} (h : kVal k t) : t < kT k := h (fun t => t < kT k) (fun m hm _ => (hW.2.2 m hm).1)
def kCnt (k : KK) (t : Nat) : Nat → Nat
  | 0 => 0
  | n + 1 => kCnt k t n + (if kTy k n = t then 1 else 0)
theorem kCnt_s (k : KK) (t n : Nat) : kCnt k t (n + 1) = kCnt k t n + (if kTy k n = t then 1 else 0) := rfl
/-- one more maker -/
def kAdd (k : KK) (t f : Nat) (g : Nat → Nat) : KK := (kT k, kM k + 1, fun m => if m = kM k then t else kTy k m, fun m => if m = kM k then f else kFc k m, fun m => if m = kM k then g else kFt k m)
theorem kAdd_M {k : KK} {t f : Nat} {g : Nat → Nat} : kM (kAdd k t f g) = kM k + 1 := rfl
theorem kAdd_T {k : KK} {t f : Nat} {g : Nat → Nat} : kT (kAdd k t f g) = kT k := rfl
theorem kAdd_new {k : KK} {t f : Nat} {g : Nat → Nat} : kTy (kAdd k t f g) (kM k) = t ∧ kFc (kAdd k t f g) (kM k) = f ∧ kFt (kAdd k t f g) (kM k) = g := ⟨if_pos rfl, if_pos rfl, if_pos rfl⟩
theorem kAdd_old {k : KK} {t f : Nat} {g : Nat → Nat} {m : Nat} (h : m < kM k) : kTy (kAdd k t f g) m = kTy k m ∧ kFc (kAdd k t f g) m = kFc k m ∧ kFt (kAdd k t f g) m = kFt k m := ⟨if_neg (by omega), if_neg (by omega), if_neg (by omega)⟩
theorem kAdd_W {k : KK} {t f : Nat} {g : Nat → Nat} (hW : kW k) (hM : kM k < 40) (ht : t < kT k) (hf : f ≤ 3) (hg : ∀ j, j < f → g j < kT k) : kW (kAdd k t f g) := by
  refine ⟨hW.1, by rw [kAdd_M]; omega, fun m hm => ?_⟩
  rw [kAdd_M] at hm
  rw [kAdd_T]
  rcases Nat.lt_or_ge m (kM k) with h | h
  · obtain ⟨h1, h2, h3⟩ := kAdd_old (t := t) (f := f) (g := g) h
    rw [h1, h2, h3]
    exact hW.2.2 m h
  · have e : m = kM k := by omega
    subst e
    obtain ⟨h1, h2, h3⟩ := kAdd_new (k := k) (t := t) (f := f) (g := g)
    rw [h1, h2, h3]
    exact ⟨ht, hf, hg⟩
theorem kAdd_Val {k : KK} {t f : Nat} {g : Nat → Nat} {u : Nat} (h : kVal k u) : kVal (kAdd k t f g) u := by
  intro P hP
  refine h P (fun m hm hj => ?_)
  obtain ⟨h1, h2, h3⟩ := kAdd_old (t := t) (f := f) (g := g) hm
  have := hP m (by rw [kAdd_M]; omega)
  rw [h1, h2, h3] at this
  exact this hj
theorem kCnt_old {k : KK} {t f : Nat} {g : Nat → Nat} {u : Nat} : ∀ n, n ≤ kM k → kCnt (kAdd k t f g) u n = kCnt k u n := by
  intro n
  induction n with
  | zero => intro _; rfl
  | succ n ih =>
    intro h
    unfold kCnt
    rw [ih (by omega), (kAdd_old (t := t) (f := f) (g := g) (by omega)).1]
theorem kCnt_add {k : KK} {t f : Nat} {g : Nat → Nat} {u : Nat} : kCnt (kAdd k t f g) u (kM k + 1) = kCnt k u (kM k) + (if t = u then 1 else 0) := by
  conv => lhs; unfold kCnt
  rw [kCnt_old _ (Nat.le_refl _), kAdd_new.1]
theorem kCnt_le (k : KK) (t : Nat) : ∀ n, kCnt k t n ≤ n := by
  intro n
  induction n with
  | zero => exact Nat.le_refl _
  | succ n ih => unfold kCnt; split <;> omega
/-- one more type -/
def kTyp (k : KK) : KK := (kT k + 1, k.2)
theorem kTyp_W {k : KK} (hW : kW k) (h : kT k < 8) : kW (kTyp k) := ⟨by show kT k + 1 ≤ 8; omega, hW.2.1, fun m hm => ⟨Nat.lt_succ_of_lt (hW.2.2 m hm).1, (hW.2.2 m hm).2.1, fun j hj => Nat.lt_succ_of_lt ((hW.2.2 m hm).2.2 j hj)⟩⟩
/-! which types have a value: notes f, 0 or 1 for each type -/
def cz (f : Nat → Int32) : Nat → Nat
  | 0 => 0
  | n + 1 => cz f n + (if f n = 0 then 1 else 0)
theorem cz_le (f : Nat → Int32) : ∀ n, cz f n ≤ n := by
  intro n
  induction n with
  | zero => exact Nat.le_refl _
  | succ n ih => unfold cz; split <;> omega
theorem cz_zero {f : Nat → Int32} : ∀ n, cz f n = 0 → ∀ j, j < n → f j ≠ 0 := by
  intro n
  induction n with
  | zero => intro _ j hj; omega
  | succ n ih =>
    intro h j hj e
    unfold cz at h
    by_cases hn : f n = 0
    · rw [if_pos hn] at h; omega
    · rw [if_neg hn] at h
      rcases Nat.lt_or_ge j n with q | q
      · exact ih (by omega) j q e
      · have : j = n := by omega
        subst this; exact hn e
theorem cz_same {f g : Nat → Int32} : ∀ n, (∀ j, j < n → f j = g j) → cz f n = cz g n := by
  intro n
  induction n with
  | zero => intro _; rfl
  | succ n ih =>
    intro h
    unfold cz
    rw [ih (fun j hj => h j (by omega)), h n (by omega)]
theorem cz_upd {f : Nat → Int32} {t : Nat} (h0 : f t = 0) : ∀ n, t < n → cz (upd f t 1) n + 1 = cz f n := by
  intro n
  induction n with
  | zero => intro h; omega
  | succ n ih =>
    intro h
    unfold cz
    rcases Nat.lt_or_ge t n with q | q
    · have e : upd f t 1 n = f n := pk_un (by omega)
      rw [e]
      have := ih q
      omega
    · have e : t = n := by omega
      subst e
      have e1 : upd f t 1 t = 1 := pk_us
      have e2 : cz (upd f t 1) t = cz f t := cz_same t (fun j hj => pk_un (by omega))
      rw [e1, e2, if_neg (by decide), if_pos h0]
theorem cz_mono {f g : Nat → Int32} (h : ∀ t, f t = 0 → g t = 0) : ∀ n, cz f n ≤ cz g n := by
  intro n
  induction n with
  | zero => exact Nat.le_refl _
  | succ n ih =>
    unfold cz
    by_cases q : f n = 0
    · rw [if_pos q, if_pos (h n q)]; omega
    · rw [if_neg q]; omega
/-- noted as dead -/
def kDd (f : Nat → Int32) (k : KK) (m : Nat) : Prop := ∃ j, j < kFc k m ∧ f (kFt k m j) = 0
def kGood (f : Nat → Int32) (k : KK) : Prop := ∀ t, (f t = 0 ∨ f t = 1) ∧ (f t ≠ 0 → kVal k t)
def kClosed (f : Nat → Int32) (k : KK) : Prop := ∀ m, m < kM k → f (kTy k m) ≠ 0 ∨ kDd f k m
/-- notes that are right -/
def kV (f : Nat → Int32) (k : KK) : Prop := ∀ t, (f t = 0 ∨ f t = 1) ∧ (f t ≠ 0 ↔ kVal k t)
theorem kV_of {f : Nat → Int32} {k : KK} (h : kGood f k) (hc : kClosed f k) : kV f k := by
  intro t
  refine ⟨(h t).1, (h t).2, fun hv => hv (fun t => f t ≠ 0) (fun m hm hj => ?_)⟩
  rcases hc m hm with q | ⟨j, hj1, hj2⟩
  · exact q
  · exact absurd hj2 (hj j hj1)
theorem kV_dd {f : Nat → Int32} {k : KK} (h : kV f k) (m : Nat) : kDd f k m ↔ ¬ kLive k m := by
  refine ⟨fun ⟨j, h1, h2⟩ q => absurd h2 ((h _).2.mpr (q j h1)), fun q => ?_⟩
  apply Classical.byContradiction
  intro hn
  refine q (fun j hj => (h _).2.mp (fun e => hn ⟨j, hj, e⟩))
theorem kGood_upd {f : Nat → Int32} {k : KK} {m : Nat} (h : kGood f k) (hm : m < kM k) (hd : ¬ kDd f k m) : kGood (upd f (kTy k m) 1) k := by
  intro t
  by_cases e : t = kTy k m
  · subst e
    rw [show upd f (kTy k m) 1 (kTy k m) = 1 from pk_us]
    refine ⟨Or.inr rfl, fun _ => kVal_mk hm (fun j hj => (h _).2 (fun q => hd ⟨j, hj, q⟩))⟩
  · rw [show upd f (kTy k m) 1 t = f t from pk_un e]
    exact h t
theorem upd_self {f : Nat → Int32} {t : Nat} {v : Int32} (h : f t = v) : upd f t v = f := by
  funext j
  by_cases e : j = t
  · subst e; rw [← h]; exact pk_us
  · exact pk_un e
theorem mm_stc_self (S : Mem) (c : Nat) : mm_stc S c (S c) = S := by
  funext x
  by_cases e : x = c
  · subst e; exact mm_stc_at _ _ _
  · exact mm_stc_ne _ _ e
theorem mm_put_stc (S : Mem) (c k : Nat) (f : Nat → Int32) (v : Int32) : mm_put (mm_stc S c f) c k v = mm_stc S c (upd f k v) := by
  funext x
  unfold mm_put
  by_cases e : x = c
  · subst e; rw [mm_stc_at, mm_stc_at, mm_stc_at]
  · rw [mm_stc_ne _ _ e, mm_stc_ne _ _ e, mm_stc_ne _ _ e]
/-! an int that counts as one of n things -/
def mi (x : Int32) (n : Nat) : Prop := ∃ j, j < n ∧ x = nI j
theorem mi_in {j n : Nat} (h : j < n) : mi (nI j) n := ⟨j, h, rfl⟩
theorem mi_out {x : Int32} {n : Nat} (hn : n < 2 ^ 31) (h : ¬ mi x n) : x < 0 ∨ nI n ≤ x := by
  by_cases h0 : x < 0
  · exact Or.inl h0
  · obtain ⟨j, hj, rfl⟩ := nI_of h0
    refine Or.inr (nI_le ?_ hj)
    apply Nat.le_of_not_lt
    intro q
    exact h ⟨j, q, rfl⟩
theorem mi_N1 {n : Nat} (hn : n < 2 ^ 31) : ¬ mi N1 n := fun ⟨j, hj, e⟩ => (nn_a3 (a := j) (by omega)).mp e
theorem mi_N2 {n : Nat} (hn : n < 2 ^ 31) : ¬ mi N2 n := fun ⟨j, hj, e⟩ => (nn_a4 (a := j) (by omega)).mp e
/-- fields of a sign (none of one that is no maker) -/
noncomputable def kfc (k : KK) (x : Int32) : Nat := @ite Nat (mi x (kM k)) (Classical.propDecidable _) (kFc k x.toNatClampNeg) 0
theorem kfc_in {k : KK} {j : Nat} (hW : kW k) (h : j < kM k) : kfc k (nI j) = kFc k j := by
  unfold kfc
  rw [if_pos (mi_in h), nI_clamp (by have := hW.2.1; omega)]
theorem kfc_out {k : KK} {x : Int32} (h : ¬ mi x (kM k)) : kfc k x = 0 := by
  unfold kfc
  rw [if_neg h]
/-! the class's Kinds (cells 1 to 6) -/
def mq_K (S : Mem) (k : KK) : Prop := S 1 0 = nI (kT k) ∧ S 1 1 = nI (kM k) ∧ ∀ m, m < kM k → S 4 m = nI (kTy k m) ∧ S 5 m = nI (kFc k m) ∧ ∀ j, j < kFc k m → S 6 (3 * m + j) = nI (kFt k m j)
def mq_C (S : Mem) (k : KK) : Prop := ∀ t, t < 8 → S 2 t = nI (kCnt k t (kM k)) ∧ kCnt k t (kM k) ≤ 8
section
variable {d : Nat} {S : Mem} {k : KK}
theorem mq_hasType (hK : mq_K S k) (hW : kW k) (x : Int32) : mm_runD (d + 1) 19 [.inr 1, .inl x] S = some (S, 0, 0, 0, mb (mi x (kT k))) := by
  by_cases h : mi x (kT k)
  · rw [mb_t h]
    obtain ⟨j, hj, rfl⟩ := h
    exact mp_hasType_in hK.1 hW.1 hj
  · rw [mb_f h]
    exact mp_hasType_out hK.1 (mi_out (by have := hW.1; omega) h)
theorem mq_hasMaker (hK : mq_K S k) (hW : kW k) (x : Int32) : mm_runD (d + 1) 20 [.inr 1, .inl x] S = some (S, 0, 0, 0, mb (mi x (kM k))) := by
  by_cases h : mi x (kM k)
  · rw [mb_t h]
    obtain ⟨j, hj, rfl⟩ := h
    exact mp_hasMaker_in hK.2.1 hW.2.1 hj
  · rw [mb_f h]
    exact mp_hasMaker_out hK.2.1 (mi_out (by have := hW.2.1; omega) h)
theorem mq_typeOf (hK : mq_K S k) (hW : kW k) {j : Nat} (hj : j < kM k) : mm_runD (d + 2) 23 [.inr 1, .inl (nI j)] S = some (S, 0, 0, 0, nI (kTy k j)) := by
  rw [mp_typeOf_in hK.2.1 hW.2.1 hj, (hK.2.2 j hj).1]
theorem mq_fieldCount (hK : mq_K S k) (hW : kW k) (x : Int32) : mm_runD (d + 2) 24 [.inr 1, .inl x] S = some (S, 0, 0, 0, nI (kfc k x)) := by
  by_cases h : mi x (kM k)
  · obtain ⟨j, hj, rfl⟩ := h
    rw [kfc_in hW hj, mp_fieldCount_in hK.2.1 hW.2.1 hj, (hK.2.2 j hj).2.1]
  · rw [kfc_out h]
    exact mp_fieldCount_out hK.2.1 (mi_out (by have := hW.2.1; omega) h)
theorem mq_fieldType (hK : mq_K S k) (hW : kW k) {j f : Nat} (hj : j < kM k) (hf : f < kFc k j) : mm_runD (d + 3) 25 [.inr 1, .inl (nI j), .inl (nI f)] S = some (S, 0, 0, 0, nI (kFt k j f)) := by
  rw [mp_fieldType_in hK.2.1 hW.2.1 hj (hK.2.2 j hj).2.1 (hW.2.2 j hj).2.1 hf, (hK.2.2 j hj).2.2 f hf]
theorem mq_isDead (hK : mq_K S k) (hW : kW k) {m : Nat} (hm : m < kM k) : mm_runD (d + 4) 26 [.inr 1, .inl (nI m)] S = some (S, 0, 0, 0, mb (kDd (S 3) k m)) := by
  obtain ⟨h1, h2⟩ := mp_isDead (d := d) hK.1 hW.1 hK.2.1 hW.2.1 hm (hK.2.2 m hm).2.1 (hW.2.2 m hm).2.1 (fun j hj => ⟨(hK.2.2 m hm).2.2 j hj, (hW.2.2 m hm).2.2 j hj⟩)
  by_cases h : kDd (S 3) k m
  · rw [mb_t h]; exact h2 h
  · rw [mb_f h]; exact h1 h
theorem mq_hasValue (hK : mq_K S k) (hW : kW k) (hV : kV (S 3) k) (x : Int32) : mm_runD (d + 2) 22 [.inr 1, .inl x] S = some (S, 0, 0, 0, mb (∃ t, t < kT k ∧ x = nI t ∧ kVal k t)) := by
  by_cases h : mi x (kT k)
  · obtain ⟨j, hj, rfl⟩ := h
    rw [mp_hasValue_in hK.1 hW.1 hj]
    by_cases h : S 3 j = 0
    · have hn : ¬ ∃ t, t < kT k ∧ nI j = nI t ∧ kVal k t := by
        rintro ⟨t, h1, h2, h3⟩
        have h8 := hW.1
        have e := (nI_eq (by omega) (by omega)).mp h2
        subst e
        exact (hV j).2.mpr h3 h
      rw [if_pos h, mb_f hn]
    · rw [if_neg h, mb_t ⟨j, hj, rfl, (hV j).2.mp h⟩] <;> rfl
  · rw [dX2_hasValue, eX2_hasValue_0, mq_hasType hK hW, mm_bd_ret, mb_f h, if_pos rfl, mb_f (fun ⟨t, h1, h2, _⟩ => h ⟨t, h1, h2⟩)] <;> rfl
/-- one round over the makers -/
theorem mq_fv_in (hK : mq_K S k) (hW : kW k) : ∀ (n i : Nat) (f : Nat → Int32) (x1 : Int32) (r : Nat) (o : Option MV), kM k - i = n → i ≤ kM k → kGood f k →
    ∃ f' x1' o', mm_E (mm_runD (d + 4)) pX2_findValued 0 13 [some (.inr 1), some (.inl x1), some (.inl (nI r)), some (.inl (nI i)), o] [] (mm_stc S 3 f) 0 0 = mm_E (mm_runD (d + 4)) pX2_findValued 0 4 [some (.inr 1), some (.inl x1'), some (.inl (nI (r + 1))), some (.inl (nI (kM k))), o'] [] (mm_stc S 3 f') 0 0 ∧ kGood f' k ∧
      ((f' = f ∧ x1' = x1 ∧ ∀ m, i ≤ m → m < kM k → f (kTy k m) ≠ 0 ∨ kDd f k m) ∨ (x1' = 1 ∧ cz f' (kT k) < cz f (kT k))) := by
  intro n
  have hM := hW.2.1
  have hT := hW.1
  induction n with
  | zero =>
    intro i f x1 r o hn hi hg
    have e : i = kM k := by omega
    subst e
    refine ⟨f, x1, o, ?_, hg, Or.inl ⟨rfl, rfl, fun m h1 h2 => absurd h1 (by omega)⟩⟩
    have hK' : mq_K (mm_stc S 3 f) k := hK
    rw [eX2_findValued_13, hK'.2.1, if_pos (nI_le (Nat.le_refl _) (by omega)), nI_1]
  | succ n ih =>
    intro i f x1 r o hn hi hg
    have hK' : mq_K (mm_stc S 3 f) k := hK
    have hlt : i < kM k := by omega
    obtain ⟨hty, _⟩ := hW.2.2 i hlt
    have step : mm_E (mm_runD (d + 4)) pX2_findValued 0 13 [some (.inr 1), some (.inl x1), some (.inl (nI r)), some (.inl (nI i)), o] [] (mm_stc S 3 f) 0 0 = (if f (kTy k i) = 0 then (if mb (kDd f k i) = 0 then mm_E (mm_runD (d + 4)) pX2_findValued 0 13 [some (.inr 1), some (.inl 1), some (.inl (nI r)), some (.inl (nI (i + 1))), some (.inl (nI (kTy k i)))] [] (mm_stc S 3 (upd f (kTy k i) 1)) 0 0 else mm_E (mm_runD (d + 4)) pX2_findValued 0 13 [some (.inr 1), some (.inl x1), some (.inl (nI r)), some (.inl (nI (i + 1))), some (.inl (nI (kTy k i)))] [] (mm_stc S 3 f) 0 0) else mm_E (mm_runD (d + 4)) pX2_findValued 0 13 [some (.inr 1), some (.inl x1), some (.inl (nI r)), some (.inl (nI (i + 1))), some (.inl (nI (kTy k i)))] [] (mm_stc S 3 f) 0 0) := by
      rw [eX2_findValued_13, hK'.2.1, if_neg (nI_ge hlt (by omega)), mq_typeOf hK' hW hlt, mm_bd_ret, mq_hasType hK' hW, mm_bd_ret, mb_t (mi_in hty), if_neg (by decide), ar_3 (by omega), mm_stc_at, mq_isDead hK' hW hlt, mm_bd_ret, ar_3 (by omega), mm_put_stc, mm_stc_at, show vp_nar .boolean 1 = 1 from nn_nar1, nI_1]
    rw [step]
    by_cases h0 : f (kTy k i) = 0
    · rw [if_pos h0]
      by_cases hd : kDd f k i
      · rw [mb_t hd, if_neg (by decide)]
        obtain ⟨f', x1', o', h1, h2, h3⟩ := ih (i + 1) f x1 r (some (.inl (nI (kTy k i)))) (by omega) (by omega) hg
        refine ⟨f', x1', o', h1, h2, ?_⟩
        rcases h3 with ⟨h4, h5, h6⟩ | h3
        · refine Or.inl ⟨h4, h5, fun m a b => ?_⟩
          rcases Nat.lt_or_ge i m with q | q
          · exact h6 m q b
          · have : m = i := by omega
            subst this; exact Or.inr hd
        · exact Or.inr h3
      · rw [mb_f hd, if_pos rfl]
        obtain ⟨f', x1', o', h1, h2, h3⟩ := ih (i + 1) (upd f (kTy k i) 1) 1 r (some (.inl (nI (kTy k i)))) (by omega) (by omega) (kGood_upd hg hlt hd)
        refine ⟨f', x1', o', h1, h2, Or.inr ?_⟩
        have hc := cz_upd (f := f) (t := kTy k i) h0 (kT k) hty
        rcases h3 with ⟨h4, h5, h6⟩ | h3
        · rw [h4]; exact ⟨h5, by omega⟩
        · exact ⟨h3.1, by omega⟩
    · rw [if_neg h0]
      obtain ⟨f', x1', o', h1, h2, h3⟩ := ih (i + 1) f x1 r (some (.inl (nI (kTy k i)))) (by omega) (by omega) hg
      refine ⟨f', x1', o', h1, h2, ?_⟩
      rcases h3 with ⟨h4, h5, h6⟩ | h3
      · refine Or.inl ⟨h4, h5, fun m a b => ?_⟩
        rcases Nat.lt_or_ge i m with q | q
        · exact h6 m q b
        · have : m = i := by omega
          subst this; exact Or.inl h0
      · exact Or.inr h3
theorem mq_fv_out (hK : mq_K S k) (hW : kW k) : ∀ (n r : Nat) (f : Nat → Int32) (o3 o4 : Option MV), cz f (kT k) = n → r + n ≤ kT k → kGood f k →
    ∃ f', mm_E (mm_runD (d + 4)) pX2_findValued 0 4 [some (.inr 1), some (.inl 1), some (.inl (nI r)), o3, o4] [] (mm_stc S 3 f) 0 0 = some (mm_stc S 3 f', 0, 0, 0, 0) ∧ kV f' k := by
  intro n
  have hM := hW.2.1
  have hT := hW.1
  induction n using Nat.strongRecOn with
  | ind n ih =>
    intro r f o3 o4 hn hr hg
    obtain ⟨f', x1', o', h1, h2, h3⟩ := mq_fv_in (d := d) hK hW (kM k - 0) 0 f 0 r o4 rfl (by omega) hg
    rw [nI_0] at h1
    rw [eX2_findValued_4, if_neg (show ¬ (8 : Int32) < nI r from nI_nlt (a := 8) (by omega) (by decide)), if_neg (by decide), h1]
    rcases h3 with ⟨h4, h5, h6⟩ | ⟨h5, h6⟩
    · refine ⟨f', ?_, kV_of h2 (fun m hm => by rw [h4]; exact h6 m (by omega) hm)⟩
      rw [eX2_findValued_4, h5]
      by_cases q : (8 : Int32) < nI (r + 1)
      · rw [if_pos q]
      · rw [if_neg q, if_pos rfl]
    · rw [h5]
      exact ih (cz f' (kT k)) (by omega) (r + 1) f' _ _ rfl (by omega) h2
theorem mq_findValued (hK : mq_K S k) (hW : kW k) (hg : kGood (S 3) k) : ∃ f, mm_runD (d + 5) 29 [.inr 1] S = some (mm_stc S 3 f, 0, 0, 0, 0) ∧ kV f k := by
  obtain ⟨f, h1, h2⟩ := mq_fv_out (d := d) hK hW (cz (S 3) (kT k)) 0 (S 3) none none rfl (by have := cz_le (S 3) (kT k); omega) hg
  refine ⟨f, ?_, h2⟩
  rw [dX2_findValued, eX2_findValued_0]
  rw [mm_stc_self] at h1
  exact h1
end
end
section
/-! PURE: the reference's kinds (cells 27 to 30) -/
def mr_K (S : Mem) (k : KK) : Prop := S 27 1 = nI (kT k) ∧ S 27 2 = nI (kM k) ∧ ∀ m, m < kM k → S 28 m = nI (kTy k m) ∧ (∀ j, j < kFc k m → S 29 (3 * m + j) = nI (kFt k m j)) ∧ (kFc k m < 3 → S 29 (3 * m + kFc k m) = N1)
section
variable {d : Nat} {S : Mem} {k : KK}
theorem mr_isType (hK : mr_K S k) (hW : kW k) (x : Int32) : mm_runD (d + 1) 115 [.inr 27, .inl x] S = some (S, 0, 0, 0, mb (mi x (kT k))) := by
  by_cases h : mi x (kT k)
  · rw [mb_t h]
    obtain ⟨j, hj, rfl⟩ := h
    exact mr_isType_in hK.1 hW.1 hj
  · rw [mb_f h]
    exact mr_isType_out hK.1 (mi_out (by have := hW.1; omega) h)
theorem mr_fields (hK : mr_K S k) (hW : kW k) {m : Nat} (hm : m < kM k) : mm_runD (d + 1) 117 [.inr 27, .inl (nI m)] S = some (S, 0, 0, 0, nI (kFc k m)) := by
  obtain ⟨_, h1, h2⟩ := hK.2.2 m hm
  obtain ⟨_, h3, h4⟩ := hW.2.2 m hm
  have hM := hW.2.1
  have hT := hW.1
  rw [dX8_fields, eX8_fields_0, li_3, nn_mul, ar_29 (by omega)]
  rcases Nat.lt_or_ge 0 (kFc k m) with q | q
  · have e := h1 0 q
    have b := h4 0 q
    rw [Nat.add_zero] at e
    rw [e, if_neg (show ¬ nI _ = N1 from (nn_a1 (by omega)).mp), nI_1, ar_29 (by omega)]
    rcases Nat.lt_or_ge 1 (kFc k m) with q | q
    · have e := h1 1 q
      have b := h4 1 q
      rw [e, if_neg (show ¬ nI _ = N1 from (nn_a1 (by omega)).mp), li_2, nI_add, ar_29 (by omega)]
      rcases Nat.lt_or_ge 2 (kFc k m) with q | q
      · have e := h1 2 q
        have b := h4 2 q
        rw [e, if_neg (show ¬ nI _ = N1 from (nn_a1 (by omega)).mp), show kFc k m = 3 by omega] <;> rfl
      · have c : kFc k m = 2 := by omega
        have e := h2 (by omega)
        rw [c] at e ⊢
        rw [e, if_pos rfl]
    · have c : kFc k m = 1 := by omega
      have e := h2 (by omega)
      rw [c] at e ⊢
      rw [e, if_pos rfl] <;> rfl
  · have c : kFc k m = 0 := by omega
    have e := h2 (by omega)
    rw [c] at e ⊢
    rw [Nat.add_zero] at e
    rw [e, if_pos rfl] <;> rfl
theorem mr_makersOf_loop (hK : mr_K S k) (hW : kW k) (t : Nat) (ht : t < 2 ^ 31) : ∀ (n i : Nat), kM k - i = n → i ≤ kM k → mm_E (mm_runD d) pX8_makersOf 1 4 [some (.inr 27), some (.inl (nI t)), some (.inl (nI (kCnt k t i))), some (.inl (nI i))] [] S 0 0 = some (S, 0, 0, 0, nI (kCnt k t (kM k))) := by
  intro n
  have hM := hW.2.1
  have hT := hW.1
  induction n with
  | zero =>
    intro i hn hi
    have e : i = kM k := by omega
    subst e
    rw [eX8_makersOf_4, hK.2.1, if_pos (nI_le (Nat.le_refl _) (by omega))]
  | succ n ih =>
    intro i hn hi
    have hlt : i < kM k := by omega
    have := ih (i + 1) (by omega) (by omega)
    rw [kCnt_s k t i] at this
    rw [eX8_makersOf_4, hK.2.1, if_neg (nI_ge hlt (by omega)), ar_28 (by omega), (hK.2.2 i hlt).1]
    have hty := (hW.2.2 i hlt).1
    by_cases q : kTy k i = t
    · rw [if_pos q] at this
      rw [if_pos (by rw [q]), nI_1, nI_1]
      exact this
    · rw [if_neg q, Nat.add_zero] at this
      rw [if_neg (fun z => q ((nI_eq (by omega) ht).mp z)), nI_1, li_0, nI_add, Nat.add_zero]
      exact this
theorem mr_makersOf (hK : mr_K S k) (hW : kW k) (t : Nat) (ht : t < 2 ^ 31) : mm_runD (d + 1) 116 [.inr 27, .inl (nI t)] S = some (S, 0, 0, 0, nI (kCnt k t (kM k))) := by
  rw [dX8_makersOf, eX8_makersOf_0]
  exact mr_makersOf_loop hK hW t ht (kM k - 0) 0 rfl (by omega)
theorem mr_isDead_loop (hK : mr_K S k) (hW : kW k) {m : Nat} (hm : m < kM k) (hz : ∀ t, S 30 t = 0 ∨ S 30 t = 1) : ∀ (n i : Nat), kFc k m - i = n → i ≤ kFc k m → mm_E (mm_runD (d + 1)) pX8_isDead 2 4 [some (.inr 27), some (.inl (nI m)), some (.inl (mb (∃ j, j < i ∧ S 30 (kFt k m j) = 0))), some (.inl (nI i))] [] S 0 0 = some (S, 0, 0, 0, mb (kDd (S 30) k m)) := by
  intro n
  have hM := hW.2.1
  have hT := hW.1
  obtain ⟨_, h3, h4⟩ := hW.2.2 m hm
  induction n with
  | zero =>
    intro i hn hi
    have e : i = kFc k m := by omega
    subst e
    rw [eX8_isDead_4, mr_fields hK hW hm, mm_bd_ret, if_pos (nI_le (Nat.le_refl _) (by omega)), if_pos (mb_01 _)] <;> rfl
  | succ n ih =>
    intro i hn hi
    have hlt : i < kFc k m := by omega
    have e0 := (hK.2.2 m hm).2.1 i hlt
    have b0 := h4 i hlt
    have := ih (i + 1) (by omega) (by omega)
    rw [eX8_isDead_4, mr_fields hK hW hm, mm_bd_ret, if_neg (nI_ge hlt (by omega)), nI_1]
    by_cases q : ∃ j, j < i ∧ S 30 (kFt k m j) = 0
    · rw [mb_t (show ∃ j, j < i + 1 ∧ S 30 (kFt k m j) = 0 from q.elim fun j h => ⟨j, by omega, h.2⟩)] at this
      rw [mb_t q, if_neg (by decide)]
      exact this
    · rw [mb_f q, if_pos rfl, li_3, nn_mul, nI_add, ar_29 (by omega), e0, ar_30 (by omega)]
      by_cases z : S 30 (kFt k m i) = 0
      · rw [mb_t (show ∃ j, j < i + 1 ∧ S 30 (kFt k m j) = 0 from ⟨i, by omega, z⟩)] at this
        rw [if_pos z]
        exact this
      · rw [mb_f (show ¬ ∃ j, j < i + 1 ∧ S 30 (kFt k m j) = 0 from fun ⟨j, h1, h2⟩ => by
          rcases Nat.lt_or_ge j i with w | w
          · exact q ⟨j, w, h2⟩
          · have : j = i := by omega
            subst this; exact z h2)] at this
        rw [if_neg z]
        exact this
theorem mr_isDead (hK : mr_K S k) (hW : kW k) {m : Nat} (hm : m < kM k) (hz : ∀ t, S 30 t = 0 ∨ S 30 t = 1) : mm_runD (d + 2) 122 [.inr 27, .inl (nI m)] S = some (S, 0, 0, 0, mb (kDd (S 30) k m)) := by
  have := mr_isDead_loop (d := d) hK hW hm hz (kFc k m - 0) 0 rfl (by omega)
  rw [mb_f (fun ⟨j, h, _⟩ => by omega)] at this
  rw [dX8_isDead, eX8_isDead_0]
  exact this
theorem mr_find_clear : ∀ (n i : Nat) (f : Nat → Int32), 8 - i = n → i ≤ 8 → (∀ t, t < i ∨ 8 ≤ t → f t = 0) → mm_E (mm_runD d) pX8_find 0 2 [some (.inr 27), some (.inl (nI i)), none] [] (mm_stc S 30 f) 0 0 = mm_E (mm_runD d) pX8_find 0 14 [some (.inr 27), some (.inl 0), none] [] (mm_stc S 30 (fun _ => 0)) 0 0 := by
  intro n
  induction n with
  | zero =>
    intro i f hn hi hf
    have e : i = 8 := by omega
    subst e
    have : f = fun _ => 0 := by funext t; exact hf t (by omega)
    rw [eX8_find_2, if_pos (by decide), this] <;> rfl
  | succ n ih =>
    intro i f hn hi hf
    have := ih (i + 1) (upd f i 0) (by omega) (by omega) (fun t ht => by
      by_cases e : t = i
      · rw [e]; exact pk_us
      · rw [show upd f i 0 t = f t from pk_un e]; exact hf t (by omega))
    rw [eX8_find_2, if_neg (show ¬ (8 : Int32) ≤ nI i from nI_ge (b := 8) (by omega) (by decide)), ar_30 (by omega), mm_put_stc, show vp_nar .boolean 0 = 0 from nn_nar0, nI_1]
    exact this
theorem mr_find_in (hK : mr_K S k) (hW : kW k) : ∀ (n i : Nat) (f : Nat → Int32) (r : Nat), kM k - i = n → i ≤ kM k → kGood f k →
    ∃ f', mm_E (mm_runD (d + 2)) pX8_find 0 20 [some (.inr 27), some (.inl (nI r)), some (.inl (nI i))] [] (mm_stc S 30 f) 0 0 = mm_E (mm_runD (d + 2)) pX8_find 0 14 [some (.inr 27), some (.inl (nI (r + 1))), some (.inl (nI (kM k)))] [] (mm_stc S 30 f') 0 0 ∧ kGood f' k ∧
      ((f' = f ∧ ∀ m, i ≤ m → m < kM k → f (kTy k m) ≠ 0 ∨ kDd f k m) ∨ cz f' (kT k) < cz f (kT k)) := by
  intro n
  have hM := hW.2.1
  have hT := hW.1
  induction n with
  | zero =>
    intro i f r hn hi hg
    have e : i = kM k := by omega
    subst e
    refine ⟨f, ?_, hg, Or.inl ⟨rfl, fun m h1 h2 => absurd h1 (by omega)⟩⟩
    have hK' : mr_K (mm_stc S 30 f) k := hK
    rw [eX8_find_20, hK'.2.1, if_pos (nI_le (Nat.le_refl _) (by omega)), nI_1]
  | succ n ih =>
    intro i f r hn hi hg
    have hK' : mr_K (mm_stc S 30 f) k := hK
    have hlt : i < kM k := by omega
    obtain ⟨hty, _⟩ := hW.2.2 i hlt
    have e1 : (mm_stc S 30 f) 28 i = nI (kTy k i) := (hK'.2.2 i hlt).1
    rw [eX8_find_20, hK'.2.1, if_neg (nI_ge hlt (by omega)), ar_28 (by omega), ar_28 (by omega), e1, ar_30 (by omega), mm_stc_at, nI_1]
    by_cases h0 : f (kTy k i) = 0
    · rw [if_pos h0, mr_isDead hK' hW hlt (fun t => (hg t).1), mm_bd_ret]
      by_cases hd : kDd f k i
      · rw [show kDd ((mm_stc S 30 f) 30) k i = kDd f k i from rfl, mb_t hd, if_neg (by decide), ar_30 (by omega), mm_put_stc, show vp_nar .boolean 0 = 0 from nn_nar0, upd_self h0]
        obtain ⟨f', h1, h2, h3⟩ := ih (i + 1) f r (by omega) (by omega) hg
        refine ⟨f', h1, h2, ?_⟩
        rcases h3 with ⟨h4, h6⟩ | h3
        · refine Or.inl ⟨h4, fun m a b => ?_⟩
          rcases Nat.lt_or_ge i m with q | q
          · exact h6 m q b
          · have : m = i := by omega
            subst this; exact Or.inr hd
        · exact Or.inr h3
      · rw [show kDd ((mm_stc S 30 f) 30) k i = kDd f k i from rfl, mb_f hd, if_pos rfl, ar_30 (by omega), mm_put_stc, show vp_nar .boolean 1 = 1 from nn_nar1]
        obtain ⟨f', h1, h2, h3⟩ := ih (i + 1) (upd f (kTy k i) 1) r (by omega) (by omega) (kGood_upd hg hlt hd)
        refine ⟨f', h1, h2, Or.inr ?_⟩
        have hc := cz_upd (f := f) (t := kTy k i) h0 (kT k) hty
        rcases h3 with ⟨h4, h6⟩ | h3
        · rw [h4]; omega
        · omega
    · have e2 : f (kTy k i) = 1 := by
        rcases (hg (kTy k i)).1 with q | q
        · exact absurd q h0
        · exact q
      rw [if_neg h0, ar_30 (by omega), mm_put_stc, show vp_nar .boolean 1 = 1 from nn_nar1, upd_self e2]
      obtain ⟨f', h1, h2, h3⟩ := ih (i + 1) f r (by omega) (by omega) hg
      refine ⟨f', h1, h2, ?_⟩
      rcases h3 with ⟨h4, h6⟩ | h3
      · refine Or.inl ⟨h4, fun m a b => ?_⟩
        rcases Nat.lt_or_ge i m with q | q
        · exact h6 m q b
        · have : m = i := by omega
          subst this; exact Or.inl h0
      · exact Or.inr h3
theorem mr_find_out (hK : mr_K S k) (hW : kW k) : ∀ (n r : Nat) (f : Nat → Int32) (o : Option MV), kT k - r = n → r ≤ kT k → kGood f k → (kClosed f k ∨ cz f (kT k) + r ≤ kT k) →
    ∃ f', mm_E (mm_runD (d + 2)) pX8_find 0 14 [some (.inr 27), some (.inl (nI r)), o] [] (mm_stc S 30 f) 0 0 = some (mm_stc S 30 f', 0, 0, 0, 0) ∧ kV f' k := by
  intro n
  have hM := hW.2.1
  have hT := hW.1
  induction n with
  | zero =>
    intro r f o hn hr hg hc
    have e : r = kT k := by omega
    subst e
    have hK' : mr_K (mm_stc S 30 f) k := hK
    refine ⟨f, by rw [eX8_find_14, hK'.1, if_pos (nI_le (Nat.le_refl _) (by omega))], kV_of hg ?_⟩
    rcases hc with hc | hc
    · exact hc
    · intro m hm
      exact Or.inl (cz_zero (kT k) (by omega) _ (hW.2.2 m hm).1)
  | succ n ih =>
    intro r f o hn hr hg hc
    have hK' : mr_K (mm_stc S 30 f) k := hK
    obtain ⟨f', h1, h2, h3⟩ := mr_find_in (d := d) hK hW (kM k - 0) 0 f r rfl (by omega) hg
    rw [eX8_find_14, hK'.1, if_neg (nI_ge (by omega) (by omega)), li_0, h1]
    refine ih (r + 1) f' _ (by omega) (by omega) h2 ?_
    rcases h3 with ⟨h4, h6⟩ | h3
    · rw [h4]; exact Or.inl (fun m hm => h6 m (by omega) hm)
    · rcases hc with hc | hc
      · -- a closed round notes nothing new
        refine Or.inl ?_
        apply Classical.byContradiction
        intro _
        have h8 := kV_of hg hc
        have : cz f' (kT k) = cz f (kT k) ∨ cz f (kT k) ≤ cz f' (kT k) := by
          right
          exact cz_mono (fun t => by
            intro q
            have := (h2 t).2
            by_cases z : f' t = 0
            · exact z
            · exact absurd q ((h8 t).2.mpr (this z))) _
        omega
      · exact Or.inr (by omega)
theorem mr_find (hK : mr_K S k) (hW : kW k) (h30 : ∀ t, 8 ≤ t → S 30 t = 0) : ∃ f, mm_runD (d + 3) 121 [.inr 27] S = some (mm_stc S 30 f, 0, 0, 0, 0) ∧ kV f k := by
  obtain ⟨f, h1, h2⟩ := mr_find_out (d := d) hK hW (kT k - 0) 0 (fun _ => 0) none rfl (by omega) (fun t => ⟨Or.inl rfl, fun h => absurd rfl h⟩) (Or.inr (by have := cz_le (fun _ => 0) (kT k); omega))
  refine ⟨f, ?_, h2⟩
  have := mr_find_clear (d := d + 2) (S := S) (8 - 0) 0 (S 30) rfl (by omega) (fun t ht => h30 t (by omega))
  rw [mm_stc_self] at this
  rw [nI_0] at h1 this
  rw [dX8_find, eX8_find_0, this, h1]
end
end
section
/-! PURE: what is asked for, after so many signs -/
def seg (g : Nat → Nat) (i : Nat) : Nat → List Nat
  | 0 => []
  | n + 1 => g i :: seg g (i + 1) n
theorem seg_len (g : Nat → Nat) : ∀ n i, (seg g i n).length = n := by
  intro n
  induction n with
  | zero => intro i; rfl
  | succ n ih => intro i; unfold seg; rw [List.length_cons, ih]
theorem seg_ext {g h : Nat → Nat} : ∀ n i, (∀ j, i ≤ j → j < i + n → g j = h j) → seg g i n = seg h i n := by
  intro n
  induction n with
  | zero => intro i _; rfl
  | succ n ih => intro i q; unfold seg; rw [q i (Nat.le_refl _) (by omega), ih (i + 1) (fun j a b => q j (by omega) (by omega))]
def mstk (f : Nat → Int32) : List Nat → Prop
  | [] => True
  | t :: r => f r.length = nI t ∧ mstk f r
theorem mstk_ext {f g : Nat → Int32} : ∀ {L : List Nat}, (∀ j, j < L.length → f j = g j) → mstk f L → mstk g L := by
  intro L
  induction L with
  | nil => intro _ _; trivial
  | cons t r ih =>
    intro h q
    refine ⟨by rw [← h r.length (by simp)]; exact q.1, ih (fun j hj => h j (by simp; omega)) q.2⟩
theorem mstk_push {f : Nat → Int32} {L : List Nat} {t n : Nat} (hn : n = L.length) (h : mstk f L) : mstk (upd f n (nI t)) (t :: L) := by
  subst hn
  exact ⟨pk_us, mstk_ext (fun j hj => (pk_un (by omega)).symm) h⟩
/-- what a sign asks for in a type's stead -/
noncomputable def stp (k : KK) (t : Nat) (x : Int32) : List Nat := if x = N2 then [t, t] else seg (kFt k x.toNatClampNeg) 0 (kfc k x)
noncomputable def stk (k : KK) (C : Nat) (col : Nat → Nat) (x : Nat → Int32) : Nat → List Nat
  | 0 => seg col 0 C
  | i + 1 => match stk k C col x i with
    | [] => []
    | t :: r => stp k t (x i) ++ r
theorem stk_s {k : KK} {C : Nat} {col : Nat → Nat} {x : Nat → Int32} {i t : Nat} {r : List Nat} (h : stk k C col x i = t :: r) : stk k C col x (i + 1) = stp k t (x i) ++ r := by
  conv => lhs; unfold stk
  rw [h]
theorem stk_ext {k : KK} {C : Nat} {col : Nat → Nat} {x y : Nat → Int32} : ∀ i, (∀ j, j < i → x j = y j) → stk k C col x i = stk k C col y i := by
  intro i
  induction i with
  | zero => intro _; rfl
  | succ i ih =>
    intro h
    unfold stk
    rw [ih (fun j hj => h j (by omega)), h i (by omega)]
/-- a sign that is a sign: ANY, EITHER or a maker -/
def sgn (k : KK) (x : Int32) : Prop := x = N1 ∨ x = N2 ∨ mi x (kM k)
theorem kfc_le {k : KK} (hW : kW k) (x : Int32) : kfc k x ≤ 3 := by
  by_cases h : mi x (kM k)
  · obtain ⟨j, hj, rfl⟩ := h
    rw [kfc_in hW hj]
    exact (hW.2.2 j hj).2.1
  · rw [kfc_out h]; omega
theorem kfc_N1 {k : KK} (hW : kW k) : kfc k N1 = 0 := kfc_out (mi_N1 (by have := hW.2.1; omega))
theorem kfc_N2 {k : KK} (hW : kW k) : kfc k N2 = 0 := kfc_out (mi_N2 (by have := hW.2.1; omega))
theorem stp_E {k : KK} {t : Nat} : stp k t N2 = [t, t] := if_pos rfl
theorem stp_A {k : KK} {t : Nat} (hW : kW k) : stp k t N1 = [] := by
  unfold stp
  rw [if_neg (by decide), kfc_N1 hW] <;> rfl
theorem stp_M {k : KK} {t m : Nat} (hW : kW k) (hm : m < kM k) : stp k t (nI m) = seg (kFt k m) 0 (kFc k m) := by
  have := hW.2.1
  unfold stp
  rw [if_neg (fun q => (nn_a2 (by omega)).mp q), nI_clamp (by omega), kfc_in hW hm]
theorem stp_len {k : KK} (hW : kW k) (t : Nat) (x : Int32) : (stp k t x).length ≤ 3 := by
  unfold stp
  split
  · simp
  · rw [seg_len]; exact kfc_le hW x
theorem stk_len {k : KK} (hW : kW k) {C : Nat} (hC : C ≤ 3) {col : Nat → Nat} {x : Nat → Int32} : ∀ i, (stk k C col x i).length ≤ 3 + 2 * i := by
  intro i
  induction i with
  | zero => unfold stk; rw [seg_len]; omega
  | succ i ih =>
    unfold stk
    cases h : stk k C col x i with
    | nil => simp
    | cons t r =>
      rw [h] at ih
      have := stp_len hW t (x i)
      simp only [List.length_cons, List.length_append] at ih ⊢
      omega
/-- signs that may stand: each where something is asked for, a maker where its type is -/
def hnd (k : KK) (C : Nat) (col : Nat → Nat) (x : Nat → Int32) (n : Nat) : Prop := ∀ i, i < n → ∃ t r, stk k C col x i = t :: r ∧ (x i = N1 ∨ x i = N2 ∨ ∃ m, m < kM k ∧ x i = nI m ∧ kTy k m = t)
/-- makers alone -/
def hnv (k : KK) (C : Nat) (col : Nat → Nat) (x : Nat → Int32) (n : Nat) : Prop := ∀ i, i < n → ∃ t r, stk k C col x i = t :: r ∧ ∃ m, m < kM k ∧ x i = nI m ∧ kTy k m = t
theorem hnv_hnd {k : KK} {C : Nat} {col : Nat → Nat} {x : Nat → Int32} {n : Nat} (h : hnv k C col x n) : hnd k C col x n := fun i hi => by
  obtain ⟨t, r, h1, h2⟩ := h i hi
  exact ⟨t, r, h1, Or.inr (Or.inr h2)⟩
theorem hnd_sgn {k : KK} {C : Nat} {col : Nat → Nat} {x : Nat → Int32} {n : Nat} (h : hnd k C col x n) {i : Nat} (hi : i < n) : sgn k (x i) := by
  obtain ⟨t, r, _, h2 | h2 | ⟨m, h3, h4, _⟩⟩ := h i hi
  · exact Or.inl h2
  · exact Or.inr (Or.inl h2)
  · exact Or.inr (Or.inr ⟨m, h3, h4⟩)
theorem hnd_put {k : KK} {C : Nat} {col : Nat → Nat} {x : Nat → Int32} {n t : Nat} {r : List Nat} {y : Int32} (h : hnd k C col x n) (hs : stk k C col x n = t :: r) (hy : y = N1 ∨ y = N2 ∨ ∃ m, m < kM k ∧ y = nI m ∧ kTy k m = t) : hnd k C col (upd x n y) (n + 1) := by
  intro i hi
  rcases Nat.lt_or_ge i n with q | q
  · rw [stk_ext (y := x) i (fun j hj => pk_un (by omega)), show upd x n y i = x i from pk_un (by omega)]
    exact h i q
  · have e : i = n := by omega
    subst e
    rw [stk_ext (y := x) i (fun j hj => pk_un (by omega)), show upd x i y i = y from pk_us]
    exact ⟨t, r, hs, hy⟩
theorem hnv_put {k : KK} {C : Nat} {col : Nat → Nat} {x : Nat → Int32} {n t : Nat} {r : List Nat} {m : Nat} (h : hnv k C col x n) (hs : stk k C col x n = t :: r) (hm : m < kM k) (ht : kTy k m = t) : hnv k C col (upd x n (nI m)) (n + 1) := by
  intro i hi
  rcases Nat.lt_or_ge i n with q | q
  · rw [stk_ext (y := x) i (fun j hj => pk_un (by omega)), show upd x n (nI m) i = x i from pk_un (by omega)]
    exact h i q
  · have e : i = n := by omega
    subst e
    rw [stk_ext (y := x) i (fun j hj => pk_un (by omega)), show upd x i (nI m) i = nI m from pk_us]
    exact ⟨t, r, hs, m, hm, rfl, ht⟩
theorem stk_put {k : KK} {C : Nat} {col : Nat → Nat} {x : Nat → Int32} {n t : Nat} {r : List Nat} {y : Int32} (hs : stk k C col x n = t :: r) : stk k C col (upd x n y) (n + 1) = stp k t y ++ r := by
  rw [stk_s (t := t) (r := r) (by rw [stk_ext (y := x) n (fun j hj => pk_un (by omega))]; exact hs), show upd x n y n = y from pk_us]
/-! frames -/
def mfr (cs : List Nat) (S S' : Mem) : Prop := ∀ c, c ∉ cs → S' c = S c
theorem mfr_rf {cs : List Nat} {S : Mem} : mfr cs S S := fun _ _ => rfl
theorem mfr_tr {cs : List Nat} {S S' S'' : Mem} (h1 : mfr cs S S') (h2 : mfr cs S' S'') : mfr cs S S'' := fun c hc => (h2 c hc).trans (h1 c hc)
theorem mfr_up {cs ds : List Nat} {S S' : Mem} (h : mfr cs S S') (hs : ∀ c, c ∈ cs → c ∈ ds) : mfr ds S S' := fun c hc => h c (fun q => hc (hs c q))
theorem mfr_put {cs : List Nat} {S : Mem} {c k : Nat} {v : Int32} (h : c ∈ cs) : mfr cs S (mm_put S c k v) := fun x hx => mp_pn S k v (fun e => hx (e ▸ h))
theorem mfr_stc {cs : List Nat} {S : Mem} {c : Nat} {f : Nat → Int32} (h : c ∈ cs) : mfr cs S (mm_stc S c f) := fun x hx => mm_stc_ne _ _ (fun e => hx (e ▸ h))
theorem mq_K_fr {S S' : Mem} {k : KK} (h : mq_K S k) {cs : List Nat} (hf : mfr cs S S') (hc : (cs.all fun c => 6 < c) = true) : mq_K S' k := by
  have hn : ∀ c, c ≤ 6 → S' c = S c := fun c h6 => hf c (fun q => by have := List.all_eq_true.mp hc c q; simp at this; omega)
  unfold mq_K
  rw [hn 1 (by omega), hn 4 (by omega), hn 5 (by omega), hn 6 (by omega)]
  exact h
end
section
/-! PURE: the class's two hands -/
def mq_Hr (S : Mem) (n : Nat) (L : List Nat) : Prop := S 11 4 = nI n ∧ n ≤ 40 ∧ S 11 5 = nI L.length ∧ L.length ≤ 83 ∧ mstk (S 14) L
section
variable {d : Nat} {S : Mem} {k : KK} {n : Nat} {L : List Nat}
theorem mq_asksr (h : mq_Hr S n L) : mm_runD (d + 1) 9 [.inr 11] S = some (S, 0, 0, 0, mb (L ≠ [])) := by
  obtain ⟨h1, h2, h3, h4, h5⟩ := h
  rw [dX1_asks_11, eX1_asks_11_0, h3]
  cases L with
  | nil => rw [mb_f (fun q => q rfl), if_pos (by decide)] <;> rfl
  | cons t r => rw [mb_t (by simp), if_neg (nI_nle (by simp) (by omega))] <;> rfl
theorem mq_isFullr (h : mq_Hr S n L) : mm_runD (d + 1) 8 [.inr 11] S = some (S, 0, 0, 0, mb (n = 40)) := by
  obtain ⟨h1, h2, h3, h4, h5⟩ := h
  rw [dX1_isFull_11, eX1_isFull_11_0, h1]
  rcases Nat.lt_or_ge n 40 with q | q
  · rw [mb_f (by omega), if_pos (show nI n < 40 from nI_lt (b := 40) q (by decide))] <;> rfl
  · rw [mb_t (by omega), if_neg (show ¬ nI n < 40 from nI_nlt (b := 40) q (by omega))] <;> rfl
theorem mq_countr (h : mq_Hr S n L) : mm_runD (d + 1) 7 [.inr 11] S = some (S, 0, 0, 0, nI n) := by
  rw [dX1_count_11, eX1_count_11_0, h.1]
theorem mq_nextAskedr {t : Nat} (h : mq_Hr S n (t :: L)) : mm_runD (d + 1) 15 [.inr 11] S = some (S, 0, 0, 0, nI t) := by
  obtain ⟨h1, h2, h3, h4, h5⟩ := h
  rw [List.length_cons] at h3 h4
  rw [dX1_nextAsked_11, eX1_nextAsked_11_0, h3, if_neg (nI_nle (by omega) (by omega)), if_neg (show ¬ (83 : Int32) < nI _ from nI_nlt (a := 83) h4 (by decide)), nI_pred, ar_14 (by omega), h5.1]
theorem mq_askr {t : Nat} (h : mq_Hr S n L) (hL : L.length < 83) : ∃ S', mm_runD (d + 1) 16 [.inr 11, .inl (nI t)] S = some (S', 0, 0, 0, 0) ∧ mfr [11, 14] S S' ∧ mq_Hr S' n (t :: L) := by
  obtain ⟨h1, h2, h3, h4, h5⟩ := h
  refine ⟨mm_put (mm_put S 14 L.length (nI t)) 11 5 (nI (L.length + 1)), ?_, mfr_tr (mfr_put (by simp)) (mfr_put (by simp)), ?_⟩
  · rw [dX1_ask_11, eX1_ask_11_0, h3, if_neg (nI_pos (by omega)), if_neg (show ¬ (83 : Int32) ≤ nI _ from nI_ge (b := 83) hL (by decide)), ar_14 hL, mp_pn _ _ _ (by decide), h3, nI_1]
  · refine ⟨?_, h2, ?_, by rw [List.length_cons]; omega, ?_⟩
    · rw [mp_pk _ _ _ (by decide), mp_pn _ _ _ (by decide)]; exact h1
    · rw [mp_pp, List.length_cons]
    · rw [mp_pn _ _ _ (by decide)]
      have : mm_put S 14 L.length (nI t) 14 = upd (S 14) L.length (nI t) := mm_stc_at _ _ _
      rw [this]
      exact mstk_push rfl h5
theorem mq_begin_loopr {o : Option MV} {C : Nat} {col : Nat → Nat} : ∀ (i : Nat) (S : Mem), i ≤ C → C ≤ 3 → (∀ c, c < C → S 7 c = nI (col c)) → mq_Hr S 0 (seg col i (C - i)) → ∃ S', mm_E (mm_runD (d + 1)) pX1_begin 0 13 [some (.inr 11), some (.inr 7), o, some (.inl (nI i - 1))] [] S 0 0 = some (S', 0, 0, 0, 0) ∧ mfr [11, 14] S S' ∧ mq_Hr S' 0 (seg col 0 C) := by
  intro i
  induction i with
  | zero =>
    intro S hi hC hc h
    refine ⟨S, ?_, mfr_rf, h⟩
    rw [eX1_begin_11_13, if_pos (by decide)]
  | succ i ih =>
    intro S hi hC hc h
    obtain ⟨S1, h1, h2, h3⟩ := mq_askr (d := d) (t := col i) h (by rw [seg_len]; omega)
    have e : col i :: seg col (i + 1) (C - (i + 1)) = seg col i (C - i) := by
      rw [show C - i = (C - (i + 1)) + 1 by omega] <;> rfl
    rw [e] at h3
    obtain ⟨S2, h4, h5, h6⟩ := ih S1 (by omega) hC (fun c hcc => by rw [h2 7 (by decide)]; exact hc c hcc) h3
    refine ⟨S2, ?_, mfr_tr h2 h5, h6⟩
    rw [eX1_begin_11_13, nI_pred, if_neg (nI_pos (by omega)), ar_7 (by omega), hc i (by omega), h1, mm_bd_ret, nn_sm]
    exact h4
theorem mq_beginr {C : Nat} {col : Nat → Nat} (hC : C ≤ 3) (hc : ∀ c, c < C → S 7 c = nI (col c)) : ∃ S', mm_runD (d + 2) 6 [.inr 11, .inr 7, .inl (nI C)] S = some (S', 0, 0, 0, 0) ∧ mfr [11, 14] S S' ∧ mq_Hr S' 0 (seg col 0 C) := by
  have hh : mq_Hr (mm_put (mm_put S 11 4 0) 11 5 0) 0 (seg col C (C - C)) := by
    rw [Nat.sub_self]
    refine ⟨?_, by omega, ?_, by simp [seg], trivial⟩
    · rw [mp_pk _ _ _ (by decide), mp_pp] <;> rfl
    · rw [mp_pp] <;> rfl
  obtain ⟨S', h1, h2, h3⟩ := mq_begin_loopr (d := d) (o := some (.inl (nI C))) C (mm_put (mm_put S 11 4 0) 11 5 0) (Nat.le_refl _) hC (fun c hcc => by rw [mp_pn _ _ _ (by decide), mp_pn _ _ _ (by decide)]; exact hc c hcc) hh
  refine ⟨S', ?_, mfr_tr (mfr_tr (mfr_put (by simp)) (mfr_put (by simp))) h2, h3⟩
  rw [dX1_begin_11, eX1_begin_11_0, if_neg (show ¬ (3 : Int32) < nI C from nI_nlt (a := 3) (by omega) (by decide))]
  exact h1
theorem mq_takesr (hK : mq_K S k) (hW : kW k) (h : mq_Hr S n L) (hL : ∀ t, t ∈ L → t < 8) (x : Int32) : mm_runD (d + 3) 10 [.inr 11, .inl x] S = some (S, 0, 0, 0, mb (∃ t r m, L = t :: r ∧ m < kM k ∧ x = nI m ∧ kTy k m = t)) := by
  have hT := hW.1
  have hM := hW.2.1
  rw [dX1_takesMaker_11, eX1_takesMaker_11_0, mq_asksr h, mm_bd_ret]
  cases L with
  | nil => rw [mb_f (fun q => q rfl), if_pos rfl, mb_f (by rintro ⟨t, r, m, h1, _⟩; cases h1)] <;> rfl
  | cons t r =>
    rw [mb_t (by simp), if_neg (by decide), mq_hasMaker hK hW, mm_bd_ret]
    by_cases q : mi x (kM k)
    · obtain ⟨m, hm, rfl⟩ := q
      have b := (hW.2.2 m hm).1
      rw [mb_t (mi_in hm), if_neg (by decide), mq_typeOf hK hW hm, mm_bd_ret, mq_nextAskedr h, mm_bd_ret]
      have ht8 := hL t (by simp)
      by_cases z : nI (kTy k m) = nI t
      · rw [if_pos z, mb_t ⟨t, r, m, rfl, hm, rfl, (nI_eq (by omega) (by omega)).mp z⟩] <;> rfl
      · rw [if_neg z, mb_f]
        rintro ⟨t', r', m', h1, h2, h3, h4⟩
        cases h1
        have := (nI_eq (by omega) (by omega)).mp h3
        subst this
        exact z (by rw [h4])
    · rw [mb_f q, if_pos rfl, mb_f (by rintro ⟨t', r', m', h1, h2, h3, h4⟩; exact q ⟨m', h2, h3⟩)] <;> rfl
theorem mq_fields_loopr (hW : kW k) {m : Nat} (hm : m < kM k) {o : Option MV} {r : List Nat} : ∀ (i : Nat) (S : Mem), i ≤ kFc k m → mq_K S k → r.length + 3 ≤ 83 → mq_Hr S n (seg (kFt k m) i (kFc k m - i) ++ r) → ∃ S', mm_E (mm_runD (d + 3)) pX1_put 1 46 [some (.inr 11), some (.inl (nI m)), o, some (.inl (nI i - 1))] [] S 0 0 = some (S', 0, 0, 0, nI n) ∧ mfr [11, 14] S S' ∧ mq_Hr S' n (seg (kFt k m) 0 (kFc k m) ++ r) := by
  intro i
  have h3 := (hW.2.2 m hm).2.1
  induction i with
  | zero =>
    intro S hi hK hr h
    refine ⟨S, ?_, mfr_rf, h⟩
    rw [eX1_put_11_46, if_pos (by decide), h.1]
  | succ i ih =>
    intro S hi hK hr h
    obtain ⟨S1, h1, h2, h3⟩ := mq_askr (d := d + 2) (t := kFt k m i) h (by rw [List.length_append, seg_len]; omega)
    have e : kFt k m i :: (seg (kFt k m) (i + 1) (kFc k m - (i + 1)) ++ r) = seg (kFt k m) i (kFc k m - i) ++ r := by
      rw [show kFc k m - i = (kFc k m - (i + 1)) + 1 by omega] <;> rfl
    rw [e] at h3
    obtain ⟨S2, h4, h5, h6⟩ := ih S1 (by omega) (mq_K_fr hK h2 rfl) hr h3
    refine ⟨S2, ?_, mfr_tr h2 h5, h6⟩
    rw [eX1_put_11_46, nI_pred, if_neg (nI_pos (by omega)), mq_fieldType hK hW hm (by omega), mm_bd_ret, h1, mm_bd_ret, nn_sm]
    exact h4
/-- a sign is put where a type is asked for -/
theorem mq_putr (hK : mq_K S k) (hW : kW k) {t : Nat} {r : List Nat} (h : mq_Hr S n (t :: r)) (hn : n < 40) (hr : r.length + 3 ≤ 83) {x : Int32} (hx : sgn k x) :
    ∃ S', mm_runD (d + 4) 11 [.inr 11, .inl x] S = some (S', 0, 0, 0, nI (n + 1)) ∧ mfr [11, 12, 14] S S' ∧ S' 12 = upd (S 12) n x ∧ mq_Hr S' (n + 1) (stp k t x ++ r) := by
  have hM := hW.2.1
  obtain ⟨h1, h2, h3, h4, h5⟩ := h
  have hS3 : mq_Hr (mm_put (mm_put (mm_put S 11 5 (nI r.length)) 12 n x) 11 4 (nI (n + 1))) (n + 1) r := by
    refine ⟨?_, by omega, ?_, by omega, ?_⟩
    · rw [mp_pp]
    · rw [mp_pk _ _ _ (by decide), mp_pn _ _ _ (by decide), mp_pp]
    · rw [mp_pn _ _ _ (by decide), mp_pn _ _ _ (by decide), mp_pn _ _ _ (by decide)]
      exact h5.2
  have hF3 : mfr [11, 12, 14] S (mm_put (mm_put (mm_put S 11 5 (nI r.length)) 12 n x) 11 4 (nI (n + 1))) := mfr_tr (mfr_tr (mfr_put (by simp)) (mfr_put (by simp))) (mfr_put (by simp))
  have hs3 : (mm_put (mm_put (mm_put S 11 5 (nI r.length)) 12 n x) 11 4 (nI (n + 1))) 12 = upd (S 12) n x := by
    rw [mp_pn _ _ _ (by decide)]
    exact (mm_stc_at _ _ _).trans (by rw [mp_pn _ _ _ (by decide)])
  generalize hg : mm_put (mm_put (mm_put S 11 5 (nI r.length)) 12 n x) 11 4 (nI (n + 1)) = S3 at hS3 hF3 hs3
  have hK3 := mq_K_fr hK hF3 rfl
  have hh : mq_Hr S n (t :: r) := ⟨h1, h2, h3, h4, h5⟩
  have e1 : S 11 5 - 1 = nI r.length := by rw [h3, List.length_cons, nI_pred]
  have start : mm_runD (d + 4) 11 [.inr 11, .inl x] S = (if x = -2 then mm_bd (mm_runD (d + 3) 16 [.inr 11, .inl (nI t)] S3) 0 0 (fun S5 c5 t5 a5 => mm_bd (mm_runD (d + 3) 16 [.inr 11, .inl (nI t)] S5) c5 t5 (fun S6 c6 t6 a6 => mm_bd (mm_runD (d + 3) 24 [.inr 1, .inl x] S6) c6 t6 (fun S7 c7 t7 a7 => mm_E (mm_runD (d + 3)) pX1_put 1 46 [some (.inr 11), some (.inl x), some (.inl (nI t)), some (.inl (a7 - 1))] [] S7 c7 t7))) else mm_bd (mm_runD (d + 3) 24 [.inr 1, .inl x] S3) 0 0 (fun S7 c7 t7 a7 => mm_E (mm_runD (d + 3)) pX1_put 1 46 [some (.inr 11), some (.inl x), some (.inl (nI t)), some (.inl (a7 - 1))] [] S7 c7 t7)) := by
    rw [dX1_put_11, eX1_put_11_0, mq_isFullr hh, mm_bd_ret, mb_f (by omega), if_pos rfl, mq_asksr hh, mm_bd_ret, mb_t (by simp), if_neg (by decide), mq_nextAskedr hh, mm_bd_ret, e1, mp_pk _ _ _ (by decide), h1, ar_12 hn, mp_pn _ _ _ (by decide), mp_pk _ _ _ (by decide), h1, nI_1, hg]
  rcases hx with rfl | rfl | ⟨m, hm, rfl⟩
  · refine ⟨S3, ?_, hF3, hs3, by rw [stp_A hW]; exact hS3⟩
    rw [start, if_neg (by decide), mq_fieldCount hK3 hW, mm_bd_ret, kfc_N1 hW, eX1_put_11_46, if_pos (by decide), hS3.1]
  · obtain ⟨S4, a1, a2, a3⟩ := mq_askr (d := d + 2) (t := t) hS3 (by omega)
    obtain ⟨S5, b1, b2, b3⟩ := mq_askr (d := d + 2) (t := t) a3 (by rw [List.length_cons]; omega)
    have hK5 := mq_K_fr (mq_K_fr hK3 a2 rfl) b2 rfl
    refine ⟨S5, ?_, mfr_tr hF3 (mfr_up (mfr_tr a2 b2) (by simp)), by rw [b2 _ (by decide), a2 _ (by decide)]; exact hs3, by rw [stp_E]; exact b3⟩
    rw [start, if_pos rfl, a1, mm_bd_ret, b1, mm_bd_ret, mq_fieldCount hK5 hW, mm_bd_ret, kfc_N2 hW, eX1_put_11_46, if_pos (by decide), b3.1]
  · have hm3 := (hW.2.2 m hm).2.1
    obtain ⟨S4, a1, a2, a3⟩ := mq_fields_loopr (d := d) (n := n + 1) hW hm (o := some (.inl (nI t))) (r := r) (kFc k m) S3 (Nat.le_refl _) hK3 hr (by rw [Nat.sub_self]; exact hS3)
    refine ⟨S4, ?_, mfr_tr hF3 (mfr_up a2 (by simp)), by rw [a2 _ (by decide)]; exact hs3, by rw [stp_M hW hm]; exact a3⟩
    rw [start, if_neg (fun q => (nn_a2 (a := m) (by omega)).mp q), mq_fieldCount hK3 hW, mm_bd_ret, kfc_in hW hm]
    exact a1
end
def mq_Hv (S : Mem) (n : Nat) (L : List Nat) : Prop := S 15 4 = nI n ∧ n ≤ 60 ∧ S 15 5 = nI L.length ∧ L.length ≤ 123 ∧ mstk (S 18) L
section
variable {d : Nat} {S : Mem} {k : KK} {n : Nat} {L : List Nat}
theorem mq_asksv (h : mq_Hv S n L) : mm_runD (d + 1) 9 [.inr 15] S = some (S, 0, 0, 0, mb (L ≠ [])) := by
  obtain ⟨h1, h2, h3, h4, h5⟩ := h
  rw [dX1_asks_15, eX1_asks_15_0, h3]
  cases L with
  | nil => rw [mb_f (fun q => q rfl), if_pos (by decide)] <;> rfl
  | cons t r => rw [mb_t (by simp), if_neg (nI_nle (by simp) (by omega))] <;> rfl
theorem mq_isFullv (h : mq_Hv S n L) : mm_runD (d + 1) 8 [.inr 15] S = some (S, 0, 0, 0, mb (n = 60)) := by
  obtain ⟨h1, h2, h3, h4, h5⟩ := h
  rw [dX1_isFull_15, eX1_isFull_15_0, h1]
  rcases Nat.lt_or_ge n 60 with q | q
  · rw [mb_f (by omega), if_pos (show nI n < 60 from nI_lt (b := 60) q (by decide))] <;> rfl
  · rw [mb_t (by omega), if_neg (show ¬ nI n < 60 from nI_nlt (b := 60) q (by omega))] <;> rfl
theorem mq_countv (h : mq_Hv S n L) : mm_runD (d + 1) 7 [.inr 15] S = some (S, 0, 0, 0, nI n) := by
  rw [dX1_count_15, eX1_count_15_0, h.1]
theorem mq_nextAskedv {t : Nat} (h : mq_Hv S n (t :: L)) : mm_runD (d + 1) 15 [.inr 15] S = some (S, 0, 0, 0, nI t) := by
  obtain ⟨h1, h2, h3, h4, h5⟩ := h
  rw [List.length_cons] at h3 h4
  rw [dX1_nextAsked_15, eX1_nextAsked_15_0, h3, if_neg (nI_nle (by omega) (by omega)), if_neg (show ¬ (123 : Int32) < nI _ from nI_nlt (a := 123) h4 (by decide)), nI_pred, ar_18 (by omega), h5.1]
theorem mq_askv {t : Nat} (h : mq_Hv S n L) (hL : L.length < 123) : ∃ S', mm_runD (d + 1) 16 [.inr 15, .inl (nI t)] S = some (S', 0, 0, 0, 0) ∧ mfr [15, 18] S S' ∧ mq_Hv S' n (t :: L) := by
  obtain ⟨h1, h2, h3, h4, h5⟩ := h
  refine ⟨mm_put (mm_put S 18 L.length (nI t)) 15 5 (nI (L.length + 1)), ?_, mfr_tr (mfr_put (by simp)) (mfr_put (by simp)), ?_⟩
  · rw [dX1_ask_15, eX1_ask_15_0, h3, if_neg (nI_pos (by omega)), if_neg (show ¬ (123 : Int32) ≤ nI _ from nI_ge (b := 123) hL (by decide)), ar_18 hL, mp_pn _ _ _ (by decide), h3, nI_1]
  · refine ⟨?_, h2, ?_, by rw [List.length_cons]; omega, ?_⟩
    · rw [mp_pk _ _ _ (by decide), mp_pn _ _ _ (by decide)]; exact h1
    · rw [mp_pp, List.length_cons]
    · rw [mp_pn _ _ _ (by decide)]
      have : mm_put S 18 L.length (nI t) 18 = upd (S 18) L.length (nI t) := mm_stc_at _ _ _
      rw [this]
      exact mstk_push rfl h5
theorem mq_begin_loopv {o : Option MV} {C : Nat} {col : Nat → Nat} : ∀ (i : Nat) (S : Mem), i ≤ C → C ≤ 3 → (∀ c, c < C → S 7 c = nI (col c)) → mq_Hv S 0 (seg col i (C - i)) → ∃ S', mm_E (mm_runD (d + 1)) pX1_begin 0 13 [some (.inr 15), some (.inr 7), o, some (.inl (nI i - 1))] [] S 0 0 = some (S', 0, 0, 0, 0) ∧ mfr [15, 18] S S' ∧ mq_Hv S' 0 (seg col 0 C) := by
  intro i
  induction i with
  | zero =>
    intro S hi hC hc h
    refine ⟨S, ?_, mfr_rf, h⟩
    rw [eX1_begin_15_13, if_pos (by decide)]
  | succ i ih =>
    intro S hi hC hc h
    obtain ⟨S1, h1, h2, h3⟩ := mq_askv (d := d) (t := col i) h (by rw [seg_len]; omega)
    have e : col i :: seg col (i + 1) (C - (i + 1)) = seg col i (C - i) := by
      rw [show C - i = (C - (i + 1)) + 1 by omega] <;> rfl
    rw [e] at h3
    obtain ⟨S2, h4, h5, h6⟩ := ih S1 (by omega) hC (fun c hcc => by rw [h2 7 (by decide)]; exact hc c hcc) h3
    refine ⟨S2, ?_, mfr_tr h2 h5, h6⟩
    rw [eX1_begin_15_13, nI_pred, if_neg (nI_pos (by omega)), ar_7 (by omega), hc i (by omega), h1, mm_bd_ret, nn_sm]
    exact h4
theorem mq_beginv {C : Nat} {col : Nat → Nat} (hC : C ≤ 3) (hc : ∀ c, c < C → S 7 c = nI (col c)) : ∃ S', mm_runD (d + 2) 6 [.inr 15, .inr 7, .inl (nI C)] S = some (S', 0, 0, 0, 0) ∧ mfr [15, 18] S S' ∧ mq_Hv S' 0 (seg col 0 C) := by
  have hh : mq_Hv (mm_put (mm_put S 15 4 0) 15 5 0) 0 (seg col C (C - C)) := by
    rw [Nat.sub_self]
    refine ⟨?_, by omega, ?_, by simp [seg], trivial⟩
    · rw [mp_pk _ _ _ (by decide), mp_pp] <;> rfl
    · rw [mp_pp] <;> rfl
  obtain ⟨S', h1, h2, h3⟩ := mq_begin_loopv (d := d) (o := some (.inl (nI C))) C (mm_put (mm_put S 15 4 0) 15 5 0) (Nat.le_refl _) hC (fun c hcc => by rw [mp_pn _ _ _ (by decide), mp_pn _ _ _ (by decide)]; exact hc c hcc) hh
  refine ⟨S', ?_, mfr_tr (mfr_tr (mfr_put (by simp)) (mfr_put (by simp))) h2, h3⟩
  rw [dX1_begin_15, eX1_begin_15_0, if_neg (show ¬ (3 : Int32) < nI C from nI_nlt (a := 3) (by omega) (by decide))]
  exact h1
theorem mq_takesv (hK : mq_K S k) (hW : kW k) (h : mq_Hv S n L) (hL : ∀ t, t ∈ L → t < 8) (x : Int32) : mm_runD (d + 3) 10 [.inr 15, .inl x] S = some (S, 0, 0, 0, mb (∃ t r m, L = t :: r ∧ m < kM k ∧ x = nI m ∧ kTy k m = t)) := by
  have hT := hW.1
  have hM := hW.2.1
  rw [dX1_takesMaker_15, eX1_takesMaker_15_0, mq_asksv h, mm_bd_ret]
  cases L with
  | nil => rw [mb_f (fun q => q rfl), if_pos rfl, mb_f (by rintro ⟨t, r, m, h1, _⟩; cases h1)] <;> rfl
  | cons t r =>
    rw [mb_t (by simp), if_neg (by decide), mq_hasMaker hK hW, mm_bd_ret]
    by_cases q : mi x (kM k)
    · obtain ⟨m, hm, rfl⟩ := q
      have b := (hW.2.2 m hm).1
      rw [mb_t (mi_in hm), if_neg (by decide), mq_typeOf hK hW hm, mm_bd_ret, mq_nextAskedv h, mm_bd_ret]
      have ht8 := hL t (by simp)
      by_cases z : nI (kTy k m) = nI t
      · rw [if_pos z, mb_t ⟨t, r, m, rfl, hm, rfl, (nI_eq (by omega) (by omega)).mp z⟩] <;> rfl
      · rw [if_neg z, mb_f]
        rintro ⟨t', r', m', h1, h2, h3, h4⟩
        cases h1
        have := (nI_eq (by omega) (by omega)).mp h3
        subst this
        exact z (by rw [h4])
    · rw [mb_f q, if_pos rfl, mb_f (by rintro ⟨t', r', m', h1, h2, h3, h4⟩; exact q ⟨m', h2, h3⟩)] <;> rfl
theorem mq_fields_loopv (hW : kW k) {m : Nat} (hm : m < kM k) {o : Option MV} {r : List Nat} : ∀ (i : Nat) (S : Mem), i ≤ kFc k m → mq_K S k → r.length + 3 ≤ 123 → mq_Hv S n (seg (kFt k m) i (kFc k m - i) ++ r) → ∃ S', mm_E (mm_runD (d + 3)) pX1_put 1 46 [some (.inr 15), some (.inl (nI m)), o, some (.inl (nI i - 1))] [] S 0 0 = some (S', 0, 0, 0, nI n) ∧ mfr [15, 18] S S' ∧ mq_Hv S' n (seg (kFt k m) 0 (kFc k m) ++ r) := by
  intro i
  have h3 := (hW.2.2 m hm).2.1
  induction i with
  | zero =>
    intro S hi hK hr h
    refine ⟨S, ?_, mfr_rf, h⟩
    rw [eX1_put_15_46, if_pos (by decide), h.1]
  | succ i ih =>
    intro S hi hK hr h
    obtain ⟨S1, h1, h2, h3⟩ := mq_askv (d := d + 2) (t := kFt k m i) h (by rw [List.length_append, seg_len]; omega)
    have e : kFt k m i :: (seg (kFt k m) (i + 1) (kFc k m - (i + 1)) ++ r) = seg (kFt k m) i (kFc k m - i) ++ r := by
      rw [show kFc k m - i = (kFc k m - (i + 1)) + 1 by omega] <;> rfl
    rw [e] at h3
    obtain ⟨S2, h4, h5, h6⟩ := ih S1 (by omega) (mq_K_fr hK h2 rfl) hr h3
    refine ⟨S2, ?_, mfr_tr h2 h5, h6⟩
    rw [eX1_put_15_46, nI_pred, if_neg (nI_pos (by omega)), mq_fieldType hK hW hm (by omega), mm_bd_ret, h1, mm_bd_ret, nn_sm]
    exact h4
/-- a sign is put where a type is asked for -/
theorem mq_putv (hK : mq_K S k) (hW : kW k) {t : Nat} {r : List Nat} (h : mq_Hv S n (t :: r)) (hn : n < 60) (hr : r.length + 3 ≤ 123) {x : Int32} (hx : sgn k x) :
    ∃ S', mm_runD (d + 4) 11 [.inr 15, .inl x] S = some (S', 0, 0, 0, nI (n + 1)) ∧ mfr [15, 16, 18] S S' ∧ S' 16 = upd (S 16) n x ∧ mq_Hv S' (n + 1) (stp k t x ++ r) := by
  have hM := hW.2.1
  obtain ⟨h1, h2, h3, h4, h5⟩ := h
  have hS3 : mq_Hv (mm_put (mm_put (mm_put S 15 5 (nI r.length)) 16 n x) 15 4 (nI (n + 1))) (n + 1) r := by
    refine ⟨?_, by omega, ?_, by omega, ?_⟩
    · rw [mp_pp]
    · rw [mp_pk _ _ _ (by decide), mp_pn _ _ _ (by decide), mp_pp]
    · rw [mp_pn _ _ _ (by decide), mp_pn _ _ _ (by decide), mp_pn _ _ _ (by decide)]
      exact h5.2
  have hF3 : mfr [15, 16, 18] S (mm_put (mm_put (mm_put S 15 5 (nI r.length)) 16 n x) 15 4 (nI (n + 1))) := mfr_tr (mfr_tr (mfr_put (by simp)) (mfr_put (by simp))) (mfr_put (by simp))
  have hs3 : (mm_put (mm_put (mm_put S 15 5 (nI r.length)) 16 n x) 15 4 (nI (n + 1))) 16 = upd (S 16) n x := by
    rw [mp_pn _ _ _ (by decide)]
    exact (mm_stc_at _ _ _).trans (by rw [mp_pn _ _ _ (by decide)])
  generalize hg : mm_put (mm_put (mm_put S 15 5 (nI r.length)) 16 n x) 15 4 (nI (n + 1)) = S3 at hS3 hF3 hs3
  have hK3 := mq_K_fr hK hF3 rfl
  have hh : mq_Hv S n (t :: r) := ⟨h1, h2, h3, h4, h5⟩
  have e1 : S 15 5 - 1 = nI r.length := by rw [h3, List.length_cons, nI_pred]
  have start : mm_runD (d + 4) 11 [.inr 15, .inl x] S = (if x = -2 then mm_bd (mm_runD (d + 3) 16 [.inr 15, .inl (nI t)] S3) 0 0 (fun S5 c5 t5 a5 => mm_bd (mm_runD (d + 3) 16 [.inr 15, .inl (nI t)] S5) c5 t5 (fun S6 c6 t6 a6 => mm_bd (mm_runD (d + 3) 24 [.inr 1, .inl x] S6) c6 t6 (fun S7 c7 t7 a7 => mm_E (mm_runD (d + 3)) pX1_put 1 46 [some (.inr 15), some (.inl x), some (.inl (nI t)), some (.inl (a7 - 1))] [] S7 c7 t7))) else mm_bd (mm_runD (d + 3) 24 [.inr 1, .inl x] S3) 0 0 (fun S7 c7 t7 a7 => mm_E (mm_runD (d + 3)) pX1_put 1 46 [some (.inr 15), some (.inl x), some (.inl (nI t)), some (.inl (a7 - 1))] [] S7 c7 t7)) := by
    rw [dX1_put_15, eX1_put_15_0, mq_isFullv hh, mm_bd_ret, mb_f (by omega), if_pos rfl, mq_asksv hh, mm_bd_ret, mb_t (by simp), if_neg (by decide), mq_nextAskedv hh, mm_bd_ret, e1, mp_pk _ _ _ (by decide), h1, ar_16 hn, mp_pn _ _ _ (by decide), mp_pk _ _ _ (by decide), h1, nI_1, hg]
  rcases hx with rfl | rfl | ⟨m, hm, rfl⟩
  · refine ⟨S3, ?_, hF3, hs3, by rw [stp_A hW]; exact hS3⟩
    rw [start, if_neg (by decide), mq_fieldCount hK3 hW, mm_bd_ret, kfc_N1 hW, eX1_put_15_46, if_pos (by decide), hS3.1]
  · obtain ⟨S4, a1, a2, a3⟩ := mq_askv (d := d + 2) (t := t) hS3 (by omega)
    obtain ⟨S5, b1, b2, b3⟩ := mq_askv (d := d + 2) (t := t) a3 (by rw [List.length_cons]; omega)
    have hK5 := mq_K_fr (mq_K_fr hK3 a2 rfl) b2 rfl
    refine ⟨S5, ?_, mfr_tr hF3 (mfr_up (mfr_tr a2 b2) (by simp)), by rw [b2 _ (by decide), a2 _ (by decide)]; exact hs3, by rw [stp_E]; exact b3⟩
    rw [start, if_pos rfl, a1, mm_bd_ret, b1, mm_bd_ret, mq_fieldCount hK5 hW, mm_bd_ret, kfc_N2 hW, eX1_put_15_46, if_pos (by decide), b3.1]
  · have hm3 := (hW.2.2 m hm).2.1
    obtain ⟨S4, a1, a2, a3⟩ := mq_fields_loopv (d := d) (n := n + 1) hW hm (o := some (.inl (nI t))) (r := r) (kFc k m) S3 (Nat.le_refl _) hK3 hr (by rw [Nat.sub_self]; exact hS3)
    refine ⟨S4, ?_, mfr_tr hF3 (mfr_up a2 (by simp)), by rw [a2 _ (by decide)]; exact hs3, by rw [stp_M hW hm]; exact a3⟩
    rw [start, if_neg (fun q => (nn_a2 (a := m) (by omega)).mp q), mq_fieldCount hK3 hW, mm_bd_ret, kfc_in hW hm]
    exact a1
end
end
section
/-! PURE: the reference's next: what is asked for after n signs -/
def hdv : List Nat → Int32
  | [] => N1
  | t :: _ => nI t
section
variable {d : Nat} {S : Mem} {k : KK}
theorem mr_next_fr (hK : mr_K S k) (hW : kW k) {m : Nat} (hm : m < kM k) {a b : MV} {o : Option MV} {r : List Nat} {x2 x4 : Int32} (hr : r.length + 3 ≤ 300) : ∀ (i : Nat) (f : Nat → Int32), i ≤ kFc k m → mstk f (seg (kFt k m) i (kFc k m - i) ++ r) →
    ∃ f' x7, mm_E (mm_runD (d + 1)) pX8_next 1 61 [some (.inr 27), some (.inr 34), some (.inl x2), some (.inl (nI (kFc k m - i + r.length))), some (.inl x4), o, some (.inl (nI m)), some (.inl (nI i - 1))] [] (mm_stc S 36 f) 0 0 = mm_E (mm_runD (d + 1)) pX8_next 1 22 [some (.inr 27), some (.inr 34), some (.inl x2), some (.inl (nI (kFc k m + r.length))), some (.inl (x4 + 1)), o, some (.inl (nI m)), x7] [] (mm_stc S 36 f') 0 0 ∧ mstk f' (seg (kFt k m) 0 (kFc k m) ++ r) := by
  intro i
  obtain ⟨_, h3, h4⟩ := hW.2.2 m hm
  have hM := hW.2.1
  induction i with
  | zero =>
    intro f hi h
    refine ⟨f, some (.inl (nI 0 - 1)), ?_, h⟩
    rw [eX8_next_34_61, if_pos (by decide)] <;> rfl
  | succ i ih =>
    intro f hi h
    have e : kFt k m i :: (seg (kFt k m) (i + 1) (kFc k m - (i + 1)) ++ r) = seg (kFt k m) i (kFc k m - i) ++ r := by
      rw [show kFc k m - i = (kFc k m - (i + 1)) + 1 by omega] <;> rfl
    have hK' : mr_K (mm_stc S 36 f) k := hK
    have h1 := mstk_push (t := kFt k m i) (n := kFc k m - (i + 1) + r.length) (by rw [List.length_append, seg_len]) h
    rw [e] at h1
    obtain ⟨f', x7, h5, h6⟩ := ih _ (by omega) h1
    refine ⟨f', x7, ?_, h6⟩
    rw [eX8_next_34_61, nI_pred, if_neg (nI_pos (by omega)), li_3, nn_mul, nI_add, ar_29 (by omega), ar_36 (by omega), (hK'.2.2 m hm).2.1 i (by omega), mm_put_stc, nI_1, nn_sm, ← h5, show kFc k m - (i + 1) + r.length + 1 = kFc k m - i + r.length by omega]
/-- one sign -/
theorem mr_next_sr (hK : mr_K S k) (hW : kW k) {i t : Nat} {x2 : Int32} {n : Nat} (hx2 : x2 = nI n) (hn : n ≤ 40) (hi : i < n) {o5 o6 o7 : Option MV} {r : List Nat} (hr : r.length + 3 ≤ 300) {x : Int32} (hx : sgn k x) (hS : S 34 i = x) {f : Nat → Int32} (hf : mstk f (t :: r)) :
    ∃ f' p5 p6 p7, mm_E (mm_runD (d + 1)) pX8_next 1 22 [some (.inr 27), some (.inr 34), some (.inl x2), some (.inl (nI (r.length + 1))), some (.inl (nI i)), o5, o6, o7] [] (mm_stc S 36 f) 0 0 = mm_E (mm_runD (d + 1)) pX8_next 1 22 [some (.inr 27), some (.inr 34), some (.inl x2), some (.inl (nI (stp k t x ++ r).length)), some (.inl (nI (i + 1))), p5, p6, p7] [] (mm_stc S 36 f') 0 0 ∧ mstk f' (stp k t x ++ r) := by
  have hM := hW.2.1
  have hK' : mr_K (mm_stc S 36 f) k := hK
  have hS' : (mm_stc S 36 f) 34 i = x := hS
  have start : mm_E (mm_runD (d + 1)) pX8_next 1 22 [some (.inr 27), some (.inr 34), some (.inl x2), some (.inl (nI (r.length + 1))), some (.inl (nI i)), o5, o6, o7] [] (mm_stc S 36 f) 0 0 = mm_E (mm_runD (d + 1)) pX8_next 1 37 [some (.inr 27), some (.inr 34), some (.inl x2), some (.inl (nI r.length)), some (.inl (nI i)), some (.inl (nI t)), some (.inl x), some (.inl 0)] [] (mm_stc S 36 f) 0 0 := by
    rw [eX8_next_34_22, hx2, if_neg (nI_ge hi (by omega)), nn_sm, nI_pred, ar_36 (by omega), ar_34 (by omega), hS', mm_stc_at, hf.1]
  rcases hx with rfl | rfl | ⟨m, hm, rfl⟩
  · refine ⟨f, some (.inl (nI t)), some (.inl N1), some (.inl (-1)), ?_, by rw [stp_A hW]; exact hf.2⟩
    rw [start, eX8_next_34_37, if_neg (by decide), if_neg (by decide), eX8_next_34_61, if_pos (by decide), nI_1, stp_A hW] <;> rfl
  · have h1 := mstk_push (t := t) (n := r.length) rfl hf.2
    have h2 := mstk_push (t := t) (n := r.length + 1) (by simp) h1
    refine ⟨_, some (.inl (nI t)), some (.inl N2), some (.inl (-1)), ?_, by rw [stp_E]; exact h2⟩
    rw [start, eX8_next_34_37, if_pos rfl, if_neg (by decide), ar_36 (by omega), mm_put_stc, nI_1, eX8_next_34_37, if_pos rfl, if_neg (by decide), ar_36 (by omega), mm_put_stc, nI_1, eX8_next_34_37, if_pos rfl, if_pos (by decide), if_neg (by decide), eX8_next_34_61, if_pos (by decide), nI_1, stp_E] <;> rfl
  · have hm3 := (hW.2.2 m hm).2.1
    obtain ⟨f', x7, h5, h6⟩ := mr_next_fr (d := d) hK hW hm (a := .inl 0) (b := .inl 0) (o := some (.inl (nI t))) (x2 := x2) (x4 := nI i) hr (kFc k m) f (Nat.le_refl _) (by rw [Nat.sub_self]; exact hf.2)
    refine ⟨f', some (.inl (nI t)), some (.inl (nI m)), x7, ?_, by rw [stp_M hW hm]; exact h6⟩
    rw [start, eX8_next_34_37, if_neg (fun q => (nn_a2 (a := m) (by omega)).mp q), if_pos (nI_pos' (by omega)), mr_fields hK' hW hm, mm_bd_ret, stp_M hW hm, List.length_append, seg_len]
    rw [Nat.sub_self, Nat.zero_add, nI_1] at h5
    exact h5
theorem mr_next_lr (hK : mr_K S k) (hW : kW k) {C : Nat} {col : Nat → Nat} {x : Nat → Int32} {n : Nat} (hC : C ≤ 3) (hx : ∀ i, i < n → S 34 i = x i) (hn : n ≤ 40) (hh : hnd k C col x n) :
    ∀ (z i : Nat) (f : Nat → Int32) (o5 o6 o7 : Option MV), n - i = z → i ≤ n → mstk f (stk k C col x i) → ∃ f', mm_E (mm_runD (d + 1)) pX8_next 1 22 [some (.inr 27), some (.inr 34), some (.inl (nI n)), some (.inl (nI (stk k C col x i).length)), some (.inl (nI i)), o5, o6, o7] [] (mm_stc S 36 f) 0 0 = some (mm_stc S 36 f', 0, 0, 0, hdv (stk k C col x n)) := by
  intro z
  induction z with
  | zero =>
    intro i f o5 o6 o7 hz hi hf
    have e : i = n := by omega
    subst e
    refine ⟨f, ?_⟩
    have hl := stk_len hW hC (col := col) (x := x) i
    rw [eX8_next_34_22, if_pos (nI_le (Nat.le_refl _) (by omega))]
    cases hs : stk k C col x i with
    | nil => rw [if_pos (show nI ([] : List Nat).length = 0 from rfl)] <;> rfl
    | cons t r =>
      rw [hs] at hl hf
      rw [List.length_cons] at hl ⊢
      rw [if_neg (nI_ne0 (by omega) (by omega)), nI_pred, ar_36 (by omega), mm_stc_at, hf.1] <;> rfl
  | succ z ih =>
    intro i f o5 o6 o7 hz hi hf
    have hl := stk_len hW hC (col := col) (x := x) i
    obtain ⟨t, r, h1, _⟩ := hh i (by omega)
    rw [h1] at hf hl
    rw [List.length_cons] at hl
    obtain ⟨f', p5, p6, p7, h3, h4⟩ := mr_next_sr (d := d) hK hW (x2 := nI n) (n := n) rfl hn (i := i) (by omega) (o5 := o5) (o6 := o6) (o7 := o7) (by omega) (hnd_sgn hh (by omega)) (hx i (by omega)) hf
    rw [← stk_s h1] at h3 h4
    obtain ⟨f2, h5⟩ := ih (i + 1) f' p5 p6 p7 (by omega) (by omega) h4
    refine ⟨f2, ?_⟩
    rw [h1, List.length_cons, h3, h5]
theorem mr_next_cr {C : Nat} {col : Nat → Nat} {x2 : Int32} {o5 o6 o7 : Option MV} (hC : C ≤ 3) (hc : ∀ c, c < C → S 31 c = nI (col c)) : ∀ (i : Nat) (f : Nat → Int32), i ≤ C → mstk f (seg col i (C - i)) →
    ∃ f', mm_E (mm_runD (d + 1)) pX8_next 1 7 [some (.inr 27), some (.inr 34), some (.inl x2), some (.inl (nI (C - i))), some (.inl (nI i - 1)), o5, o6, o7] [] (mm_stc S 36 f) 0 0 = mm_E (mm_runD (d + 1)) pX8_next 1 22 [some (.inr 27), some (.inr 34), some (.inl x2), some (.inl (nI C)), some (.inl (nI 0)), o5, o6, o7] [] (mm_stc S 36 f') 0 0 ∧ mstk f' (seg col 0 C) := by
  intro i
  induction i with
  | zero =>
    intro f hi h
    refine ⟨f, ?_, h⟩
    rw [eX8_next_34_7, if_pos (by decide)] <;> rfl
  | succ i ih =>
    intro f hi h
    have e : col i :: seg col (i + 1) (C - (i + 1)) = seg col i (C - i) := by
      rw [show C - i = (C - (i + 1)) + 1 by omega] <;> rfl
    have h1 := mstk_push (t := col i) (n := C - (i + 1)) (by rw [seg_len]) h
    rw [e] at h1
    obtain ⟨f', h5, h6⟩ := ih _ (by omega) h1
    refine ⟨f', ?_, h6⟩
    have hc' : (mm_stc S 36 f) 31 i = nI (col i) := hc i (by omega)
    rw [eX8_next_34_7, nI_pred, if_neg (nI_pos (by omega)), ar_31 (by omega), ar_36 (by omega), hc', mm_put_stc, nI_1, nn_sm, ← h5, show C - (i + 1) + 1 = C - i by omega]
theorem mr_nextr (hK : mr_K S k) (hW : kW k) {C : Nat} {col : Nat → Nat} {x : Nat → Int32} {n : Nat} (hC : C ≤ 3) (hC6 : S 27 6 = nI C) (hc : ∀ c, c < C → S 31 c = nI (col c)) (hx : ∀ i, i < n → S 34 i = x i) (hn : n ≤ 40) (hh : hnd k C col x n) :
    ∃ f, mm_runD (d + 2) 126 [.inr 27, .inr 34, .inl (nI n)] S = some (mm_stc S 36 f, 0, 0, 0, hdv (stk k C col x n)) := by
  obtain ⟨f1, h1, h2⟩ := mr_next_cr (d := d) (S := S) (x2 := nI n) (o5 := none) (o6 := none) (o7 := none) hC hc C (S 36) (Nat.le_refl _) (by rw [Nat.sub_self]; trivial)
  obtain ⟨f2, h3⟩ := mr_next_lr (d := d) (S := S) hK hW hC hx hn hh (n - 0) 0 f1 none none none rfl (by omega) h2
  refine ⟨f2, ?_⟩
  rw [mm_stc_self, Nat.sub_self] at h1
  rw [dX8_next_34, eX8_next_34_0, hC6, li_0, h1]
  have e : (stk k C col x 0).length = C := seg_len col C 0
  rw [e] at h3
  exact h3
end
section
variable {d : Nat} {S : Mem} {k : KK}
theorem mr_next_fv (hK : mr_K S k) (hW : kW k) {m : Nat} (hm : m < kM k) {a b : MV} {o : Option MV} {r : List Nat} {x2 x4 : Int32} (hr : r.length + 3 ≤ 300) : ∀ (i : Nat) (f : Nat → Int32), i ≤ kFc k m → mstk f (seg (kFt k m) i (kFc k m - i) ++ r) →
    ∃ f' x7, mm_E (mm_runD (d + 1)) pX8_next 1 61 [some (.inr 27), some (.inr 35), some (.inl x2), some (.inl (nI (kFc k m - i + r.length))), some (.inl x4), o, some (.inl (nI m)), some (.inl (nI i - 1))] [] (mm_stc S 36 f) 0 0 = mm_E (mm_runD (d + 1)) pX8_next 1 22 [some (.inr 27), some (.inr 35), some (.inl x2), some (.inl (nI (kFc k m + r.length))), some (.inl (x4 + 1)), o, some (.inl (nI m)), x7] [] (mm_stc S 36 f') 0 0 ∧ mstk f' (seg (kFt k m) 0 (kFc k m) ++ r) := by
  intro i
  obtain ⟨_, h3, h4⟩ := hW.2.2 m hm
  have hM := hW.2.1
  induction i with
  | zero =>
    intro f hi h
    refine ⟨f, some (.inl (nI 0 - 1)), ?_, h⟩
    rw [eX8_next_35_61, if_pos (by decide)] <;> rfl
  | succ i ih =>
    intro f hi h
    have e : kFt k m i :: (seg (kFt k m) (i + 1) (kFc k m - (i + 1)) ++ r) = seg (kFt k m) i (kFc k m - i) ++ r := by
      rw [show kFc k m - i = (kFc k m - (i + 1)) + 1 by omega] <;> rfl
    have hK' : mr_K (mm_stc S 36 f) k := hK
    have h1 := mstk_push (t := kFt k m i) (n := kFc k m - (i + 1) + r.length) (by rw [List.length_append, seg_len]) h
    rw [e] at h1
    obtain ⟨f', x7, h5, h6⟩ := ih _ (by omega) h1
    refine ⟨f', x7, ?_, h6⟩
    rw [eX8_next_35_61, nI_pred, if_neg (nI_pos (by omega)), li_3, nn_mul, nI_add, ar_29 (by omega), ar_36 (by omega), (hK'.2.2 m hm).2.1 i (by omega), mm_put_stc, nI_1, nn_sm, ← h5, show kFc k m - (i + 1) + r.length + 1 = kFc k m - i + r.length by omega]
/-- one sign -/
theorem mr_next_sv (hK : mr_K S k) (hW : kW k) {i t : Nat} {x2 : Int32} {n : Nat} (hx2 : x2 = nI n) (hn : n ≤ 60) (hi : i < n) {o5 o6 o7 : Option MV} {r : List Nat} (hr : r.length + 3 ≤ 300) {x : Int32} (hx : sgn k x) (hS : S 35 i = x) {f : Nat → Int32} (hf : mstk f (t :: r)) :
    ∃ f' p5 p6 p7, mm_E (mm_runD (d + 1)) pX8_next 1 22 [some (.inr 27), some (.inr 35), some (.inl x2), some (.inl (nI (r.length + 1))), some (.inl (nI i)), o5, o6, o7] [] (mm_stc S 36 f) 0 0 = mm_E (mm_runD (d + 1)) pX8_next 1 22 [some (.inr 27), some (.inr 35), some (.inl x2), some (.inl (nI (stp k t x ++ r).length)), some (.inl (nI (i + 1))), p5, p6, p7] [] (mm_stc S 36 f') 0 0 ∧ mstk f' (stp k t x ++ r) := by
  have hM := hW.2.1
  have hK' : mr_K (mm_stc S 36 f) k := hK
  have hS' : (mm_stc S 36 f) 35 i = x := hS
  have start : mm_E (mm_runD (d + 1)) pX8_next 1 22 [some (.inr 27), some (.inr 35), some (.inl x2), some (.inl (nI (r.length + 1))), some (.inl (nI i)), o5, o6, o7] [] (mm_stc S 36 f) 0 0 = mm_E (mm_runD (d + 1)) pX8_next 1 37 [some (.inr 27), some (.inr 35), some (.inl x2), some (.inl (nI r.length)), some (.inl (nI i)), some (.inl (nI t)), some (.inl x), some (.inl 0)] [] (mm_stc S 36 f) 0 0 := by
    rw [eX8_next_35_22, hx2, if_neg (nI_ge hi (by omega)), nn_sm, nI_pred, ar_36 (by omega), ar_35 (by omega), hS', mm_stc_at, hf.1]
  rcases hx with rfl | rfl | ⟨m, hm, rfl⟩
  · refine ⟨f, some (.inl (nI t)), some (.inl N1), some (.inl (-1)), ?_, by rw [stp_A hW]; exact hf.2⟩
    rw [start, eX8_next_35_37, if_neg (by decide), if_neg (by decide), eX8_next_35_61, if_pos (by decide), nI_1, stp_A hW] <;> rfl
  · have h1 := mstk_push (t := t) (n := r.length) rfl hf.2
    have h2 := mstk_push (t := t) (n := r.length + 1) (by simp) h1
    refine ⟨_, some (.inl (nI t)), some (.inl N2), some (.inl (-1)), ?_, by rw [stp_E]; exact h2⟩
    rw [start, eX8_next_35_37, if_pos rfl, if_neg (by decide), ar_36 (by omega), mm_put_stc, nI_1, eX8_next_35_37, if_pos rfl, if_neg (by decide), ar_36 (by omega), mm_put_stc, nI_1, eX8_next_35_37, if_pos rfl, if_pos (by decide), if_neg (by decide), eX8_next_35_61, if_pos (by decide), nI_1, stp_E] <;> rfl
  · have hm3 := (hW.2.2 m hm).2.1
    obtain ⟨f', x7, h5, h6⟩ := mr_next_fv (d := d) hK hW hm (a := .inl 0) (b := .inl 0) (o := some (.inl (nI t))) (x2 := x2) (x4 := nI i) hr (kFc k m) f (Nat.le_refl _) (by rw [Nat.sub_self]; exact hf.2)
    refine ⟨f', some (.inl (nI t)), some (.inl (nI m)), x7, ?_, by rw [stp_M hW hm]; exact h6⟩
    rw [start, eX8_next_35_37, if_neg (fun q => (nn_a2 (a := m) (by omega)).mp q), if_pos (nI_pos' (by omega)), mr_fields hK' hW hm, mm_bd_ret, stp_M hW hm, List.length_append, seg_len]
    rw [Nat.sub_self, Nat.zero_add, nI_1] at h5
    exact h5
theorem mr_next_lv (hK : mr_K S k) (hW : kW k) {C : Nat} {col : Nat → Nat} {x : Nat → Int32} {n : Nat} (hC : C ≤ 3) (hx : ∀ i, i < n → S 35 i = x i) (hn : n ≤ 60) (hh : hnd k C col x n) :
    ∀ (z i : Nat) (f : Nat → Int32) (o5 o6 o7 : Option MV), n - i = z → i ≤ n → mstk f (stk k C col x i) → ∃ f', mm_E (mm_runD (d + 1)) pX8_next 1 22 [some (.inr 27), some (.inr 35), some (.inl (nI n)), some (.inl (nI (stk k C col x i).length)), some (.inl (nI i)), o5, o6, o7] [] (mm_stc S 36 f) 0 0 = some (mm_stc S 36 f', 0, 0, 0, hdv (stk k C col x n)) := by
  intro z
  induction z with
  | zero =>
    intro i f o5 o6 o7 hz hi hf
    have e : i = n := by omega
    subst e
    refine ⟨f, ?_⟩
    have hl := stk_len hW hC (col := col) (x := x) i
    rw [eX8_next_35_22, if_pos (nI_le (Nat.le_refl _) (by omega))]
    cases hs : stk k C col x i with
    | nil => rw [if_pos (show nI ([] : List Nat).length = 0 from rfl)] <;> rfl
    | cons t r =>
      rw [hs] at hl hf
      rw [List.length_cons] at hl ⊢
      rw [if_neg (nI_ne0 (by omega) (by omega)), nI_pred, ar_36 (by omega), mm_stc_at, hf.1] <;> rfl
  | succ z ih =>
    intro i f o5 o6 o7 hz hi hf
    have hl := stk_len hW hC (col := col) (x := x) i
    obtain ⟨t, r, h1, _⟩ := hh i (by omega)
    rw [h1] at hf hl
    rw [List.length_cons] at hl
    obtain ⟨f', p5, p6, p7, h3, h4⟩ := mr_next_sv (d := d) hK hW (x2 := nI n) (n := n) rfl hn (i := i) (by omega) (o5 := o5) (o6 := o6) (o7 := o7) (by omega) (hnd_sgn hh (by omega)) (hx i (by omega)) hf
    rw [← stk_s h1] at h3 h4
    obtain ⟨f2, h5⟩ := ih (i + 1) f' p5 p6 p7 (by omega) (by omega) h4
    refine ⟨f2, ?_⟩
    rw [h1, List.length_cons, h3, h5]
theorem mr_next_cv {C : Nat} {col : Nat → Nat} {x2 : Int32} {o5 o6 o7 : Option MV} (hC : C ≤ 3) (hc : ∀ c, c < C → S 31 c = nI (col c)) : ∀ (i : Nat) (f : Nat → Int32), i ≤ C → mstk f (seg col i (C - i)) →
    ∃ f', mm_E (mm_runD (d + 1)) pX8_next 1 7 [some (.inr 27), some (.inr 35), some (.inl x2), some (.inl (nI (C - i))), some (.inl (nI i - 1)), o5, o6, o7] [] (mm_stc S 36 f) 0 0 = mm_E (mm_runD (d + 1)) pX8_next 1 22 [some (.inr 27), some (.inr 35), some (.inl x2), some (.inl (nI C)), some (.inl (nI 0)), o5, o6, o7] [] (mm_stc S 36 f') 0 0 ∧ mstk f' (seg col 0 C) := by
  intro i
  induction i with
  | zero =>
    intro f hi h
    refine ⟨f, ?_, h⟩
    rw [eX8_next_35_7, if_pos (by decide)] <;> rfl
  | succ i ih =>
    intro f hi h
    have e : col i :: seg col (i + 1) (C - (i + 1)) = seg col i (C - i) := by
      rw [show C - i = (C - (i + 1)) + 1 by omega] <;> rfl
    have h1 := mstk_push (t := col i) (n := C - (i + 1)) (by rw [seg_len]) h
    rw [e] at h1
    obtain ⟨f', h5, h6⟩ := ih _ (by omega) h1
    refine ⟨f', ?_, h6⟩
    have hc' : (mm_stc S 36 f) 31 i = nI (col i) := hc i (by omega)
    rw [eX8_next_35_7, nI_pred, if_neg (nI_pos (by omega)), ar_31 (by omega), ar_36 (by omega), hc', mm_put_stc, nI_1, nn_sm, ← h5, show C - (i + 1) + 1 = C - i by omega]
theorem mr_nextv (hK : mr_K S k) (hW : kW k) {C : Nat} {col : Nat → Nat} {x : Nat → Int32} {n : Nat} (hC : C ≤ 3) (hC6 : S 27 6 = nI C) (hc : ∀ c, c < C → S 31 c = nI (col c)) (hx : ∀ i, i < n → S 35 i = x i) (hn : n ≤ 60) (hh : hnd k C col x n) :
    ∃ f, mm_runD (d + 2) 126 [.inr 27, .inr 35, .inl (nI n)] S = some (mm_stc S 36 f, 0, 0, 0, hdv (stk k C col x n)) := by
  obtain ⟨f1, h1, h2⟩ := mr_next_cv (d := d) (S := S) (x2 := nI n) (o5 := none) (o6 := none) (o7 := none) hC hc C (S 36) (Nat.le_refl _) (by rw [Nat.sub_self]; trivial)
  obtain ⟨f2, h3⟩ := mr_next_lv (d := d) (S := S) hK hW hC hx hn hh (n - 0) 0 f1 none none none rfl (by omega) h2
  refine ⟨f2, ?_⟩
  rw [mm_stc_self, Nat.sub_self] at h1
  rw [dX8_next_35, eX8_next_35_0, hC6, li_0, h1]
  have e : (stk k C col x 0).length = C := seg_len col C 0
  rw [e] at h3
  exact h3
end
end
section
/-! PURE: signs that make whole patterns: sq g l n p: the l signs from p on make just n patterns (g: how many parts the sign at a place has) -/
def sq (g : Nat → Nat) : Nat → Nat → Nat → Prop
  | 0, n, _ => n = 0
  | l + 1, n, p => ∃ n', n = n' + 1 ∧ sq g l (n' + g p) (p + 1)
theorem sq_0 {g : Nat → Nat} {l p : Nat} (h : sq g l 0 p) : l = 0 := by
  cases l with
  | zero => rfl
  | succ l => obtain ⟨n', h1, _⟩ := h; omega
theorem sq_add {g : Nat → Nat} : ∀ {l1 n1 p l2 n2 : Nat}, sq g l1 n1 p → sq g l2 n2 (p + l1) → sq g (l1 + l2) (n1 + n2) p := by
  intro l1
  induction l1 with
  | zero =>
    intro n1 p l2 n2 h1 h2
    have e : n1 = 0 := h1
    subst e
    rw [Nat.zero_add, Nat.zero_add]
    exact h2
  | succ l1 ih =>
    intro n1 p l2 n2 h1 h2
    obtain ⟨n', h3, h4⟩ := h1
    have := ih h4 (l2 := l2) (n2 := n2) (by rw [show p + 1 + l1 = p + (l1 + 1) by omega]; exact h2)
    rw [show l1 + 1 + l2 = (l1 + l2) + 1 by omega]
    exact ⟨n' + n2, by omega, by rw [show n' + n2 + g p = n' + g p + n2 by omega]; exact this⟩
theorem sq_split {g : Nat → Nat} : ∀ {l n1 n2 p : Nat}, sq g l (n1 + n2) p → ∃ l1 l2, l = l1 + l2 ∧ sq g l1 n1 p ∧ sq g l2 n2 (p + l1) := by
  intro l
  induction l with
  | zero =>
    intro n1 n2 p h
    have e : n1 + n2 = 0 := h
    exact ⟨0, 0, rfl, show n1 = 0 by omega, show n2 = 0 by omega⟩
  | succ l ih =>
    intro n1 n2 p h
    cases n1 with
    | zero => exact ⟨0, l + 1, by omega, rfl, by rw [Nat.zero_add] at h; exact h⟩
    | succ n1 =>
      obtain ⟨n', h1, h2⟩ := h
      have e : n' + g p = (n1 + g p) + n2 := by omega
      rw [e] at h2
      obtain ⟨l1, l2, h3, h4, h5⟩ := ih h2
      exact ⟨l1 + 1, l2, by omega, ⟨n1, rfl, h4⟩, by rw [show p + (l1 + 1) = p + 1 + l1 by omega]; exact h5⟩
theorem sq_det {g : Nat → Nat} : ∀ {l l' n p : Nat}, sq g l n p → sq g l' n p → l = l' := by
  intro l
  induction l with
  | zero =>
    intro l' n p h1 h2
    have e : n = 0 := h1
    subst e
    exact (sq_0 h2).symm
  | succ l ih =>
    intro l' n p h1 h2
    cases l' with
    | zero =>
      have e : n = 0 := h2
      subst e
      exact sq_0 h1
    | succ l' =>
      obtain ⟨a, h3, h4⟩ := h1
      obtain ⟨b, h5, h6⟩ := h2
      have e : a = b := by omega
      subst e
      rw [ih h4 h6]
theorem sq_ext {g h : Nat → Nat} : ∀ {l n p : Nat}, (∀ j, p ≤ j → j < p + l → g j = h j) → sq g l n p → sq h l n p := by
  intro l
  induction l with
  | zero => intro n p _ q; exact q
  | succ l ih =>
    intro n p hj q
    obtain ⟨n', h1, h2⟩ := q
    refine ⟨n', h1, ?_⟩
    rw [← hj p (Nat.le_refl _) (by omega)]
    exact ih (fun j a b => hj j (by omega) (by omega)) h2
theorem sq_shift {g h : Nat → Nat} {o : Nat} : ∀ {l n p : Nat}, (∀ j, p ≤ j → j < p + l → g j = h (o + j)) → sq g l n p → sq h l n (o + p) := by
  intro l
  induction l with
  | zero => intro n p _ q; exact q
  | succ l ih =>
    intro n p hj q
    obtain ⟨n', h1, h2⟩ := q
    refine ⟨n', h1, ?_⟩
    rw [← hj p (Nat.le_refl _) (by omega)]
    exact ih (p := p + 1) (fun j a b => hj j (by omega) (by omega)) h2
/-- at each place a whole pattern begins -/
theorem sq_at {g : Nat → Nat} : ∀ {l n p i : Nat}, sq g l n p → i < l → ∃ l', sq g l' 1 (p + i) ∧ i + l' ≤ l := by
  intro l
  induction l with
  | zero => intro n p i _ hi; omega
  | succ l ih =>
    intro n p i h hi
    obtain ⟨n', h1, h2⟩ := h
    cases i with
    | zero =>
      have h0 : sq g (l + 1) (1 + n') p := ⟨n', by omega, h2⟩
      obtain ⟨l1, l2, h3, h4, h5⟩ := sq_split h0
      exact ⟨l1, h4, by omega⟩
    | succ i =>
      obtain ⟨l', h3, h4⟩ := ih h2 (show i < l by omega)
      exact ⟨l', by rw [show p + (i + 1) = p + 1 + i by omega]; exact h3, by omega⟩
theorem sq_pos {g : Nat → Nat} {l n p : Nat} (h : sq g l (n + 1) p) : 0 < l := by
  cases l with
  | zero => exact absurd (show n + 1 = 0 from h) (by omega)
  | succ l => omega
theorem sq_le {g : Nat → Nat} : ∀ {l n p : Nat}, sq g l n p → n ≤ l := by
  intro l
  induction l with
  | zero => intro n p h; exact Nat.le_of_eq h
  | succ l ih =>
    intro n p h
    obtain ⟨n', h1, h2⟩ := h
    have := ih h2
    omega
/-- how many parts a sign has -/
noncomputable def kar (k : KK) (x : Int32) : Nat := if x = N2 then 2 else kfc k x
theorem stp_kar (k : KK) (t : Nat) (x : Int32) : (stp k t x).length = kar k x := by
  unfold stp kar
  split
  · rfl
  · rw [seg_len]
theorem kar_N1 {k : KK} (hW : kW k) : kar k N1 = 0 := by unfold kar; rw [if_neg (by decide), kfc_N1 hW]
theorem kar_N2 {k : KK} : kar k N2 = 2 := if_pos rfl
theorem kar_m {k : KK} (hW : kW k) {m : Nat} (hm : m < kM k) : kar k (nI m) = kFc k m := by
  have := hW.2.1
  unfold kar
  rw [if_neg (fun q => (nn_a2 (a := m) (by omega)).mp q), kfc_in hW hm]
theorem hnd_sq {k : KK} {C : Nat} {col : Nat → Nat} {x : Nat → Int32} {n : Nat} (h : hnd k C col x n) (h0 : stk k C col x n = []) : ∀ (z i : Nat), n - i = z → i ≤ n → sq (fun j => kar k (x j)) z (stk k C col x i).length i := by
  intro z
  induction z with
  | zero =>
    intro i hz hi
    have e : i = n := by omega
    subst e
    rw [h0]
    exact rfl
  | succ z ih =>
    intro i hz hi
    obtain ⟨t, r, h1, _⟩ := h i (by omega)
    have := ih (i + 1) (by omega) (by omega)
    rw [stk_s h1, List.length_append, stp_kar] at this
    rw [h1]
    exact ⟨r.length, rfl, by rw [Nat.add_comm]; exact this⟩
theorem hnd_whole {k : KK} {C : Nat} {col : Nat → Nat} {x : Nat → Int32} {n : Nat} (h : hnd k C col x n) (h0 : stk k C col x n = []) : sq (fun j => kar k (x j)) n C 0 := by
  have := hnd_sq h h0 (n - 0) 0 rfl (by omega)
  rw [show (stk k C col x 0).length = C from seg_len col C 0] at this
  exact this
/-- notes of the ends, from i up to n -/
def mends (g : Nat → Nat) (f : Nat → Int32) (i n : Nat) : Prop := ∀ j, i ≤ j → j < n → ∃ l, sq g l 1 j ∧ j + l ≤ n ∧ f j = nI (j + l)
section
variable {d : Nat} {S : Mem} {k : KK} {n : Nat}
theorem mq_signAtr (h4 : S 11 4 = nI n) (hn : n ≤ 40) {i : Nat} (hi : i < n) : mm_runD (d + 1) 12 [.inr 11, .inl (nI i)] S = some (S, 0, 0, 0, S 12 i) := by
  rw [dX1_signAt_11, eX1_signAt_11_0, if_neg (nI_pos (by omega)), h4, if_neg (nI_ge hi (by omega)), if_neg (show ¬ (40 : Int32) ≤ nI i from nI_ge (b := 40) (by omega) (by decide)), ar_12 (by omega)]
theorem mq_endAtr (h4 : S 11 4 = nI n) (hn : n ≤ 40) {i : Nat} (hi : i < n) : mm_runD (d + 1) 13 [.inr 11, .inl (nI i)] S = some (S, 0, 0, 0, S 13 i) := by
  rw [dX1_endAt_11, eX1_endAt_11_0, if_neg (nI_pos (by omega)), h4, if_neg (nI_ge hi (by omega)), if_neg (show ¬ (40 : Int32) ≤ nI i from nI_ge (b := 40) (by omega) (by decide)), ar_13 (by omega)]
theorem mq_ends_inr {g : Nat → Nat} {at0 : Nat} {o2 : Option MV} {P : Nat} (h4 : S 11 4 = nI n) (hn : n ≤ 40) (ha : at0 < n) (hP : P < 100) (hE : mends g (S 13) (at0 + 1) n) : ∀ (q e l : Nat), q ≤ P → sq g l q e → at0 < e → e + l ≤ n →
    ∃ o5 o4, mm_E (mm_runD (d + 2)) pX1_findEnds 0 31 [some (.inr 11), some (.inl (nI at0)), o2, some (.inl (nI P)), some (.inl (nI e)), some (.inl (nI (P - q)))] [] S 0 0 = mm_E (mm_runD (d + 2)) pX1_findEnds 0 9 [some (.inr 11), some (.inl (nI at0 - 1)), o2, some (.inl (nI P)), o4, o5] [] (mm_put S 13 at0 (nI (e + l))) 0 0 := by
  intro q
  induction q with
  | zero =>
    intro e l hq hs he hl
    have z := sq_0 hs
    subst z
    refine ⟨some (.inl (nI (P - 0))), some (.inl (nI e)), ?_⟩
    rw [eX1_findEnds_11_31, if_pos (nI_le (by omega) (by omega)), ar_13 (by omega), nn_sm] <;> rfl
  | succ q ih =>
    intro e l hq hs he hl
    have hs' : sq g l (1 + q) e := by rw [Nat.add_comm]; exact hs
    obtain ⟨l1, l2, h1, h2, h3⟩ := sq_split hs'
    have hp := sq_pos (n := 0) h2
    obtain ⟨l', h5, h6, h7⟩ := hE e (by omega) (by omega)
    have el := sq_det h2 h5
    subst el
    obtain ⟨o5, o4, h8⟩ := ih (e + l1) l2 (by omega) h3 (by omega) (by omega)
    refine ⟨o5, o4, ?_⟩
    rw [eX1_findEnds_11_31, if_neg (nI_ge (by omega) (by omega)), mq_endAtr h4 hn (by omega), mm_bd_ret, h7, nI_1, show P - (q + 1) + 1 = P - q by omega, h8, h1, Nat.add_assoc]
theorem mq_ends_lr (hW : kW k) {x : Nat → Int32} (hn : n ≤ 40) {C : Nat} (hs : sq (fun j => kar k (x j)) n C 0) (hx : ∀ i, i < n → sgn k (x i)) : ∀ (i : Nat) (S : Mem) (o2 o3 o4 o5 : Option MV), i ≤ n → mq_K S k → S 11 4 = nI n → (∀ i, i < n → S 12 i = x i) → mends (fun j => kar k (x j)) (S 13) i n →
    ∃ S', mm_E (mm_runD (d + 2)) pX1_findEnds 0 9 [some (.inr 11), some (.inl (nI i - 1)), o2, o3, o4, o5] [] S 0 0 = some (S', 0, 0, 0, 0) ∧ mfr [13] S S' ∧ mends (fun j => kar k (x j)) (S' 13) 0 n := by
  intro i
  have hM := hW.2.1
  induction i with
  | zero =>
    intro S o2 o3 o4 o5 hi hK h4 hS hE
    refine ⟨S, ?_, mfr_rf, hE⟩
    rw [eX1_findEnds_11_9, if_pos (by decide)]
  | succ i ih =>
    intro S o2 o3 o4 o5 hi hK h4 hS hE
    obtain ⟨l0, h1, h2⟩ := sq_at (i := i) hs (by omega)
    rw [Nat.zero_add] at h1
    have h1' := h1
    cases l0 with
    | zero => exact absurd (show 1 = 0 from h1) (by omega)
    | succ l0 =>
      obtain ⟨n', h5, h6⟩ := h1
      have e0 : n' = 0 := by omega
      subst e0
      have hP : (kar k (x i)) < 100 := by
        have := stp_len hW 0 (x i)
        rw [stp_kar] at this
        omega
      have key : ∀ o2, ∃ S', mm_E (mm_runD (d + 2)) pX1_findEnds 0 31 [some (.inr 11), some (.inl (nI i)), o2, some (.inl (nI (kar k (x i)))), some (.inl (nI i + 1)), some (.inl 0)] [] S 0 0 = some (S', 0, 0, 0, 0) ∧ mfr [13] S S' ∧ mends (fun j => kar k (x j)) (S' 13) 0 n := by
        intro o2
        obtain ⟨o5', o4', h7⟩ := mq_ends_inr (d := d) (S := S) (o2 := o2) h4 hn (at0 := i) (by omega) hP hE (kar k (x i)) (i + 1) l0 (Nat.le_refl _) (by rw [Nat.zero_add] at h6; exact h6) (by omega) (by omega)
        obtain ⟨S', h8, h9, h10⟩ := ih (mm_put S 13 i (nI (i + 1 + l0))) o2 (some (.inl (nI (kar k (x i))))) o4' o5' (by omega) (mq_K_fr hK (mfr_put (cs := [13]) (by simp)) rfl) (by rw [mp_pn _ _ _ (by decide)]; exact h4) (fun j hj => by rw [mp_pn _ _ _ (by decide)]; exact hS j hj) (by
          intro j a b
          rcases Nat.lt_or_ge i j with z | z
          · rw [mp_pk _ _ _ (by omega)]
            exact hE j (by omega) b
          · have : j = i := by omega
            subst this
            rw [mp_pp]
            exact ⟨l0 + 1, h1', by omega, by rw [show j + 1 + l0 = j + (l0 + 1) by omega]⟩)
        refine ⟨S', ?_, mfr_tr (mfr_put (by simp)) h9, h10⟩
        rw [Nat.sub_self] at h7
        rw [nI_0] at h7
        rw [nI_1, h7, h8]
      have e1 : mm_E (mm_runD (d + 2)) pX1_findEnds 0 9 [some (.inr 11), some (.inl (nI (i + 1) - 1)), o2, o3, o4, o5] [] S 0 0 = mm_E (mm_runD (d + 2)) pX1_findEnds 0 31 [some (.inr 11), some (.inl (nI i)), some (.inl (x i)), some (.inl (nI (kar k (x i)))), some (.inl (nI i + 1)), some (.inl 0)] [] S 0 0 := by
        rw [nI_pred, eX1_findEnds_11_9, if_neg (nI_pos (by omega)), mq_signAtr h4 hn (by omega), mm_bd_ret, hS i (by omega)]
        by_cases z : x i = -2
        · rw [if_pos z, show kar k (x i) = 2 from if_pos z] <;> rfl
        · rw [if_neg z, mq_fieldCount hK hW, mm_bd_ret, show kar k (x i) = kfc k (x i) from if_neg z]
      rw [e1]
      exact key _
theorem mq_findEndsr (hK : mq_K S k) (hW : kW k) {x : Nat → Int32} (hn : n ≤ 40) {C : Nat} (hs : sq (fun j => kar k (x j)) n C 0) (hx : ∀ i, i < n → sgn k (x i)) (h4 : S 11 4 = nI n) (hS : ∀ i, i < n → S 12 i = x i) :
    ∃ S', mm_runD (d + 3) 14 [.inr 11] S = some (S', 0, 0, 0, 0) ∧ mfr [13] S S' ∧ mends (fun j => kar k (x j)) (S' 13) 0 n := by
  obtain ⟨S', h1, h2, h3⟩ := mq_ends_lr (d := d) hW hn hs hx n S none none none none (Nat.le_refl _) hK h4 hS (fun j a b => absurd a (by omega))
  refine ⟨S', ?_, h2, h3⟩
  rw [dX1_findEnds_11, eX1_findEnds_11_0, h4, if_neg (show ¬ (40 : Int32) < nI n from nI_nlt (a := 40) (by omega) (by decide))]
  exact h1
end
section
variable {d : Nat} {S : Mem} {k : KK} {n : Nat}
theorem mq_signAtv (h4 : S 15 4 = nI n) (hn : n ≤ 60) {i : Nat} (hi : i < n) : mm_runD (d + 1) 12 [.inr 15, .inl (nI i)] S = some (S, 0, 0, 0, S 16 i) := by
  rw [dX1_signAt_15, eX1_signAt_15_0, if_neg (nI_pos (by omega)), h4, if_neg (nI_ge hi (by omega)), if_neg (show ¬ (60 : Int32) ≤ nI i from nI_ge (b := 60) (by omega) (by decide)), ar_16 (by omega)]
theorem mq_endAtv (h4 : S 15 4 = nI n) (hn : n ≤ 60) {i : Nat} (hi : i < n) : mm_runD (d + 1) 13 [.inr 15, .inl (nI i)] S = some (S, 0, 0, 0, S 17 i) := by
  rw [dX1_endAt_15, eX1_endAt_15_0, if_neg (nI_pos (by omega)), h4, if_neg (nI_ge hi (by omega)), if_neg (show ¬ (60 : Int32) ≤ nI i from nI_ge (b := 60) (by omega) (by decide)), ar_17 (by omega)]
theorem mq_ends_inv {g : Nat → Nat} {at0 : Nat} {o2 : Option MV} {P : Nat} (h4 : S 15 4 = nI n) (hn : n ≤ 60) (ha : at0 < n) (hP : P < 100) (hE : mends g (S 17) (at0 + 1) n) : ∀ (q e l : Nat), q ≤ P → sq g l q e → at0 < e → e + l ≤ n →
    ∃ o5 o4, mm_E (mm_runD (d + 2)) pX1_findEnds 0 31 [some (.inr 15), some (.inl (nI at0)), o2, some (.inl (nI P)), some (.inl (nI e)), some (.inl (nI (P - q)))] [] S 0 0 = mm_E (mm_runD (d + 2)) pX1_findEnds 0 9 [some (.inr 15), some (.inl (nI at0 - 1)), o2, some (.inl (nI P)), o4, o5] [] (mm_put S 17 at0 (nI (e + l))) 0 0 := by
  intro q
  induction q with
  | zero =>
    intro e l hq hs he hl
    have z := sq_0 hs
    subst z
    refine ⟨some (.inl (nI (P - 0))), some (.inl (nI e)), ?_⟩
    rw [eX1_findEnds_15_31, if_pos (nI_le (by omega) (by omega)), ar_17 (by omega), nn_sm] <;> rfl
  | succ q ih =>
    intro e l hq hs he hl
    have hs' : sq g l (1 + q) e := by rw [Nat.add_comm]; exact hs
    obtain ⟨l1, l2, h1, h2, h3⟩ := sq_split hs'
    have hp := sq_pos (n := 0) h2
    obtain ⟨l', h5, h6, h7⟩ := hE e (by omega) (by omega)
    have el := sq_det h2 h5
    subst el
    obtain ⟨o5, o4, h8⟩ := ih (e + l1) l2 (by omega) h3 (by omega) (by omega)
    refine ⟨o5, o4, ?_⟩
    rw [eX1_findEnds_15_31, if_neg (nI_ge (by omega) (by omega)), mq_endAtv h4 hn (by omega), mm_bd_ret, h7, nI_1, show P - (q + 1) + 1 = P - q by omega, h8, h1, Nat.add_assoc]
theorem mq_ends_lv (hW : kW k) {x : Nat → Int32} (hn : n ≤ 60) {C : Nat} (hs : sq (fun j => kar k (x j)) n C 0) (hx : ∀ i, i < n → sgn k (x i)) : ∀ (i : Nat) (S : Mem) (o2 o3 o4 o5 : Option MV), i ≤ n → mq_K S k → S 15 4 = nI n → (∀ i, i < n → S 16 i = x i) → mends (fun j => kar k (x j)) (S 17) i n →
    ∃ S', mm_E (mm_runD (d + 2)) pX1_findEnds 0 9 [some (.inr 15), some (.inl (nI i - 1)), o2, o3, o4, o5] [] S 0 0 = some (S', 0, 0, 0, 0) ∧ mfr [17] S S' ∧ mends (fun j => kar k (x j)) (S' 17) 0 n := by
  intro i
  have hM := hW.2.1
  induction i with
  | zero =>
    intro S o2 o3 o4 o5 hi hK h4 hS hE
    refine ⟨S, ?_, mfr_rf, hE⟩
    rw [eX1_findEnds_15_9, if_pos (by decide)]
  | succ i ih =>
    intro S o2 o3 o4 o5 hi hK h4 hS hE
    obtain ⟨l0, h1, h2⟩ := sq_at (i := i) hs (by omega)
    rw [Nat.zero_add] at h1
    have h1' := h1
    cases l0 with
    | zero => exact absurd (show 1 = 0 from h1) (by omega)
    | succ l0 =>
      obtain ⟨n', h5, h6⟩ := h1
      have e0 : n' = 0 := by omega
      subst e0
      have hP : (kar k (x i)) < 100 := by
        have := stp_len hW 0 (x i)
        rw [stp_kar] at this
        omega
      have key : ∀ o2, ∃ S', mm_E (mm_runD (d + 2)) pX1_findEnds 0 31 [some (.inr 15), some (.inl (nI i)), o2, some (.inl (nI (kar k (x i)))), some (.inl (nI i + 1)), some (.inl 0)] [] S 0 0 = some (S', 0, 0, 0, 0) ∧ mfr [17] S S' ∧ mends (fun j => kar k (x j)) (S' 17) 0 n := by
        intro o2
        obtain ⟨o5', o4', h7⟩ := mq_ends_inv (d := d) (S := S) (o2 := o2) h4 hn (at0 := i) (by omega) hP hE (kar k (x i)) (i + 1) l0 (Nat.le_refl _) (by rw [Nat.zero_add] at h6; exact h6) (by omega) (by omega)
        obtain ⟨S', h8, h9, h10⟩ := ih (mm_put S 17 i (nI (i + 1 + l0))) o2 (some (.inl (nI (kar k (x i))))) o4' o5' (by omega) (mq_K_fr hK (mfr_put (cs := [17]) (by simp)) rfl) (by rw [mp_pn _ _ _ (by decide)]; exact h4) (fun j hj => by rw [mp_pn _ _ _ (by decide)]; exact hS j hj) (by
          intro j a b
          rcases Nat.lt_or_ge i j with z | z
          · rw [mp_pk _ _ _ (by omega)]
            exact hE j (by omega) b
          · have : j = i := by omega
            subst this
            rw [mp_pp]
            exact ⟨l0 + 1, h1', by omega, by rw [show j + 1 + l0 = j + (l0 + 1) by omega]⟩)
        refine ⟨S', ?_, mfr_tr (mfr_put (by simp)) h9, h10⟩
        rw [Nat.sub_self] at h7
        rw [nI_0] at h7
        rw [nI_1, h7, h8]
      have e1 : mm_E (mm_runD (d + 2)) pX1_findEnds 0 9 [some (.inr 15), some (.inl (nI (i + 1) - 1)), o2, o3, o4, o5] [] S 0 0 = mm_E (mm_runD (d + 2)) pX1_findEnds 0 31 [some (.inr 15), some (.inl (nI i)), some (.inl (x i)), some (.inl (nI (kar k (x i)))), some (.inl (nI i + 1)), some (.inl 0)] [] S 0 0 := by
        rw [nI_pred, eX1_findEnds_15_9, if_neg (nI_pos (by omega)), mq_signAtv h4 hn (by omega), mm_bd_ret, hS i (by omega)]
        by_cases z : x i = -2
        · rw [if_pos z, show kar k (x i) = 2 from if_pos z] <;> rfl
        · rw [if_neg z, mq_fieldCount hK hW, mm_bd_ret, show kar k (x i) = kfc k (x i) from if_neg z]
      rw [e1]
      exact key _
theorem mq_findEndsv (hK : mq_K S k) (hW : kW k) {x : Nat → Int32} (hn : n ≤ 60) {C : Nat} (hs : sq (fun j => kar k (x j)) n C 0) (hx : ∀ i, i < n → sgn k (x i)) (h4 : S 15 4 = nI n) (hS : ∀ i, i < n → S 16 i = x i) :
    ∃ S', mm_runD (d + 3) 14 [.inr 15] S = some (S', 0, 0, 0, 0) ∧ mfr [17] S S' ∧ mends (fun j => kar k (x j)) (S' 17) 0 n := by
  obtain ⟨S', h1, h2, h3⟩ := mq_ends_lv (d := d) hW hn hs hx n S none none none none (Nat.le_refl _) hK h4 hS (fun j a b => absurd a (by omega))
  refine ⟨S', ?_, h2, h3⟩
  rw [dX1_findEnds_15, eX1_findEnds_15_0, h4, if_neg (show ¬ (60 : Int32) < nI n from nI_nlt (a := 60) (by omega) (by decide))]
  exact h1
end
end
section
/-! PURE: the reference's behind, over the rows' signs and over the values -/
section
variable {d : Nat} {S : Mem} {k : KK}
theorem mr_behindr_l (hK : mr_K S k) (hW : kW k) {o2 : Option MV} : ∀ (l n p : Nat) (o5 : Option MV), sq (fun j => kar k (S 32 j)) l n p → p + l ≤ 480 → (∀ j, p ≤ j → j < p + l → sgn k (S 32 j)) → mm_E (mm_runD (d + 1)) pX8_behind 1 4 [some (.inr 27), some (.inr 32), o2, some (.inl (nI p)), some (.inl (nI n)), o5] [] S 0 0 = some (S, 0, 0, 0, nI (p + l)) := by
  intro l
  have hM := hW.2.1
  induction l with
  | zero =>
    intro n p o5 hs hl hx
    have e : n = 0 := hs
    subst e
    rw [eX8_behind_32_4, if_pos (by decide)] <;> rfl
  | succ l ih =>
    intro n p o5 hs hl hx
    have hle := sq_le hs
    obtain ⟨n', h1, h2⟩ := hs
    subst h1
    have hrec : ∀ o5, mm_E (mm_runD (d + 1)) pX8_behind 1 4 [some (.inr 27), some (.inr 32), o2, some (.inl (nI (p + 1))), some (.inl (nI (n' + kar k (S 32 p)))), o5] [] S 0 0 = some (S, 0, 0, 0, nI (p + (l + 1))) := by
      intro o5
      rw [ih (n' + kar k (S 32 p)) (p + 1) o5 h2 (by omega) (fun j a b => hx j (by omega) (by omega)), show p + 1 + l = p + (l + 1) by omega]
    rw [eX8_behind_32_4, if_neg (nI_nle (by omega) (by omega)), ar_32 (by omega), nI_1]
    rcases hx p (Nat.le_refl _) (by omega) with h0 | h0 | ⟨m, hm, h0⟩
    · rw [h0] at hrec ⊢
      rw [if_neg (by decide), if_pos rfl, nn_sm, nI_pred]
      rw [kar_N1 hW] at hrec
      exact hrec _
    · rw [h0] at hrec ⊢
      rw [if_pos rfl, nI_1]
      rw [kar_N2] at hrec
      exact hrec _
    · rw [h0] at hrec ⊢
      rw [kar_m hW hm] at hrec
      rw [if_neg (fun q => (nn_a2 (a := m) (by omega)).mp q), if_neg (fun q => (nn_a1 (a := m) (by omega)).mp q), mr_fields hK hW hm, mm_bd_ret]
      have e : nI (n' + 1) + (nI (kFc k m) - 1) = nI (n' + kFc k m) := by
        rw [← nI_1, Int32.sub_eq_add_neg, Int32.add_comm (nI (kFc k m)), ← Int32.add_assoc, Int32.add_assoc (nI n'), show (1 : Int32) + -1 = 0 from rfl, Int32.add_zero, nI_add]
      rw [e]
      exact hrec _
theorem mr_behindr (hK : mr_K S k) (hW : kW k) {l p : Nat} (hs : sq (fun j => kar k (S 32 j)) l 1 p) (hl : p + l ≤ 480) (hx : ∀ j, p ≤ j → j < p + l → sgn k (S 32 j)) : mm_runD (d + 2) 132 [.inr 27, .inr 32, .inl (nI p)] S = some (S, 0, 0, 0, nI (p + l)) := by
  rw [dX8_behind_32, eX8_behind_32_0]
  exact mr_behindr_l hK hW l 1 p none hs hl hx
end
section
variable {d : Nat} {S : Mem} {k : KK}
theorem mr_behindv_l (hK : mr_K S k) (hW : kW k) {o2 : Option MV} : ∀ (l n p : Nat) (o5 : Option MV), sq (fun j => kar k (S 35 j)) l n p → p + l ≤ 60 → (∀ j, p ≤ j → j < p + l → sgn k (S 35 j)) → mm_E (mm_runD (d + 1)) pX8_behind 1 4 [some (.inr 27), some (.inr 35), o2, some (.inl (nI p)), some (.inl (nI n)), o5] [] S 0 0 = some (S, 0, 0, 0, nI (p + l)) := by
  intro l
  have hM := hW.2.1
  induction l with
  | zero =>
    intro n p o5 hs hl hx
    have e : n = 0 := hs
    subst e
    rw [eX8_behind_35_4, if_pos (by decide)] <;> rfl
  | succ l ih =>
    intro n p o5 hs hl hx
    have hle := sq_le hs
    obtain ⟨n', h1, h2⟩ := hs
    subst h1
    have hrec : ∀ o5, mm_E (mm_runD (d + 1)) pX8_behind 1 4 [some (.inr 27), some (.inr 35), o2, some (.inl (nI (p + 1))), some (.inl (nI (n' + kar k (S 35 p)))), o5] [] S 0 0 = some (S, 0, 0, 0, nI (p + (l + 1))) := by
      intro o5
      rw [ih (n' + kar k (S 35 p)) (p + 1) o5 h2 (by omega) (fun j a b => hx j (by omega) (by omega)), show p + 1 + l = p + (l + 1) by omega]
    rw [eX8_behind_35_4, if_neg (nI_nle (by omega) (by omega)), ar_35 (by omega), nI_1]
    rcases hx p (Nat.le_refl _) (by omega) with h0 | h0 | ⟨m, hm, h0⟩
    · rw [h0] at hrec ⊢
      rw [if_neg (by decide), if_pos rfl, nn_sm, nI_pred]
      rw [kar_N1 hW] at hrec
      exact hrec _
    · rw [h0] at hrec ⊢
      rw [if_pos rfl, nI_1]
      rw [kar_N2] at hrec
      exact hrec _
    · rw [h0] at hrec ⊢
      rw [kar_m hW hm] at hrec
      rw [if_neg (fun q => (nn_a2 (a := m) (by omega)).mp q), if_neg (fun q => (nn_a1 (a := m) (by omega)).mp q), mr_fields hK hW hm, mm_bd_ret]
      have e : nI (n' + 1) + (nI (kFc k m) - 1) = nI (n' + kFc k m) := by
        rw [← nI_1, Int32.sub_eq_add_neg, Int32.add_comm (nI (kFc k m)), ← Int32.add_assoc, Int32.add_assoc (nI n'), show (1 : Int32) + -1 = 0 from rfl, Int32.add_zero, nI_add]
      rw [e]
      exact hrec _
theorem mr_behindv (hK : mr_K S k) (hW : kW k) {l p : Nat} (hs : sq (fun j => kar k (S 35 j)) l 1 p) (hl : p + l ≤ 60) (hx : ∀ j, p ≤ j → j < p + l → sgn k (S 35 j)) : mm_runD (d + 2) 132 [.inr 27, .inr 35, .inl (nI p)] S = some (S, 0, 0, 0, nI (p + l)) := by
  rw [dX8_behind_35, eX8_behind_35_0]
  exact mr_behindv_l hK hW l 1 p none hs hl hx
end
end
section
/-! PURE: promises 2 to 5: type, maker, isEmpty, match -/
section
variable {d : Nat} {S : Mem} {k : KK}
theorem mq_hasRoom (hK : mq_K S k) (hW : kW k) (hC : mq_C S k) {t : Nat} (ht : t < kT k) : mm_runD (d + 2) 21 [.inr 1, .inl (nI t)] S = some (S, 0, 0, 0, mb (kCnt k t (kM k) < 8 ∧ kM k < 40)) := by
  have hT := hW.1
  have hM := hW.2.1
  obtain ⟨h1, h2⟩ := hC t (by omega)
  rw [dX2_hasRoomForMaker, eX2_hasRoomForMaker_0, mq_hasType hK hW, mm_bd_ret, mb_t (mi_in ht), if_neg (by decide), ar_2 (by omega), h1, hK.2.1]
  by_cases q : kCnt k t (kM k) < 8
  · rw [if_neg (show ¬ (8 : Int32) ≤ nI _ from nI_ge (b := 8) q (by decide))]
    by_cases z : kM k < 40
    · rw [if_neg (show ¬ (40 : Int32) ≤ nI _ from nI_ge (b := 40) z (by decide)), mb_t ⟨q, z⟩] <;> rfl
    · rw [if_pos (show (40 : Int32) ≤ nI _ from nI_le (a := 40) (by omega) (by omega)), mb_f (fun w => z w.2)] <;> rfl
  · rw [if_pos (show (8 : Int32) ≤ nI _ from nI_le (a := 8) (by omega) (by omega)), mb_f (fun w => q w.1)] <;> rfl
theorem mq_addMaker (hK : mq_K S k) (hW : kW k) (hV : kV (S 3) k) (hC : mq_C S k) {t f : Nat} {g : Nat → Nat} {x y z : Int32} (ht : t < kT k) (hr : kCnt k t (kM k) < 8) (hM4 : kM k < 40) (hf : f ≤ 3) (hg : ∀ j, j < f → g j < kT k) (hx : 0 < f → x = nI (g 0)) (hy : 1 < f → y = nI (g 1)) (hz : 2 < f → z = nI (g 2)) :
    ∃ S', mm_runD (d + 6) 28 [.inr 1, .inl (nI t), .inl (nI f), .inl x, .inl y, .inl z] S = some (S', 0, 0, 0, nI (kM k)) ∧ mfr [1, 2, 3, 4, 5, 6] S S' ∧ mq_K S' (kAdd k t f g) ∧ kV (S' 3) (kAdd k t f g) ∧ mq_C S' (kAdd k t f g) := by
  have hT := hW.1
  have hW' := kAdd_W (k := k) hW hM4 ht hf hg
  have eS : ∃ S1, S1 = mm_put (mm_put (mm_put (mm_put (mm_put (mm_put (mm_put S 1 1 (nI (kM k + 1))) 2 t (nI (kCnt k t (kM k) + 1))) 4 (kM k) (nI t)) 5 (kM k) (nI f)) 6 (kM k * 3) x) 6 (kM k * 3 + 1) y) 6 (kM k * 3 + 2) z := ⟨_, rfl⟩
  obtain ⟨S1, eS⟩ := eS
  have hK1 : mq_K S1 (kAdd k t f g) := by
    subst eS
    refine ⟨?_, ?_, fun m hm => ?_⟩
    · exact hK.1
    · exact rfl
    · rw [kAdd_M] at hm
      rcases Nat.lt_or_ge m (kM k) with q | q
      · obtain ⟨h1, h2, h3⟩ := kAdd_old (t := t) (f := f) (g := g) q
        obtain ⟨h4, h5, h6⟩ := hK.2.2 m q
        rw [h1, h2, h3]
        refine ⟨?_, ?_, fun j hj => ?_⟩
        · simp (disch := omega) only [mp_pn, mp_pk]; exact h4
        · simp (disch := omega) only [mp_pn, mp_pk]; exact h5
        · have := (hW.2.2 m q).2.1
          simp (disch := omega) only [mp_pn, mp_pk]; exact h6 j hj
      · have e : m = kM k := by omega
        subst e
        obtain ⟨h1, h2, h3⟩ := kAdd_new (k := k) (t := t) (f := f) (g := g)
        rw [h1, h2, h3]
        refine ⟨?_, ?_, fun j hj => ?_⟩
        · simp (disch := omega) only [mp_pn, mp_pp]
        · simp (disch := omega) only [mp_pn, mp_pp]
        · rcases (show j = 0 ∨ j = 1 ∨ j = 2 by omega) with rfl | rfl | rfl
          · rw [show 3 * kM k + 0 = kM k * 3 by omega]; simp (disch := omega) only [mp_pk, mp_pp]; exact hx hj
          · rw [show 3 * kM k + 1 = kM k * 3 + 1 by omega]; simp (disch := omega) only [mp_pk, mp_pp]; exact hy hj
          · rw [show 3 * kM k + 2 = kM k * 3 + 2 by omega]; simp (disch := omega) only [mp_pp]; exact hz hj
  have hC1 : mq_C S1 (kAdd k t f g) := by
    subst eS
    intro u hu
    obtain ⟨h1, h2⟩ := hC u hu
    rw [kAdd_M, kCnt_add]
    by_cases e : t = u
    · subst e
      rw [if_pos rfl]
      refine ⟨?_, by omega⟩
      simp (disch := omega) only [mp_pn, mp_pp]
    · rw [if_neg e]
      refine ⟨?_, by omega⟩
      simp (disch := omega) only [mp_pn, mp_pk]
      exact h1
  have hF1 : mfr [1, 2, 3, 4, 5, 6] S S1 := by
    subst eS
    exact mfr_tr (mfr_tr (mfr_tr (mfr_tr (mfr_tr (mfr_tr (mfr_put (by simp)) (mfr_put (by simp))) (mfr_put (by simp))) (mfr_put (by simp))) (mfr_put (by simp))) (mfr_put (by simp))) (mfr_put (by simp))
  have h3 : S1 3 = S 3 := by subst eS; rfl
  obtain ⟨f', h5, h6⟩ := mq_findValued (d := d) hK1 hW' (by rw [h3]; exact fun u => ⟨(hV u).1, fun q => kAdd_Val ((hV u).2.mp q)⟩)
  refine ⟨mm_stc S1 3 f', ?_, mfr_tr hF1 (mfr_stc (by simp)), hK1, by rw [mm_stc_at]; exact h6, hC1⟩
  obtain ⟨h1, h2⟩ := hC t (by omega)
  rw [dX2_addMaker, eX2_addMaker_0, mq_hasRoom hK hW hC ht, mm_bd_ret, mb_t ⟨hr, hM4⟩, if_neg (by decide), hK.2.1, nI_1, ar_2 (by omega), ar_2 (by omega), mp_pn _ _ _ (by decide), h1, nI_1, ar_4 (by omega), ar_5 (by omega), li_3, nn_mul, ar_6 (by omega), nI_1, ar_6 (by omega), li_2, nI_add, ar_6 (by omega), ← eS, h5, mm_bd_ret]
end
end
section
/-! PURE: three types in a row -/
def at3 (T : Nat) (a b c : Int32) : Prop := a = N1 ∨ mi a T ∧ (b = N1 ∨ mi b T ∧ (c = N1 ∨ mi c T))
def ct3 (a b c : Int32) : Nat := if a = N1 then 0 else if b = N1 then 1 else if c = N1 then 2 else 3
def tg3 (a b c : Int32) : Nat → Nat := fun j => if j = 0 then a.toNatClampNeg else if j = 1 then b.toNatClampNeg else c.toNatClampNeg
theorem ct3_le (a b c : Int32) : ct3 a b c ≤ 3 := by
  unfold ct3
  repeat' split
  all_goals omega
theorem at3_g {T : Nat} {a b c : Int32} (hT : T ≤ 8) (h : at3 T a b c) : (∀ j, j < ct3 a b c → tg3 a b c j < T) ∧ (0 < ct3 a b c → a = nI (tg3 a b c 0)) ∧ (1 < ct3 a b c → b = nI (tg3 a b c 1)) ∧ (2 < ct3 a b c → c = nI (tg3 a b c 2)) := by
  have e0 : tg3 a b c 0 = a.toNatClampNeg := rfl
  have e1 : tg3 a b c 1 = b.toNatClampNeg := rfl
  have e2 : tg3 a b c 2 = c.toNatClampNeg := rfl
  have key : ∀ x : Int32, mi x T → x.toNatClampNeg < T ∧ x = nI x.toNatClampNeg := by
    rintro x ⟨j, hj, rfl⟩
    rw [nI_clamp (by omega)]
    exact ⟨hj, rfl⟩
  have n1 : ∀ x : Int32, mi x T → ¬ x = N1 := fun x hx e => mi_N1 (n := T) (by omega) (e ▸ hx)
  have three : ∀ j, j < 3 → (∀ P : Nat → Prop, P 0 → P 1 → P 2 → P j) := by
    intro j hj P p0 p1 p2
    rcases (show j = 0 ∨ j = 1 ∨ j = 2 by omega) with rfl | rfl | rfl
    · exact p0
    · exact p1
    · exact p2
  rcases h with h | ⟨ha, h⟩
  · have e : ct3 a b c = 0 := if_pos h
    rw [e]
    exact ⟨fun j hj => by omega, fun q => by omega, fun q => by omega, fun q => by omega⟩
  · have na := n1 a ha
    have ka := key a ha
    rcases h with h | ⟨hb, h⟩
    · have e : ct3 a b c = 1 := by unfold ct3; rw [if_neg na, if_pos h]
      rw [e]
      refine ⟨fun j hj => ?_, fun _ => by rw [e0]; exact ka.2, fun q => by omega, fun q => by omega⟩
      have : j = 0 := by omega
      subst this
      exact ka.1
    · have nb := n1 b hb
      have kb := key b hb
      rcases h with h | hc
      · have e : ct3 a b c = 2 := by unfold ct3; rw [if_neg na, if_neg nb, if_pos h]
        rw [e]
        refine ⟨fun j hj => ?_, fun _ => by rw [e0]; exact ka.2, fun q => by rw [e1]; exact kb.2, fun q => by omega⟩
        rcases (show j = 0 ∨ j = 1 by omega) with rfl | rfl
        · exact ka.1
        · exact kb.1
      · have kc := key c hc
        have e : ct3 a b c = 3 := by unfold ct3; rw [if_neg na, if_neg nb, if_neg (n1 c hc)]
        rw [e]
        refine ⟨fun j hj => ?_, fun _ => by rw [e0]; exact ka.2, fun q => by rw [e1]; exact kb.2, fun q => by rw [e2]; exact kc.2⟩
        exact three j hj (fun j => tg3 a b c j < T) ka.1 kb.1 kc.1
section
variable {d : Nat} {S : Mem} {k : KK}
theorem mq_countTypes (hK : mq_K S k) (hW : kW k) (a b c : Int32) : mm_runD (d + 2) 105 [.inr 0, .inl a, .inl b, .inl c] S = some (S, 0, 0, 0, @ite Int32 (at3 (kT k) a b c) (Classical.propDecidable _) (nI (ct3 a b c)) N1) := by
  have hT := hW.1
  have n1 : ∀ x : Int32, x = N1 → ¬ mi x (kT k) := fun x hx e => mi_N1 (n := kT k) (by omega) (hx ▸ e)
  rw [dX7_countTypes, eX7_countTypes_0]
  by_cases ha : a = N1
  · rw [if_pos ha, if_pos (show at3 (kT k) a b c from Or.inl ha), show ct3 a b c = 0 from if_pos ha] <;> rfl
  · rw [if_neg (show ¬ a = -1 from ha), mq_hasType hK hW, mm_bd_ret]
    by_cases ma : mi a (kT k)
    · rw [mb_t ma, if_neg (by decide)]
      by_cases hb : b = N1
      · rw [if_pos hb, if_pos (show at3 (kT k) a b c from Or.inr ⟨ma, Or.inl hb⟩), show ct3 a b c = 1 by unfold ct3; rw [if_neg ha, if_pos hb]] <;> rfl
      · rw [if_neg (show ¬ b = -1 from hb), mq_hasType hK hW, mm_bd_ret]
        by_cases mb' : mi b (kT k)
        · rw [mb_t mb', if_neg (by decide)]
          by_cases hc : c = N1
          · rw [if_pos hc, if_pos (show at3 (kT k) a b c from Or.inr ⟨ma, Or.inr ⟨mb', Or.inl hc⟩⟩), show ct3 a b c = 2 by unfold ct3; rw [if_neg ha, if_neg hb, if_pos hc]] <;> rfl
          · rw [if_neg (show ¬ c = -1 from hc), mq_hasType hK hW, mm_bd_ret]
            by_cases mc : mi c (kT k)
            · rw [mb_t mc, if_neg (by decide), if_pos (show at3 (kT k) a b c from Or.inr ⟨ma, Or.inr ⟨mb', Or.inr mc⟩⟩), show ct3 a b c = 3 by unfold ct3; rw [if_neg ha, if_neg hb, if_neg hc]] <;> rfl
            · rw [mb_f mc, if_pos rfl, if_neg (show ¬ at3 (kT k) a b c from fun q => by
                rcases q with q | ⟨_, q | ⟨_, q | q⟩⟩
                · exact ha q
                · exact hb q
                · exact hc q
                · exact mc q)]
        · rw [mb_f mb', if_pos rfl, if_neg (show ¬ at3 (kT k) a b c from fun q => by
            rcases q with q | ⟨_, q | ⟨q, _⟩⟩
            · exact ha q
            · exact hb q
            · exact mb' q)]
    · rw [mb_f ma, if_pos rfl, if_neg (show ¬ at3 (kT k) a b c from fun q => by
        rcases q with q | ⟨q, _⟩
        · exact ha q
        · exact ma q)]
theorem mr_areTypes (hK : mr_K S k) (hW : kW k) (a b c : Int32) : mm_runD (d + 2) 119 [.inr 27, .inl a, .inl b, .inl c] S = some (S, 0, 0, 0, mb (at3 (kT k) a b c)) := by
  have hT := hW.1
  rw [dX8_areTypes, eX8_areTypes_0]
  by_cases ha : a = N1
  · rw [if_pos ha, mb_t (show at3 (kT k) a b c from Or.inl ha)] <;> rfl
  · rw [if_neg (show ¬ a = -1 from ha), mr_isType hK hW, mm_bd_ret]
    by_cases ma : mi a (kT k)
    · rw [mb_t ma, if_neg (by decide)]
      by_cases hb : b = N1
      · rw [if_pos hb, mb_t (show at3 (kT k) a b c from Or.inr ⟨ma, Or.inl hb⟩)] <;> rfl
      · rw [if_neg (show ¬ b = -1 from hb), mr_isType hK hW, mm_bd_ret]
        by_cases mb' : mi b (kT k)
        · rw [mb_t mb', if_neg (by decide)]
          by_cases hc : c = N1
          · rw [if_pos hc, mb_t (show at3 (kT k) a b c from Or.inr ⟨ma, Or.inr ⟨mb', Or.inl hc⟩⟩)] <;> rfl
          · rw [if_neg (show ¬ c = -1 from hc), mr_isType hK hW, mm_bd_ret]
            by_cases mc : mi c (kT k)
            · rw [mb_t mc, if_neg (by decide), mb_t (show at3 (kT k) a b c from Or.inr ⟨ma, Or.inr ⟨mb', Or.inr mc⟩⟩)] <;> rfl
            · rw [mb_f mc, if_pos rfl, mb_f (show ¬ at3 (kT k) a b c from fun q => by
                rcases q with q | ⟨_, q | ⟨_, q | q⟩⟩
                · exact ha q
                · exact hb q
                · exact hc q
                · exact mc q)]
        · rw [mb_f mb', if_pos rfl, mb_f (show ¬ at3 (kT k) a b c from fun q => by
            rcases q with q | ⟨_, q | ⟨q, _⟩⟩
            · exact ha q
            · exact hb q
            · exact mb' q)]
    · rw [mb_f ma, if_pos rfl, mb_f (show ¬ at3 (kT k) a b c from fun q => by
        rcases q with q | ⟨q, _⟩
        · exact ha q
        · exact ma q)]
theorem mq_fell : mm_runD (d + 1) 68 [.inr 19] S = some (mm_put (mm_put (mm_put S 19 1 0) 19 2 0) 19 3 0, 0, 0, 0, 0) := by
  rw [dX6_fell, eX6_fell_0]
/-- the class's match begins anew -/
theorem mq_beginMatch {C : Nat} {col : Nat → Nat} {a b c : Int32} (hC : C ≤ 3) (ha : 0 < C → a = nI (col 0)) (hb : 1 < C → b = nI (col 1)) (hc : 2 < C → c = nI (col 2)) :
    ∃ S', mm_runD (d + 3) 106 [.inr 0, .inl (nI C), .inl a, .inl b, .inl c] S = some (S', 0, 0, 0, 0) ∧ mfr [0, 7, 8, 11, 14, 15, 18, 19] S S' ∧ S' 0 2 = nI C ∧ (∀ c, c < C → S' 7 c = nI (col c)) ∧ S' 8 2 = nI 0 ∧ S' 19 3 = nI 0 ∧ mq_Hr S' 0 (seg col 0 C) ∧ mq_Hv S' 0 (seg col 0 C) := by
  obtain ⟨S1, eS⟩ : ∃ S1, S1 = mm_put (mm_put (mm_put (mm_put (mm_put (mm_put (mm_put (mm_put S 0 2 (nI C)) 7 0 a) 7 1 b) 7 2 c) 8 2 0) 19 1 0) 19 2 0) 19 3 0 := ⟨_, rfl⟩
  have hF1 : mfr [0, 7, 8, 11, 14, 15, 18, 19] S S1 := by
    subst eS
    exact mfr_tr (mfr_tr (mfr_tr (mfr_tr (mfr_tr (mfr_tr (mfr_tr (mfr_put (by simp)) (mfr_put (by simp))) (mfr_put (by simp))) (mfr_put (by simp))) (mfr_put (by simp))) (mfr_put (by simp))) (mfr_put (by simp))) (mfr_put (by simp))
  have h0 : S1 0 2 = nI C := by subst eS; rfl
  have h7 : ∀ c, c < C → S1 7 c = nI (col c) := by
    intro j hj
    rcases (show j = 0 ∨ j = 1 ∨ j = 2 by omega) with rfl | rfl | rfl
    · rw [← ha (by omega)]; subst eS; rfl
    · rw [← hb (by omega)]; subst eS; rfl
    · rw [← hc (by omega)]; subst eS; rfl
  have h8 : S1 8 2 = nI 0 := by subst eS; rfl
  have h19 : S1 19 3 = nI 0 := by subst eS; rfl
  obtain ⟨S2, a1, a2, a3⟩ := mq_beginr (d := d) (S := S1) hC h7
  have h7' : ∀ c, c < C → S2 7 c = nI (col c) := by rw [a2 7 (by decide)]; exact h7
  obtain ⟨S3, b1, b2, b3⟩ := mq_beginv (d := d) (S := S2) hC h7'
  refine ⟨S3, ?_, mfr_tr hF1 (mfr_tr (mfr_up a2 (by simp)) (mfr_up b2 (by simp))), ?_, ?_, ?_, ?_, ?_, b3⟩
  · rw [dX7_beginMatch, eX7_beginMatch_0, li_0, ar_7 (by omega), li_1, ar_7 (by omega), li_2, ar_7 (by omega), dX3_clear, eX3_clear_0, mm_bd_ret, mq_fell, mm_bd_ret]
    rw [← eS, h0, a1, mm_bd_ret, show S2 0 2 = nI C by rw [a2 0 (by decide)]; exact h0, b1, mm_bd_ret]
  · rw [b2 0 (by decide), a2 0 (by decide)]; exact h0
  · rw [b2 7 (by decide)]; exact h7'
  · rw [b2 8 (by decide), a2 8 (by decide)]; exact h8
  · rw [b2 19 (by decide), a2 19 (by decide)]; exact h19
  · unfold mq_Hr
    rw [b2 11 (by decide), b2 14 (by decide)]
    exact a3
end
end
section
/-! PURE: a row is laid by -/
section
variable {d : Nat} {S : Mem} {k : KK}
theorem mq_rSign {p : Nat} (hp : p < 480) : mm_runD (d + 1) 34 [.inr 8, .inl (nI p)] S = some (S, 0, 0, 0, S 9 p) := by
  rw [dX3_signAt, eX3_signAt_0, if_neg (nI_pos (by omega)), if_neg (show ¬ (480 : Int32) ≤ nI p from nI_ge (b := 480) hp (by decide)), ar_9 hp]
theorem mq_rEnd {p : Nat} (hp : p < 480) : mm_runD (d + 1) 35 [.inr 8, .inl (nI p)] S = some (S, 0, 0, 0, S 10 p) := by
  rw [dX3_endAt, eX3_endAt_0, if_neg (nI_pos (by omega)), if_neg (show ¬ (480 : Int32) ≤ nI p from nI_ge (b := 480) hp (by decide)), ar_10 hp]
theorem mq_startOf {r : Nat} : mm_runD (d + 1) 33 [.inr 8, .inl (nI r)] S = some (S, 0, 0, 0, nI (40 * r)) := by
  rw [dX3_startOf, eX3_startOf_0, li_40, nn_mul, Nat.mul_comm]
theorem mq_add_loop {n R : Nat} {x e : Nat → Int32} (hn : n ≤ 40) (hR : R < 12) : ∀ (z i : Nat) (S : Mem), n - i = z → i ≤ n → S 11 4 = nI n → (∀ j, j < n → S 12 j = x j) → (∀ j, j < n → S 13 j = e j) → S 8 2 = nI R →
    ∃ S', mm_E (mm_runD (d + 1)) pX3_add 1 18 [some (.inr 8), some (.inr 11), some (.inl (nI R)), some (.inl (nI (40 * R))), some (.inl (nI i))] [] S 0 0 = some (S', 0, 0, 0, nI R) ∧ mfr [8, 9, 10] S S' ∧ S' 8 2 = nI (R + 1) ∧ (∀ j, j < 40 * R + i → S' 9 j = S 9 j ∧ S' 10 j = S 10 j) ∧ ∀ j, i ≤ j → j < n → S' 9 (40 * R + j) = x j ∧ S' 10 (40 * R + j) = nI (40 * R) + e j := by
  intro z
  induction z with
  | zero =>
    intro i S hz hi h4 hx he h8
    have ei : i = n := by omega
    subst ei
    refine ⟨mm_put S 8 2 (nI (R + 1)), ?_, mfr_put (by simp), mp_pp _ _ _ _, fun j hj => ⟨rfl, rfl⟩, fun j a b => absurd a (by omega)⟩
    rw [eX3_add_18, dX1_count_11, eX1_count_11_0, mm_bd_ret, h4, if_pos (nI_le (Nat.le_refl _) (by omega)), h8, nI_1]
  | succ z ih =>
    intro i S hz hi h4 hx he h8
    obtain ⟨S', h1, h2, h3, h5, h6⟩ := ih (i + 1) (mm_put (mm_put S 9 (40 * R + i) (x i)) 10 (40 * R + i) (nI (40 * R) + e i)) (by omega) (by omega) h4 hx he h8
    refine ⟨S', ?_, mfr_tr (mfr_tr (mfr_put (by simp)) (mfr_put (by simp))) h2, h3, fun j hj => ?_, fun j a b => ?_⟩
    · have h4' : (mm_put S 9 (40 * R + i) (x i)) 11 4 = nI n := h4
      have he' : (mm_put S 9 (40 * R + i) (x i)) 13 i = e i := he i (by omega)
      rw [eX3_add_18, dX1_count_11, eX1_count_11_0, mm_bd_ret, h4, if_neg (nI_ge (by omega) (by omega)), if_neg (show ¬ (40 : Int32) ≤ nI i from nI_ge (b := 40) (by omega) (by decide)), mq_signAtr h4 hn (by omega), mm_bd_ret, hx i (by omega), nI_add, ar_9 (by omega), mq_endAtr h4' hn (by omega), mm_bd_ret, he', ar_10 (by omega), nI_1]
      exact h1
    · obtain ⟨a, b⟩ := h5 j (by omega)
      rw [a, b]
      simp (disch := omega) only [mp_pn, mp_pk]
      exact ⟨trivial, trivial⟩
    · rcases Nat.lt_or_ge i j with q | q
      · exact h6 j q b
      · have : j = i := by omega
        subst this
        obtain ⟨a, b⟩ := h5 (40 * R + j) (by omega)
        rw [a, b]
        simp (disch := omega) only [mp_pn, mp_pp]
        exact ⟨trivial, trivial⟩
theorem mq_add (hK : mq_K S k) (hW : kW k) {n R C : Nat} {x : Nat → Int32} (hn : n ≤ 40) (hR : R < 12) (hs : sq (fun j => kar k (x j)) n C 0) (hx : ∀ i, i < n → sgn k (x i)) (h4 : S 11 4 = nI n) (hS : ∀ i, i < n → S 12 i = x i) (h8 : S 8 2 = nI R) :
    ∃ S', mm_runD (d + 4) 32 [.inr 8, .inr 11] S = some (S', 0, 0, 0, nI R) ∧ mfr [8, 9, 10, 13] S S' ∧ S' 8 2 = nI (R + 1) ∧ (∀ j, j < 40 * R → S' 9 j = S 9 j ∧ S' 10 j = S 10 j) ∧ (∀ j, j < n → S' 9 (40 * R + j) = x j) ∧ mends (fun j => kar k (S' 9 j)) (S' 10) (40 * R) (40 * R + n) := by
  obtain ⟨S1, a1, a2, a3⟩ := mq_findEndsr (d := d) hK hW hn hs hx h4 hS
  have g4 : S1 11 4 = nI n := by rw [a2 11 (by decide)]; exact h4
  have gS : ∀ i, i < n → S1 12 i = x i := by rw [a2 12 (by decide)]; exact hS
  have g8 : S1 8 2 = nI R := by rw [a2 8 (by decide)]; exact h8
  obtain ⟨S2, b1, b2, b3, b4, b5⟩ := mq_add_loop (d := d + 2) (e := S1 13) hn hR (n - 0) 0 S1 rfl (by omega) g4 gS (fun _ _ => rfl) g8
  have hx' : ∀ j, j < n → S2 9 (40 * R + j) = x j := fun j hj => (b5 j (by omega) hj).1
  refine ⟨S2, ?_, mfr_tr (mfr_up a2 (by simp)) (mfr_up b2 (by simp)), b3, fun j hj => ?_, hx', ?_⟩
  · rw [dX3_add, eX3_add_0, h8, if_neg (nI_pos (by omega)), if_pos (show nI R < 12 from nI_lt (b := 12) hR (by decide)), a1, mm_bd_ret, mq_startOf, mm_bd_ret]
    exact b1
  · obtain ⟨p, q⟩ := b4 j (by omega)
    rw [p, q, a2 9 (by decide), a2 10 (by decide)]
    exact ⟨rfl, rfl⟩
  · intro j a b
    obtain ⟨i, rfl⟩ : ∃ i, j = 40 * R + i := ⟨j - 40 * R, by omega⟩
    obtain ⟨l, h1, h2, h3⟩ := a3 i (by omega) (by omega)
    refine ⟨l, sq_shift (o := 40 * R) (p := i) (g := fun j => kar k (x j)) (fun q u v => ?_) h1, by omega, ?_⟩
    · show kar k (x q) = kar k (S2 9 (40 * R + q))
      rw [hx' q (by omega)]
    · rw [(b5 i (by omega) (by omega)).2, h3, nI_add, Nat.add_assoc]
/-- the reference lays the row by -/
theorem mr_row_loop {n R : Nat} {x : Nat → Int32} (hn : n ≤ 40) (hR : R < 12) : ∀ (z i : Nat) (f : Nat → Int32) (S : Mem), n - i = z → i ≤ n → S 27 7 = nI R → (∀ j, j < n → S 34 j = x j) →
    ∃ f', mm_E (mm_runD d) pX8_row 1 42 [some (.inr 27), some (.inl (nI n)), some (.inl (nI i))] [] (mm_stc S 32 f) 0 0 = some (mm_put (mm_put (mm_put (mm_stc S 32 f') 33 R (nI n)) 27 7 (nI (R + 1))) 27 24 N1, 0, 0, 0, nI R) ∧ (∀ j, j < 40 * R + i → f' j = f j) ∧ ∀ j, i ≤ j → j < n → f' (40 * R + j) = x j := by
  intro z
  induction z with
  | zero =>
    intro i f S hz hi h7 hx
    have ei : i = n := by omega
    subst ei
    refine ⟨f, ?_, fun _ _ => rfl, fun j a b => absurd a (by omega)⟩
    have h7' : (mm_stc S 32 f) 27 7 = nI R := h7
    have h7'' : (mm_put (mm_stc S 32 f) 33 R (nI i)) 27 7 = nI R := h7
    rw [eX8_row_42, if_pos (nI_le (Nat.le_refl _) (by omega)), h7', ar_33 hR, h7'', nI_1, mp_pk _ _ _ (by decide), mp_pp, nI_pred] <;> rfl
  | succ z ih =>
    intro i f S hz hi h7 hx
    obtain ⟨f', h1, h2, h3⟩ := ih (i + 1) (upd f (40 * R + i) (x i)) S (by omega) (by omega) h7 hx
    refine ⟨f', ?_, fun j hj => by rw [h2 j (by omega)]; exact pk_un (by omega), fun j a b => ?_⟩
    · have h7' : (mm_stc S 32 f) 27 7 = nI R := h7
      have hx' : (mm_stc S 32 f) 34 i = x i := hx i (by omega)
      rw [eX8_row_42, if_neg (nI_ge (by omega) (by omega)), ar_34 (by omega), h7', li_40, nn_mul, nI_add, ar_32 (by omega), hx', mm_put_stc, nI_1]
      exact h1
    · rcases Nat.lt_or_ge i j with q | q
      · exact h3 j q b
      · have : j = i := by omega
        subst this
        rw [h2 _ (by omega)]
        exact pk_us
end
end
section
/-! PURE: a pattern takes a value: the least relation with the document's three clauses -/
/-- G: the rows' signs; X: the values' makers -/
def tkS (k : KK) (G X : Nat → Int32) (P : Nat → Nat → Prop) : Nat → Nat → Nat → Prop
  | 0, _, _ => True
  | n + 1, p, v => P p v ∧ ∃ l l', sq (fun j => kar k (G j)) l 1 p ∧ sq (fun j => kar k (X j)) l' 1 v ∧ tkS k G X P n (p + l) (v + l')
def tkF (k : KK) (G X : Nat → Int32) (P : Nat → Nat → Prop) (p v : Nat) : Prop :=
  G p = N1 ∨ (G p = N2 ∧ (P (p + 1) v ∨ ∃ l, sq (fun j => kar k (G j)) l 1 (p + 1) ∧ P (p + 1 + l) v)) ∨ ∃ m, m < kM k ∧ G p = nI m ∧ X v = nI m ∧ tkS k G X P (kFc k m) (p + 1) (v + 1)
def TK (k : KK) (G X : Nat → Int32) (p v : Nat) : Prop := ∀ P : Nat → Nat → Prop, (∀ p v, tkF k G X P p v → P p v) → P p v
theorem tkS_mono {k : KK} {G X : Nat → Int32} {P Q : Nat → Nat → Prop} (h : ∀ p v, P p v → Q p v) : ∀ n p v, tkS k G X P n p v → tkS k G X Q n p v := by
  intro n
  induction n with
  | zero => intro p v _; trivial
  | succ n ih =>
    rintro p v ⟨h1, l, l', h2, h3, h4⟩
    exact ⟨h p v h1, l, l', h2, h3, ih _ _ h4⟩
theorem tkF_mono {k : KK} {G X : Nat → Int32} {P Q : Nat → Nat → Prop} (h : ∀ p v, P p v → Q p v) {p v : Nat} (q : tkF k G X P p v) : tkF k G X Q p v := by
  rcases q with q | ⟨q, r⟩ | ⟨m, h1, h2, h3, h4⟩
  · exact Or.inl q
  · refine Or.inr (Or.inl ⟨q, ?_⟩)
    rcases r with r | ⟨l, r1, r2⟩
    · exact Or.inl (h _ _ r)
    · exact Or.inr ⟨l, r1, h _ _ r2⟩
  · exact Or.inr (Or.inr ⟨m, h1, h2, h3, tkS_mono h _ _ _ h4⟩)
theorem TK_in {k : KK} {G X : Nat → Int32} {p v : Nat} (h : tkF k G X (TK k G X) p v) : TK k G X p v := fun P hP => hP p v (tkF_mono (fun p v q => q P hP) h)
theorem TK_eq {k : KK} {G X : Nat → Int32} {p v : Nat} : TK k G X p v ↔ tkF k G X (TK k G X) p v := ⟨fun h => h (tkF k G X (TK k G X)) (fun p v q => tkF_mono (fun _ _ w => TK_in w) q), TK_in⟩
theorem TK_any {k : KK} {G X : Nat → Int32} {p v : Nat} (h : G p = N1) : TK k G X p v := TK_in (Or.inl h)
theorem TK_either {k : KK} {G X : Nat → Int32} {p v l : Nat} (h : G p = N2) (hl : sq (fun j => kar k (G j)) l 1 (p + 1)) (hM : kM k ≤ 40) : TK k G X p v ↔ (TK k G X (p + 1) v ∨ TK k G X (p + 1 + l) v) := by
  rw [TK_eq]
  constructor
  · rintro (q | ⟨_, q | ⟨l', h1, h2⟩⟩ | ⟨m, h1, h2, _⟩)
    · rw [h] at q; exact absurd q (by decide)
    · exact Or.inl q
    · rw [sq_det h1 hl] at h2; exact Or.inr h2
    · rw [h] at h2; exact absurd h2 (fun q => (nn_a4 (a := m) (by omega)).mp q)
  · rintro (q | q)
    · exact Or.inr (Or.inl ⟨h, Or.inl q⟩)
    · exact Or.inr (Or.inl ⟨h, Or.inr ⟨l, hl, q⟩⟩)
theorem TK_mk {k : KK} {G X : Nat → Int32} {p v m : Nat} (hm : m < kM k) (hM : kM k ≤ 40) (h : G p = nI m) : TK k G X p v ↔ (X v = nI m ∧ tkS k G X (TK k G X) (kFc k m) (p + 1) (v + 1)) := by
  rw [TK_eq]
  constructor
  · rintro (q | ⟨q, _⟩ | ⟨m', h1, h2, h3, h4⟩)
    · rw [h] at q; exact absurd q (fun q => (nn_a1 (a := m) (by omega)).mp q)
    · rw [h] at q; exact absurd q (fun q => (nn_a2 (a := m) (by omega)).mp q)
    · rw [h] at h2
      have e := (nI_eq (by omega) (by omega)).mp h2
      subst e
      exact ⟨h3, h4⟩
  · rintro ⟨h1, h2⟩
    exact Or.inr (Or.inr ⟨m, hm, h, h1, h2⟩)
theorem tkS_s {k : KK} {G X : Nat → Int32} {P : Nat → Nat → Prop} {n p v l l' : Nat} (h1 : sq (fun j => kar k (G j)) l 1 p) (h2 : sq (fun j => kar k (X j)) l' 1 v) : tkS k G X P (n + 1) p v ↔ (P p v ∧ tkS k G X P n (p + l) (v + l')) := by
  constructor
  · rintro ⟨a, b, c, e, f, g⟩
    rw [sq_det e h1, sq_det f h2] at g
    exact ⟨a, g⟩
  · rintro ⟨a, b⟩
    exact ⟨a, l, l', h1, h2, b⟩
theorem sq_one {g : Nat → Nat} {l p : Nat} (h : sq g l 1 p) : ∃ l', l = l' + 1 ∧ sq g l' (g p) (p + 1) := by
  cases l with
  | zero => exact absurd (show 1 = 0 from h) (by omega)
  | succ l =>
    obtain ⟨n', h1, h2⟩ := h
    have e : n' = 0 := by omega
    subst e
    rw [Nat.zero_add] at h2
    exact ⟨l, rfl, h2⟩
section
variable {d : Nat} {S : Mem} {k : KK}
/-- the class's takes; E0: where the row ends; nv: how many makers the values have -/
theorem mq_takes (hK : mq_K S k) (hW : kW k) {E0 nv : Nat} {s0 : Nat} (h15 : S 15 4 = nI nv) (hnv : nv ≤ 60) (hE0 : E0 ≤ 480)
    {G X : Nat → Int32} (hG : ∀ p, s0 ≤ p → p < E0 → S 9 p = G p) (hX : ∀ v, v < nv → S 16 v = X v) (hg : ∀ p, s0 ≤ p → p < E0 → sgn k (G p)) (he : mends (fun j => kar k (G j)) (S 10) s0 E0) (hv : mends (fun j => kar k (X j)) (S 17) 0 nv) :
    ∀ (l p v l' dp e : Nat), sq (fun j => kar k (G j)) l 1 p → s0 ≤ p → p + l ≤ E0 → sq (fun j => kar k (X j)) l' 1 v → v + l' ≤ nv → dp + l ≤ 40 → l + 3 ≤ e → mm_runD e 110 [.inr 0, .inl (nI p), .inl (nI v), .inl (nI dp)] S = some (S, 0, 0, 0, mb (TK k G X p v)) := by
  intro l
  have hM := hW.2.1
  induction l using Nat.strongRecOn with
  | ind l ih =>
    intro p v l' dp e hp hs hE hv1 hvl hd he3
    obtain ⟨l1, el, hp1⟩ := sq_one hp
    obtain ⟨l1', el', hv2⟩ := sq_one hv1
    obtain ⟨e, rfl⟩ : ∃ e', e = e' + 1 := ⟨e - 1, by omega⟩
    have r1 : ∀ q, q < 480 → mm_runD e 34 [.inr 8, .inl (nI q)] S = some (S, 0, 0, 0, S 9 q) := fun q hq => by
      obtain ⟨e', rfl⟩ : ∃ e', e = e' + 1 := ⟨e - 1, by omega⟩
      exact mq_rSign hq
    have r2 : ∀ q, q < 480 → mm_runD e 35 [.inr 8, .inl (nI q)] S = some (S, 0, 0, 0, S 10 q) := fun q hq => by
      obtain ⟨e', rfl⟩ : ∃ e', e = e' + 1 := ⟨e - 1, by omega⟩
      exact mq_rEnd hq
    have r3 : ∀ q, q < nv → mm_runD e 12 [.inr 15, .inl (nI q)] S = some (S, 0, 0, 0, S 16 q) := fun q hq => by
      obtain ⟨e', rfl⟩ : ∃ e', e = e' + 1 := ⟨e - 1, by omega⟩
      exact mq_signAtv h15 hnv hq
    have r4 : ∀ q, q < nv → mm_runD e 13 [.inr 15, .inl (nI q)] S = some (S, 0, 0, 0, S 17 q) := fun q hq => by
      obtain ⟨e', rfl⟩ : ∃ e', e = e' + 1 := ⟨e - 1, by omega⟩
      exact mq_endAtv h15 hnv hq
    have r5 : ∀ x, mm_runD e 24 [.inr 1, .inl x] S = some (S, 0, 0, 0, nI (kfc k x)) := fun x => by
      obtain ⟨e', rfl⟩ : ∃ e', e = e' + 2 := ⟨e - 2, by omega⟩
      exact mq_fieldCount hK hW x
    have endp : ∀ q lq, s0 ≤ q → q < E0 → sq (fun j => kar k (G j)) lq 1 q → S 10 q = nI (q + lq) := by
      intro q lq a b c
      obtain ⟨l9, h1, h2, h3⟩ := he q a b
      rw [sq_det c h1]; exact h3
    have endv : ∀ q lq, q < nv → sq (fun j => kar k (X j)) lq 1 q → S 17 q = nI (q + lq) := by
      intro q lq b c
      obtain ⟨l9, h1, h2, h3⟩ := hv q (by omega) b
      rw [sq_det c h1]; exact h3
    rw [dX7_takes, eX7_takes_0, r1 p (by omega), mm_bd_ret, hG p hs (by omega)]
    rcases hg p hs (by omega) with h0 | h0 | ⟨m, hm, h0⟩
    · rw [if_pos h0, mb_t (TK_any h0)] <;> rfl
    · rw [h0, if_neg (by decide), if_pos (show nI dp < 40 from nI_lt (b := 40) (by omega) (by decide)), if_pos rfl]
      have hk : kar k (G p) = 2 := by rw [h0]; exact kar_N2
      rw [hk] at hp1
      obtain ⟨la, lb, e1, e2, e3⟩ := sq_split (n1 := 1) (n2 := 1) hp1
      have pa := sq_pos (n := 0) e2
      have pb := sq_pos (n := 0) e3
      have A := ih la (by omega) (p + 1) v l' (dp + 1) e e2 (by omega) (by omega) hv1 hvl (by omega) (by omega)
      have B := ih lb (by omega) (p + 1 + la) v l' (dp + 1) e e3 (by omega) (by omega) hv1 hvl (by omega) (by omega)
      rw [nI_1, nI_1, A, mm_bd_ret]
      by_cases qa : TK k G X (p + 1) v
      · rw [mb_t qa, if_neg (by decide), mb_t ((TK_either h0 e2 hM).mpr (Or.inl qa))] <;> rfl
      · rw [mb_f qa, if_pos rfl, r2 (p + 1) (by omega), mm_bd_ret, endp (p + 1) la (by omega) (by omega) e2, B, mm_bd_ret]
        by_cases qb : TK k G X (p + 1 + la) v
        · rw [mb_t qb, if_neg (by decide), mb_t ((TK_either h0 e2 hM).mpr (Or.inr qb))] <;> rfl
        · rw [mb_f qb, if_pos rfl, mb_f (fun z => ((TK_either h0 e2 hM).mp z).elim qa qb)] <;> rfl
    · rw [h0, if_neg (fun q => (nn_a1 (a := m) (by omega)).mp q), if_pos (show nI dp < 40 from nI_lt (b := 40) (by omega) (by decide)), if_neg (fun q => (nn_a2 (a := m) (by omega)).mp q), r3 v (by omega), mm_bd_ret, hX v (by omega)]
      by_cases qx : nI m = X v
      · have hkp : kar k (G p) = kFc k m := by rw [h0]; exact kar_m hW hm
        have hkv : kar k (X v) = kFc k m := by rw [← qx]; exact kar_m hW hm
        rw [hkp] at hp1
        rw [hkv] at hv2
        have h3 := (hW.2.2 m hm).2.1
        have loop : ∀ (n i p' v' lp lv : Nat), kFc k m - i = n → i ≤ kFc k m → sq (fun j => kar k (G j)) lp n p' → sq (fun j => kar k (X j)) lv n v' → p < p' → p' + lp ≤ p + l → p' + lp ≤ E0 → v' + lv ≤ nv → dp + 1 + lp ≤ 40 → lp + 1 ≤ l → ∀ o1 o2 o4 : Option MV,
            mm_E (mm_runD e) pX7_takes 2 64 [some (.inr 0), o1, o2, some (.inl (nI dp)), o4, some (.inl (nI p')), some (.inl (nI v')), some (.inl (nI (kFc k m))), some (.inl (nI i))] [] S 0 0 = some (S, 0, 0, 0, mb (tkS k G X (TK k G X) n p' v')) := by
          intro n
          induction n with
          | zero =>
            intro i p' v' lp lv hn hi hlp hlv b1 b2 b3 b4 b5 b6 o1 o2 o4
            rw [eX7_takes_64, if_pos (nI_le (by omega) (by omega)), mb_t (show tkS k G X (TK k G X) 0 p' v' from trivial)] <;> rfl
          | succ n ihn =>
            intro i p' v' lp lv hn hi hlp hlv b1 b2 b3 b4 b5 b6 o1 o2 o4
            rw [Nat.add_comm] at hlp hlv
            obtain ⟨la, lb, e1, e2, e3⟩ := sq_split hlp
            obtain ⟨ma, mb', f1, f2, f3⟩ := sq_split hlv
            have pa := sq_pos (n := 0) e2
            have pm := sq_pos (n := 0) f2
            have A := ih la (by omega) p' v' ma (dp + 1) e e2 (by omega) (by omega) f2 (by omega) (by omega) (by omega)
            have B := ihn (i + 1) (p' + la) (v' + ma) lb mb' (by omega) (by omega) e3 f3 (by omega) (by omega) (by omega) (by omega) (by omega) (by omega) o1 o2 o4
            rw [eX7_takes_64, if_neg (nI_ge (by omega) (by omega)), nI_1, A, mm_bd_ret]
            by_cases qa : TK k G X p' v'
            · rw [mb_t qa, if_neg (by decide), r2 p' (by omega), mm_bd_ret, r4 v' (by omega), mm_bd_ret, endp p' la (by omega) (by omega) e2, endv v' ma (by omega) f2, nI_1]
              rw [mb_iff (tkS_s e2 f2), mb_iff (and_iff_right qa)]
              exact B
            · rw [mb_f qa, if_pos rfl, mb_f (fun z => qa ((tkS_s e2 f2).mp z).1)] <;> rfl
        have L := loop (kFc k m) 0 (p + 1) (v + 1) l1 l1' rfl (by omega) hp1 hv2 (by omega) (by omega) (by omega) (by omega) (by omega) (by omega) (some (.inl (nI p))) (some (.inl (nI v))) (some (.inl (nI m)))
        rw [if_pos qx, r5, mm_bd_ret, kfc_in hW hm, nI_1, nI_1, mb_iff (TK_mk hm hM h0), mb_iff (and_iff_right qx.symm)]
        exact L
      · rw [if_neg qx, mb_f (fun z => qx ((TK_mk hm hM h0).mp z).1.symm)] <;> rfl
end
end
section
/-! PURE: the reference's table of what takes what -/
section
variable {d : Nat} {S : Mem} {k : KK}
theorem mr_fieldsTake (hK : mr_K S k) (hW : kW k) {E0 nv s0 p0 v0 m : Nat} (hnv : nv ≤ 60) (hE0 : E0 ≤ 480) (hs0 : s0 ≤ p0) (hv0 : v0 < nv)
    (hg : ∀ p, s0 ≤ p → p < E0 → sgn k (S 32 p)) (hx : ∀ v, v < nv → sgn k (S 35 v)) (hm : m < kM k) (hX : S 35 v0 = nI m) {l1 l2 : Nat} (hp : sq (fun j => kar k (S 32 j)) l1 (kFc k m) (p0 + 1)) (hp' : p0 + 1 + l1 ≤ E0) (hv : sq (fun j => kar k (S 35 j)) l2 (kFc k m) (v0 + 1)) (hv' : v0 + 1 + l2 ≤ nv)
    (ht : ∀ p v, p0 < p → p < E0 → v < nv → S 37 (60 * p + v) = mb (TK k (S 32) (S 35) p v)) : mm_runD (d + 3) 134 [.inr 27, .inl (nI p0), .inl (nI v0)] S = some (S, 0, 0, 0, mb (tkS k (S 32) (S 35) (TK k (S 32) (S 35)) (kFc k m) (p0 + 1) (v0 + 1))) := by
  have hM := hW.2.1
  have h3 := (hW.2.2 m hm).2.1
  have loop : ∀ (n i p v lp lv : Nat) (A : Prop), kFc k m - i = n → i ≤ kFc k m → sq (fun j => kar k (S 32 j)) lp n p → sq (fun j => kar k (S 35 j)) lv n v → p0 < p → p + lp ≤ E0 → v + lv ≤ nv → ∀ o1 : Option MV,
      mm_E (mm_runD (d + 2)) pX8_fieldsTake 2 12 [some (.inr 27), o1, some (.inl (nI v0)), some (.inl (nI p)), some (.inl (nI v)), some (.inl (mb A)), some (.inl (nI i))] [] S 0 0 = some (S, 0, 0, 0, mb (A ∧ tkS k (S 32) (S 35) (TK k (S 32) (S 35)) n p v)) := by
    intro n
    induction n with
    | zero =>
      intro i p v lp lv A hn hi h1 h2 b1 b2 b3 o1
      rw [eX8_fieldsTake_12, ar_35 (by omega), hX, mr_fields hK hW hm, mm_bd_ret, if_pos (nI_le (by omega) (by omega)), if_pos (mb_01 _), mb_iff (show (A ∧ tkS k (S 32) (S 35) (TK k (S 32) (S 35)) 0 p v) ↔ A from ⟨fun q => q.1, fun q => ⟨q, trivial⟩⟩)]
    | succ n ih =>
      intro i p v lp lv A hn hi h1 h2 b1 b2 b3 o1
      rw [Nat.add_comm] at h1 h2
      obtain ⟨la, lb, e1, e2, e3⟩ := sq_split h1
      obtain ⟨ma, mb', f1, f2, f3⟩ := sq_split h2
      have pa := sq_pos (n := 0) e2
      have pm := sq_pos (n := 0) f2
      have B1 := mr_behindr (d := d) hK hW e2 (by omega) (fun j a b => hg j (by omega) (by omega))
      have B2 := mr_behindv (d := d) hK hW f2 (by omega) (fun j a b => hx j (by omega))
      have I := fun A => ih (i + 1) (p + la) (v + ma) lb mb' A (by omega) (by omega) e3 f3 (by omega) (by omega) (by omega) o1
      rw [eX8_fieldsTake_12, ar_35 (by omega), hX, mr_fields hK hW hm, mm_bd_ret, if_neg (nI_ge (by omega) (by omega))]
      simp only [B1, mm_bd_ret, B2]
      rw [nI_1, li_60, nn_mul, nI_add, ar_37 (by omega), ht p v b1 (by omega) (by omega), mb_iff (and_congr_right_iff.mpr (fun _ => tkS_s e2 f2))]
      by_cases qA : A
      · rw [mb_t qA, if_neg (by decide)]
        by_cases qt : TK k (S 32) (S 35) p v
        · rw [mb_t qt, if_neg (by decide)]
          have := I True
          rw [mb_t trivial] at this
          rw [mb_iff (show (A ∧ TK k (S 32) (S 35) p v ∧ tkS k (S 32) (S 35) (TK k (S 32) (S 35)) n (p + la) (v + ma)) ↔ (True ∧ tkS k (S 32) (S 35) (TK k (S 32) (S 35)) n (p + la) (v + ma)) from ⟨fun q => ⟨trivial, q.2.2⟩, fun q => ⟨qA, qt, q.2⟩⟩)]
          exact this
        · rw [mb_f qt, if_pos rfl]
          have := I False
          rw [mb_f (fun q => q)] at this
          rw [mb_iff (show (A ∧ TK k (S 32) (S 35) p v ∧ tkS k (S 32) (S 35) (TK k (S 32) (S 35)) n (p + la) (v + ma)) ↔ (False ∧ tkS k (S 32) (S 35) (TK k (S 32) (S 35)) n (p + la) (v + ma)) from ⟨fun q => absurd q.2.1 qt, fun q => q.1.elim⟩)]
          exact this
      · rw [mb_f qA, if_pos rfl]
        have := I False
        rw [mb_f (fun q => q)] at this
        rw [mb_iff (show (A ∧ TK k (S 32) (S 35) p v ∧ tkS k (S 32) (S 35) (TK k (S 32) (S 35)) n (p + la) (v + ma)) ↔ (False ∧ tkS k (S 32) (S 35) (TK k (S 32) (S 35)) n (p + la) (v + ma)) from ⟨fun q => absurd q.1 qA, fun q => q.1.elim⟩)]
        exact this
  have L := loop (kFc k m) 0 (p0 + 1) (v0 + 1) l1 l2 True rfl (by omega) hp hv (by omega) (by omega) (by omega) (some (.inl (nI p0)))
  rw [mb_t trivial, true_and] at L
  rw [dX8_fieldsTake, eX8_fieldsTake_0, nI_1, nI_1]
  exact L
/-- one place of the row against all values -/
theorem mr_rt_in (hK : mr_K S k) (hW : kW k) {E0 nv s0 p r : Nat} (h9 : S 27 9 = nI nv) (hnv : nv ≤ 60) (hE0 : E0 ≤ 480) (hs0 : s0 ≤ p) (hp : p < E0)
    (hg : ∀ p, s0 ≤ p → p < E0 → sgn k (S 32 p)) (hx : ∀ v, v < nv → ∃ m, m < kM k ∧ S 35 v = nI m) {lp : Nat} (hq : sq (fun j => kar k (S 32 j)) lp 1 p) (hqE : p + lp ≤ E0) (hv : ∀ v, v < nv → ∃ l, sq (fun j => kar k (S 35 j)) l 1 v ∧ v + l ≤ nv) {o5 : Option MV} :
    ∀ (n v : Nat) (f : Nat → Int32), nv - v = n → v ≤ nv → (∀ q w, (p < q ∧ q < E0 ∧ w < nv) ∨ (q = p ∧ w < v) → f (60 * q + w) = mb (TK k (S 32) (S 35) q w)) →
      ∃ f' x3 x4, mm_E (mm_runD (d + 3)) pX8_rowTakes 2 23 [some (.inr 27), some (.inl (nI r)), some (.inl (nI p)), some (.inl (S 32 p)), some (.inl (nI v)), o5] [] (mm_stc S 37 f) 0 0 = mm_E (mm_runD (d + 3)) pX8_rowTakes 2 11 [some (.inr 27), some (.inl (nI r)), some (.inl (nI p - 1)), x3, x4, o5] [] (mm_stc S 37 f') 0 0 ∧ ∀ q w, p ≤ q → q < E0 → w < nv → f' (60 * q + w) = mb (TK k (S 32) (S 35) q w) := by
  intro n
  have hM := hW.2.1
  induction n with
  | zero =>
    intro v f hn hv0 hf
    have e : v = nv := by omega
    subst e
    have h9' : (mm_stc S 37 f) 27 9 = nI v := h9
    refine ⟨f, some (.inl (S 32 p)), some (.inl (nI v)), ?_, fun q w a b c => ?_⟩
    · rw [eX8_rowTakes_23, h9', if_pos (nI_le (Nat.le_refl _) (by omega)), nn_sm]
    · rcases Nat.lt_or_ge p q with z | z
      · exact hf q w (Or.inl ⟨z, b, c⟩)
      · exact hf q w (Or.inr ⟨by omega, c⟩)
  | succ n ih =>
    intro v f hn hv0 hf
    have hlt : v < nv := by omega
    have h9' : (mm_stc S 37 f) 27 9 = nI nv := h9
    have hK' : mr_K (mm_stc S 37 f) k := hK
    obtain ⟨lv, hv1, hv2⟩ := hv v hlt
    have fin : ∃ f' x3 x4, mm_E (mm_runD (d + 3)) pX8_rowTakes 2 23 [some (.inr 27), some (.inl (nI r)), some (.inl (nI p)), some (.inl (S 32 p)), some (.inl (nI (v + 1))), o5] [] (mm_stc S 37 (upd f (60 * p + v) (mb (TK k (S 32) (S 35) p v)))) 0 0 = mm_E (mm_runD (d + 3)) pX8_rowTakes 2 11 [some (.inr 27), some (.inl (nI r)), some (.inl (nI p - 1)), x3, x4, o5] [] (mm_stc S 37 f') 0 0 ∧ ∀ q w, p ≤ q → q < E0 → w < nv → f' (60 * q + w) = mb (TK k (S 32) (S 35) q w) := by
      refine ih (v + 1) _ (by omega) (by omega) (fun q w h => ?_)
      by_cases e : q = p ∧ w = v
      · obtain ⟨rfl, rfl⟩ := e
        exact pk_us
      · rw [show upd f (60 * p + v) (mb (TK k (S 32) (S 35) p v)) (60 * q + w) = f (60 * q + w) from pk_un (by omega)]
        exact hf q w (by omega)
    obtain ⟨f', x3, x4, g1, g2⟩ := fin
    refine ⟨f', x3, x4, ?_, g2⟩
    rw [← g1, eX8_rowTakes_23, h9', if_neg (nI_ge hlt (by omega)), nI_1]
    clear g1 g2 ih
    obtain ⟨l1, el, hq1⟩ := sq_one hq
    have c1 : ∀ b : Prop, (b ↔ TK k (S 32) (S 35) p v) → mm_put (mm_stc S 37 f) 37 (60 * p + v) (mb b) = mm_stc S 37 (upd f (60 * p + v) (mb (TK k (S 32) (S 35) p v))) := fun b hb => by rw [mm_put_stc, mb_iff hb]
    have c1t : TK k (S 32) (S 35) p v → mm_put (mm_stc S 37 f) 37 (60 * p + v) (vp_nar .boolean 1) = mm_stc S 37 (upd f (60 * p + v) (mb (TK k (S 32) (S 35) p v))) := fun hb => by rw [mm_put_stc, mb_t hb] <;> rfl
    have c1f : ¬ TK k (S 32) (S 35) p v → mm_put (mm_stc S 37 f) 37 (60 * p + v) (vp_nar .boolean 0) = mm_stc S 37 (upd f (60 * p + v) (mb (TK k (S 32) (S 35) p v))) := fun hb => by rw [mm_put_stc, mb_f hb] <;> rfl
    rcases hg p hs0 hp with h0 | h0 | ⟨m, hm, h0⟩
    · rw [if_pos (show S 32 p = -1 from h0), li_60, nn_mul, nI_add, ar_37 (by omega), c1t (TK_any h0)]
    · have hk : kar k (S 32 p) = 2 := by rw [h0]; exact kar_N2
      rw [hk] at hq1
      obtain ⟨la, lb, e1, e2, e3⟩ := sq_split (n1 := 1) (n2 := 1) hq1
      have pa := sq_pos (n := 0) e2
      have pb := sq_pos (n := 0) e3
      have B1 := mr_behindr (d := d + 1) (S := mm_stc S 37 f) hK' hW e2 (by omega) (fun j a b => hg j (by omega) (by omega))
      have t1 : (mm_stc S 37 f) 37 (60 * (p + 1) + v) = mb (TK k (S 32) (S 35) (p + 1) v) := hf (p + 1) v (Or.inl ⟨by omega, by omega, hlt⟩)
      have t2 : (mm_stc S 37 f) 37 (60 * (p + 1 + la) + v) = mb (TK k (S 32) (S 35) (p + 1 + la) v) := hf (p + 1 + la) v (Or.inl ⟨by omega, by omega, hlt⟩)
      rw [if_neg (show ¬ S 32 p = -1 by rw [h0]; decide), if_pos (show S 32 p = -2 from h0), li_60, nI_1, nn_mul, nI_add, ar_37 (by omega), t1, B1, mm_bd_ret, nn_mul, nI_add, ar_37 (by omega), t2, nn_mul, nI_add, ar_37 (by omega), ar_37 (by omega)]
      by_cases qa : TK k (S 32) (S 35) (p + 1) v
      · rw [mb_t qa, if_neg (by decide), c1t ((TK_either h0 e2 hM).mpr (Or.inl qa))]
      · rw [mb_f qa, if_pos rfl]
        by_cases qb : TK k (S 32) (S 35) (p + 1 + la) v
        · rw [mb_t qb, if_neg (by decide), c1t ((TK_either h0 e2 hM).mpr (Or.inr qb))]
        · rw [mb_f qb, if_pos rfl, c1f (fun z => ((TK_either h0 e2 hM).mp z).elim qa qb)]
    · obtain ⟨m', hm', hxm⟩ := hx v hlt
      have hxm' : (mm_stc S 37 f) 35 v = nI m' := hxm
      rw [if_neg (show ¬ S 32 p = -1 by rw [h0]; exact fun q => (nn_a1 (a := m) (by omega)).mp q), if_neg (show ¬ S 32 p = -2 by rw [h0]; exact fun q => (nn_a2 (a := m) (by omega)).mp q), ar_35 (by omega), hxm', h0]
      by_cases e : m = m'
      · subst e
        have hkp : kar k (S 32 p) = kFc k m := by rw [h0]; exact kar_m hW hm
        have hkv : kar k (S 35 v) = kFc k m := by rw [hxm]; exact kar_m hW hm
        obtain ⟨l1', el', hv3⟩ := sq_one hv1
        rw [hkp] at hq1
        rw [hkv] at hv3
        have FT := mr_fieldsTake (d := d) (S := mm_stc S 37 f) hK' hW hnv hE0 hs0 hlt hg (fun w hw => by obtain ⟨m', a, b⟩ := hx w hw; exact Or.inr (Or.inr ⟨m', a, b⟩)) hm hxm hq1 (by omega) hv3 (by omega) (fun q w a b c => hf q w (Or.inl ⟨a, b, c⟩))
        have hTK : TK k (S 32) (S 35) p v ↔ tkS k (S 32) (S 35) (TK k (S 32) (S 35)) (kFc k m) (p + 1) (v + 1) := (TK_mk hm hM h0).trans (and_iff_right hxm)
        rw [if_pos rfl, FT, mm_bd_ret, li_60, nn_mul, nI_add, ar_37 (by omega), ar_37 (by omega)]
        by_cases qa : tkS k (S 32) (S 35) (TK k (S 32) (S 35)) (kFc k m) (p + 1) (v + 1)
        · rw [show tkS k ((mm_stc S 37 f) 32) ((mm_stc S 37 f) 35) (TK k ((mm_stc S 37 f) 32) ((mm_stc S 37 f) 35)) (kFc k m) (p + 1) (v + 1) = tkS k (S 32) (S 35) (TK k (S 32) (S 35)) (kFc k m) (p + 1) (v + 1) from rfl, mb_t qa, if_neg (by decide), c1t (hTK.mpr qa)]
        · rw [show tkS k ((mm_stc S 37 f) 32) ((mm_stc S 37 f) 35) (TK k ((mm_stc S 37 f) 32) ((mm_stc S 37 f) 35)) (kFc k m) (p + 1) (v + 1) = tkS k (S 32) (S 35) (TK k (S 32) (S 35)) (kFc k m) (p + 1) (v + 1) from rfl, mb_f qa, if_pos rfl, c1f (fun z => qa (hTK.mp z))]
      · rw [if_neg (fun z => e ((nI_eq (by omega) (by omega)).mp z)), li_60, nn_mul, nI_add, ar_37 (by omega), c1f (fun z => e ((nI_eq (by omega) (by omega)).mp (((TK_mk hm hM h0).mp z).1.symm.trans hxm)))]
end
end
section
/-! PURE: rows against the values; promise 14 (answer) -/
theorem nn_p1 {a : Nat} (h : a < 2 ^ 31) : nI a - 1 < nI a := by
  cases a with
  | zero => decide
  | succ a => rw [nI_pred]; exact nI_lt (by omega) h
/-- the first that has it -/
noncomputable def ff (P : Nat → Prop) : Nat → Nat → Int32
  | 0, _ => N1
  | n + 1, i => @ite Int32 (P i) (Classical.propDecidable _) (nI i) (ff P n (i + 1))
theorem ff_t {P : Nat → Prop} {n i : Nat} (h : P i) : ff P (n + 1) i = nI i := by unfold ff; rw [if_pos h]
theorem ff_f {P : Nat → Prop} {n i : Nat} (h : ¬ P i) : ff P (n + 1) i = ff P n (i + 1) := if_neg h
/-- a row takes the values -/
def rTk (k : KK) (C : Nat) (G X : Nat → Int32) (r : Nat) : Prop := tkS k G X (TK k G X) C (40 * r) 0
section
variable {d : Nat} {S : Mem} {k : KK}
theorem mr_rt_out (hK : mr_K S k) (hW : kW k) {nv r sz C : Nat} (h9 : S 27 9 = nI nv) (hnv : nv ≤ 60) (hr : r < 12) (hsz : sz ≤ 40)
    (hg : ∀ p, 40 * r ≤ p → p < 40 * r + sz → sgn k (S 32 p)) (hx : ∀ v, v < nv → ∃ m, m < kM k ∧ S 35 v = nI m) (hq : sq (fun j => kar k (S 32 j)) sz C (40 * r)) (hv : ∀ v, v < nv → ∃ l, sq (fun j => kar k (S 35 j)) l 1 v ∧ v + l ≤ nv) :
    ∀ (i : Nat) (f : Nat → Int32) (o3 o4 o5 : Option MV), i ≤ sz → (∀ q w, 40 * r + i ≤ q → q < 40 * r + sz → w < nv → f (60 * q + w) = mb (TK k (S 32) (S 35) q w)) →
      ∃ f', mm_E (mm_runD (d + 3)) pX8_rowTakes 2 11 [some (.inr 27), some (.inl (nI r)), some (.inl (nI (40 * r + i) - 1)), o3, o4, o5] [] (mm_stc S 37 f) 0 0 = mm_E (mm_runD (d + 3)) pX8_rowTakes 2 96 [some (.inr 27), some (.inl (nI r)), some (.inl (nI (40 * r))), some (.inl (nI 0)), some (.inl (nI 1)), some (.inl (nI 0))] [] (mm_stc S 37 f') 0 0 ∧ ∀ q w, 40 * r ≤ q → q < 40 * r + sz → w < nv → f' (60 * q + w) = mb (TK k (S 32) (S 35) q w) := by
  intro i
  have hM := hW.2.1
  induction i with
  | zero =>
    intro f o3 o4 o5 hi hf
    refine ⟨f, ?_, fun q w a b c => hf q w (by omega) b c⟩
    rw [eX8_rowTakes_11, li_40, nn_mul, Nat.add_zero, if_pos (nn_p1 (by omega))] <;> rfl
  | succ i ih =>
    intro f o3 o4 o5 hi hf
    obtain ⟨lp, a1, a2⟩ := sq_at (i := i) hq (by omega)
    obtain ⟨f1, x3, x4, b1, b2⟩ := mr_rt_in (d := d) (S := S) hK hW (E0 := 40 * r + sz) (s0 := 40 * r) (p := 40 * r + i) (r := r) h9 hnv (by omega) (by omega) (by omega) hg hx a1 (by omega) hv (o5 := o5) (nv - 0) 0 f rfl (by omega) (fun q w h => hf q w (by omega) (by omega) (by omega))
    obtain ⟨f2, c1, c2⟩ := ih f1 x3 x4 o5 (by omega) (fun q w a b c => b2 q w a b c)
    refine ⟨f2, ?_, c2⟩
    have e : nI (40 * r + (i + 1)) - 1 = nI (40 * r + i) := nI_pred _
    have e2 : (mm_stc S 37 f) 32 (40 * r + i) = S 32 (40 * r + i) := rfl
    rw [e, eX8_rowTakes_11, li_40, nn_mul, if_neg (nI_nlt (by omega) (by omega)), ar_32 (by omega), e2, li_0, b1, c1]
theorem mr_rt_cols (hK : mr_K S k) (hW : kW k) {nv E0 s0 C : Nat} (h6 : S 27 6 = nI C) (hC : C ≤ 3) (hnv : nv ≤ 60) (hE0 : E0 ≤ 480)
    (hg : ∀ p, s0 ≤ p → p < E0 → sgn k (S 32 p)) (hx : ∀ v, v < nv → sgn k (S 35 v)) (ht : ∀ p v, s0 ≤ p → p < E0 → v < nv → S 37 (60 * p + v) = mb (TK k (S 32) (S 35) p v)) :
    ∀ (n i p v lp lv : Nat) (A : Prop), C - i = n → i ≤ C → sq (fun j => kar k (S 32 j)) lp n p → sq (fun j => kar k (S 35 j)) lv n v → s0 ≤ p → p + lp ≤ E0 → v + lv ≤ nv → ∀ o1 : Option MV,
      mm_E (mm_runD (d + 2)) pX8_rowTakes 2 96 [some (.inr 27), o1, some (.inl (nI p)), some (.inl (nI v)), some (.inl (mb A)), some (.inl (nI i))] [] S 0 0 = some (S, 0, 0, 0, mb (A ∧ tkS k (S 32) (S 35) (TK k (S 32) (S 35)) n p v)) := by
  intro n
  induction n with
  | zero =>
    intro i p v lp lv A hn hi h1 h2 b1 b2 b3 o1
    rw [eX8_rowTakes_96, h6, if_pos (nI_le (by omega) (by omega)), if_pos (mb_01 _), mb_iff (show (A ∧ tkS k (S 32) (S 35) (TK k (S 32) (S 35)) 0 p v) ↔ A from ⟨fun q => q.1, fun q => ⟨q, trivial⟩⟩)]
  | succ n ih =>
    intro i p v lp lv A hn hi h1 h2 b1 b2 b3 o1
    rw [Nat.add_comm] at h1 h2
    obtain ⟨la, lb, e1, e2, e3⟩ := sq_split h1
    obtain ⟨ma, mb', f1, f2, f3⟩ := sq_split h2
    have pa := sq_pos (n := 0) e2
    have pm := sq_pos (n := 0) f2
    have B1 := mr_behindr (d := d) hK hW e2 (by omega) (fun j a b => hg j (by omega) (by omega))
    have B2 := mr_behindv (d := d) hK hW f2 (by omega) (fun j a b => hx j (by omega))
    have I := fun A => ih (i + 1) (p + la) (v + ma) lb mb' A (by omega) (by omega) e3 f3 (by omega) (by omega) (by omega) o1
    rw [eX8_rowTakes_96, h6, if_neg (nI_ge (by omega) (by omega))]
    simp only [B1, mm_bd_ret, B2]
    rw [nI_1, li_60, nn_mul, nI_add, ar_37 (by omega), ht p v b1 (by omega) (by omega), mb_iff (and_congr_right_iff.mpr (fun _ => tkS_s e2 f2))]
    by_cases qA : A
    · rw [mb_t qA, if_neg (by decide)]
      by_cases qt : TK k (S 32) (S 35) p v
      · rw [mb_t qt, if_neg (by decide)]
        have := I True
        rw [mb_t trivial] at this
        rw [mb_iff (show (A ∧ TK k (S 32) (S 35) p v ∧ tkS k (S 32) (S 35) (TK k (S 32) (S 35)) n (p + la) (v + ma)) ↔ (True ∧ tkS k (S 32) (S 35) (TK k (S 32) (S 35)) n (p + la) (v + ma)) from ⟨fun q => ⟨trivial, q.2.2⟩, fun q => ⟨qA, qt, q.2⟩⟩)]
        exact this
      · rw [mb_f qt, if_pos rfl]
        have := I False
        rw [mb_f (fun q => q)] at this
        rw [mb_iff (show (A ∧ TK k (S 32) (S 35) p v ∧ tkS k (S 32) (S 35) (TK k (S 32) (S 35)) n (p + la) (v + ma)) ↔ (False ∧ tkS k (S 32) (S 35) (TK k (S 32) (S 35)) n (p + la) (v + ma)) from ⟨fun q => absurd q.2.1 qt, fun q => q.1.elim⟩)]
        exact this
    · rw [mb_f qA, if_pos rfl]
      have := I False
      rw [mb_f (fun q => q)] at this
      rw [mb_iff (show (A ∧ TK k (S 32) (S 35) p v ∧ tkS k (S 32) (S 35) (TK k (S 32) (S 35)) n (p + la) (v + ma)) ↔ (False ∧ tkS k (S 32) (S 35) (TK k (S 32) (S 35)) n (p + la) (v + ma)) from ⟨fun q => absurd q.1 qA, fun q => q.1.elim⟩)]
      exact this
theorem mr_rowTakes (hK : mr_K S k) (hW : kW k) {nv r sz C : Nat} (h6 : S 27 6 = nI C) (hC : C ≤ 3) (h9 : S 27 9 = nI nv) (hnv : nv ≤ 60) (hr : r < 12) (hsz : sz ≤ 40) (h33 : S 33 r = nI sz)
    (hg : ∀ p, 40 * r ≤ p → p < 40 * r + sz → sgn k (S 32 p)) (hx : ∀ v, v < nv → ∃ m, m < kM k ∧ S 35 v = nI m) (hq : sq (fun j => kar k (S 32 j)) sz C (40 * r)) (hv : sq (fun j => kar k (S 35 j)) nv C 0) :
    ∃ f, mm_runD (d + 4) 133 [.inr 27, .inl (nI r)] S = some (mm_stc S 37 f, 0, 0, 0, mb (rTk k C (S 32) (S 35) r)) := by
  obtain ⟨f, a1, a2⟩ := mr_rt_out (d := d) (S := S) hK hW h9 hnv hr hsz hg hx hq (fun v hv' => by obtain ⟨l, x1, x2⟩ := sq_at (i := v) hv hv'; rw [Nat.zero_add] at x1; exact ⟨l, x1, x2⟩) sz (S 37) none none none (Nat.le_refl _) (fun q w a b c => absurd a (by omega))
  refine ⟨f, ?_⟩
  have L := mr_rt_cols (d := d + 1) (S := mm_stc S 37 f) hK hW (E0 := 40 * r + sz) (s0 := 40 * r) h6 hC hnv (by omega) hg (fun v hv' => by obtain ⟨m, a, b⟩ := hx v hv'; exact Or.inr (Or.inr ⟨m, a, b⟩)) (fun p v a b c => a2 p v a b c) C 0 (40 * r) 0 sz nv True rfl (by omega) hq hv (by omega) (by omega) (by omega) (some (.inl (nI r)))
  rw [mb_t trivial, true_and] at L
  rw [mm_stc_self] at a1
  rw [dX8_rowTakes, eX8_rowTakes_0, ar_33 hr, h33, li_40, nn_mul, nI_add, a1]
  exact L
/-- the class's row against the values -/
theorem mq_rowTakes (hK : mq_K S k) (hW : kW k) {nv r sz C : Nat} {G X : Nat → Int32} (h0 : S 0 2 = nI C) (hC : C ≤ 3) (h15 : S 15 4 = nI nv) (hnv : nv ≤ 60) (hr : r < 12) (hsz : sz ≤ 40)
    (hG : ∀ p, 40 * r ≤ p → p < 40 * r + sz → S 9 p = G p) (hX : ∀ v, v < nv → S 16 v = X v) (hg : ∀ p, 40 * r ≤ p → p < 40 * r + sz → sgn k (G p)) (he : mends (fun j => kar k (G j)) (S 10) (40 * r) (40 * r + sz)) (hv : mends (fun j => kar k (X j)) (S 17) 0 nv)
    (hq : sq (fun j => kar k (G j)) sz C (40 * r)) (hvq : sq (fun j => kar k (X j)) nv C 0) : mm_runD (d + 45) 109 [.inr 0, .inl (nI r)] S = some (S, 0, 0, 0, mb (rTk k C G X r)) := by
  have loop : ∀ (n i p v lp lv : Nat), C - i = n → i ≤ C → sq (fun j => kar k (G j)) lp n p → sq (fun j => kar k (X j)) lv n v → 40 * r ≤ p → p + lp ≤ 40 * r + sz → v + lv ≤ nv → ∀ o1 : Option MV,
      mm_E (mm_runD (d + 44)) pX7_rowTakesValues 2 9 [some (.inr 0), o1, some (.inl (nI p)), some (.inl (nI v)), some (.inl (nI i))] [] S 0 0 = some (S, 0, 0, 0, mb (tkS k G X (TK k G X) n p v)) := by
    intro n
    induction n with
    | zero =>
      intro i p v lp lv hn hi h1 h2 b1 b2 b3 o1
      rw [eX7_rowTakesValues_9, h0, if_pos (nI_le (by omega) (by omega)), mb_t (show tkS k G X (TK k G X) 0 p v from trivial)] <;> rfl
    | succ n ih =>
      intro i p v lp lv hn hi h1 h2 b1 b2 b3 o1
      rw [Nat.add_comm] at h1 h2
      obtain ⟨la, lb, e1, e2, e3⟩ := sq_split h1
      obtain ⟨ma, mb', f1, f2, f3⟩ := sq_split h2
      have pa := sq_pos (n := 0) e2
      have pm := sq_pos (n := 0) f2
      have A := mq_takes (S := S) hK hW h15 hnv (by omega) hG hX hg he hv la p v ma 0 (d + 44) e2 b1 (by omega) f2 (by omega) (by omega) (by omega)
      rw [nI_0] at A
      obtain ⟨l9, g1, g2, g3⟩ := he p b1 (by omega)
      obtain ⟨m9, k1, k2, k3⟩ := hv v (by omega) (by omega)
      rw [← sq_det e2 g1] at g3
      rw [← sq_det f2 k1] at k3
      have I := ih (i + 1) (p + la) (v + ma) lb mb' (by omega) (by omega) e3 f3 (by omega) (by omega) (by omega) o1
      rw [eX7_rowTakesValues_9, h0, if_neg (nI_ge (by omega) (by omega)), A, mm_bd_ret, mb_iff (tkS_s e2 f2)]
      by_cases qt : TK k G X p v
      · rw [mb_t qt, if_neg (by decide), mq_rEnd (by omega), mm_bd_ret, mq_endAtv h15 hnv (by omega), mm_bd_ret, g3, k3, nI_1, mb_iff (and_iff_right qt)]
        exact I
      · rw [mb_f qt, if_pos rfl, mb_f (fun z => qt z.1)]
  have L := loop C 0 (40 * r) 0 sz nv rfl (by omega) hq hvq (by omega) (by omega) (by omega) (some (.inl (nI r)))
  rw [dX7_rowTakesValues, eX7_rowTakesValues_0, mq_startOf, mm_bd_ret]
  exact L
end
end
section
/-! PURE: maker, isEmpty, match: the class's answers, the reference's answers -/
section
variable {d : Nat} {S : Mem} {k : KK}
theorem mq_isEmpty_out (hK : mq_K S k) (hW : kW k) {x : Int32} (h : ¬ mi x (kT k)) : mm_runD (d + 3) 91 [.inr 0, .inl x] S = some (S, 1, 6, 3, 0) := by
  rw [dX7_isEmpty, eX7_isEmpty_0, mq_hasType hK hW, mm_bd_ret, mb_f h, if_pos rfl]
theorem mq_isEmpty_in (hK : mq_K S k) (hW : kW k) (hV : kV (S 3) k) {t : Nat} (ht : t < kT k) : mm_runD (d + 3) 91 [.inr 0, .inl (nI t)] S = some (S, 0, 0, 0, mb (¬ kVal k t)) := by
  have h8 := hW.1
  have e : (∃ u, u < kT k ∧ nI t = nI u ∧ kVal k u) ↔ kVal k t := ⟨fun ⟨u, h1, h2, h3⟩ => by have := (nI_eq (by omega) (by omega)).mp h2; subst this; exact h3, fun h => ⟨t, ht, rfl, h⟩⟩
  rw [dX7_isEmpty, eX7_isEmpty_0, mq_hasType hK hW, mm_bd_ret, mb_t (mi_in ht), if_neg (by decide), mq_hasValue hK hW hV, mm_bd_ret, mb_iff e]
  by_cases q : kVal k t
  · rw [mb_t q, if_neg (by decide), mb_f (fun z => z q)]
  · rw [mb_f q, if_pos rfl, mb_t q]
theorem mr_isEmpty_out (hK : mr_K S k) (hW : kW k) {x : Int32} (h : ¬ mi x (kT k)) : mm_runD (d + 4) 123 [.inr 27, .inl x] S = some (mm_put S 27 0 1, 0, 0, 0, 0) := by
  rw [dX8_isEmpty, eX8_isEmpty_0, mr_isType hK hW, mm_bd_ret, mb_f h, if_pos rfl, mp_pp, if_neg (by decide)]
theorem mr_isEmpty_in (hK : mr_K S k) (hW : kW k) (h30 : ∀ t, 8 ≤ t → S 30 t = 0) {t : Nat} (ht : t < kT k) : ∃ f, mm_runD (d + 4) 123 [.inr 27, .inl (nI t)] S = some (mm_stc (mm_put S 27 0 0) 30 f, 0, 0, 0, mb (¬ kVal k t)) ∧ kV f k := by
  have h8 := hW.1
  obtain ⟨f, h1, h2⟩ := mr_find (d := d) (S := mm_put S 27 0 0) (k := k) hK hW h30
  refine ⟨f, ?_, h2⟩
  rw [dX8_isEmpty, eX8_isEmpty_0, mr_isType hK hW, mm_bd_ret, mb_t (mi_in ht), if_neg (by decide), mp_pp, if_pos (by decide), h1, mm_bd_ret, ar_30 (by omega), mm_stc_at]
  by_cases q : f t = 0
  · rw [if_pos q, mb_t (fun z => (h2 t).2.mpr z q)]
  · rw [if_neg q, mb_f (fun z => z ((h2 t).2.mp q))]
theorem mq_match_bad (hK : mq_K S k) (hW : kW k) {a b c : Int32} (h : a = N1 ∨ ¬ at3 (kT k) a b c) : mm_runD (d + 4) 92 [.inr 0, .inl a, .inl b, .inl c] S = some (S, 1, 6, 3, 0) := by
  rw [dX7_match, eX7_match_0, mq_countTypes hK hW, mm_bd_ret]
  by_cases q : at3 (kT k) a b c
  · rcases h with h | h
    · rw [if_pos q, show ct3 a b c = 0 from if_pos h, if_neg (by decide), if_pos nI_0]
    · exact absurd q h
  · rw [if_neg q, if_pos rfl]
theorem mq_match_ok (hK : mq_K S k) (hW : kW k) {a b c : Int32} (ha : a ≠ N1) (h : at3 (kT k) a b c) :
    ∃ S', mm_runD (d + 4) 92 [.inr 0, .inl a, .inl b, .inl c] S = some (S', 0, 0, 0, 0) ∧ mfr [0, 7, 8, 11, 14, 15, 18, 19] S S' ∧ S' 0 2 = nI (ct3 a b c) ∧ (∀ j, j < ct3 a b c → S' 7 j = nI (tg3 a b c j)) ∧ S' 8 2 = nI 0 ∧ S' 19 3 = nI 0 ∧ mq_Hr S' 0 (seg (tg3 a b c) 0 (ct3 a b c)) ∧ mq_Hv S' 0 (seg (tg3 a b c) 0 (ct3 a b c)) := by
  have h3 := ct3_le a b c
  have hp : 0 < ct3 a b c := by
    unfold ct3
    rw [if_neg ha]
    repeat' split
    all_goals omega
  obtain ⟨g0, g1, g2, g3⟩ := at3_g hW.1 h
  obtain ⟨S', h1, h2⟩ := mq_beginMatch (d := d) (S := S) h3 g1 g2 g3
  refine ⟨S', ?_, h2⟩
  rw [dX7_match, eX7_match_0, mq_countTypes hK hW, mm_bd_ret, if_pos h, if_neg (fun q => (nn_a1 (by omega)).mp q), if_neg (nI_ne0 hp (by omega)), h1, mm_bd_ret]
theorem mr_match_bad (hK : mr_K S k) (hW : kW k) {a b c : Int32} (h : a = N1 ∨ ¬ at3 (kT k) a b c) : mm_runD (d + 3) 125 [.inr 27, .inl a, .inl b, .inl c] S = some (mm_put S 27 0 1, 0, 0, 0, 0) := by
  rw [dX8_match, eX8_match_0]
  by_cases q : a = N1
  · rw [if_pos q, mp_pp, if_neg (by decide)]
  · rcases h with h | h
    · exact absurd h q
    · rw [if_neg (show ¬ a = -1 from q), mr_areTypes hK hW, mm_bd_ret, mb_f h, if_pos rfl, mp_pp, if_neg (by decide)]
theorem mr_match_ok (hK : mr_K S k) (hW : kW k) {a b c : Int32} (ha : a ≠ N1) (h : at3 (kT k) a b c) :
    mm_runD (d + 3) 125 [.inr 27, .inl a, .inl b, .inl c] S = some (mm_put (mm_put (mm_put (mm_put (mm_put (mm_put (mm_put (mm_put (mm_put S 27 0 0) 31 0 a) 31 1 b) 31 2 c) 27 6 (nI (ct3 a b c))) 27 7 0) 27 8 0) 27 9 0) 27 24 N1, 0, 0, 0, 0) := by
  have a0 : ∀ (S : Mem) (kk : Nat → Option Res), mm_arr S 1 31 0 kk = kk 0 := fun _ _ => ar_31 (j := 0) (by omega)
  have a1 : ∀ (S : Mem) (kk : Nat → Option Res), mm_arr S 1 31 1 kk = kk 1 := fun _ _ => ar_31 (j := 1) (by omega)
  have a2 : ∀ (S : Mem) (kk : Nat → Option Res), mm_arr S 1 31 2 kk = kk 2 := fun _ _ => ar_31 (j := 2) (by omega)
  rw [dX8_match, eX8_match_0, if_neg (show ¬ a = -1 from ha), mr_areTypes hK hW, mm_bd_ret, mb_t h, if_neg (by decide), mp_pp, if_pos (by decide), a0, a1, a2]
  by_cases hb : b = N1
  · rw [if_pos hb, dX8_forget, eX8_forget_0, mm_bd_ret, show ct3 a b c = 1 by unfold ct3; rw [if_neg ha, if_pos hb]] <;> rfl
  · by_cases hc : c = N1
    · rw [if_neg (show ¬ b = -1 from hb), if_pos hc, dX8_forget, eX8_forget_0, mm_bd_ret, show ct3 a b c = 2 by unfold ct3; rw [if_neg ha, if_neg hb, if_pos hc]] <;> rfl
    · rw [if_neg (show ¬ b = -1 from hb), if_neg (show ¬ c = -1 from hc), dX8_forget, eX8_forget_0, mm_bd_ret, show ct3 a b c = 3 by unfold ct3; rw [if_neg ha, if_neg hb, if_neg hc]] <;> rfl
theorem mq_maker_bad (hK : mq_K S k) (hW : kW k) {x a b c : Int32} (h : ¬ (mi x (kT k) ∧ at3 (kT k) a b c)) : mm_runD (d + 4) 90 [.inr 0, .inl x, .inl a, .inl b, .inl c] S = some (S, 1, 6, 3, 0) := by
  rw [dX7_maker, eX7_maker_0, mq_countTypes hK hW, mm_bd_ret, mq_hasType hK hW, mm_bd_ret]
  by_cases q : mi x (kT k)
  · rw [mb_t q, if_neg (by decide), if_neg (show ¬ at3 (kT k) a b c from fun z => h ⟨q, z⟩), if_pos rfl]
  · rw [mb_f q, if_pos rfl]
theorem mq_maker_full (hK : mq_K S k) (hW : kW k) (hC : mq_C S k) {t : Nat} {a b c : Int32} (ht : t < kT k) (h3 : at3 (kT k) a b c) (h : ¬ (kCnt k t (kM k) < 8 ∧ kM k < 40)) : mm_runD (d + 4) 90 [.inr 0, .inl (nI t), .inl a, .inl b, .inl c] S = some (S, 1, 6, 1, 0) := by
  have hle := ct3_le a b c
  rw [dX7_maker, eX7_maker_0, mq_countTypes hK hW, mm_bd_ret, mq_hasType hK hW, mm_bd_ret, mb_t (mi_in ht), if_neg (by decide), if_pos h3, if_neg (fun q => (nn_a1 (by omega)).mp q), mq_hasRoom hK hW hC ht, mm_bd_ret, mb_f h, if_pos rfl]
theorem mq_maker_ok (hK : mq_K S k) (hW : kW k) (hV : kV (S 3) k) (hC : mq_C S k) {t : Nat} {a b c : Int32} (ht : t < kT k) (h3 : at3 (kT k) a b c) (h : kCnt k t (kM k) < 8 ∧ kM k < 40) :
    ∃ S', mm_runD (d + 7) 90 [.inr 0, .inl (nI t), .inl a, .inl b, .inl c] S = some (S', 0, 0, 0, nI (kM k)) ∧ mfr [0, 1, 2, 3, 4, 5, 6, 7, 8, 11, 14, 15, 18, 19] S S' ∧ mq_K S' (kAdd k t (ct3 a b c) (tg3 a b c)) ∧ kV (S' 3) (kAdd k t (ct3 a b c) (tg3 a b c)) ∧ mq_C S' (kAdd k t (ct3 a b c) (tg3 a b c)) ∧
      S' 0 2 = nI 0 ∧ S' 8 2 = nI 0 ∧ S' 19 3 = nI 0 ∧ mq_Hr S' 0 [] ∧ mq_Hv S' 0 [] := by
  have hle := ct3_le a b c
  obtain ⟨g0, g1, g2, g3⟩ := at3_g hW.1 h3
  obtain ⟨S1, a1, a2, a3, a4, a5, a6, a7, a8⟩ := mq_beginMatch (d := d + 3) (S := S) (C := 0) (col := fun _ => 0) (a := -1) (b := -1) (c := -1) (by omega) (by omega) (by omega) (by omega)
  have hK1 : mq_K S1 k := by
    unfold mq_K
    rw [a2 1 (by decide), a2 4 (by decide), a2 5 (by decide), a2 6 (by decide)]
    exact hK
  have hC1 : mq_C S1 k := by
    unfold mq_C
    rw [a2 2 (by decide)]
    exact hC
  obtain ⟨S2, b1, b2, b3, b4, b5⟩ := mq_addMaker (d := d) (S := S1) hK1 hW (by rw [a2 3 (by decide)]; exact hV) hC1 ht h.1 h.2 hle g0 g1 g2 g3
  refine ⟨S2, ?_, mfr_tr (mfr_up a2 (by simp)) (mfr_up b2 (by simp)), b3, b4, b5, by rw [b2 0 (by decide)]; exact a3, by rw [b2 8 (by decide)]; exact a5, by rw [b2 19 (by decide)]; exact a6, ?_, ?_⟩
  · rw [nI_0] at a1
    rw [dX7_maker, eX7_maker_0, mq_countTypes hK hW, mm_bd_ret, mq_hasType hK hW, mm_bd_ret, mb_t (mi_in ht), if_neg (by decide), if_pos h3, if_neg (fun q => (nn_a1 (by omega)).mp q), mq_hasRoom hK hW hC ht, mm_bd_ret, mb_t h, if_neg (by decide), a1, mm_bd_ret, b1, mm_bd_ret]
  · unfold mq_Hr
    rw [b2 11 (by decide), b2 14 (by decide)]
    exact a7
  · unfold mq_Hv
    rw [b2 15 (by decide), b2 18 (by decide)]
    exact a8
theorem mr_maker_bad (hK : mr_K S k) (hW : kW k) {x a b c : Int32} (h : ¬ (mi x (kT k) ∧ at3 (kT k) a b c)) : mm_runD (d + 3) 120 [.inr 27, .inl x, .inl a, .inl b, .inl c] S = some (mm_put S 27 0 1, 0, 0, 0, 0) := by
  rw [dX8_maker, eX8_maker_0, mr_isType hK hW, mm_bd_ret]
  by_cases q : mi x (kT k)
  · rw [mb_t q, if_neg (by decide), mr_areTypes hK hW, mm_bd_ret, mb_f (fun z => h ⟨q, z⟩), if_pos rfl, eX8_maker_11, mp_pp, if_neg (by decide)]
  · rw [mb_f q, if_pos rfl, eX8_maker_11, mp_pp, if_neg (by decide)]
theorem mr_maker_full (hK : mr_K S k) (hW : kW k) {t : Nat} {a b c : Int32} (ht : t < kT k) (h3 : at3 (kT k) a b c) (hc8 : kCnt k t (kM k) ≤ 8) (h : ¬ (kCnt k t (kM k) < 8 ∧ kM k < 40)) : mm_runD (d + 3) 120 [.inr 27, .inl (nI t), .inl a, .inl b, .inl c] S = some (mm_put S 27 0 2, 0, 0, 0, 0) := by
  have hT := hW.1
  have hM := hW.2.1
  rw [dX8_maker, eX8_maker_0, mr_isType hK hW, mm_bd_ret, mb_t (mi_in ht), if_neg (by decide), mr_areTypes hK hW, mm_bd_ret, mb_t h3, if_neg (by decide), hK.2.1]
  by_cases q : kM k = 40
  · rw [if_pos (by rw [q]; rfl), mp_pp, if_neg (by decide)]
  · rw [if_neg (show ¬ nI (kM k) = 40 from fun z => q ((nI_eq (b := 40) (by omega) (by omega)).mp z)), mr_makersOf hK hW t (by omega), mm_bd_ret, if_pos (by rw [show kCnt k t (kM k) = 8 by omega]; rfl), mp_pp, if_neg (by decide)]
/-- the reference's new maker -/
def mr_mk (S : Mem) (M t : Nat) (a b c : Int32) : Mem := mm_put (mm_put (mm_put (mm_put (mm_put (mm_put (mm_put (mm_put (mm_put (mm_put (mm_put S 27 0 0) 28 M (nI t)) 29 (3 * M) a) 29 (3 * M + 1) b) 29 (3 * M + 2) c) 27 2 (nI (M + 1))) 27 6 0) 27 7 0) 27 8 0) 27 9 0) 27 24 N1
theorem mr_maker_ok (hK : mr_K S k) (hW : kW k) {t : Nat} {a b c : Int32} (ht : t < kT k) (h3 : at3 (kT k) a b c) (h : kCnt k t (kM k) < 8 ∧ kM k < 40) :
    ∃ b' c', mm_runD (d + 3) 120 [.inr 27, .inl (nI t), .inl a, .inl b, .inl c] S = some (mr_mk S (kM k) t a b' c', 0, 0, 0, nI (kM k)) ∧ (a = N1 → ct3 a b c = 0) ∧ (a ≠ N1 → b' = b ∧ (b = N1 → ct3 a b c = 1) ∧ (b ≠ N1 → c' = c ∧ (c = N1 → ct3 a b c = 2) ∧ (c ≠ N1 → ct3 a b c = 3))) := by
  have hT := hW.1
  have h2 := hK.2.1
  have hM4 := h.2
  by_cases ha : a = -1
  · refine ⟨-1, -1, ?_, fun _ => if_pos ha, fun q => absurd ha q⟩
    rw [dX8_maker, eX8_maker_0, mr_isType hK hW, mm_bd_ret, mb_t (mi_in ht), if_neg (by decide), mr_areTypes hK hW, mm_bd_ret, mb_t h3, if_neg (by decide), hK.2.1, if_neg (show ¬ nI (kM k) = 40 from fun z => absurd ((nI_eq (b := 40) (by omega) (by omega)).mp z) (by omega)), mr_makersOf hK hW t (by omega), mm_bd_ret, if_neg (show ¬ nI (kCnt k t (kM k)) = 8 from fun z => absurd ((nI_eq (b := 8) (by omega) (by omega)).mp z) (by omega)), mp_pp, if_pos (show (0 : Int32) ≤ 0 by decide)]
    simp (disch := omega) only [mp_pp, mp_pn, mp_pk, h2, li_3, li_2, nn_mul, nI_1, nI_add, nI_pred, ar_28, ar_29, ha, ↓reduceIte, mm_bd_ret, dX8_forget, eX8_forget_0, Nat.add_zero]
    rfl
  · by_cases hb : b = -1
    · refine ⟨b, -1, ?_, fun q => absurd q ha, fun _ => ⟨rfl, fun _ => by unfold ct3; rw [if_neg ha, if_pos hb], fun q => absurd hb q⟩⟩
      rw [dX8_maker, eX8_maker_0, mr_isType hK hW, mm_bd_ret, mb_t (mi_in ht), if_neg (by decide), mr_areTypes hK hW, mm_bd_ret, mb_t h3, if_neg (by decide), hK.2.1, if_neg (show ¬ nI (kM k) = 40 from fun z => absurd ((nI_eq (b := 40) (by omega) (by omega)).mp z) (by omega)), mr_makersOf hK hW t (by omega), mm_bd_ret, if_neg (show ¬ nI (kCnt k t (kM k)) = 8 from fun z => absurd ((nI_eq (b := 8) (by omega) (by omega)).mp z) (by omega)), mp_pp, if_pos (show (0 : Int32) ≤ 0 by decide)]
      simp (disch := omega) only [mp_pp, mp_pn, mp_pk, h2, li_3, li_2, nn_mul, nI_1, nI_add, nI_pred, ar_28, ar_29, if_neg ha, hb, ↓reduceIte, mm_bd_ret, dX8_forget, eX8_forget_0, Nat.add_zero]
      rfl
    · refine ⟨b, c, ?_, fun q => absurd q ha, fun _ => ⟨rfl, fun q => absurd q hb, fun _ => ⟨rfl, fun q => by unfold ct3; rw [if_neg ha, if_neg hb, if_pos q], fun q => by unfold ct3; rw [if_neg ha, if_neg hb, if_neg q]⟩⟩⟩
      rw [dX8_maker, eX8_maker_0, mr_isType hK hW, mm_bd_ret, mb_t (mi_in ht), if_neg (by decide), mr_areTypes hK hW, mm_bd_ret, mb_t h3, if_neg (by decide), hK.2.1, if_neg (show ¬ nI (kM k) = 40 from fun z => absurd ((nI_eq (b := 40) (by omega) (by omega)).mp z) (by omega)), mr_makersOf hK hW t (by omega), mm_bd_ret, if_neg (show ¬ nI (kCnt k t (kM k)) = 8 from fun z => absurd ((nI_eq (b := 8) (by omega) (by omega)).mp z) (by omega)), mp_pp, if_pos (show (0 : Int32) ≤ 0 by decide)]
      simp (disch := omega) only [mp_pp, mp_pn, mp_pk, h2, li_3, li_2, nn_mul, nI_1, nI_add, nI_pred, ar_28, ar_29, if_neg ha, if_neg hb, ↓reduceIte, mm_bd_ret, dX8_forget, eX8_forget_0, Nat.add_zero]
      rfl
end
end
section
/-! PURE: sign, row, give, answer, empty -/
section
variable {d : Nat} {S : Mem} {k : KK}
theorem mr_mk_K (hK : mr_K S k) (hW : kW k) {t : Nat} {a b c b' c' : Int32} (h3 : at3 (kT k) a b c) (h0 : a = N1 → ct3 a b c = 0) (h1 : a ≠ N1 → b' = b ∧ (b = N1 → ct3 a b c = 1) ∧ (b ≠ N1 → c' = c ∧ (c = N1 → ct3 a b c = 2) ∧ (c ≠ N1 → ct3 a b c = 3))) :
    mr_K (mr_mk S (kM k) t a b' c') (kAdd k t (ct3 a b c) (tg3 a b c)) := by
  obtain ⟨g0, g1, g2, g3⟩ := at3_g hW.1 h3
  refine ⟨hK.1, rfl, fun m hm => ?_⟩
  rw [kAdd_M] at hm
  rcases Nat.lt_or_ge m (kM k) with q | q
  · obtain ⟨e1, e2, e3⟩ := kAdd_old (t := t) (f := ct3 a b c) (g := tg3 a b c) q
    obtain ⟨h4, h5, h6⟩ := hK.2.2 m q
    have hf := (hW.2.2 m q).2.1
    rw [e1, e2, e3]
    unfold mr_mk
    refine ⟨?_, fun j hj => ?_, fun hj => ?_⟩
    · simp (disch := omega) only [mp_pn, mp_pk]; exact h4
    · simp (disch := omega) only [mp_pn, mp_pk]; exact h5 j hj
    · simp (disch := omega) only [mp_pn, mp_pk]; exact h6 hj
  · have e : m = kM k := by omega
    subst e
    obtain ⟨e1, e2, e3⟩ := kAdd_new (k := k) (t := t) (f := ct3 a b c) (g := tg3 a b c)
    rw [e1, e2, e3]
    unfold mr_mk
    have r0 : (mm_put (mm_put (mm_put (mm_put (mm_put (mm_put (mm_put (mm_put (mm_put (mm_put (mm_put S 27 0 0) 28 (kM k) (nI t)) 29 (3 * kM k) a) 29 (3 * kM k + 1) b') 29 (3 * kM k + 2) c') 27 2 (nI (kM k + 1))) 27 6 0) 27 7 0) 27 8 0) 27 9 0) 27 24 N1) 29 (3 * kM k + 0) = a := by simp (disch := omega) only [mp_pn, mp_pk, mp_pp, Nat.add_zero]
    have r1 : (mm_put (mm_put (mm_put (mm_put (mm_put (mm_put (mm_put (mm_put (mm_put (mm_put (mm_put S 27 0 0) 28 (kM k) (nI t)) 29 (3 * kM k) a) 29 (3 * kM k + 1) b') 29 (3 * kM k + 2) c') 27 2 (nI (kM k + 1))) 27 6 0) 27 7 0) 27 8 0) 27 9 0) 27 24 N1) 29 (3 * kM k + 1) = b' := by simp (disch := omega) only [mp_pn, mp_pk, mp_pp]
    have r2 : (mm_put (mm_put (mm_put (mm_put (mm_put (mm_put (mm_put (mm_put (mm_put (mm_put (mm_put S 27 0 0) 28 (kM k) (nI t)) 29 (3 * kM k) a) 29 (3 * kM k + 1) b') 29 (3 * kM k + 2) c') 27 2 (nI (kM k + 1))) 27 6 0) 27 7 0) 27 8 0) 27 9 0) 27 24 N1) 29 (3 * kM k + 2) = c' := by simp (disch := omega) only [mp_pn, mp_pk, mp_pp]
    refine ⟨by simp (disch := omega) only [mp_pn, mp_pk, mp_pp], ?_⟩
    generalize mm_put (mm_put (mm_put (mm_put (mm_put (mm_put (mm_put (mm_put (mm_put (mm_put (mm_put S 27 0 0) 28 (kM k) (nI t)) 29 (3 * kM k) a) 29 (3 * kM k + 1) b') 29 (3 * kM k + 2) c') 27 2 (nI (kM k + 1))) 27 6 0) 27 7 0) 27 8 0) 27 9 0) 27 24 N1 = Z at r0 r1 r2
    by_cases qa : a = N1
    · have e := h0 qa
      rw [e]
      exact ⟨fun j hj => by omega, fun _ => by rw [r0]; exact qa⟩
    · obtain ⟨eb, hb1, hb2⟩ := h1 qa
      by_cases qb : b = N1
      · have e := hb1 qb
        rw [e] at g1 ⊢
        refine ⟨fun j hj => ?_, fun _ => by rw [r1, eb]; exact qb⟩
        have : j = 0 := by omega
        subst this
        rw [r0]; exact g1 (by omega)
      · obtain ⟨ec, hc1, hc2⟩ := hb2 qb
        by_cases qc : c = N1
        · have e := hc1 qc
          rw [e] at g1 g2 ⊢
          refine ⟨fun j hj => ?_, fun _ => by rw [r2, ec]; exact qc⟩
          rcases (show j = 0 ∨ j = 1 by omega) with rfl | rfl
          · rw [r0]; exact g1 (by omega)
          · rw [r1, eb]; exact g2 (by omega)
        · have e := hc2 qc
          rw [e] at g1 g2 g3 ⊢
          refine ⟨fun j hj => ?_, fun q => by omega⟩
          rcases (show j = 0 ∨ j = 1 ∨ j = 2 by omega) with rfl | rfl | rfl
          · rw [r0]; exact g1 (by omega)
          · rw [r1, eb]; exact g2 (by omega)
          · rw [r2, ec]; exact g3 (by omega)
theorem mr_isMakerOf (hK : mr_K S k) (hW : kW k) {L : List Nat} (hL : ∀ t, t ∈ L → t < 8) (x : Int32) : mm_runD (d + 1) 127 [.inr 27, .inl x, .inl (hdv L)] S = some (S, 0, 0, 0, mb (∃ t r m, L = t :: r ∧ m < kM k ∧ x = nI m ∧ kTy k m = t)) := by
  have hT := hW.1
  have hM := hW.2.1
  rw [dX8_isMakerOf, eX8_isMakerOf_0]
  cases L with
  | nil => rw [if_pos (show hdv [] = -1 from rfl), mb_f (by rintro ⟨t, r, m, h1, _⟩; cases h1)]
  | cons t r =>
    have ht8 := hL t (by simp)
    rw [show hdv (t :: r) = nI t from rfl, if_neg (show ¬ nI t = -1 from fun q => (nn_a1 (a := t) (by omega)).mp q)]
    by_cases q : mi x (kM k)
    · obtain ⟨m, hm, rfl⟩ := q
      have b := (hW.2.2 m hm).1
      rw [if_neg (nI_pos (by omega)), hK.2.1, if_neg (nI_ge hm (by omega)), ar_28 (by omega), (hK.2.2 m hm).1]
      by_cases z : nI (kTy k m) = nI t
      · rw [if_pos z, mb_t ⟨t, r, m, rfl, hm, rfl, (nI_eq (by omega) (by omega)).mp z⟩]
      · rw [if_neg z, mb_f]
        rintro ⟨t', r', m', h1, h2, h3, h4⟩
        cases h1
        have := (nI_eq (by omega) (by omega)).mp h3
        subst this
        exact z (by rw [h4])
    · rw [mb_f (by rintro ⟨t', r', m', h1, h2, h3, h4⟩; exact q ⟨m', h2, h3⟩)]
      rcases mi_out (by omega) q with z | z
      · rw [if_pos z]
      · by_cases w : x < 0
        · rw [if_pos w]
        · rw [if_neg w, hK.2.1, if_pos z]
/-- a sign may stand -/
def okS (k : KK) (L : List Nat) (x : Int32) : Prop := L ≠ [] ∧ (x = N1 ∨ x = N2) ∨ ∃ t r m, L = t :: r ∧ m < kM k ∧ x = nI m ∧ kTy k m = t
abbrev okV (k : KK) (L : List Nat) (x : Int32) : Prop := ∃ t r m, L = t :: r ∧ m < kM k ∧ x = nI m ∧ kTy k m = t
theorem mq_refuse0 (h : S 0 2 = nI 0) : mm_runD (d + 1) 107 [.inr 0] S = some (S, 1, 6, 1, 0) := by
  rw [dX7_refuseWithoutMatch, eX7_refuseWithoutMatch_0, h, if_pos nI_0]
theorem mq_refuse1 {C : Nat} (h : S 0 2 = nI C) (h0 : 0 < C) (h3 : C ≤ 3) : mm_runD (d + 1) 107 [.inr 0] S = some (S, 0, 0, 0, 0) := by
  rw [dX7_refuseWithoutMatch, eX7_refuseWithoutMatch_0, h, if_neg (nI_ne0 h0 (by omega))]
theorem mq_sign0 (h : S 0 2 = nI 0) (x : Int32) : mm_runD (d + 2) 93 [.inr 0, .inl x] S = some (S, 1, 6, 1, 0) := by
  rw [dX7_sign, eX7_sign_0, mq_refuse0 h, mm_bd_thr]
theorem mq_sign_full {C n : Nat} {L : List Nat} (h : S 0 2 = nI C) (h0 : 0 < C) (h3 : C ≤ 3) (hH : mq_Hr S n L) (hn : n = 40) (x : Int32) : mm_runD (d + 2) 93 [.inr 0, .inl x] S = some (S, 1, 6, 1, 0) := by
  rw [dX7_sign, eX7_sign_0, mq_refuse1 h h0 h3, mm_bd_ret, mq_isFullr hH, mm_bd_ret, mb_t hn, if_neg (by decide)]
theorem mq_sign_bad (hK : mq_K S k) (hW : kW k) {C n : Nat} {L : List Nat} (h : S 0 2 = nI C) (h0 : 0 < C) (h3 : C ≤ 3) (hH : mq_Hr S n L) (hL : ∀ t, t ∈ L → t < 8) (hn : n ≠ 40) {x : Int32} (hx : ¬ okS k L x) : mm_runD (d + 4) 93 [.inr 0, .inl x] S = some (S, 1, 6, 2, 0) := by
  rw [dX7_sign, eX7_sign_0, mq_refuse1 h h0 h3, mm_bd_ret, mq_isFullr hH, mm_bd_ret, mb_f hn, if_pos rfl, mq_takesr hK hW hH hL, mm_bd_ret, mb_f (fun q => hx (Or.inr q)), if_pos rfl, mq_asksr hH, mm_bd_ret]
  by_cases q : L ≠ []
  · rw [mb_t q, if_neg (by decide), if_neg (show ¬ x = -1 from fun z => hx (Or.inl ⟨q, Or.inl z⟩)), if_neg (show ¬ x = -2 from fun z => hx (Or.inl ⟨q, Or.inr z⟩))]
  · rw [mb_f q, if_pos rfl]
theorem mq_sign_ok (hK : mq_K S k) (hW : kW k) {C n : Nat} {t : Nat} {r : List Nat} (h : S 0 2 = nI C) (h0 : 0 < C) (h3 : C ≤ 3) (hH : mq_Hr S n (t :: r)) (hL : ∀ u, u ∈ t :: r → u < 8) (hn : n ≠ 40) (hr : r.length + 3 ≤ 83) {x : Int32} (hx : okS k (t :: r) x) :
    ∃ S', mm_runD (d + 5) 93 [.inr 0, .inl x] S = some (S', 0, 0, 0, nI (n + 1)) ∧ mfr [11, 12, 14] S S' ∧ S' 12 = upd (S 12) n x ∧ mq_Hr S' (n + 1) (stp k t x ++ r) := by
  have hs : sgn k x := by
    rcases hx with ⟨_, q | q⟩ | ⟨t', r', m, _, h5, h6, _⟩
    · exact Or.inl q
    · exact Or.inr (Or.inl q)
    · exact Or.inr (Or.inr ⟨m, h5, h6⟩)
  obtain ⟨S', a1, a2, a3, a4⟩ := mq_putr (d := d) hK hW hH (by have := hH.2.1; omega) hr hs
  refine ⟨S', ?_, a2, a3, a4⟩
  rw [dX7_sign, eX7_sign_0, mq_refuse1 h h0 h3, mm_bd_ret, mq_isFullr hH, mm_bd_ret, mb_f hn, if_pos rfl, mq_takesr hK hW hH hL, mm_bd_ret]
  by_cases q : ∃ t' r' m, t :: r = t' :: r' ∧ m < kM k ∧ x = nI m ∧ kTy k m = t'
  · rw [mb_t q, if_neg (by decide), a1, mm_bd_ret]
  · rw [mb_f q, if_pos rfl, mq_asksr hH, mm_bd_ret, mb_t (by simp), if_neg (by decide)]
    rcases hx with ⟨_, w | w⟩ | w
    · rw [if_pos (show x = -1 from w), a1, mm_bd_ret]
    · rw [if_neg (show ¬ x = -1 by rw [w]; decide), if_pos (show x = -2 from w), a1, mm_bd_ret]
    · exact absurd w q
theorem mq_give0 (h : S 0 2 = nI 0) (x : Int32) : mm_runD (d + 2) 100 [.inr 0, .inl x] S = some (S, 1, 6, 1, 0) := by
  rw [dX7_give, eX7_give_0, mq_refuse0 h, mm_bd_thr]
theorem mq_give_full {C n : Nat} {L : List Nat} (h : S 0 2 = nI C) (h0 : 0 < C) (h3 : C ≤ 3) (hH : mq_Hv S n L) (hn : n = 60) (x : Int32) : mm_runD (d + 2) 100 [.inr 0, .inl x] S = some (S, 1, 6, 1, 0) := by
  rw [dX7_give, eX7_give_0, mq_refuse1 h h0 h3, mm_bd_ret, mq_isFullv hH, mm_bd_ret, mb_t hn, if_neg (by decide)]
theorem mq_give_bad (hK : mq_K S k) (hW : kW k) {C n : Nat} {L : List Nat} (h : S 0 2 = nI C) (h0 : 0 < C) (h3 : C ≤ 3) (hH : mq_Hv S n L) (hL : ∀ t, t ∈ L → t < 8) (hn : n ≠ 60) {x : Int32} (hx : ¬ okV k L x) : mm_runD (d + 4) 100 [.inr 0, .inl x] S = some (S, 1, 6, 2, 0) := by
  rw [dX7_give, eX7_give_0, mq_refuse1 h h0 h3, mm_bd_ret, mq_isFullv hH, mm_bd_ret, mb_f hn, if_pos rfl, mq_takesv hK hW hH hL, mm_bd_ret, mb_f hx, if_pos rfl]
theorem mq_give_ok (hK : mq_K S k) (hW : kW k) {C n : Nat} {t : Nat} {r : List Nat} (h : S 0 2 = nI C) (h0 : 0 < C) (h3 : C ≤ 3) (hH : mq_Hv S n (t :: r)) (hL : ∀ u, u ∈ t :: r → u < 8) (hn : n ≠ 60) (hr : r.length + 3 ≤ 123) {x : Int32} (hx : okV k (t :: r) x) :
    ∃ S', mm_runD (d + 5) 100 [.inr 0, .inl x] S = some (S', 0, 0, 0, nI (n + 1)) ∧ mfr [15, 16, 18] S S' ∧ S' 16 = upd (S 16) n x ∧ mq_Hv S' (n + 1) (stp k t x ++ r) := by
  have hs : sgn k x := by
    obtain ⟨t', r', m, _, h5, h6, _⟩ := hx
    exact Or.inr (Or.inr ⟨m, h5, h6⟩)
  obtain ⟨S', a1, a2, a3, a4⟩ := mq_putv (d := d) hK hW hH (by have := hH.2.1; omega) hr hs
  refine ⟨S', ?_, a2, a3, a4⟩
  rw [dX7_give, eX7_give_0, mq_refuse1 h h0 h3, mm_bd_ret, mq_isFullv hH, mm_bd_ret, mb_f hn, if_pos rfl, mq_takesv hK hW hH hL, mm_bd_ret, mb_t hx, if_neg (by decide), a1, mm_bd_ret]
/-! the reference's sign, give -/
theorem mr_sign1 {C n : Nat} (h6 : S 27 6 = nI C) (hC : C ≤ 3) (h8 : S 27 8 = nI n) (hn : n ≤ 40) (h : C = 0 ∨ n = 40) (x : Int32) : mm_runD (d + 1) 128 [.inr 27, .inl x] S = some (mm_put S 27 0 1, 0, 0, 0, 0) := by
  rw [dX8_sign, eX8_sign_0, h6, h8]
  by_cases q : C = 0
  · rw [if_pos (by rw [q]; rfl), eX8_sign_8, mp_pp, if_neg (by decide)]
  · rw [if_neg (nI_ne0 (by omega) (by omega)), if_pos (by rw [show n = 40 by omega]; rfl), eX8_sign_8, mp_pp, if_neg (by decide)]
theorem mr_sign2 (hK : mr_K S k) (hW : kW k) {C n : Nat} {col : Nat → Nat} {y : Nat → Int32} (h6 : S 27 6 = nI C) (hC : C ≤ 3) (h0 : 0 < C) (hc : ∀ c, c < C → S 31 c = nI (col c)) (h8 : S 27 8 = nI n) (hn : n < 40) (hy : ∀ i, i < n → S 34 i = y i) (hh : hnd k C col y n) (hL : ∀ t, t ∈ stk k C col y n → t < 8) (x : Int32) :
    ∃ f, (¬ okS k (stk k C col y n) x → mm_runD (d + 3) 128 [.inr 27, .inl x] S = some (mm_put (mm_stc (mm_put S 27 0 0) 36 f) 27 0 2, 0, 0, 0, 0)) ∧
      (okS k (stk k C col y n) x → mm_runD (d + 3) 128 [.inr 27, .inl x] S = some (mm_put (mm_put (mm_put (mm_stc (mm_put S 27 0 0) 36 f) 27 0 0) 34 n x) 27 8 (nI (n + 1)), 0, 0, 0, nI (n + 1))) := by
  obtain ⟨f, h1⟩ := mr_nextr (d := d) (S := mm_put S 27 0 0) (n := n) hK hW hC h6 hc hy (by omega) hh
  refine ⟨f, ?_⟩
  have hK1 : mr_K (mm_stc (mm_put S 27 0 0) 36 f) k := hK
  have h8' : (mm_put S 27 0 0) 27 8 = nI n := h8
  have e1 : (mm_put (mm_stc (mm_put S 27 0 0) 36 f) 27 0 0) 27 8 = nI n := h8
  have e2 : (mm_put (mm_put (mm_stc (mm_put S 27 0 0) 36 f) 27 0 0) 34 n x) 27 8 = nI n := h8
  have IM := mr_isMakerOf (d := d + 1) hK1 hW hL x
  have start : ∀ Z, mm_runD (d + 3) 128 [.inr 27, .inl x] S = Z ↔ mm_E (mm_runD (d + 2)) pX8_sign 1 0 [some (.inr 27), some (.inl x), none] [] S 0 0 = Z := fun Z => by rw [dX8_sign]
  rw [start, start, eX8_sign_0, h6, if_neg (nI_ne0 h0 (by omega)), h8, if_neg (show ¬ nI n = 40 from fun z => absurd ((nI_eq (b := 40) (by omega) (by omega)).mp z) (by omega)), mp_pp, if_pos (show (0 : Int32) ≤ 0 by decide), h8', h1, mm_bd_ret]
  cases hs : stk k C col y n with
  | nil =>
    rw [hs] at IM
    rw [if_pos (show hdv [] = -1 from rfl), IM, mm_bd_ret, mb_f (by rintro ⟨t, r, m, h1, _⟩; cases h1), if_pos rfl, mp_pp, if_neg (by decide)]
    refine ⟨fun _ => rfl, fun q => ?_⟩
    rcases q with ⟨q, _⟩ | ⟨t, r, m, q, _⟩
    · exact absurd rfl q
    · cases q
  | cons t r =>
    rw [hs] at IM hL
    have ht8 := hL t (by simp)
    rw [if_neg (show ¬ hdv (t :: r) = -1 from fun q => (nn_a1 (a := t) (by omega)).mp q), IM]
    by_cases x1 : x = -1
    · rw [if_pos x1, mp_pp, if_pos (show (0 : Int32) ≤ 0 by decide), e1, ar_34 hn, e2, nI_1, mp_pp]
      exact ⟨fun q => absurd (Or.inl ⟨by simp, Or.inl x1⟩) q, fun _ => rfl⟩
    · by_cases x2 : x = -2
      · rw [if_neg x1, if_pos x2, mp_pp, if_pos (show (0 : Int32) ≤ 0 by decide), e1, ar_34 hn, e2, nI_1, mp_pp]
        exact ⟨fun q => absurd (Or.inl ⟨by simp, Or.inr x2⟩) q, fun _ => rfl⟩
      · rw [if_neg x1, if_neg x2, mm_bd_ret]
        by_cases q : ∃ t' r' m, t :: r = t' :: r' ∧ m < kM k ∧ x = nI m ∧ kTy k m = t'
        · rw [mb_t q, if_neg (by decide), mp_pp, if_pos (show (0 : Int32) ≤ 0 by decide), e1, ar_34 hn, e2, nI_1, mp_pp]
          exact ⟨fun z => absurd (Or.inr q) z, fun _ => rfl⟩
        · rw [mb_f q, if_pos rfl, mp_pp, if_neg (by decide)]
          refine ⟨fun _ => rfl, fun z => ?_⟩
          rcases z with ⟨_, z | z⟩ | z
          · exact absurd z x1
          · exact absurd z x2
          · exact absurd z q
theorem mr_give1 {C n : Nat} (h6 : S 27 6 = nI C) (hC : C ≤ 3) (h8 : S 27 9 = nI n) (hn : n ≤ 60) (h : C = 0 ∨ n = 60) (x : Int32) : mm_runD (d + 1) 130 [.inr 27, .inl x] S = some (mm_put S 27 0 1, 0, 0, 0, 0) := by
  rw [dX8_give, eX8_give_0, h6, h8]
  by_cases q : C = 0
  · rw [if_pos (by rw [q]; rfl), mp_pp, if_neg (by decide)]
  · rw [if_neg (nI_ne0 (by omega) (by omega)), if_pos (by rw [show n = 60 by omega]; rfl), mp_pp, if_neg (by decide)]
theorem mr_give2 (hK : mr_K S k) (hW : kW k) {C n : Nat} {col : Nat → Nat} {y : Nat → Int32} (h6 : S 27 6 = nI C) (hC : C ≤ 3) (h0 : 0 < C) (hc : ∀ c, c < C → S 31 c = nI (col c)) (h8 : S 27 9 = nI n) (hn : n < 60) (hy : ∀ i, i < n → S 35 i = y i) (hh : hnd k C col y n) (hL : ∀ t, t ∈ stk k C col y n → t < 8) (x : Int32) :
    ∃ f, (¬ okV k (stk k C col y n) x → mm_runD (d + 3) 130 [.inr 27, .inl x] S = some (mm_put (mm_stc (mm_put S 27 0 0) 36 f) 27 0 2, 0, 0, 0, 0)) ∧
      (okV k (stk k C col y n) x → mm_runD (d + 3) 130 [.inr 27, .inl x] S = some (mm_put (mm_put (mm_put (mm_stc (mm_put S 27 0 0) 36 f) 27 0 0) 35 n x) 27 9 (nI (n + 1)), 0, 0, 0, nI (n + 1))) := by
  obtain ⟨f, h1⟩ := mr_nextv (d := d) (S := mm_put S 27 0 0) (n := n) hK hW hC h6 hc hy (by omega) hh
  refine ⟨f, ?_⟩
  have hK1 : mr_K (mm_stc (mm_put S 27 0 0) 36 f) k := hK
  have h8' : (mm_put S 27 0 0) 27 9 = nI n := h8
  have e1 : (mm_put (mm_stc (mm_put S 27 0 0) 36 f) 27 0 0) 27 9 = nI n := h8
  have e2 : (mm_put (mm_put (mm_stc (mm_put S 27 0 0) 36 f) 27 0 0) 35 n x) 27 9 = nI n := h8
  have IM := mr_isMakerOf (d := d + 1) hK1 hW hL x
  have start : ∀ Z, mm_runD (d + 3) 130 [.inr 27, .inl x] S = Z ↔ mm_E (mm_runD (d + 2)) pX8_give 1 0 [some (.inr 27), some (.inl x)] [] S 0 0 = Z := fun Z => by rw [dX8_give]
  rw [start, start, eX8_give_0, h6, if_neg (nI_ne0 h0 (by omega)), h8, if_neg (show ¬ nI n = 60 from fun z => absurd ((nI_eq (b := 60) (by omega) (by omega)).mp z) (by omega)), mp_pp, if_pos (show (0 : Int32) ≤ 0 by decide), h8', h1, mm_bd_ret, IM, mm_bd_ret]
  by_cases q : okV k (stk k C col y n) x
  · rw [mb_t q, if_neg (by decide), mp_pp, if_pos (show (0 : Int32) ≤ 0 by decide), e1, ar_35 hn, e2, nI_1, mp_pp]
    exact ⟨fun z => absurd q z, fun _ => rfl⟩
  · rw [mb_f q, if_pos rfl, mp_pp, if_neg (by decide)]
    exact ⟨fun _ => rfl, fun z => absurd z q⟩
end
end
section
/-! PURE: row, answer, empty -/
section
variable {d : Nat} {S : Mem} {k : KK}
theorem mq_rcount {R : Nat} (h : S 8 2 = nI R) : mm_runD (d + 1) 31 [.inr 8] S = some (S, 0, 0, 0, nI R) := by
  rw [dX3_count, eX3_count_0, h]
theorem mq_row0 (h : S 0 2 = nI 0) : mm_runD (d + 2) 94 [.inr 0] S = some (S, 1, 6, 1, 0) := by
  rw [dX7_row, eX7_row_0, mq_refuse0 h, mm_bd_thr]
theorem mq_row_full {C : Nat} (h : S 0 2 = nI C) (h0 : 0 < C) (h3 : C ≤ 3) (h8 : S 8 2 = nI 12) : mm_runD (d + 2) 94 [.inr 0] S = some (S, 1, 6, 1, 0) := by
  rw [dX7_row, eX7_row_0, mq_refuse1 h h0 h3, mm_bd_ret, mq_rcount h8, mm_bd_ret, if_neg (by decide)]
theorem mq_row_bad {C R n : Nat} {col : Nat → Nat} {L : List Nat} (h : S 0 2 = nI C) (h0 : 0 < C) (h3 : C ≤ 3) (h8 : S 8 2 = nI R) (hR : R < 12) (hc : ∀ c, c < C → S 7 c = nI (col c)) (hH : mq_Hr S n L) (hL : L ≠ []) :
    ∃ S', mm_runD (d + 3) 94 [.inr 0] S = some (S', 1, 6, 2, 0) ∧ mfr [11, 14] S S' ∧ mq_Hr S' 0 (seg col 0 C) := by
  obtain ⟨S', a1, a2, a3⟩ := mq_beginr (d := d) (S := S) h3 hc
  refine ⟨S', ?_, a2, a3⟩
  rw [dX7_row, eX7_row_0, mq_refuse1 h h0 h3, mm_bd_ret, mq_rcount h8, mm_bd_ret, if_pos (show nI R < 12 from nI_lt (b := 12) hR (by decide)), mq_asksr hH, mm_bd_ret, mb_t hL, if_neg (by decide), h, a1, mm_bd_ret]
theorem mq_row_ok (hK : mq_K S k) (hW : kW k) {C R n : Nat} {col : Nat → Nat} {x : Nat → Int32} (h : S 0 2 = nI C) (h0 : 0 < C) (h3 : C ≤ 3) (h8 : S 8 2 = nI R) (hR : R < 12) (hc : ∀ c, c < C → S 7 c = nI (col c)) (hH : mq_Hr S n []) (hs : sq (fun j => kar k (x j)) n C 0) (hx : ∀ i, i < n → sgn k (x i)) (hS : ∀ i, i < n → S 12 i = x i) :
    ∃ S', mm_runD (d + 5) 94 [.inr 0] S = some (S', 0, 0, 0, nI R) ∧ mfr [8, 9, 10, 11, 13, 14, 19] S S' ∧ mq_Hr S' 0 (seg col 0 C) ∧ S' 8 2 = nI (R + 1) ∧ S' 19 3 = 0 ∧ (∀ j, j < 40 * R → S' 9 j = S 9 j ∧ S' 10 j = S 10 j) ∧ (∀ j, j < n → S' 9 (40 * R + j) = x j) ∧ mends (fun j => kar k (S' 9 j)) (S' 10) (40 * R) (40 * R + n) := by
  obtain ⟨S1, eS⟩ : ∃ S1, S1 = mm_put (mm_put (mm_put S 19 1 0) 19 2 0) 19 3 0 := ⟨_, rfl⟩
  have F1 : mfr [19] S S1 := by subst eS; exact mfr_tr (mfr_tr (mfr_put (by simp)) (mfr_put (by simp))) (mfr_put (by simp))
  have z1 : S1 19 3 = 0 := by subst eS; rfl
  have hK1 := mq_K_fr hK F1 rfl
  obtain ⟨S2, a1, a2, a3, a4, a5, a6⟩ := mq_add (d := d) (S := S1) (R := R) hK1 hW hH.2.1 hR hs hx (by rw [F1 11 (by decide)]; exact hH.1) (by rw [F1 12 (by decide)]; exact hS) (by rw [F1 8 (by decide)]; exact h8)
  obtain ⟨S3, b1, b2, b3⟩ := mq_beginr (d := d + 2) (S := S2) (C := C) (col := col) h3 (by rw [a2 7 (by decide), F1 7 (by decide)]; exact hc)
  have c0 : S2 0 2 = nI C := by rw [a2 0 (by decide), F1 0 (by decide)]; exact h
  refine ⟨S3, ?_, mfr_tr (mfr_tr (mfr_up F1 (by simp)) (mfr_up a2 (by simp))) (mfr_up b2 (by simp)), b3, by rw [b2 8 (by decide)]; exact a3, by rw [b2 19 (by decide), a2 19 (by decide)]; exact z1, ?_, ?_, ?_⟩
  · rw [dX7_row, eX7_row_0, mq_refuse1 h h0 h3, mm_bd_ret, mq_rcount h8, mm_bd_ret, if_pos (show nI R < 12 from nI_lt (b := 12) hR (by decide)), mq_asksr hH, mm_bd_ret, mb_f (fun q => q rfl), if_pos rfl, mq_fell, mm_bd_ret, ← eS, a1, mm_bd_ret, c0, b1, mm_bd_ret]
  · rw [b2 9 (by decide), b2 10 (by decide)]
    intro j hj
    obtain ⟨p, q⟩ := a4 j hj
    rw [p, q, F1 9 (by decide), F1 10 (by decide)]
    exact ⟨rfl, rfl⟩
  · rw [b2 9 (by decide)]; exact a5
  · rw [b2 9 (by decide), b2 10 (by decide)]; exact a6
theorem mr_row1 {C R : Nat} (h6 : S 27 6 = nI C) (hC : C ≤ 3) (h7 : S 27 7 = nI R) (hR : R ≤ 12) (h : C = 0 ∨ R = 12) : mm_runD (d + 1) 129 [.inr 27] S = some (mm_put S 27 0 1, 0, 0, 0, 0) := by
  rw [dX8_row, eX8_row_0, h6, h7]
  by_cases q : C = 0
  · rw [if_pos (by rw [q]; rfl), mp_pp, if_neg (by decide)]
  · rw [if_neg (nI_ne0 (by omega) (by omega)), if_pos (by rw [show R = 12 by omega]; rfl), mp_pp, if_neg (by decide)]
theorem mr_row2 (hK : mr_K S k) (hW : kW k) {C n R : Nat} {col : Nat → Nat} {y : Nat → Int32} (h6 : S 27 6 = nI C) (hC : C ≤ 3) (h0 : 0 < C) (hc : ∀ c, c < C → S 31 c = nI (col c)) (h8 : S 27 8 = nI n) (hn : n ≤ 40) (h7 : S 27 7 = nI R) (hR : R < 12) (hy : ∀ i, i < n → S 34 i = y i) (hh : hnd k C col y n) (hL : ∀ t, t ∈ stk k C col y n → t < 8) :
    ∃ f, (stk k C col y n ≠ [] → mm_runD (d + 3) 129 [.inr 27] S = some (mm_put (mm_put (mm_stc (mm_put S 27 0 0) 36 f) 27 0 2) 27 8 0, 0, 0, 0, 0)) ∧
      (stk k C col y n = [] → ∃ g, mm_runD (d + 3) 129 [.inr 27] S = some (mm_put (mm_put (mm_put (mm_stc (mm_put (mm_put (mm_stc (mm_put S 27 0 0) 36 f) 27 0 0) 27 8 0) 32 g) 33 R (nI n)) 27 7 (nI (R + 1))) 27 24 N1, 0, 0, 0, nI R) ∧ (∀ j, j < 40 * R → g j = S 32 j) ∧ ∀ j, j < n → g (40 * R + j) = y j) := by
  obtain ⟨f, h1⟩ := mr_nextr (d := d) (S := mm_put S 27 0 0) (n := n) hK hW hC h6 hc hy hn hh
  refine ⟨f, ?_⟩
  have h8' : (mm_put S 27 0 0) 27 8 = nI n := h8
  obtain ⟨g, b1, b2, b3⟩ := mr_row_loop (d := d + 2) (R := R) (n := n) (x := y) hn hR (n - 0) 0 (S 32) (mm_put (mm_put (mm_stc (mm_put S 27 0 0) 36 f) 27 0 0) 27 8 0) rfl (by omega) h7 hy
  have start : ∀ Z, mm_runD (d + 3) 129 [.inr 27] S = Z ↔ mm_E (mm_runD (d + 2)) pX8_row 1 0 [some (.inr 27), none, none] [] S 0 0 = Z := fun Z => by rw [dX8_row]
  constructor
  · intro hs
    cases hs' : stk k C col y n with
    | nil => exact absurd hs' hs
    | cons t r =>
      rw [hs'] at h1 hL
      have ht8 := hL t (by simp)
      rw [start, eX8_row_0, h6, if_neg (nI_ne0 h0 (by omega)), h7, if_neg (show ¬ nI R = 12 from fun z => absurd ((nI_eq (b := 12) (by omega) (by omega)).mp z) (by omega)), mp_pp, if_pos (show (0 : Int32) ≤ 0 by decide), h8', h1, mm_bd_ret, if_neg (show ¬ hdv (t :: r) = -1 from fun q => (nn_a1 (a := t) (by omega)).mp q), mp_pk _ _ _ (by decide), mp_pp, if_neg (by decide)]
  · intro hs
    rw [hs] at h1
    refine ⟨g, ?_, fun j hj => b2 j (by omega), fun j hj => b3 j (by omega) hj⟩
    have e : mm_stc (mm_put (mm_put (mm_stc (mm_put S 27 0 0) 36 f) 27 0 0) 27 8 0) 32 (S 32) = mm_put (mm_put (mm_stc (mm_put S 27 0 0) 36 f) 27 0 0) 27 8 0 := mm_stc_self (mm_put (mm_put (mm_stc (mm_put S 27 0 0) 36 f) 27 0 0) 27 8 0) 32
    rw [e, nI_0] at b1
    rw [start, eX8_row_0, h6, if_neg (nI_ne0 h0 (by omega)), h7, if_neg (show ¬ nI R = 12 from fun z => absurd ((nI_eq (b := 12) (by omega) (by omega)).mp z) (by omega)), mp_pp, if_pos (show (0 : Int32) ≤ 0 by decide), h8', h1, mm_bd_ret, if_pos (show hdv [] = -1 from rfl), mp_pk _ _ _ (by decide), mp_pp, if_pos (show (0 : Int32) ≤ 0 by decide)]
    exact b1
/-! answer -/
theorem mr_can0 (h6 : S 27 6 = nI 0) : mm_runD (d + 1) 135 [.inr 27] S = some (mm_put S 27 0 1, 0, 0, 0, 0) := by
  rw [dX8_canAnswer, eX8_canAnswer_0, h6, if_pos nI_0, mp_pp, if_neg (by decide)]
theorem mr_can (hK : mr_K S k) (hW : kW k) {C n : Nat} {col : Nat → Nat} {y : Nat → Int32} (h6 : S 27 6 = nI C) (hC : C ≤ 3) (h0 : 0 < C) (hc : ∀ c, c < C → S 31 c = nI (col c)) (h8 : S 27 9 = nI n) (hn : n ≤ 60) (hy : ∀ i, i < n → S 35 i = y i) (hh : hnd k C col y n) (hL : ∀ t, t ∈ stk k C col y n → t < 8) :
    ∃ f, (stk k C col y n ≠ [] → mm_runD (d + 3) 135 [.inr 27] S = some (mm_put (mm_stc S 36 f) 27 0 2, 0, 0, 0, 0)) ∧ (stk k C col y n = [] → mm_runD (d + 3) 135 [.inr 27] S = some (mm_put (mm_stc S 36 f) 27 0 0, 0, 0, 0, 1)) := by
  obtain ⟨f, h1⟩ := mr_nextv (d := d) (S := S) (n := n) hK hW hC h6 hc hy hn hh
  refine ⟨f, ?_⟩
  have start : ∀ Z, mm_runD (d + 3) 135 [.inr 27] S = Z ↔ mm_E (mm_runD (d + 2)) pX8_canAnswer 2 0 [some (.inr 27)] [] S 0 0 = Z := fun Z => by rw [dX8_canAnswer]
  rw [start, start, eX8_canAnswer_0, h6, if_neg (nI_ne0 h0 (by omega)), h8, h1, mm_bd_ret]
  cases hs : stk k C col y n with
  | nil =>
    rw [if_pos (show hdv [] = -1 from rfl), mp_pp, if_pos rfl]
    exact ⟨fun q => absurd rfl q, fun _ => rfl⟩
  | cons t r =>
    rw [hs] at hL
    have ht8 := hL t (by simp)
    rw [if_neg (show ¬ hdv (t :: r) = -1 from fun q => (nn_a1 (a := t) (by omega)).mp q), mp_pp, if_neg (by decide)]
    exact ⟨fun _ => rfl, fun q => by cases q⟩
theorem mq_whole0 (h : S 0 2 = nI 0) : mm_runD (d + 2) 108 [.inr 0] S = some (S, 1, 6, 1, 0) := by
  rw [dX7_refuseWithoutWholeValues, eX7_refuseWithoutWholeValues_0, mq_refuse0 h, mm_bd_thr]
theorem mq_whole1 {C n : Nat} {L : List Nat} (h : S 0 2 = nI C) (h0 : 0 < C) (h3 : C ≤ 3) (hH : mq_Hv S n L) (hL : L ≠ []) : mm_runD (d + 2) 108 [.inr 0] S = some (S, 1, 6, 2, 0) := by
  rw [dX7_refuseWithoutWholeValues, eX7_refuseWithoutWholeValues_0, mq_refuse1 h h0 h3, mm_bd_ret, mq_asksv hH, mm_bd_ret, mb_t hL, if_neg (by decide)]
theorem mq_whole2 {C n : Nat} (h : S 0 2 = nI C) (h0 : 0 < C) (h3 : C ≤ 3) (hH : mq_Hv S n []) : mm_runD (d + 2) 108 [.inr 0] S = some (S, 0, 0, 0, 0) := by
  rw [dX7_refuseWithoutWholeValues, eX7_refuseWithoutWholeValues_0, mq_refuse1 h h0 h3, mm_bd_ret, mq_asksv hH, mm_bd_ret, mb_f (fun q => q rfl), if_pos rfl]
/-- what both sides know of the rows; G: the signs -/
def rws (S : Mem) (k : KK) (C R : Nat) (sz : Nat → Nat) : Prop := R ≤ 12 ∧ S 8 2 = nI R ∧ S 27 7 = nI R ∧ ∀ r, r < R → sz r ≤ 40 ∧ S 33 r = nI (sz r) ∧ sq (fun j => kar k (S 32 j)) (sz r) C (40 * r) ∧ (∀ p, 40 * r ≤ p → p < 40 * r + sz r → S 9 p = S 32 p ∧ sgn k (S 32 p)) ∧ mends (fun j => kar k (S 32 j)) (S 10) (40 * r) (40 * r + sz r)
theorem mq_answer_loop (hK : mq_K S k) (hW : kW k) {nv C R : Nat} {sz : Nat → Nat} {X : Nat → Int32} (h0 : S 0 2 = nI C) (hC : C ≤ 3) (h15 : S 15 4 = nI nv) (hnv : nv ≤ 60) (hX : ∀ v, v < nv → S 16 v = X v) (hv : mends (fun j => kar k (X j)) (S 17) 0 nv) (hvq : sq (fun j => kar k (X j)) nv C 0) (hr : rws S k C R sz) :
    ∀ (n i : Nat), R - i = n → i ≤ R → mm_E (mm_runD (d + 45)) pX7_answer 1 7 [some (.inr 0), some (.inl (nI i))] [] S 0 0 = some (S, 0, 0, 0, ff (rTk k C (S 32) X) n i) := by
  intro n
  obtain ⟨r1, r2, r3, r4⟩ := hr
  induction n with
  | zero =>
    intro i hn hi
    rw [eX7_answer_7, mq_rcount r2, mm_bd_ret, if_pos (nI_le (by omega) (by omega))] <;> rfl
  | succ n ih =>
    intro i hn hi
    obtain ⟨q1, q2, q3, q4, q5⟩ := r4 i (by omega)
    have T := mq_rowTakes (d := d) (S := S) hK hW h0 hC h15 hnv (by omega) q1 (fun p a b => (q4 p a b).1) hX (fun p a b => (q4 p a b).2) q5 hv q3 hvq
    rw [eX7_answer_7, mq_rcount r2, mm_bd_ret, if_neg (nI_ge (by omega) (by omega)), T, mm_bd_ret]
    by_cases q : rTk k C (S 32) X i
    · rw [mb_t q, if_neg (by decide), ff_t q]
    · rw [mb_f q, if_pos rfl, ff_f q, nI_1]
      exact ih (i + 1) (by omega) (by omega)
theorem mq_answer (hK : mq_K S k) (hW : kW k) {nv C R : Nat} {sz : Nat → Nat} {X : Nat → Int32} (h0 : S 0 2 = nI C) (hC0 : 0 < C) (hC : C ≤ 3) (hH : mq_Hv S nv []) (hX : ∀ v, v < nv → S 16 v = X v) (hx : ∀ v, v < nv → sgn k (X v)) (hvq : sq (fun j => kar k (X j)) nv C 0) (hr : rws S k C R sz) :
    ∃ S', mm_runD (d + 46) 101 [.inr 0] S = some (S', 0, 0, 0, ff (rTk k C (S 32) X) R 0) ∧ mfr [17] S S' := by
  obtain ⟨S1, a1, a2, a3⟩ := mq_findEndsv (d := d + 42) hK hW hH.2.1 hvq hx hH.1 hX
  have hr1 : rws S1 k C R sz := by
    unfold rws
    rw [a2 8 (by decide), a2 27 (by decide), a2 33 (by decide), a2 32 (by decide), a2 9 (by decide), a2 10 (by decide)]
    exact hr
  have L := mq_answer_loop (d := d) (S := S1) (mq_K_fr hK a2 rfl) hW (by rw [a2 0 (by decide)]; exact h0) hC (by rw [a2 15 (by decide)]; exact hH.1) hH.2.1 (by rw [a2 16 (by decide)]; exact hX) a3 hvq hr1 (R - 0) 0 rfl (by omega)
  rw [a2 32 (by decide), nI_0] at L
  exact ⟨S1, by rw [dX7_answer, eX7_answer_0, mq_whole2 h0 hC0 hC hH, mm_bd_ret, a1, mm_bd_ret]; exact L, a2⟩
theorem mr_answer_loop (hK : mr_K S k) (hW : kW k) {nv C R : Nat} {sz : Nat → Nat} (h6 : S 27 6 = nI C) (hC : C ≤ 3) (h9 : S 27 9 = nI nv) (hnv : nv ≤ 60) (hx : ∀ v, v < nv → ∃ m, m < kM k ∧ S 35 v = nI m) (hvq : sq (fun j => kar k (S 35 j)) nv C 0) (hr : rws S k C R sz) :
    ∀ (n i : Nat) (f : Nat → Int32), R - i = n → i ≤ R → ∃ f', mm_E (mm_runD (d + 4)) pX8_answer 1 7 [some (.inr 27), some (.inl (nI i))] [] (mm_stc S 37 f) 0 0 = some (mm_stc S 37 f', 0, 0, 0, ff (rTk k C (S 32) (S 35)) n i) := by
  intro n
  obtain ⟨r1, r2, r3, r4⟩ := hr
  induction n with
  | zero =>
    intro i f hn hi
    have r3' : (mm_stc S 37 f) 27 7 = nI R := r3
    exact ⟨f, by rw [eX8_answer_7, r3', if_pos (nI_le (by omega) (by omega))] <;> rfl⟩
  | succ n ih =>
    intro i f hn hi
    obtain ⟨q1, q2, q3, q4, q5⟩ := r4 i (by omega)
    have r3' : (mm_stc S 37 f) 27 7 = nI R := r3
    obtain ⟨f1, T⟩ := mr_rowTakes (d := d) (S := mm_stc S 37 f) hK hW h6 hC h9 hnv (by omega) q1 q2 (fun p a b => (q4 p a b).2) hx q3 hvq
    have e : mm_stc (mm_stc S 37 f) 37 f1 = mm_stc S 37 f1 := by
      funext x
      by_cases e : x = 37
      · subst e; rw [mm_stc_at, mm_stc_at]
      · rw [mm_stc_ne _ _ e, mm_stc_ne _ _ e, mm_stc_ne _ _ e]
    rw [e] at T
    by_cases q : rTk k C (S 32) (S 35) i
    · refine ⟨f1, ?_⟩
      rw [mb_t (show rTk k C ((mm_stc S 37 f) 32) ((mm_stc S 37 f) 35) i from q)] at T
      rw [eX8_answer_7, r3', if_neg (nI_ge (by omega) (by omega)), T, mm_bd_ret, if_neg (by decide), ff_t q]
    · obtain ⟨f2, h2⟩ := ih (i + 1) f1 (by omega) (by omega)
      refine ⟨f2, ?_⟩
      rw [mb_f (show ¬ rTk k C ((mm_stc S 37 f) 32) ((mm_stc S 37 f) 35) i from q)] at T
      rw [eX8_answer_7, r3', if_neg (nI_ge (by omega) (by omega)), T, mm_bd_ret, if_pos rfl, ff_f q, nI_1]
      exact h2
theorem mq_empty {C : Nat} {col : Nat → Nat} (h : S 0 2 = nI C) (h3 : C ≤ 3) (hc : ∀ c, c < C → S 7 c = nI (col c)) : ∃ S', mm_runD (d + 3) 103 [.inr 0] S = some (S', 0, 0, 0, 0) ∧ mfr [15, 18] S S' ∧ mq_Hv S' 0 (seg col 0 C) := by
  obtain ⟨S', a1, a2, a3⟩ := mq_beginv (d := d) (S := S) h3 hc
  exact ⟨S', by rw [dX7_empty, eX7_empty_0, h, a1, mm_bd_ret], a2, a3⟩
theorem mr_empty : mm_runD (d + 1) 131 [.inr 27] S = some (mm_put (mm_put S 27 0 0) 27 9 0, 0, 0, 0, 0) := by
  rw [dX8_empty, eX8_empty_0]
end
end
section
/-! PURE: patterns one behind another, tables of lines -/
/-- where the pattern that begins at p has ended -/
noncomputable def bhd (g : Nat → Nat) (p : Nat) : Nat := @dite Nat (∃ l, sq g l 1 p) (Classical.propDecidable _) (fun h => p + Classical.choose h) (fun _ => p)
theorem bhd_eq {g : Nat → Nat} {l p : Nat} (h : sq g l 1 p) : bhd g p = p + l := by
  unfold bhd
  rw [dif_pos ⟨l, h⟩, sq_det (Classical.choose_spec (⟨l, h⟩ : ∃ l, sq g l 1 p)) h]
/-- the i-th of the patterns from s on -/
noncomputable def nth (g : Nat → Nat) (s : Nat) : Nat → Nat
  | 0 => s
  | i + 1 => bhd g (nth g s i)
theorem nth_split {g : Nat → Nat} {l n s : Nat} (h : sq g l n s) : ∀ i, i ≤ n → ∃ la lb, l = la + lb ∧ nth g s i = s + la ∧ sq g lb (n - i) (s + la) := by
  intro i
  induction i with
  | zero => intro _; exact ⟨0, l, by omega, rfl, h⟩
  | succ i ih =>
    intro hi
    obtain ⟨la, lb, h1, h2, h3⟩ := ih (by omega)
    have h4 : sq g lb (1 + (n - (i + 1))) (s + la) := by rw [show 1 + (n - (i + 1)) = n - i by omega]; exact h3
    obtain ⟨l1, l2, h5, h6, h7⟩ := sq_split h4
    refine ⟨la + l1, l2, by omega, ?_, by rw [← Nat.add_assoc]; exact h7⟩
    show bhd g (nth g s i) = s + (la + l1)
    rw [h2, bhd_eq h6, Nat.add_assoc]
theorem nth_in {g : Nat → Nat} {l n s i : Nat} (h : sq g l n s) (hi : i < n) : ∃ la lb, nth g s i = s + la ∧ sq g lb 1 (s + la) ∧ la + lb ≤ l ∧ 0 < lb := by
  obtain ⟨la, lb, h1, h2, h3⟩ := nth_split h i (by omega)
  have h4 : sq g lb (1 + (n - (i + 1))) (s + la) := by rw [show 1 + (n - (i + 1)) = n - i by omega]; exact h3
  obtain ⟨l1, l2, h5, h6, h7⟩ := sq_split h4
  exact ⟨la, l1, h2, h6, by omega, sq_pos (n := 0) h6⟩
/-- a place within a row -/
def okp (R : Nat) (sz : Nat → Nat) (p : Nat) : Prop := ∃ r, r < R ∧ 40 * r ≤ p ∧ p < 40 * r + sz r
/-- the parts' numbers -/
noncomputable def gk (S : Mem) (k : KK) : Nat → Nat := fun j => kar k (S 32 j)
section
variable {S : Mem} {k : KK} {C R : Nat} {sz : Nat → Nat}
theorem okp_lt (h : rws S k C R sz) {p : Nat} (hp : okp R sz p) : p < 480 := by
  obtain ⟨r, h1, h2, h3⟩ := hp
  have := (h.2.2.2 r h1).1
  have := h.1
  omega
theorem okp_sgn (h : rws S k C R sz) {p : Nat} (hp : okp R sz p) : sgn k (S 32 p) := by
  obtain ⟨r, h1, h2, h3⟩ := hp
  exact ((h.2.2.2 r h1).2.2.2.1 p h2 h3).2
theorem okp_9 (h : rws S k C R sz) {p : Nat} (hp : okp R sz p) : S 9 p = S 32 p := by
  obtain ⟨r, h1, h2, h3⟩ := hp
  exact ((h.2.2.2 r h1).2.2.2.1 p h2 h3).1
/-- the pattern at a place of a row lies in the row -/
theorem okp_pat (h : rws S k C R sz) {p : Nat} (hp : okp R sz p) : ∃ l, sq (gk S k) l 1 p ∧ 0 < l ∧ p + l ≤ 480 ∧ ∀ j, p ≤ j → j < p + l → okp R sz j := by
  obtain ⟨r, h1, h2, h3⟩ := hp
  obtain ⟨q1, q2, q3, q4, q5⟩ := h.2.2.2 r h1
  obtain ⟨l, a1, a2⟩ := sq_at (i := p - 40 * r) q3 (by omega)
  rw [show 40 * r + (p - 40 * r) = p by omega] at a1
  have := h.1
  exact ⟨l, a1, sq_pos (n := 0) a1, by omega, fun j b1 b2 => ⟨r, h1, by omega, by omega⟩⟩
theorem okp_10 (h : rws S k C R sz) {p : Nat} (hp : okp R sz p) : S 10 p = nI (bhd (gk S k) p) := by
  obtain ⟨r, h1, h2, h3⟩ := hp
  obtain ⟨q1, q2, q3, q4, q5⟩ := h.2.2.2 r h1
  obtain ⟨l, a1, a2, a3⟩ := q5 p h2 h3
  rw [a3, bhd_eq (g := gk S k) a1]
theorem okp_part (h : rws S k C R sz) {p i : Nat} (hp : okp R sz p) (hi : i < kar k (S 32 p)) : okp R sz (nth (gk S k) (p + 1) i) := by
  obtain ⟨l, a1, a2, a3, a4⟩ := okp_pat h hp
  obtain ⟨l1, e1, a5⟩ := sq_one a1
  obtain ⟨la, lb, b1, b2, b3, b4⟩ := nth_in (i := i) (n := kar k (S 32 p)) a5 hi
  rw [b1]
  exact a4 _ (by omega) (by omega)
theorem okp_col (h : rws S k C R sz) {r c : Nat} (hr : r < R) (hc : c < C) : okp R sz (nth (gk S k) (40 * r) c) := by
  obtain ⟨q1, q2, q3, q4, q5⟩ := h.2.2.2 r hr
  obtain ⟨la, lb, b1, b2, b3, b4⟩ := nth_in (g := gk S k) (i := c) q3 hc
  rw [b1]
  exact ⟨r, hr, by omega, by omega⟩
theorem okp_lt2 (h : rws S k C R sz) {p : Nat} (hp : okp R sz p) : bhd (gk S k) p ≤ 480 := by
  obtain ⟨l, a1, a2, a3, a4⟩ := okp_pat h hp
  rw [bhd_eq a1]; exact a3
end
section
variable {d : Nat} {S : Mem} {k : KK} {C R : Nat} {sz : Nat → Nat}
/-- the reference's behind at a place of a row -/
theorem mr_bh (hK : mr_K S k) (hW : kW k) (h : rws S k C R sz) {p : Nat} (hp : okp R sz p) : mm_runD (d + 2) 132 [.inr 27, .inr 32, .inl (nI p)] S = some (S, 0, 0, 0, nI (bhd (gk S k) p)) := by
  obtain ⟨l, a1, a2, a3, a4⟩ := okp_pat h hp
  rw [mr_behindr hK hW a1 a3 (fun j b1 b2 => okp_sgn h (a4 j b1 b2)), bhd_eq a1]
end
/-! tables: places, lines, the places' types, the lines' rows, the cells (-1, or where a pattern begins) -/
abbrev TB : Type := Nat × Nat × (Nat → Nat) × (Nat → Nat) × (Nat → Nat → Int32)
def tP (T : TB) : Nat := T.1
def tL (T : TB) : Nat := T.2.1
def tT (T : TB) : Nat → Nat := T.2.2.1
def tR (T : TB) : Nat → Nat := T.2.2.2.1
def tC (T : TB) : Nat → Nat → Int32 := T.2.2.2.2
/-- a cell's sign -/
def sgc (G : Nat → Int32) (y : Int32) : Int32 := if y = N1 then N1 else G y.toNatClampNeg
theorem sgc_N (G : Nat → Int32) : sgc G N1 = N1 := if_pos rfl
theorem sgc_p {G : Nat → Int32} {p : Nat} (hp : p < 480) : sgc G (nI p) = G p := by
  unfold sgc
  rw [if_neg (fun q => (nn_a1 (a := p) (by omega)).mp q), nI_clamp (by omega)]
/-- a cell as the class keeps it -/
def nrm (G : Nat → Int32) (y : Int32) : Int32 := if sgc G y = N1 then N1 else y
def wfT (R : Nat) (sz : Nat → Nat) (T : TB) : Prop := tP T ≤ 40 ∧ tL T ≤ 60 ∧ ∀ l c, l < tL T → c < tP T → tC T l c = N1 ∨ ∃ p, okp R sz p ∧ tC T l c = nI p
/-- a line with an EITHER becomes two -/
noncomputable def dbT (g : Nat → Nat) (T : TB) (l c : Nat) : TB := (tP T, tL T + 1, tT T, (fun l' => if l' ≤ l then tR T l' else tR T (l' - 1)),
  fun l' c' => if c' = c ∧ l' = l then nI ((tC T l c).toNatClampNeg + 1) else if c' = c ∧ l' = l + 1 then nI (bhd g ((tC T l c).toNatClampNeg + 1)) else if l' ≤ l then tC T l' c' else tC T (l' - 1) c')
/-- no EITHER is left: from line l, place c on -/
noncomputable def spl (G : Nat → Int32) (g : Nat → Nat) : Nat → TB → Nat → Nat → Option (Option TB)
  | 0, _, _, _ => none
  | f + 1, T, l, c => if tL T ≤ l then some (some T) else if tP T ≤ c then spl G g f T (l + 1) 0 else if sgc G (tC T l c) = N2 then (if tL T = 60 then some none else spl G g f (dbT g T l c) l c) else spl G g f T l (c + 1)
theorem spl_mono {G : Nat → Int32} {g : Nat → Nat} {r : Option TB} : ∀ f T l c, spl G g f T l c = some r → spl G g (f + 1) T l c = some r := by
  intro f
  induction f with
  | zero => intro T l c h; cases h
  | succ f ih =>
    intro T l c h
    unfold spl at h ⊢
    by_cases h1 : tL T ≤ l
    · rw [if_pos h1] at h ⊢; exact h
    · rw [if_neg h1] at h ⊢
      by_cases h2 : tP T ≤ c
      · rw [if_pos h2] at h ⊢; exact ih _ _ _ h
      · rw [if_neg h2] at h ⊢
        by_cases h3 : sgc G (tC T l c) = N2
        · rw [if_pos h3] at h ⊢
          by_cases h4 : tL T = 60
          · rw [if_pos h4] at h ⊢; exact h
          · rw [if_neg h4] at h ⊢; exact ih _ _ _ h
        · rw [if_neg h3] at h ⊢; exact ih _ _ _ h
theorem spl_some {G : Nat → Int32} {g : Nat → Nat} : ∀ (n : Nat) (T : TB) (l c : Nat), tL T ≤ 60 → l ≤ tL T → c ≤ tP T → (60 - tL T) * (tP T + 2) + (tL T - l) * (tP T + 1) + (tP T - c) < n → ∃ r, spl G g n T l c = some r := by
  intro n
  induction n with
  | zero => intro T l c _ _ _ h; omega
  | succ n ih =>
    intro T l c h60 hl hc hn
    unfold spl
    by_cases h1 : tL T ≤ l
    · rw [if_pos h1]; exact ⟨_, rfl⟩
    · rw [if_neg h1]
      by_cases h2 : tP T ≤ c
      · rw [if_pos h2]
        refine ih T (l + 1) 0 h60 (by omega) (by omega) ?_
        rw [show tL T - l = (tL T - (l + 1)) + 1 by omega, Nat.add_mul] at hn
        omega
      · rw [if_neg h2]
        by_cases h3 : sgc G (tC T l c) = N2
        · rw [if_pos h3]
          by_cases h4 : tL T = 60
          · rw [if_pos h4]; exact ⟨_, rfl⟩
          · rw [if_neg h4]
            refine ih (dbT g T l c) l c (show tL T + 1 ≤ 60 by omega) (show l ≤ tL T + 1 by omega) hc ?_
            show (60 - (tL T + 1)) * (tP T + 2) + (tL T + 1 - l) * (tP T + 1) + (tP T - c) < n
            rw [show 60 - tL T = (60 - (tL T + 1)) + 1 by omega, Nat.add_mul] at hn
            rw [show tL T + 1 - l = (tL T - l) + 1 by omega, Nat.add_mul]
            omega
        · rw [if_neg h3]
          exact ih T l (c + 1) h60 hl (by omega) (by omega)
/-- all fuel that is enough gives the same -/
theorem spl_det {G : Nat → Int32} {g : Nat → Nat} {f f' : Nat} {T : TB} {l c : Nat} {r r' : Option TB} (h : spl G g f T l c = some r) (h' : spl G g f' T l c = some r') : r = r' := by
  have up : ∀ (n f : Nat) r, spl G g f T l c = some r → spl G g (f + n) T l c = some r := by
    intro n
    induction n with
    | zero => intro f r h; exact h
    | succ n ih => intro f r h; exact spl_mono _ _ _ _ (ih f r h)
  have a := up f' f r h
  have b := up f f' r' h'
  rw [Nat.add_comm] at b
  rw [a] at b
  exact Option.some.inj b
/-- the table when no EITHER is left; none: too great -/
noncomputable def spT (G : Nat → Int32) (g : Nat → Nat) (T : TB) : Option TB := (spl G g ((60 - tL T) * (tP T + 2) + (tL T - 0) * (tP T + 1) + (tP T - 0) + 1) T 0 0).getD none
theorem spT_eq {G : Nat → Int32} {g : Nat → Nat} {T : TB} {f : Nat} {r : Option TB} (h : spl G g f T 0 0 = some r) (h60 : tL T ≤ 60) : spT G g T = r := by
  obtain ⟨r', h'⟩ := spl_some (G := G) (g := g) _ T 0 0 h60 (by omega) (by omega) (Nat.lt_succ_self _)
  unfold spT
  rw [h', spl_det h' h]
  rfl
theorem spT_is {G : Nat → Int32} {g : Nat → Nat} {T : TB} (h60 : tL T ≤ 60) : ∃ f, spl G g f T 0 0 = some (spT G g T) := by
  obtain ⟨r', h'⟩ := spl_some (G := G) (g := g) _ T 0 0 h60 (by omega) (by omega) (Nat.lt_succ_self _)
  exact ⟨_, by rw [spT_eq h' h60]; exact h'⟩
/-- a branch keeps a line -/
def kpl (G : Nat → Int32) (T : TB) (c m l : Nat) : Prop := sgc G (tC T l c) = N1 ∨ sgc G (tC T l c) = nI m
/-- its cells -/
noncomputable def wdn (G : Nat → Int32) (g : Nat → Nat) (T : TB) (c f l : Nat) : Nat → Int32 := fun j => if j < c then tC T l j else if j < c + f then (if sgc G (tC T l c) = N1 then N1 else nI (nth g ((tC T l c).toNatClampNeg + 1) (j - c))) else tC T l (j + 1 - f)
/-- the lines that are kept, of the first l -/
noncomputable def brL (G : Nat → Int32) (g : Nat → Nat) (T : TB) (c m f : Nat) : Nat → Nat × (Nat → Nat) × (Nat → Nat → Int32)
  | 0 => (0, (fun _ => 0), fun _ _ => N1)
  | l + 1 => @ite _ (kpl G T c m l) (Classical.propDecidable _) ((brL G g T c m f l).1 + 1, (fun j => if j = (brL G g T c m f l).1 then tR T l else (brL G g T c m f l).2.1 j), fun j => if j = (brL G g T c m f l).1 then wdn G g T c f l else (brL G g T c m f l).2.2 j) (brL G g T c m f l)
theorem brL_le {G : Nat → Int32} {g : Nat → Nat} {T : TB} {c m f : Nat} : ∀ l, (brL G g T c m f l).1 ≤ l := by
  intro l
  induction l with
  | zero => exact Nat.le_refl _
  | succ l ih =>
    unfold brL
    by_cases h : kpl G T c m l
    · rw [if_pos h]; show (brL G g T c m f l).1 + 1 ≤ l + 1; omega
    · rw [if_neg h]; omega
theorem brL_t {G : Nat → Int32} {g : Nat → Nat} {T : TB} {c m f l : Nat} (h : kpl G T c m l) : brL G g T c m f (l + 1) = ((brL G g T c m f l).1 + 1, (fun j => if j = (brL G g T c m f l).1 then tR T l else (brL G g T c m f l).2.1 j), fun j => if j = (brL G g T c m f l).1 then wdn G g T c f l else (brL G g T c m f l).2.2 j) := if_pos h
theorem brL_f {G : Nat → Int32} {g : Nat → Nat} {T : TB} {c m f l : Nat} (h : ¬ kpl G T c m l) : brL G g T c m f (l + 1) = brL G g T c m f l := if_neg h
/-- the types of a branch's places -/
def brTy (k : KK) (m : Nat) (t : Nat → Nat) (c : Nat) : Nat → Nat := fun j => if j < c then t j else if j < c + kFc k m then kFt k m (j - c) else t (j + 1 - kFc k m)
noncomputable def brT (G : Nat → Int32) (g : Nat → Nat) (k : KK) (T : TB) (c m : Nat) : TB := (tP T - 1 + kFc k m, (brL G g T c m (kFc k m) (tL T)).1, brTy k m (tT T) c, (brL G g T c m (kFc k m) (tL T)).2.1, (brL G g T c m (kFc k m) (tL T)).2.2)
/-- the first table -/
noncomputable def fsT (g : Nat → Nat) (C R : Nat) (col : Nat → Nat) : TB := (C, R, col, (fun r => r), fun r c => nI (nth g (40 * r) c))
end
section
/-! PURE: the reference's table: doubled, part -/
def tbR (S : Mem) (T : TB) : Prop := S 27 17 = nI (tP T) ∧ S 27 18 = nI (tL T) ∧ (∀ c, c < tP T → S 38 c = nI (tT T c)) ∧ (∀ l, l < tL T → S 39 l = nI (tR T l)) ∧ ∀ l c, l < tL T → c < tP T → S 40 (44 * l + c) = tC T l c
section
variable {S : Mem} {k : KK} {C R : Nat} {sz : Nat → Nat}
theorem wfT_E (hr : rws S k C R sz) {T : TB} (hw : wfT R sz T) {l c : Nat} (hl : l < tL T) (hc : c < tP T) (h : sgc (S 32) (tC T l c) = N2) : ∃ p, okp R sz p ∧ tC T l c = nI p ∧ S 32 p = N2 ∧ (tC T l c).toNatClampNeg = p ∧ okp R sz (p + 1) ∧ okp R sz (bhd (gk S k) (p + 1)) := by
  rcases hw.2.2 l c hl hc with q | ⟨p, hp, q⟩
  · rw [q, sgc_N] at h; exact absurd h (by decide)
  · have h4 := okp_lt hr hp
    rw [q, sgc_p h4] at h
    have h2 : kar k (S 32 p) = 2 := by rw [h]; exact kar_N2
    exact ⟨p, hp, q, h, by rw [q, nI_clamp (by omega)], okp_part hr hp (i := 0) (by omega), okp_part hr hp (i := 1) (by omega)⟩
theorem wfT_db (hr : rws S k C R sz) {T : TB} (hw : wfT R sz T) {l c : Nat} (hl : l < tL T) (hc : c < tP T) (h6 : tL T ≠ 60) (h : sgc (S 32) (tC T l c) = N2) : wfT R sz (dbT (gk S k) T l c) := by
  obtain ⟨p, h1, h2, h3, h4, h5, h7⟩ := wfT_E hr hw hl hc h
  obtain ⟨w1, w2, w3⟩ := hw
  refine ⟨w1, show tL T + 1 ≤ 60 by omega, fun l' c' a b => ?_⟩
  have a' : l' < tL T + 1 := a
  have b' : c' < tP T := b
  show (if c' = c ∧ l' = l then nI ((tC T l c).toNatClampNeg + 1) else if c' = c ∧ l' = l + 1 then nI (bhd (gk S k) ((tC T l c).toNatClampNeg + 1)) else if l' ≤ l then tC T l' c' else tC T (l' - 1) c') = N1 ∨ ∃ p, okp R sz p ∧ (if c' = c ∧ l' = l then nI ((tC T l c).toNatClampNeg + 1) else if c' = c ∧ l' = l + 1 then nI (bhd (gk S k) ((tC T l c).toNatClampNeg + 1)) else if l' ≤ l then tC T l' c' else tC T (l' - 1) c') = nI p
  rw [h4]
  split
  · exact Or.inr ⟨_, h5, rfl⟩
  · split
    · exact Or.inr ⟨_, h7, rfl⟩
    · split
      · exact w3 l' c' (by omega) b'
      · exact w3 (l' - 1) c' (by omega) b'
theorem spl_wf (hr : rws S k C R sz) {T' : TB} : ∀ f T l c, wfT R sz T → spl (S 32) (gk S k) f T l c = some (some T') → wfT R sz T' ∧ tP T' = tP T ∧ tT T' = tT T := by
  intro f
  induction f with
  | zero => intro T l c _ h; cases h
  | succ f ih =>
    intro T l c hw h
    unfold spl at h
    by_cases h1 : tL T ≤ l
    · rw [if_pos h1] at h
      cases h
      exact ⟨hw, rfl, rfl⟩
    · rw [if_neg h1] at h
      by_cases h2 : tP T ≤ c
      · rw [if_pos h2] at h; exact ih _ _ _ hw h
      · rw [if_neg h2] at h
        by_cases h3 : sgc (S 32) (tC T l c) = N2
        · rw [if_pos h3] at h
          by_cases h4 : tL T = 60
          · rw [if_pos h4] at h; cases h
          · rw [if_neg h4] at h; exact ih (dbT (gk S k) T l c) _ _ (wfT_db hr hw (by omega) (by omega) h4 h3) h
        · rw [if_neg h3] at h; exact ih _ _ _ hw h
end
section
variable {d : Nat} {S : Mem} {k : KK} {C R : Nat} {sz : Nat → Nat}
theorem mr_db_in {l c p kk P : Nat} {x1 x2 x3 : Int32} (h17 : S 27 17 = nI P) (hP : P ≤ 40) (hk : 0 < kk) (hk6 : kk ≤ 60) : ∀ (n i : Nat) (v : Nat → Int32), P - i = n → i ≤ P →
    ∃ v' o, mm_E (mm_runD d) pX8_doubled 0 18 [some (.inr 27), some (.inl x1), some (.inl x2), some (.inl x3), some (.inl (nI kk)), some (.inl (nI i))] [] (mm_stc S 40 v) 0 0 = mm_E (mm_runD d) pX8_doubled 0 3 [some (.inr 27), some (.inl x1), some (.inl x2), some (.inl x3), some (.inl (nI kk - 1)), o] [] (mm_stc S 40 v') 0 0 ∧ ∀ j, v' j = if 44 * kk + i ≤ j ∧ j < 44 * kk + P then v (j - 44) else v j := by
  intro n
  induction n with
  | zero =>
    intro i v hn hi
    have h17' : (mm_stc S 40 v) 27 17 = nI P := h17
    refine ⟨v, some (.inl (nI i)), ?_, fun j => by rw [if_neg (by omega)]⟩
    rw [eX8_doubled_18, h17', if_pos (nI_le (by omega) (by omega)), nn_sm]
  | succ n ih =>
    intro i v hn hi
    have h17' : (mm_stc S 40 v) 27 17 = nI P := h17
    obtain ⟨v', o, h1, h2⟩ := ih (i + 1) (upd v (44 * kk + i) (v (44 * (kk - 1) + i))) (by omega) (by omega)
    refine ⟨v', o, ?_, fun j => ?_⟩
    · rw [eX8_doubled_18, h17', if_neg (nI_ge (by omega) (by omega)), show nI kk - 1 = nI (kk - 1) from nn_sub (b := 1) hk, li_44, nn_mul, nI_add, ar_40 (by omega), nn_mul, nI_add, ar_40 (by omega), mm_stc_at, mm_put_stc, nI_1, h1, show nI kk - 1 = nI (kk - 1) from nn_sub (b := 1) hk]
    · rw [h2]
      by_cases q : 44 * kk + (i + 1) ≤ j ∧ j < 44 * kk + P
      · rw [if_pos q, if_pos (by omega)]
        exact pk_un (by omega)
      · rw [if_neg q]
        by_cases e : j = 44 * kk + i
        · subst e
          rw [if_pos (by omega), show 44 * kk + i - 44 = 44 * (kk - 1) + i by omega]
          exact pk_us
        · rw [if_neg (by omega)]
          exact pk_un e
theorem mr_db_out {l c p P : Nat} {x2 x3 : Int32} (h17 : S 27 17 = nI P) (hP : P ≤ 40) : ∀ (n kk : Nat) (u v : Nat → Int32) (o : Option MV), kk - l = n → l ≤ kk → kk ≤ 60 →
    ∃ u' v' o', mm_E (mm_runD d) pX8_doubled 0 3 [some (.inr 27), some (.inl (nI l)), some (.inl x2), some (.inl x3), some (.inl (nI kk)), o] [] (mm_stc (mm_stc S 39 u) 40 v) 0 0 = mm_E (mm_runD d) pX8_doubled 0 3 [some (.inr 27), some (.inl (nI l)), some (.inl x2), some (.inl x3), some (.inl (nI l)), o'] [] (mm_stc (mm_stc S 39 u') 40 v') 0 0 ∧
      (∀ j, u' j = if l < j ∧ j ≤ kk then u (j - 1) else u j) ∧ ∀ l' c', c' < P → v' (44 * l' + c') = if l < l' ∧ l' ≤ kk then v (44 * (l' - 1) + c') else v (44 * l' + c') := by
  intro n
  induction n with
  | zero =>
    intro kk u v o hn hl hk
    have e : kk = l := by omega
    subst e
    exact ⟨u, v, o, rfl, fun j => by rw [if_neg (by omega)], fun l' c' _ => by rw [if_neg (by omega)]⟩
  | succ n ih =>
    intro kk u v o hn hl hk
    obtain ⟨v1, o1, a1, a2⟩ := mr_db_in (d := d) (S := mm_stc S 39 (upd u kk (u (kk - 1)))) (l := l) (c := c) (p := p) (kk := kk) (x1 := nI l) (x2 := x2) (x3 := x3) h17 hP (by omega) hk (P - 0) 0 v rfl (by omega)
    obtain ⟨u', v', o', b1, b2, b3⟩ := ih (kk - 1) (upd u kk (u (kk - 1))) v1 o1 (by omega) (by omega) (by omega)
    refine ⟨u', v', o', ?_, fun j => ?_, fun l' c' hc' => ?_⟩
    · have e1 : nI kk - 1 = nI (kk - 1) := nn_sub (b := 1) (by omega)
      have e2 : ∀ x, mm_put (mm_stc (mm_stc S 39 u) 40 v) 39 kk x = mm_stc (mm_stc S 39 (upd u kk x)) 40 v := by
        intro x
        funext y
        unfold mm_put
        by_cases q : y = 39
        · subst q; rw [mm_stc_at]; rfl
        · rw [mm_stc_ne _ _ q]
          by_cases w : y = 40
          · subst w; rw [mm_stc_at, mm_stc_at]
          · rw [mm_stc_ne _ _ w, mm_stc_ne _ _ w, mm_stc_ne _ _ q, mm_stc_ne _ _ q]
      rw [nI_0, e1] at a1
      rw [eX8_doubled_3, if_neg (nI_ge (by omega) (by omega)), e1, ar_39 (by omega), ar_39 (by omega), show (mm_stc (mm_stc S 39 u) 40 v) 39 (kk - 1) = u (kk - 1) from rfl, e2, a1, b1]
    · rw [b2]
      by_cases q : l < j ∧ j ≤ kk - 1
      · rw [if_pos q, if_pos (by omega)]
        exact pk_un (by omega)
      · rw [if_neg q]
        by_cases e : j = kk
        · subst e
          rw [if_pos (by omega)]
          exact pk_us
        · rw [if_neg (by omega)]
          exact pk_un e
    · rw [b3 l' c' hc', a2, a2]
      by_cases q : l < l' ∧ l' ≤ kk - 1
      · rw [if_pos q, if_neg (by omega), if_pos (by omega)]
      · rw [if_neg q]
        by_cases e : l' = kk
        · subst e
          rw [if_pos (by omega), if_pos (by omega), show 44 * l' + c' - 44 = 44 * (l' - 1) + c' by omega]
        · rw [if_neg (by omega), if_neg (by omega)]
theorem mr_doubled (hK : mr_K S k) (hW : kW k) (hr : rws S k C R sz) {T : TB} (hT : tbR S T) (hw : wfT R sz T) {l c p : Nat} (hl : l < tL T) (hc : c < tP T) (h6 : tL T < 60) (he : tC T l c = nI p) (hp : okp R sz (p + 1)) (hp4 : p < 480) :
    ∃ S', mm_runD (d + 3) 140 [.inr 27, .inl (nI l), .inl (nI c), .inl (nI p)] S = some (S', 0, 0, 0, 0) ∧ mfr [27, 39, 40] S S' ∧ (∀ j, j ≠ 18 → S' 27 j = S 27 j) ∧ tbR S' (dbT (gk S k) T l c) := by
  obtain ⟨h1, h2, h3, h4, h5⟩ := hT
  obtain ⟨w1, w2, w3⟩ := hw
  obtain ⟨u, v, o, a1, a2, a3⟩ := mr_db_out (d := d + 2) (S := S) (l := l) (c := c) (p := p) (x2 := nI c) (x3 := nI p) h1 w1 (tL T - l) (tL T) (S 39) (S 40) none rfl (by omega) (by omega)
  have e0 : mm_stc (mm_stc S 39 (S 39)) 40 (S 40) = S := by rw [mm_stc_self, mm_stc_self]
  rw [e0] at a1
  obtain ⟨S1, eS⟩ : ∃ S1, S1 = mm_put (mm_put (mm_stc (mm_stc S 39 u) 40 v) 27 18 (nI (tL T + 1))) 40 (44 * l + c) (nI (p + 1)) := ⟨_, rfl⟩
  have B : mm_runD (d + 2) 132 [.inr 27, .inr 32, .inl (nI (p + 1))] S1 = some (S1, 0, 0, 0, nI (bhd (gk S k) (p + 1))) := by
    subst eS
    exact mr_bh (S := mm_put (mm_put (mm_stc (mm_stc S 39 u) 40 v) 27 18 (nI (tL T + 1))) 40 (44 * l + c) (nI (p + 1))) hK hW hr hp
  have hcp : (tC T l c).toNatClampNeg = p := by rw [he, nI_clamp (by omega)]
  refine ⟨mm_put S1 40 (44 * (l + 1) + c) (nI (bhd (gk S k) (p + 1))), ?_, ?_, ?_, ?_⟩
  · have h2' : (mm_stc (mm_stc S 39 u) 40 v) 27 18 = nI (tL T) := h2
    rw [dX8_doubled, eX8_doubled_0, h2, a1, eX8_doubled_3, if_pos (nI_le (Nat.le_refl _) (by omega)), h2', nI_1, li_44, nn_mul, nI_add, ar_40 (by omega), nI_1, ← eS, B, mm_bd_ret, nI_1, nn_mul, nI_add, ar_40 (by omega)]
  · subst eS
    exact mfr_tr (mfr_tr (mfr_tr (mfr_tr (mfr_stc (by simp)) (mfr_stc (by simp))) (mfr_put (by simp))) (mfr_put (by simp))) (mfr_put (by simp))
  · intro j hj
    subst eS
    rw [mp_pn _ _ _ (by decide), mp_pn _ _ _ (by decide), mp_pk _ _ _ hj]
    rfl
  · subst eS
    refine ⟨h1, rfl, h3, fun l' hl' => ?_, fun l' c' hl' hc' => ?_⟩
    · have hl'' : l' < tL T + 1 := hl'
      show u l' = nI (if l' ≤ l then tR T l' else tR T (l' - 1))
      rw [a2]
      by_cases q : l' ≤ l
      · rw [if_neg (by omega), if_pos q]; exact h4 l' (by omega)
      · rw [if_pos (by omega), if_neg q]; exact h4 (l' - 1) (by omega)
    · have hl'' : l' < tL T + 1 := hl'
      have hc'' : c' < tP T := hc'
      show _ = (if c' = c ∧ l' = l then nI ((tC T l c).toNatClampNeg + 1) else if c' = c ∧ l' = l + 1 then nI (bhd (gk S k) ((tC T l c).toNatClampNeg + 1)) else if l' ≤ l then tC T l' c' else tC T (l' - 1) c')
      rw [hcp]
      by_cases q1 : c' = c ∧ l' = l
      · obtain ⟨rfl, rfl⟩ := q1
        rw [if_pos ⟨rfl, rfl⟩, mp_pk _ _ _ (by omega), mp_pp]
      · rw [if_neg q1]
        by_cases q2 : c' = c ∧ l' = l + 1
        · obtain ⟨rfl, rfl⟩ := q2
          rw [if_pos ⟨rfl, rfl⟩, mp_pp]
        · rw [if_neg q2, mp_pk _ _ _ (by omega), mp_pk _ _ _ (by omega)]
          show v (44 * l' + c') = _
          rw [a3 l' c' hc'']
          by_cases q : l' ≤ l
          · rw [if_neg (by omega), if_pos q]; exact h5 l' c' (by omega) hc''
          · rw [if_pos (by omega), if_neg q]; exact h5 (l' - 1) c' (by omega) hc''
theorem mr_signOf (hr : rws S k C R sz) {y : Int32} (hy : y = N1 ∨ ∃ p, okp R sz p ∧ y = nI p) : mm_runD (d + 1) 137 [.inr 27, .inl y] S = some (S, 0, 0, 0, sgc (S 32) y) := by
  rw [dX8_signOf, eX8_signOf_0]
  rcases hy with rfl | ⟨p, hp, rfl⟩
  · rw [if_pos rfl, sgc_N]
  · have := okp_lt hr hp
    rw [if_neg (show ¬ nI p = -1 from fun q => (nn_a1 (a := p) (by omega)).mp q), ar_32 this, sgc_p this]
/-- the scan goes on to the place (l, c) when there is no EITHER before it -/
theorem mr_scan (hr : rws S k C R sz) {T : TB} (hT : tbR S T) (hw : wfT R sz T) {l c : Nat} (hl : l < tL T) (hc : c ≤ tP T) : ∀ (n l' c' : Nat) (o4 : Option MV), (l - l') * 50 + 45 - c' = n → l' ≤ l → c' ≤ tP T → (l' = l → c' ≤ c) → (∀ a b, (l' < a ∨ (l' = a ∧ c' ≤ b)) → (a < l ∨ (a = l ∧ b < c)) → b < tP T → sgc (S 32) (tC T a b) ≠ N2) →
    ∃ o, mm_E (mm_runD (d + 1)) pX8_part 0 19 [some (.inr 27), some (.inl 0), some (.inl (nI l')), some (.inl (nI c')), o4] [] S 0 0 = mm_E (mm_runD (d + 1)) pX8_part 0 19 [some (.inr 27), some (.inl 0), some (.inl (nI l)), some (.inl (nI c)), o] [] S 0 0 := by
  obtain ⟨h1, h2, h3, h4, h5⟩ := hT
  obtain ⟨w1, w2, w3⟩ := hw
  intro n
  induction n using Nat.strongRecOn with
  | ind n ih =>
    intro l' c' o4 hn hl' hc' hlc hE
    by_cases e : l' = l ∧ c' = c
    · obtain ⟨rfl, rfl⟩ := e
      exact ⟨o4, rfl⟩
    · by_cases q : tP T ≤ c'
      · obtain ⟨o, g⟩ := ih _ (by omega) (l' + 1) 0 o4 rfl (by omega) (by omega) (by omega) (fun a b u w x => hE a b (by omega) w x)
        refine ⟨o, ?_⟩
        rw [nI_0] at g
        rw [eX8_part_19, h1, if_pos (nI_le q (by omega)), nI_1, eX8_part_11, h2, if_neg (nI_ge (by omega) (by omega)), if_pos rfl, g]
      · obtain ⟨o, g⟩ := ih _ (by omega) l' (c' + 1) (some (.inl (tC T l' c'))) rfl (by omega) (by omega) (by omega) (fun a b u w x => hE a b (by omega) w x)
        refine ⟨o, ?_⟩
        rw [eX8_part_19, h1, if_neg (nI_ge (by omega) (by omega)), if_pos rfl, li_44, nn_mul, nI_add, ar_40 (by omega), h5 l' c' (by omega) (by omega), mr_signOf hr (w3 l' c' (by omega) (by omega)), mm_bd_ret, if_neg (show ¬ sgc (S 32) (tC T l' c') = -2 from hE l' c' (by omega) (by omega) (by omega)), nI_1]
        exact g
/-- the reference parts its lines -/
theorem mr_part_l (hW : kW k) : ∀ (f : Nat) (T : TB) (l c : Nat) (r : Option TB) (S : Mem), mr_K S k → rws S k C R sz → tbR S T → wfT R sz T → S 27 22 = 0 → c ≤ tP T → l ≤ tL T → (∀ a b, (a < l ∨ (a = l ∧ b < c)) → b < tP T → sgc (S 32) (tC T a b) ≠ N2) → spl (S 32) (gk S k) f T l c = some r →
    ∃ S', (∀ (o3 o4 : Option MV), mm_E (mm_runD (d + 3)) pX8_part 0 (if l < tL T then 19 else 11) (if l < tL T then [some (.inr 27), some (.inl 0), some (.inl (nI l)), some (.inl (nI c)), o4] else [some (.inr 27), some (.inl 0), some (.inl (nI l)), o3, o4]) [] S 0 0 = some (S', 0, 0, 0, 0)) ∧ mfr [27, 39, 40] S S' ∧ (∀ j, j ≠ 18 → j ≠ 22 → S' 27 j = S 27 j) ∧
      (∀ T', r = some T' → tbR S' T' ∧ S' 27 22 = 0) ∧ (r = none → S' 27 22 = 1) := by
  intro f
  induction f with
  | zero => intro T l c r S _ _ _ _ _ _ _ _ h; cases h
  | succ f ih =>
    intro T l c r S hK hr hT hw h22 hc hl hE hs
    obtain ⟨h1, h2, h3, h4, h5⟩ := hT
    have hT : tbR S T := ⟨h1, h2, h3, h4, h5⟩
    obtain ⟨w1, w2, w3⟩ := hw
    have hw : wfT R sz T := ⟨w1, w2, w3⟩
    unfold spl at hs
    by_cases q1 : tL T ≤ l
    · rw [if_pos q1] at hs
      cases hs
      refine ⟨S, fun o3 o4 => ?_, mfr_rf, fun _ _ _ => rfl, fun T' e => by cases e; exact ⟨hT, h22⟩, fun e => by cases e⟩
      rw [if_neg (by omega), if_neg (by omega), eX8_part_11, h2, if_pos (nI_le q1 (by omega)), eX8_part_2, if_pos rfl]
    · rw [if_neg q1] at hs
      have hlt : l < tL T := by omega
      by_cases q2 : tP T ≤ c
      · rw [if_pos q2] at hs
        obtain ⟨S', g1, g2, g3, g4, g5⟩ := ih T (l + 1) 0 r S hK hr hT hw h22 (by omega) (by omega) (fun a b u w => hE a b (by omega) w) hs
        refine ⟨S', fun o3 o4 => ?_, g2, g3, g4, g5⟩
        rw [if_pos hlt, if_pos hlt, eX8_part_19, h1, if_pos (nI_le q2 (by omega)), nI_1]
        by_cases q3 : l + 1 < tL T
        · have := g1 o3 o4
          rw [if_pos q3, if_pos q3, nI_0] at this
          rw [eX8_part_11, h2, if_neg (nI_ge q3 (by omega)), if_pos rfl]
          exact this
        · have := g1 (some (.inl (nI c))) o4
          rw [if_neg q3, if_neg q3] at this
          exact this
      · rw [if_neg q2] at hs
        by_cases q3 : sgc (S 32) (tC T l c) = N2
        · rw [if_pos q3] at hs
          obtain ⟨p, e1, e2, e3, e4, e5, e6⟩ := wfT_E hr hw hlt (by omega) q3
          have hp4 := okp_lt hr e1
          by_cases q4 : tL T = 60
          · rw [if_pos q4] at hs
            cases hs
            refine ⟨mm_put S 27 22 1, fun o3 o4 => ?_, mfr_put (by simp), fun j _ hj => mp_pk _ _ _ hj, (fun T' e => by cases e), fun _ => mp_pp _ _ _ _⟩
            have f1 : (mm_put S 27 22 1) 27 17 = nI (tP T) := h1
            have f2 : (mm_put S 27 22 1) 27 18 = nI (tL T) := h2
            rw [if_pos hlt, if_pos hlt, eX8_part_19, h1, if_neg (nI_ge (by omega) (by omega)), if_pos rfl, li_44, nn_mul, nI_add, ar_40 (by omega), h5 l c hlt (by omega), mr_signOf hr (w3 l c hlt (by omega)), mm_bd_ret, if_pos (show sgc (S 32) (tC T l c) = -2 from q3), h2, if_pos (by rw [q4]; rfl), mp_pp, if_neg (by decide), nI_1, eX8_part_19, f1]
            have fin : ∀ o3 o4 : Option MV, mm_E (mm_runD (d + 3)) pX8_part 0 11 [some (.inr 27), some (.inl 1), some (.inl (nI (l + 1))), o3, o4] [] (mm_put S 27 22 1) 0 0 = some (mm_put S 27 22 1, 0, 0, 0, 0) := by
              intro o3 o4
              have f3 : ∀ o2 o3 o4 : Option MV, mm_E (mm_runD (d + 3)) pX8_part 0 2 [some (.inr 27), some (.inl 1), o2, o3, o4] [] (mm_put S 27 22 1) 0 0 = some (mm_put S 27 22 1, 0, 0, 0, 0) := by
                intro o2 o3 o4
                rw [eX8_part_2, if_neg (by decide), mp_pp, if_neg (by decide)]
              rw [eX8_part_11, f2, f3]
              split
              · rfl
              · rw [if_neg (by decide)]
            by_cases q5 : nI (tP T) ≤ nI (c + 1)
            · rw [if_pos q5, nI_1]; exact fin _ _
            · rw [if_neg q5, if_neg (by decide), nI_1]; exact fin _ _
          · rw [if_neg q4] at hs
            have h22' : mm_put S 27 22 0 = S := by
              unfold mm_put
              rw [upd_self h22, mm_stc_self]
            obtain ⟨S1, a1, a2, a3, a4⟩ := mr_doubled (d := d) (S := S) hK hW hr hT hw hlt (by omega) (by omega) e2 e5 hp4
            have k1 : mr_K S1 k := by
              unfold mr_K
              rw [a3 1 (by decide), a3 2 (by decide), a2 28 (by decide), a2 29 (by decide)]
              exact hK
            have r1 : rws S1 k C R sz := by
              unfold rws
              rw [a3 7 (by decide), a2 8 (by decide), a2 33 (by decide), a2 32 (by decide), a2 9 (by decide), a2 10 (by decide)]
              exact hr
            have w1' := wfT_db hr hw hlt (by omega) q4 q3
            have z22 : S1 27 22 = 0 := by rw [a3 22 (by decide)]; exact h22
            have e32 : S1 32 = S 32 := a2 32 (by decide)
            have eg : gk S1 k = gk S k := by unfold gk; rw [e32]
            have hE1 : ∀ a b, (a < l ∨ (a = l ∧ b < c)) → b < tP (dbT (gk S k) T l c) → sgc (S1 32) (tC (dbT (gk S k) T l c) a b) ≠ N2 := by
              intro a b u w
              rw [e32]
              show sgc (S 32) (if b = c ∧ a = l then _ else if b = c ∧ a = l + 1 then _ else if a ≤ l then tC T a b else tC T (a - 1) b) ≠ N2
              rw [if_neg (by omega), if_neg (by omega), if_pos (by omega)]
              exact hE a b u w
            have hs' : spl (S1 32) (gk S1 k) f (dbT (gk S k) T l c) l c = some r := by rw [e32, eg]; exact hs
            obtain ⟨S', g1, g2, g3, g4, g5⟩ := ih (dbT (gk S k) T l c) l c r S1 k1 r1 a4 w1' z22 hc (show l ≤ tL T + 1 by omega) hE1 hs'
            have hlt' : l < tL (dbT (gk S k) T l c) := show l < tL T + 1 by omega
            refine ⟨S', fun o3 o4 => ?_, mfr_tr a2 g2, fun j u w => by rw [g3 j u w, a3 j u], g4, g5⟩
            have fin : ∀ o3 o4 : Option MV, mm_E (mm_runD (d + 3)) pX8_part 0 11 [some (.inr 27), some (.inl 1), some (.inl (nI (l + 1))), o3, o4] [] S1 0 0 = some (S', 0, 0, 0, 0) := by
              intro o3 o4
              have f3 : ∀ o2 o3 o4 : Option MV, mm_E (mm_runD (d + 3)) pX8_part 0 2 [some (.inr 27), some (.inl 1), o2, o3, o4] [] S1 0 0 = some (S', 0, 0, 0, 0) := by
                intro o2 o3 o4
                obtain ⟨o, b1⟩ := mr_scan (d := d + 2) (S := S1) r1 a4 w1' hlt' (show c ≤ tP (dbT (gk S k) T l c) from hc) _ 0 0 o4 rfl (by omega) (by omega) (by omega) (fun a b _ w x => hE1 a b w x)
                have b2 := g1 o3 o
                rw [if_pos hlt', if_pos hlt'] at b2
                rw [nI_0] at b1
                rw [eX8_part_2, if_neg (by decide), z22, if_pos rfl, eX8_part_11, a4.2.1, if_neg (show ¬ nI (tL (dbT (gk S k) T l c)) ≤ 0 from nI_nle (by omega) (show tL T + 1 < 2 ^ 31 by omega)), if_pos rfl, b1, b2]
              rw [eX8_part_11, f3]
              split
              · rfl
              · rw [if_neg (by decide)]
            rw [if_pos hlt, if_pos hlt, eX8_part_19, h1, if_neg (nI_ge (by omega) (by omega)), if_pos rfl, li_44, nn_mul, nI_add, ar_40 (by omega), h5 l c hlt (by omega), mr_signOf hr (w3 l c hlt (by omega)), mm_bd_ret, if_pos (show sgc (S 32) (tC T l c) = -2 from q3), h2, if_neg (show ¬ nI (tL T) = 60 from fun z => q4 ((nI_eq (b := 60) (by omega) (by omega)).mp z)), mp_pp, if_pos rfl, h22', e2, a1, mm_bd_ret, nI_1, eX8_part_19]
            by_cases q5 : S1 27 17 ≤ nI (c + 1)
            · rw [if_pos q5, nI_1]; exact fin _ _
            · rw [if_neg q5, if_neg (by decide), nI_1]; exact fin _ _
        · rw [if_neg q3] at hs
          obtain ⟨S', g1, g2, g3, g4, g5⟩ := ih T l (c + 1) r S hK hr hT hw h22 (by omega) hl (fun a b u w => by
            by_cases z : a = l ∧ b = c
            · obtain ⟨rfl, rfl⟩ := z; exact q3
            · exact hE a b (by omega) w) hs
          refine ⟨S', fun o3 o4 => ?_, g2, g3, g4, g5⟩
          have := g1 o3 (some (.inl (tC T l c)))
          rw [if_pos hlt, if_pos hlt] at this
          rw [if_pos hlt, if_pos hlt, eX8_part_19, h1, if_neg (nI_ge (by omega) (by omega)), if_pos rfl, li_44, nn_mul, nI_add, ar_40 (by omega), h5 l c hlt (by omega), mr_signOf hr (w3 l c hlt (by omega)), mm_bd_ret, if_neg (show ¬ sgc (S 32) (tC T l c) = -2 from q3), nI_1]
          exact this
theorem mr_part (hK : mr_K S k) (hW : kW k) (hr : rws S k C R sz) {T : TB} (hT : tbR S T) (hw : wfT R sz T) (h22 : S 27 22 = 0) :
    ∃ S', mm_runD (d + 4) 139 [.inr 27] S = some (S', 0, 0, 0, 0) ∧ mfr [27, 39, 40] S S' ∧ (∀ j, j ≠ 18 → j ≠ 22 → S' 27 j = S 27 j) ∧ (∀ T', spT (S 32) (gk S k) T = some T' → tbR S' T' ∧ S' 27 22 = 0) ∧ (spT (S 32) (gk S k) T = none → S' 27 22 = 1) := by
  obtain ⟨f, hf⟩ := spT_is (G := S 32) (g := gk S k) (T := T) hw.2.1
  obtain ⟨S', g1, g2, g3, g4, g5⟩ := mr_part_l (d := d) hW f T 0 0 _ S hK hr hT hw h22 (by omega) (by omega) (fun a b u _ => by omega) hf
  refine ⟨S', ?_, g2, g3, g4, g5⟩
  rw [dX8_part, eX8_part_0, eX8_part_2, if_neg (by decide), h22, if_pos rfl]
  have := g1 none none
  by_cases q : 0 < tL T
  · rw [if_pos q, if_pos q, nI_0] at this
    have h6 := hw.2.1
    rw [eX8_part_11, hT.2.1, if_neg (nI_nle q (by omega)), if_pos rfl]
    exact this
  · rw [if_neg q, if_neg q, nI_0] at this
    exact this
end
end
