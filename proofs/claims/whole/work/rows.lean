section
-- ===== PART A: goes FIRST, ahead of the names: the tables' words, and 'selects' of the private methods out of them =====
/-- a private method of a class that the tables say can be made, by its rows of tables_1 -/
def lw_okq (q : MethodName × Nat) : Prop := (q.1.cls ≠ "java/lang/invoke/MethodHandle" ∧ q.1.cls ≠ "java/lang/invoke/VarHandle") ∧ Cond.instantiable q.1.cls q.2 ∈ tables_1 ∧ Cond.privateMethod q.1 ∈ tables_1 ∧ Cond.instanceMethod q.1 ∈ tables_1
theorem lw_p0 : lw_okq (⟨"java/lang/Throwable", "fillInStackTrace", "(I)Ljava/lang/Throwable;"⟩, 6) := ⟨⟨by decide +kernel, by decide +kernel⟩, List.mem_of_getElem? (i := 320) (by decide +kernel), List.mem_of_getElem? (i := 318) (by decide +kernel), List.mem_of_getElem? (i := 319) (by decide +kernel)⟩
theorem lw_p1 : lw_okq (⟨"TaylorModels$SetupReader", "fail", "(I)Z"⟩, 8) := ⟨⟨by decide +kernel, by decide +kernel⟩, List.mem_of_getElem? (i := 126) (by decide +kernel), List.mem_of_getElem? (i := 418) (by decide +kernel), List.mem_of_getElem? (i := 419) (by decide +kernel)⟩
theorem lw_p2 : lw_okq (⟨"TaylorModels$SetupReader", "take", "(I)Z"⟩, 8) := ⟨⟨by decide +kernel, by decide +kernel⟩, List.mem_of_getElem? (i := 126) (by decide +kernel), List.mem_of_getElem? (i := 423) (by decide +kernel), List.mem_of_getElem? (i := 424) (by decide +kernel)⟩
theorem lw_p3 : lw_okq (⟨"TaylorModels$SetupReader", "readSum", "(I)Z"⟩, 8) := ⟨⟨by decide +kernel, by decide +kernel⟩, List.mem_of_getElem? (i := 126) (by decide +kernel), List.mem_of_getElem? (i := 431) (by decide +kernel), List.mem_of_getElem? (i := 432) (by decide +kernel)⟩
theorem lw_p4 : lw_okq (⟨"TaylorModels$SetupReader", "readTerm", "(I)Z"⟩, 8) := ⟨⟨by decide +kernel, by decide +kernel⟩, List.mem_of_getElem? (i := 126) (by decide +kernel), List.mem_of_getElem? (i := 435) (by decide +kernel), List.mem_of_getElem? (i := 436) (by decide +kernel)⟩
theorem lw_p5 : lw_okq (⟨"TaylorModels$SetupReader", "readFactor", "(I)Z"⟩, 8) := ⟨⟨by decide +kernel, by decide +kernel⟩, List.mem_of_getElem? (i := 126) (by decide +kernel), List.mem_of_getElem? (i := 439) (by decide +kernel), List.mem_of_getElem? (i := 440) (by decide +kernel)⟩
theorem lw_p6 : lw_okq (⟨"TaylorModels$SetupReader", "readParenthesis", "(I)Z"⟩, 8) := ⟨⟨by decide +kernel, by decide +kernel⟩, List.mem_of_getElem? (i := 126) (by decide +kernel), List.mem_of_getElem? (i := 463) (by decide +kernel), List.mem_of_getElem? (i := 464) (by decide +kernel)⟩
theorem lw_p7 : lw_okq (⟨"TaylorModels$SetupReader", "open", "(II)Z"⟩, 8) := ⟨⟨by decide +kernel, by decide +kernel⟩, List.mem_of_getElem? (i := 126) (by decide +kernel), List.mem_of_getElem? (i := 467) (by decide +kernel), List.mem_of_getElem? (i := 468) (by decide +kernel)⟩
theorem lw_p8 : lw_okq (⟨"TaylorModels$Arithmetic", "integrateTerm", "(JIII)V"⟩, 8) := ⟨⟨by decide +kernel, by decide +kernel⟩, List.mem_of_getElem? (i := 93) (by decide +kernel), List.mem_of_getElem? (i := 491) (by decide +kernel), List.mem_of_getElem? (i := 492) (by decide +kernel)⟩
theorem lw_p9 : lw_okq (⟨"TaylorModels$SetupReader", "readConstant", "(LTaylorModels$Model;)Z"⟩, 8) := ⟨⟨by decide +kernel, by decide +kernel⟩, List.mem_of_getElem? (i := 126) (by decide +kernel), List.mem_of_getElem? (i := 533) (by decide +kernel), List.mem_of_getElem? (i := 534) (by decide +kernel)⟩
theorem lw_p10 : lw_okq (⟨"TaylorModels$SetupReader", "checkNumber", "()Z"⟩, 8) := ⟨⟨by decide +kernel, by decide +kernel⟩, List.mem_of_getElem? (i := 126) (by decide +kernel), List.mem_of_getElem? (i := 537) (by decide +kernel), List.mem_of_getElem? (i := 538) (by decide +kernel)⟩
theorem lw_p11 : lw_okq (⟨"TaylorModels$SetupReader", "readBrackets", "(I)Z"⟩, 8) := ⟨⟨by decide +kernel, by decide +kernel⟩, List.mem_of_getElem? (i := 126) (by decide +kernel), List.mem_of_getElem? (i := 554) (by decide +kernel), List.mem_of_getElem? (i := 555) (by decide +kernel)⟩
theorem lw_p12 : lw_okq (⟨"TaylorModels$Arithmetic", "collectProducts", "(LTaylorModels$Model;LTaylorModels$Model;)V"⟩, 8) := ⟨⟨by decide +kernel, by decide +kernel⟩, List.mem_of_getElem? (i := 93) (by decide +kernel), List.mem_of_getElem? (i := 581) (by decide +kernel), List.mem_of_getElem? (i := 582) (by decide +kernel)⟩
theorem lw_p13 : lw_okq (⟨"TaylorModels$Arithmetic", "addIntervalProduct", "(JJJJ)V"⟩, 8) := ⟨⟨by decide +kernel, by decide +kernel⟩, List.mem_of_getElem? (i := 93) (by decide +kernel), List.mem_of_getElem? (i := 591) (by decide +kernel), List.mem_of_getElem? (i := 592) (by decide +kernel)⟩
theorem lw_p14 : lw_okq (⟨"TaylorModels$SetupReader", "readUncertainty", "()Z"⟩, 8) := ⟨⟨by decide +kernel, by decide +kernel⟩, List.mem_of_getElem? (i := 126) (by decide +kernel), List.mem_of_getElem? (i := 607) (by decide +kernel), List.mem_of_getElem? (i := 608) (by decide +kernel)⟩
theorem lw_p15 : lw_okq (⟨"TaylorModels", "requireDefined", "(I)LTaylorModels$Model;"⟩, 6) := ⟨⟨by decide +kernel, by decide +kernel⟩, List.mem_of_getElem? (i := 25) (by decide +kernel), List.mem_of_getElem? (i := 661) (by decide +kernel), List.mem_of_getElem? (i := 662) (by decide +kernel)⟩
def lw_privs_1 : List (MethodName × Nat) := [(⟨"java/lang/Throwable", "fillInStackTrace", "(I)Ljava/lang/Throwable;"⟩, 6), (⟨"TaylorModels$SetupReader", "fail", "(I)Z"⟩, 8), (⟨"TaylorModels$SetupReader", "take", "(I)Z"⟩, 8), (⟨"TaylorModels$SetupReader", "readSum", "(I)Z"⟩, 8), (⟨"TaylorModels$SetupReader", "readTerm", "(I)Z"⟩, 8), (⟨"TaylorModels$SetupReader", "readFactor", "(I)Z"⟩, 8), (⟨"TaylorModels$SetupReader", "readParenthesis", "(I)Z"⟩, 8), (⟨"TaylorModels$SetupReader", "open", "(II)Z"⟩, 8), (⟨"TaylorModels$Arithmetic", "integrateTerm", "(JIII)V"⟩, 8), (⟨"TaylorModels$SetupReader", "readConstant", "(LTaylorModels$Model;)Z"⟩, 8), (⟨"TaylorModels$SetupReader", "checkNumber", "()Z"⟩, 8), (⟨"TaylorModels$SetupReader", "readBrackets", "(I)Z"⟩, 8), (⟨"TaylorModels$Arithmetic", "collectProducts", "(LTaylorModels$Model;LTaylorModels$Model;)V"⟩, 8), (⟨"TaylorModels$Arithmetic", "addIntervalProduct", "(JJJJ)V"⟩, 8), (⟨"TaylorModels$SetupReader", "readUncertainty", "()Z"⟩, 8), (⟨"TaylorModels", "requireDefined", "(I)LTaylorModels$Model;"⟩, 6)]
theorem lw_r1 : ∀ q ∈ lw_privs_1, lw_okq q := List.forall_mem_cons.mpr ⟨lw_p0, List.forall_mem_cons.mpr ⟨lw_p1, List.forall_mem_cons.mpr ⟨lw_p2, List.forall_mem_cons.mpr ⟨lw_p3, List.forall_mem_cons.mpr ⟨lw_p4, List.forall_mem_cons.mpr ⟨lw_p5, List.forall_mem_cons.mpr ⟨lw_p6, List.forall_mem_cons.mpr ⟨lw_p7, List.forall_mem_cons.mpr ⟨lw_p8, List.forall_mem_cons.mpr ⟨lw_p9, List.forall_mem_cons.mpr ⟨lw_p10, List.forall_mem_cons.mpr ⟨lw_p11, List.forall_mem_cons.mpr ⟨lw_p12, List.forall_mem_cons.mpr ⟨lw_p13, List.forall_mem_cons.mpr ⟨lw_p14, List.forall_mem_cons.mpr ⟨lw_p15, fun _ h => absurd h List.not_mem_nil⟩⟩⟩⟩⟩⟩⟩⟩⟩⟩⟩⟩⟩⟩⟩⟩
theorem lw_p16 : lw_okq (⟨"TaylorModels", "settle", "(IZ)I"⟩, 6) := ⟨⟨by decide +kernel, by decide +kernel⟩, List.mem_of_getElem? (i := 25) (by decide +kernel), List.mem_of_getElem? (i := 780) (by decide +kernel), List.mem_of_getElem? (i := 781) (by decide +kernel)⟩
theorem lw_p17 : lw_okq (⟨"TaylorModelsModel", "fails", "(ZI)Z"⟩, 30) := ⟨⟨by decide +kernel, by decide +kernel⟩, List.mem_of_getElem? (i := 900) (by decide +kernel), List.mem_of_getElem? (i := 1016) (by decide +kernel), List.mem_of_getElem? (i := 1017) (by decide +kernel)⟩
theorem lw_p18 : lw_okq (⟨"TaylorModelsModel", "takeWord", "(Ljava/lang/String;)Z"⟩, 30) := ⟨⟨by decide +kernel, by decide +kernel⟩, List.mem_of_getElem? (i := 900) (by decide +kernel), List.mem_of_getElem? (i := 1021) (by decide +kernel), List.mem_of_getElem? (i := 1022) (by decide +kernel)⟩
theorem lw_p19 : lw_okq (⟨"TaylorModelsModel", "isGood", "()Z"⟩, 30) := ⟨⟨by decide +kernel, by decide +kernel⟩, List.mem_of_getElem? (i := 900) (by decide +kernel), List.mem_of_getElem? (i := 1025) (by decide +kernel), List.mem_of_getElem? (i := 1026) (by decide +kernel)⟩
theorem lw_p20 : lw_okq (⟨"TaylorModelsModel", "next", "()I"⟩, 30) := ⟨⟨by decide +kernel, by decide +kernel⟩, List.mem_of_getElem? (i := 900) (by decide +kernel), List.mem_of_getElem? (i := 1029) (by decide +kernel), List.mem_of_getElem? (i := 1030) (by decide +kernel)⟩
theorem lw_p21 : lw_okq (⟨"TaylorModelsModel", "byteAt", "(I)I"⟩, 30) := ⟨⟨by decide +kernel, by decide +kernel⟩, List.mem_of_getElem? (i := 900) (by decide +kernel), List.mem_of_getElem? (i := 1033) (by decide +kernel), List.mem_of_getElem? (i := 1034) (by decide +kernel)⟩
theorem lw_p22 : lw_okq (⟨"TaylorModelsModel", "report", "(II)V"⟩, 30) := ⟨⟨by decide +kernel, by decide +kernel⟩, List.mem_of_getElem? (i := 900) (by decide +kernel), List.mem_of_getElem? (i := 1039) (by decide +kernel), List.mem_of_getElem? (i := 1040) (by decide +kernel)⟩
theorem lw_p23 : lw_okq (⟨"TaylorModelsModel", "expect", "(I)V"⟩, 30) := ⟨⟨by decide +kernel, by decide +kernel⟩, List.mem_of_getElem? (i := 900) (by decide +kernel), List.mem_of_getElem? (i := 1043) (by decide +kernel), List.mem_of_getElem? (i := 1044) (by decide +kernel)⟩
theorem lw_p24 : lw_okq (⟨"TaylorModelsModel", "statement", "()V"⟩, 30) := ⟨⟨by decide +kernel, by decide +kernel⟩, List.mem_of_getElem? (i := 900) (by decide +kernel), List.mem_of_getElem? (i := 1047) (by decide +kernel), List.mem_of_getElem? (i := 1048) (by decide +kernel)⟩
theorem lw_p25 : lw_okq (⟨"TaylorModelsModel", "takeName", "()I"⟩, 30) := ⟨⟨by decide +kernel, by decide +kernel⟩, List.mem_of_getElem? (i := 900) (by decide +kernel), List.mem_of_getElem? (i := 1051) (by decide +kernel), List.mem_of_getElem? (i := 1052) (by decide +kernel)⟩
theorem lw_p26 : lw_okq (⟨"TaylorModelsModel", "sum", "(I)V"⟩, 30) := ⟨⟨by decide +kernel, by decide +kernel⟩, List.mem_of_getElem? (i := 900) (by decide +kernel), List.mem_of_getElem? (i := 1055) (by decide +kernel), List.mem_of_getElem? (i := 1056) (by decide +kernel)⟩
theorem lw_p27 : lw_okq (⟨"TaylorModelsModel", "term", "(I)V"⟩, 30) := ⟨⟨by decide +kernel, by decide +kernel⟩, List.mem_of_getElem? (i := 900) (by decide +kernel), List.mem_of_getElem? (i := 1059) (by decide +kernel), List.mem_of_getElem? (i := 1060) (by decide +kernel)⟩
theorem lw_p28 : lw_okq (⟨"TaylorModelsModel", "factor", "(I)V"⟩, 30) := ⟨⟨by decide +kernel, by decide +kernel⟩, List.mem_of_getElem? (i := 900) (by decide +kernel), List.mem_of_getElem? (i := 1063) (by decide +kernel), List.mem_of_getElem? (i := 1064) (by decide +kernel)⟩
theorem lw_p29 : lw_okq (⟨"TaylorModelsModel", "number", "(II)I"⟩, 30) := ⟨⟨by decide +kernel, by decide +kernel⟩, List.mem_of_getElem? (i := 900) (by decide +kernel), List.mem_of_getElem? (i := 1074) (by decide +kernel), List.mem_of_getElem? (i := 1075) (by decide +kernel)⟩
theorem lw_p30 : lw_okq (⟨"TaylorModelsModel", "open", "(I)V"⟩, 30) := ⟨⟨by decide +kernel, by decide +kernel⟩, List.mem_of_getElem? (i := 900) (by decide +kernel), List.mem_of_getElem? (i := 1082) (by decide +kernel), List.mem_of_getElem? (i := 1083) (by decide +kernel)⟩
theorem lw_p31 : lw_okq (⟨"TaylorModelsModel", "close", "(I)V"⟩, 30) := ⟨⟨by decide +kernel, by decide +kernel⟩, List.mem_of_getElem? (i := 900) (by decide +kernel), List.mem_of_getElem? (i := 1086) (by decide +kernel), List.mem_of_getElem? (i := 1087) (by decide +kernel)⟩
def lw_privs_2 : List (MethodName × Nat) := [(⟨"TaylorModels", "settle", "(IZ)I"⟩, 6), (⟨"TaylorModelsModel", "fails", "(ZI)Z"⟩, 30), (⟨"TaylorModelsModel", "takeWord", "(Ljava/lang/String;)Z"⟩, 30), (⟨"TaylorModelsModel", "isGood", "()Z"⟩, 30), (⟨"TaylorModelsModel", "next", "()I"⟩, 30), (⟨"TaylorModelsModel", "byteAt", "(I)I"⟩, 30), (⟨"TaylorModelsModel", "report", "(II)V"⟩, 30), (⟨"TaylorModelsModel", "expect", "(I)V"⟩, 30), (⟨"TaylorModelsModel", "statement", "()V"⟩, 30), (⟨"TaylorModelsModel", "takeName", "()I"⟩, 30), (⟨"TaylorModelsModel", "sum", "(I)V"⟩, 30), (⟨"TaylorModelsModel", "term", "(I)V"⟩, 30), (⟨"TaylorModelsModel", "factor", "(I)V"⟩, 30), (⟨"TaylorModelsModel", "number", "(II)I"⟩, 30), (⟨"TaylorModelsModel", "open", "(I)V"⟩, 30), (⟨"TaylorModelsModel", "close", "(I)V"⟩, 30)]
theorem lw_r2 : ∀ q ∈ lw_privs_2, lw_okq q := List.forall_mem_cons.mpr ⟨lw_p16, List.forall_mem_cons.mpr ⟨lw_p17, List.forall_mem_cons.mpr ⟨lw_p18, List.forall_mem_cons.mpr ⟨lw_p19, List.forall_mem_cons.mpr ⟨lw_p20, List.forall_mem_cons.mpr ⟨lw_p21, List.forall_mem_cons.mpr ⟨lw_p22, List.forall_mem_cons.mpr ⟨lw_p23, List.forall_mem_cons.mpr ⟨lw_p24, List.forall_mem_cons.mpr ⟨lw_p25, List.forall_mem_cons.mpr ⟨lw_p26, List.forall_mem_cons.mpr ⟨lw_p27, List.forall_mem_cons.mpr ⟨lw_p28, List.forall_mem_cons.mpr ⟨lw_p29, List.forall_mem_cons.mpr ⟨lw_p30, List.forall_mem_cons.mpr ⟨lw_p31, fun _ h => absurd h List.not_mem_nil⟩⟩⟩⟩⟩⟩⟩⟩⟩⟩⟩⟩⟩⟩⟩⟩
theorem lw_p32 : lw_okq (⟨"TaylorModelsModel", "readIntegral", "(II)V"⟩, 30) := ⟨⟨by decide +kernel, by decide +kernel⟩, List.mem_of_getElem? (i := 900) (by decide +kernel), List.mem_of_getElem? (i := 1100) (by decide +kernel), List.mem_of_getElem? (i := 1101) (by decide +kernel)⟩
theorem lw_p33 : lw_okq (⟨"TaylorModelsModel", "integralOf", "([JI[J)Z"⟩, 30) := ⟨⟨by decide +kernel, by decide +kernel⟩, List.mem_of_getElem? (i := 900) (by decide +kernel), List.mem_of_getElem? (i := 1104) (by decide +kernel), List.mem_of_getElem? (i := 1105) (by decide +kernel)⟩
theorem lw_p34 : lw_okq (⟨"TaylorModelsModel", "refuse", "(Z)V"⟩, 30) := ⟨⟨by decide +kernel, by decide +kernel⟩, List.mem_of_getElem? (i := 900) (by decide +kernel), List.mem_of_getElem? (i := 1137) (by decide +kernel), List.mem_of_getElem? (i := 1138) (by decide +kernel)⟩
theorem lw_p35 : lw_okq (⟨"TaylorModelsModel", "readNamed", "(III)V"⟩, 30) := ⟨⟨by decide +kernel, by decide +kernel⟩, List.mem_of_getElem? (i := 900) (by decide +kernel), List.mem_of_getElem? (i := 1142) (by decide +kernel), List.mem_of_getElem? (i := 1143) (by decide +kernel)⟩
theorem lw_p36 : lw_okq (⟨"TaylorModelsModel", "compositionOf", "([J[J[J[J)I"⟩, 30) := ⟨⟨by decide +kernel, by decide +kernel⟩, List.mem_of_getElem? (i := 900) (by decide +kernel), List.mem_of_getElem? (i := 1152) (by decide +kernel), List.mem_of_getElem? (i := 1153) (by decide +kernel)⟩
theorem lw_p37 : lw_okq (⟨"TaylorModelsModel", "productOf", "([J[J[J)Z"⟩, 30) := ⟨⟨by decide +kernel, by decide +kernel⟩, List.mem_of_getElem? (i := 900) (by decide +kernel), List.mem_of_getElem? (i := 1166) (by decide +kernel), List.mem_of_getElem? (i := 1167) (by decide +kernel)⟩
theorem lw_p38 : lw_okq (⟨"TaylorModelsModel", "layProducts", "([J[J)V"⟩, 30) := ⟨⟨by decide +kernel, by decide +kernel⟩, List.mem_of_getElem? (i := 900) (by decide +kernel), List.mem_of_getElem? (i := 1170) (by decide +kernel), List.mem_of_getElem? (i := 1171) (by decide +kernel)⟩
theorem lw_p39 : lw_okq (⟨"TaylorModelsModel", "remember", "()V"⟩, 30) := ⟨⟨by decide +kernel, by decide +kernel⟩, List.mem_of_getElem? (i := 900) (by decide +kernel), List.mem_of_getElem? (i := 1186) (by decide +kernel), List.mem_of_getElem? (i := 1187) (by decide +kernel)⟩
theorem lw_p40 : lw_okq (⟨"TaylorModelsModel", "noModel", "(I)Z"⟩, 30) := ⟨⟨by decide +kernel, by decide +kernel⟩, List.mem_of_getElem? (i := 900) (by decide +kernel), List.mem_of_getElem? (i := 1205) (by decide +kernel), List.mem_of_getElem? (i := 1206) (by decide +kernel)⟩
theorem lw_p41 : lw_okq (⟨"TaylorModelsModel", "noIndex", "(I)Z"⟩, 30) := ⟨⟨by decide +kernel, by decide +kernel⟩, List.mem_of_getElem? (i := 900) (by decide +kernel), List.mem_of_getElem? (i := 1209) (by decide +kernel), List.mem_of_getElem? (i := 1210) (by decide +kernel)⟩
theorem lw_p42 : lw_okq (⟨"TaylorModelsModel", "noPair", "(II)Z"⟩, 30) := ⟨⟨by decide +kernel, by decide +kernel⟩, List.mem_of_getElem? (i := 900) (by decide +kernel), List.mem_of_getElem? (i := 1239) (by decide +kernel), List.mem_of_getElem? (i := 1240) (by decide +kernel)⟩
theorem lw_p43 : lw_okq (⟨"TaylorModelsModel", "noThree", "(III)Z"⟩, 30) := ⟨⟨by decide +kernel, by decide +kernel⟩, List.mem_of_getElem? (i := 900) (by decide +kernel), List.mem_of_getElem? (i := 1247) (by decide +kernel), List.mem_of_getElem? (i := 1248) (by decide +kernel)⟩
theorem lw_p44 : lw_okq (⟨"TaylorModelsModel", "becomes", "(I)I"⟩, 30) := ⟨⟨by decide +kernel, by decide +kernel⟩, List.mem_of_getElem? (i := 900) (by decide +kernel), List.mem_of_getElem? (i := 1255) (by decide +kernel), List.mem_of_getElem? (i := 1256) (by decide +kernel)⟩
theorem lw_p45 : lw_okq (⟨"TaylorModelsModel", "stepOf", "(III[J)Z"⟩, 30) := ⟨⟨by decide +kernel, by decide +kernel⟩, List.mem_of_getElem? (i := 900) (by decide +kernel), List.mem_of_getElem? (i := 1279) (by decide +kernel), List.mem_of_getElem? (i := 1280) (by decide +kernel)⟩
def lw_privs_3 : List (MethodName × Nat) := [(⟨"TaylorModelsModel", "readIntegral", "(II)V"⟩, 30), (⟨"TaylorModelsModel", "integralOf", "([JI[J)Z"⟩, 30), (⟨"TaylorModelsModel", "refuse", "(Z)V"⟩, 30), (⟨"TaylorModelsModel", "readNamed", "(III)V"⟩, 30), (⟨"TaylorModelsModel", "compositionOf", "([J[J[J[J)I"⟩, 30), (⟨"TaylorModelsModel", "productOf", "([J[J[J)Z"⟩, 30), (⟨"TaylorModelsModel", "layProducts", "([J[J)V"⟩, 30), (⟨"TaylorModelsModel", "remember", "()V"⟩, 30), (⟨"TaylorModelsModel", "noModel", "(I)Z"⟩, 30), (⟨"TaylorModelsModel", "noIndex", "(I)Z"⟩, 30), (⟨"TaylorModelsModel", "noPair", "(II)Z"⟩, 30), (⟨"TaylorModelsModel", "noThree", "(III)Z"⟩, 30), (⟨"TaylorModelsModel", "becomes", "(I)I"⟩, 30), (⟨"TaylorModelsModel", "stepOf", "(III[J)Z"⟩, 30)]
theorem lw_r3 : ∀ q ∈ lw_privs_3, lw_okq q := List.forall_mem_cons.mpr ⟨lw_p32, List.forall_mem_cons.mpr ⟨lw_p33, List.forall_mem_cons.mpr ⟨lw_p34, List.forall_mem_cons.mpr ⟨lw_p35, List.forall_mem_cons.mpr ⟨lw_p36, List.forall_mem_cons.mpr ⟨lw_p37, List.forall_mem_cons.mpr ⟨lw_p38, List.forall_mem_cons.mpr ⟨lw_p39, List.forall_mem_cons.mpr ⟨lw_p40, List.forall_mem_cons.mpr ⟨lw_p41, List.forall_mem_cons.mpr ⟨lw_p42, List.forall_mem_cons.mpr ⟨lw_p43, List.forall_mem_cons.mpr ⟨lw_p44, List.forall_mem_cons.mpr ⟨lw_p45, fun _ h => absurd h List.not_mem_nil⟩⟩⟩⟩⟩⟩⟩⟩⟩⟩⟩⟩⟩⟩
def lw_privs : List (MethodName × Nat) := lw_privs_1 ++ (lw_privs_2 ++ (lw_privs_3))
def lw_tbl : List Cond := k2_sels lw_privs ++ tables_1
theorem lw_privs_ok : ∀ q ∈ lw_privs, lw_okq q := by
  show ∀ q ∈ lw_privs_1 ++ (lw_privs_2 ++ (lw_privs_3)), lw_okq q
  exact List.forall_mem_append.mpr ⟨lw_r1, List.forall_mem_append.mpr ⟨lw_r2, lw_r3⟩⟩
end
section
/-! ===== BEGIN words of one list among another's, by their places ===== -/
theorem goodIn_r {big : List Cond} (ws : List Cond) (ps : List Nat) (hp : ws = ps.filterMap (fun i => big[i]?)) (h : ws.all goodWord = true) : GoodIn big ws := by
  intro w hw
  have h1 := List.all_eq_true.mp h w hw
  rw [hp] at hw
  obtain ⟨i, -, hi⟩ := List.mem_filterMap.mp hw
  have hm : w ∈ big := by first | exact List.mem_of_getElem? hi | exact List.getElem?_mem hi
  exact ⟨hm, good_of_word h1⟩
theorem goodIn_app {big a b : List Cond} (ha : GoodIn big a) (hb : GoodIn big b) : GoodIn big (a ++ b) := fun w h => (List.mem_append.mp h).elim (ha w) (hb w)
theorem goodIn_ca {big a b : List Cond} {c : Cond} (ha : GoodIn big (c :: a)) (hb : GoodIn big b) : GoodIn big (c :: (a ++ b)) := fun w h => (List.mem_cons.mp h).elim (fun e => ha w (List.mem_cons.mpr (Or.inl e))) (fun h => (List.mem_append.mp h).elim (fun h => ha w (List.mem_cons.mpr (Or.inr h))) (hb w))
theorem goodIn_sub {big ws : List Cond} (hm : ∀ w ∈ ws, w ∈ big) (h : ws.all goodWord = true) : GoodIn big ws := fun w hw => ⟨hm w hw, good_of_word (List.all_eq_true.mp h w hw)⟩
/-! ===== END ===== -/

/-- the printed rows name these two, no printed text has them -/
def va_AOA (ty : FieldType) (U : State) : Prop := (Cond.arrayOver (.array ty)).before #[] U = true
theorem va_AOA.use {ty : FieldType} {A : Array Value} {U : State} (h : va_AOA ty U) : (Cond.arrayOver (.array ty)).before A U = true := h
/-! ===== BEGIN new T[n][m]: the outer array a place, the inner ones among the pooled ===== -/
/-- f, but v at every address of l -/
def vr_up {α : Type} (f : Nat → α) (l : List Nat) (v : α) : Nat → α := fun a => if a ∈ l then v else f a
theorem vr_up_in {α : Type} {f : Nat → α} {l : List Nat} {v : α} {a : Nat} (h : a ∈ l) : vr_up f l v a = v := if_pos h
theorem vr_up_ne {α : Type} {f : Nat → α} {l : List Nat} {v : α} {a : Nat} (h : a ∉ l) : vr_up f l v a = f a := if_neg h
theorem vr_rows {L l : List Nat} {f : Nat → va_E} {e : va_E} (h : ∀ a, a ∈ l → a ∉ L) : va_pl L f ++ l.map (fun a => (a, e)) = va_pl (L ++ l) (vr_up f l e) := by
  unfold va_pl
  rw [List.map_append]
  congr 1
  · apply List.map_congr_left
    intro a ha
    rw [vr_up_ne (fun q => h a q ha)]
  · apply List.map_congr_left
    intro a ha
    rw [vr_up_in ha]
theorem vr_lay {X rows : va_W} {x : Nat × va_E} {pl : va_W} {D : va_G} {cl : List vw_C} {H : Heap} (hP : va_P D cl (((X ++ pl) ++ [x]) ++ rows) H) : va_P D cl ((X ++ [x]) ++ (pl ++ rows)) H := by
  rw [List.append_assoc (X ++ pl)] at hP
  have h := va_P.swap hP
  rw [← List.append_assoc X] at h
  have h2 := va_P.swap h
  rw [List.append_assoc (X ++ [x])] at h2
  exact h2
theorem vr_layD {X rows : va_W} {x : Nat × va_E} {pl : va_W} {A : Nat → Prop} (hD : va_D A (((X ++ pl) ++ [x]) ++ rows)) : va_D A ((X ++ [x]) ++ (pl ++ rows)) := by
  rw [List.append_assoc (X ++ pl)] at hD
  have h := va_D.swap hD
  rw [← List.append_assoc X] at h
  have h2 := va_D.swap h
  rw [List.append_assoc (X ++ [x])] at h2
  exact h2
theorem vr_outer (c : ClassId) (N h0 : Nat) : ∀ i : Nat, Jvm.Free.Multi.outerC c N h0 i = arrV c N (fun j => va_rf (if j < i then some (h0 + 1 + j) else none))
  | 0 => by
    show ({ cls := c, slots := Array.replicate N .null, vm := .none } : Cell) = _
    rw [arrV_new]
    refine congrArg (arrV c N) (funext fun j => ?_)
    simp [va_rf]
  | i + 1 => by
    show (Jvm.Free.Multi.outerC c N h0 i).setSlot i (.ref (h0 + 1 + i)) = _
    rw [vr_outer c N h0 i, arrV_store]
    refine congrArg (arrV c N) (funext fun j => ?_)
    by_cases e : j = i
    · subst e
      simp [updV, va_rf]
    · by_cases h : j < i
      · simp [updV, e, h, Nat.lt_succ_of_lt h]
      · simp [updV, e, h, show ¬ j < i + 1 by omega]
section VGM
variable {p : Program} {l : Launch} {e : Env} {R : Room} {s : State} {m : MethodId} {args : Array Value} {below : List Frame} {meth : Method} {c : Code} {H : Heap} {locs : List Loc} {cells slots : Nat} {Q : State → Prop}
variable {cc : ByteArray} {pc : Nat} {ls : Array Slot} {rest : List Value} {D : va_G} {cl : List vw_C} {A : Nat → Prop} {a : Nat} {tys : List (ClassId × FieldType)} {ws : va_W} {H0 : Heap}
theorem va_mna {X : va_W} {L : List Nat} {f : Nat → va_E} {cc : ByteArray} (hexec : p.tables.exec = Jvm.exec) (hb : c.code = cc) {own : String} {index : Nat} {ty : FieldType} {cy : ClassId} (hown : s.vm.findClass own = some m.cls) (hclink : (Cond.classLink own index ("[" ++ (FieldType.array ty).toString)).before args s = true) (hover : va_AOA ty s) (harr : (Cond.arrayClass ty).before args s = true) (hcy : s.vm.findClass (FieldType.array ty).toString = some cy)
    (hK : va_K D cl tys s) (hP : va_P D cl (X ++ va_pl L f) H) (hD : va_D A (X ++ va_pl L f)) (hS : va_S A H0 H locs) (hA : ∀ q, H0.size ≤ q → A q) {n k : Int32} {N' K' : Nat} {z : vp_A} (hn : ¬ n < 0) (hk : ¬ k < 0) (hN : n.toNatClampNeg = N') (hM : k.toNatClampNeg = K')
    (hb1 : N' * 4 ≤ 536870912) (hb2 : K' * componentBytes ty ≤ 536870912) (hb3 : K' ≤ 536870912) (hdf : fits ty (defaultValue ty) = true) (hdd : (defaultValue ty).isDefault = true) (hcells : cells + (1 + N') ≤ R.cells) (hslots : slots + (N' + N' * K') ≤ R.slots) (hz : ∀ c : ClassId, Jvm.Free.Multi.innerC c K' (defaultValue ty) = vp_cell c z) (hdg : decode cc pc = .ok (.multianewarray index 2, 4))
    (kk : ∀ (q : Nat) (r : Nat → Nat) (cA : ClassId) (H1 : Heap), (∀ i j : Nat, i < N' → j < N' → r i = r j → i = j) → (∀ i : Nat, i < N' → r i ∉ L) → va_K D cl (tys ++ [(cA, .array ty)]) s →
      va_P D cl ((X ++ [(q, .inl (cA, N', .inr (.inr (.inr (.inr (fun i => if i < N' then some (r i) else none))))))]) ++ va_pl (L ++ (List.range N').map r) (vr_up f ((List.range N').map r) (.inl (cy, z)))) H1 → va_D A ((X ++ [(q, .inl (cA, N', .inr (.inr (.inr (.inr (fun i => if i < N' then some (r i) else none))))))]) ++ va_pl (L ++ (List.range N').map r) (vr_up f ((List.range N').map r) (.inl (cy, z)))) → va_S A H0 H1 locs →
      W p l e R s m args below meth c H1 locs (cells + 1 + N') (slots + N' + N' * K') Q (F0 m (pc + 4) ls (.ref q :: rest))) : W p l e R s m args below meth c H locs cells slots Q (F0 m pc ls (.int k :: .int n :: rest)) := by
  subst hN
  subst hM
  intro T hT Xs
  obtain ⟨vm₁, cA, comp, -, fA, fC, hO, -, X', step⟩ := Xs.multianewarray2F hexec hown hclink (va_AOA.use hover) harr (g := F0 m pc ls (.int k :: .int n :: rest)) rfl (by rw [hb]; exact hdg) rfl hn hk hb1 hb2 hb3 hdf hdd hcells hslots
  have ec : some cy = some comp := hcy.symm.trans fC
  cases ec
  generalize hF : Jvm.Free.Multi.fill (T.setVm vm₁) cA cy n.toNatClampNeg k.toNatClampNeg (defaultValue ty) n.toNatClampNeg = F at X' step
  have hTh : (T.setVm vm₁).heap = H := hT
  obtain ⟨f1, f2, -, -⟩ := Jvm.Free.Multi.fill_facts (T.setVm vm₁) cA cy n.toNatClampNeg k.toNatClampNeg (defaultValue ty) n.toNatClampNeg
  rw [hF, hTh] at f1 f2
  have hold : ∀ x : Nat, x < H.size → F.heap[x]? = H[x]? := fun x hx => by
    have := Jvm.Free.Multi.fill_old (T.setVm vm₁) cA cy n.toNatClampNeg k.toNatClampNeg (defaultValue ty) (a := x) (by rw [hTh]; exact hx) n.toNatClampNeg
    rw [hF, hTh] at this
    exact this
  have hrow : ∀ j : Nat, j < n.toNatClampNeg → F.heap[H.size + 1 + j]? = some (vp_cell cy z) := fun j hj => by
    have := Jvm.Free.Multi.fill_inner (T.setVm vm₁) cA cy n.toNatClampNeg k.toNatClampNeg (defaultValue ty) n.toNatClampNeg j hj
    rw [hF, hTh, hz] at this
    exact this
  have hout : Jvm.Free.Multi.outerC cA n.toNatClampNeg H.size n.toNatClampNeg = vp_cell cA (n.toNatClampNeg, .inr (.inr (.inr (.inr (fun i => if i < n.toNatClampNeg then some (H.size + 1 + i) else none))))) := by
    rw [vp_cell_q]
    exact vr_outer cA n.toNatClampNeg H.size n.toNatClampNeg
  rw [hout] at f2
  have hlt : ∀ a, a ∈ L → a < H.size := fun a ha => by
    obtain ⟨k9, hk9⟩ := va_pl_get (X := X) (f := f) ha
    exact (hP k9 _ hk9).lt
  have hnl : ∀ i : Nat, i < n.toNatClampNeg → H.size + 1 + i ∉ L := fun i _ h => by
    have := hlt _ h
    omega
  have hnm : ∀ a, a ∈ (List.range n.toNatClampNeg).map (fun i => H.size + 1 + i) → a ∉ L := fun a ha h => by
    obtain ⟨i, -, rfl⟩ := List.mem_map.mp ha
    have := hlt _ h
    omega
  have hP0 : va_P D cl (X ++ va_pl L f) F.heap := hP.kept (fun k9 x hx => hold x.1 ((hP k9 x hx).lt))
  have hP1 : va_P D cl ((X ++ va_pl L f) ++ [(H.size, .inl (cA, n.toNatClampNeg, .inr (.inr (.inr (.inr (fun i => if i < n.toNatClampNeg then some (H.size + 1 + i) else none))))))]) F.heap := hP0.app (fun k9 x hx => by
    have h0 : k9 < 1 := (List.getElem?_eq_some_iff.mp hx).1
    rw [show k9 = 0 by omega] at hx
    cases hx
    exact f2)
  have hP2 : va_P D cl (((X ++ va_pl L f) ++ [(H.size, .inl (cA, n.toNatClampNeg, .inr (.inr (.inr (.inr (fun i => if i < n.toNatClampNeg then some (H.size + 1 + i) else none))))))]) ++ ((List.range n.toNatClampNeg).map (fun i => H.size + 1 + i)).map (fun a => (a, .inl (cy, z)))) F.heap := hP1.app (fun k9 x hx => by
    obtain ⟨a, ha, rfl⟩ := List.mem_map.mp (List.mem_of_getElem? hx)
    obtain ⟨i, hi, rfl⟩ := List.mem_map.mp ha
    exact hrow i (List.mem_range.mp hi))
  have hD2 : va_D A (((X ++ va_pl L f) ++ [(H.size, .inl (cA, n.toNatClampNeg, .inr (.inr (.inr (.inr (fun i => if i < n.toNatClampNeg then some (H.size + 1 + i) else none))))))]) ++ ((List.range n.toNatClampNeg).map (fun i => H.size + 1 + i)).map (fun a => (a, .inl (cy, z)))) := by
    have hD1 := hD.push (e := .inl (cA, n.toNatClampNeg, .inr (.inr (.inr (.inr (fun i => if i < n.toNatClampNeg then some (H.size + 1 + i) else none)))))) hP rfl (hA _ hS.1)
    generalize hW1 : (X ++ va_pl L f) ++ [(H.size, .inl (cA, n.toNatClampNeg, .inr (.inr (.inr (.inr (fun i => if i < n.toNatClampNeg then some (H.size + 1 + i) else none))))))] = W1 at hD1 hP1 ⊢
    have hle : ∀ (k9 : Nat) (x : Nat × va_E), W1[k9]? = some x → x.1 ≤ H.size := fun k9 x hx => by
      rw [← hW1] at hx
      by_cases hl : k9 < (X ++ va_pl L f).length
      · rw [List.getElem?_append_left hl] at hx
        exact Nat.le_of_lt ((hP k9 x hx).lt)
      · rw [List.getElem?_append_right (by omega)] at hx
        have h0 : k9 - (X ++ va_pl L f).length < 1 := (List.getElem?_eq_some_iff.mp hx).1
        rw [show k9 - (X ++ va_pl L f).length = 0 by omega] at hx
        cases hx
        exact Nat.le_refl _
    have hr : ∀ (k9 : Nat) (x : Nat × va_E), (((List.range n.toNatClampNeg).map (fun i => H.size + 1 + i)).map (fun a => ((a, .inl (cy, z)) : Nat × va_E)))[k9]? = some x → x.1 = H.size + 1 + k9 := fun k9 x hx => by
      rw [List.getElem?_map, List.getElem?_map] at hx
      by_cases h9 : k9 < n.toNatClampNeg
      · rw [List.getElem?_range h9] at hx
        cases hx
        rfl
      · have hn0 : (List.range n.toNatClampNeg)[k9]? = none := List.getElem?_eq_none (by rw [List.length_range]; omega)
        rw [hn0] at hx
        cases hx
    refine ⟨fun i j x y hi hj hxy => ?_, fun k9 x hx => ?_⟩
    · by_cases h1 : i < W1.length <;> by_cases h2 : j < W1.length
      · rw [List.getElem?_append_left h1] at hi
        rw [List.getElem?_append_left h2] at hj
        exact hD1.1 i j x y hi hj hxy
      · rw [List.getElem?_append_left h1] at hi
        rw [List.getElem?_append_right (by omega)] at hj
        have := hle _ _ hi
        have := hr _ _ hj
        omega
      · rw [List.getElem?_append_right (by omega)] at hi
        rw [List.getElem?_append_left h2] at hj
        have := hle _ _ hj
        have := hr _ _ hi
        omega
      · rw [List.getElem?_append_right (by omega)] at hi hj
        have := hr _ _ hi
        have := hr _ _ hj
        omega
    · by_cases h1 : k9 < W1.length
      · rw [List.getElem?_append_left h1] at hx
        exact hD1.2 k9 x hx
      · rw [List.getElem?_append_right (by omega)] at hx
        have := hr _ _ hx
        exact hA _ (by have := hS.1; omega)
  have hAr : ArrOfT s cA (.array ty) := fun N9 z9 => by
    obtain ⟨-, k9, hk9, cm9, hkk9⟩ := (hO 0 0 0).1
    exact ⟨(fun q hq => by cases hq), k9, hk9, cm9, hkk9⟩
  have hK2 : va_K D cl (tys ++ [(cA, .array ty)]) s := ⟨hK.1, fun k9 x hx => by
    by_cases hl : k9 < tys.length
    · rw [List.getElem?_append_left hl] at hx
      exact hK.2 k9 x hx
    · rw [List.getElem?_append_right (by omega)] at hx
      have h0 : k9 - tys.length < 1 := (List.getElem?_eq_some_iff.mp hx).1
      rw [show k9 - tys.length = 0 by omega] at hx
      cases hx
      exact ⟨hAr, fA⟩⟩
  obtain ⟨t, a1, b1⟩ := kk H.size (fun i => H.size + 1 + i) cA F.heap (fun i j _ _ h => by have h9 : H.size + 1 + i = H.size + 1 + j := h; omega) hnl hK2 (by rw [← vr_rows hnm]; exact vr_lay hP2) (by rw [← vr_rows hnm]; exact vr_layD hD2) ⟨by rw [f1]; have := hS.1; omega, fun x h1 h2 => (hold x (Nat.lt_of_lt_of_le h1 hS.1)).trans (hS.2.1 x h1 h2), hS.2.2⟩ F rfl X'
  refine ⟨t, step t ?_, b1⟩
  have e : T.heap.size = H.size := by rw [hT]
  rw [e]
  exact a1
end VGM
/-! ===== END ===== -/

/-! ===== BEGIN exceptions that leave a method, and their catching by the caller (launches without stack traces) ===== -/
section VXA
/-! The laws vx_back, vx_callV, vx_callS, vx_callSW, vx_throw0, vx_throwS follow proofs of the library, with one case more: JvmDerived/Free/Laws.lean (Back.of_free), Shelf42/LK1.lean (callV, callS), Shelf/KitTraced.lean (throwNew0V, throwNewS). -/
/-- where a method has thrown q: the class by its name, the cell, what was written, the world -/
def vx_T (XC : String → State → State → Prop) (st : State) (q : Addr) (t : State) (mc ms : Nat) (free : Addr → Prop) : Prop :=
  ∃ (E : String) (ce : Cell) (L : List Loc), XC E st t ∧ t.heap[q]? = some ce ∧ ce.vm = .none ∧ st.vm.findClass E = some ce.cls ∧ st.WarmedH t.vm ∧ st.sameButNew ({ t with vm := st.vm } : State) L mc ms ∧ ∀ z ∈ L, free z.base
def vx_Q (Qc : Array Value → State → Outcome → State → Prop) (XC : String → State → State → Prop) (mc ms : Nat) (free : Addr → Prop) : Array Value → State → Outcome → State → Prop := fun a st o t =>
  (Qc a st o t ∧ ∃ L, FrameEnd st o t L mc ms ∧ ∀ q ∈ L, free q.base) ∨ ∃ q, o = .threw q ∧ vx_T XC st q t mc ms free
/-- a callee that returns or throws -/
def vx_Met (l : Launch) (y : MethodName) (ws : List Cond) (rm : Room) (Pc : Array Value → State → Prop) (Qc : Array Value → State → Outcome → State → Prop) (XC : String → State → State → Prop) (mc ms : Nat) (free : Addr → Prop) : Prop :=
  MetFree l y (headSpec ws rm) Pc (fun _ _ _ _ _ => True) (vx_Q Qc XC mc ms free)
def vx_Post (XC : String → State → State → Prop) (mc ms : Nat) (free : Addr → Prop) : Pt → Array Value → Addr → Pt → Prop := fun A a q B =>
  ∃ (g : JFrame) (mk : MethodId) (t : State) (L : List Loc) (E : String) (ce : Cell), B.U.heap = t.heap ∧ B.U.vm = t.vm ∧ XC E (A.U.calling g mk a) t ∧ t.heap[q]? = some ce ∧ ce.vm = .none ∧ A.U.vm.findClass E = some ce.cls ∧ B.locs = A.locs ++ L ∧ (∀ z ∈ L, free z.base) ∧ B.cells = A.cells + mc ∧ B.slots = A.slots + ms
def vx_Back (l : Launch) (R : Room) (p : Program) (e : Env) (below : List Frame) (s : State) (sargs : Array Value) (y : MethodName) (len W9 : Nat)
    (Pre : Pt → Array Value → Prop) (Post : Pt → Array Value → Option Value → Pt → Prop) (PostX : Pt → Array Value → Addr → Pt → Prop) : Prop :=
  ∀ (m : MethodId) (meth : Method) (c : Code) (A : Pt) (g : JFrame) (ig : Instr) (mk : MethodId) (a : Array Value),
    Stand p l e R s m sargs below meth c A.U A.locs A.cells A.slots → g.method = m → g.locals.size = c.maxLocals → decode c.code g.pc = .ok (ig, len) →
    2 * g.monitorRoom + (g.stack.map fun v => v.category).sum ≤ W9 → A.U.methodNamed? y = some mk → Pre A a →
    (∃ (v : Option Value) (B : Pt), Stand p l e R s m sargs below meth c B.U B.locs B.cells B.slots ∧ Post A a v B ∧
      Steps p.tables e below (doInvoke e (A.U.setTop g) [] mk a).1 (B.U.setTop { g with pc := g.pc + len, stack := v.toList ++ g.stack })) ∨
    (∃ (q : Addr) (B : Pt), Stand p l e R s m sargs below meth c B.U B.locs B.cells B.slots ∧ PostX A a q B ∧
      Steps p.tables e below (doInvoke e (A.U.setTop g) [] mk a).1 ((B.U.setTop g).pushFrame (.throwing q)))
section Payer
variable {l : Launch} {R : Room} {p : Program} {e : Env} {below : List Frame} {s : State} {sargs : Array Value} {y : MethodName} {len W9 : Nat}
theorem vx_back {ws : List Cond} {rm : Room} {Pc : Array Value → State → Prop} {Qc : Array Value → State → Outcome → State → Prop} {XC : String → State → State → Prop} {mc ms : Nat} {free : Addr → Prop} {bytes : ByteArray} {maxL : Nat} {ret : Option FieldType}
    (hM : vx_Met l y ws rm Pc Qc XC mc ms free) (hblind : FrameBlind Pc) (hrc : rm.cells = mc) (hrs : rm.slots = ms)
    (hframes : rm.frames + 1 ≤ R.frames) (hlocals : W9 + (maxL + 11) + rm.locals ≤ R.locals)
    (hws : ∀ w ∈ ws, ∀ a' U, s.WarmedH U.vm → w.before a' U = true) (hcode : Cond.code y bytes maxL ret ∈ ws) (hinit : ∀ a' U, s.WarmedH U.vm → (Cond.initialized y.cls).before a' U = true) :
    vx_Back l R p e below s sargs y len W9 (PreOf R mc ms Pc) (PostOf Qc mc ms free) (vx_Post XC mc ms free) := by
  intro m meth c A g ig mk a X hg hsize hdg hW hn hp
  have h1 : (headSpec ws rm).pre.before a A.U = true := atoms_intro fun w hw => hws w hw _ _ X.warmed
  have h2 : (Cond.code y bytes maxL ret).before a A.U = true := hws _ hcode _ _ X.warmed
  have h3 : (Cond.initialized y.cls).before a A.U = true := hinit _ _ X.warmed
  have h4 : A.cells + (headSpec ws rm).room.cells ≤ R.cells := by rw [show (headSpec ws rm).room.cells = mc from hrc]; exact hp.1
  have h5 : A.slots + (headSpec ws rm).room.slots ≤ R.slots := by rw [show (headSpec ws rm).room.slots = ms from hrs]; exact hp.2.1
  have hPc : Pc a (A.U.calling g mk a) := hblind _ _ _ _ hp.2.2
  obtain ⟨U, Ls, c0, s0⟩ := A
  dsimp only [Pt.U, Pt.locs, Pt.cells, Pt.slots] at h1 h2 h3 h4 h5 X hn hPc ⊢
  obtain ⟨methY, cY, hmY, hcY, -, hlY, -, -, -, -⟩ := Cond.code_spec hn h2
  obtain ⟨kY, hkY, -⟩ := className_of_methodNamed hn
  have hinitY : kY.init = .initialized := Cond.initialized_spec (findClass_of_methodNamed hn) hkY h3
  have h : At U g.method c below := by rw [hg]; exact X.here
  have hlocals9 : W9 + (maxL + 11) + (headSpec ws rm).room.locals ≤ R.locals := hlocals
  have happ : (headSpec ws rm).appliesLoose y e.platform (U.calling g mk a) = true :=
    Spec.appliesLoose_calling (g := g) h hdg hn hkY hinitY
      (X.room_calling (g := g) (R' := (headSpec ws rm).room) hsize hmY hcY hframes (by rw [hlY]; omega) h4 h5) h1
  obtain ⟨mid, hmid⟩ := h.above
  have hfr : (U.setTop g).frames = (.java g :: mid) ++ below := by rw [State.frames_setTop' g h.top, hmid]; rfl
  obtain ⟨o, s₂, hsteps, -, hend, hq⟩ := Steps.callFree hM p X.admits X.cas X.clock (acts := []) hfr happ hPc trivial
  have hq' : vx_Q Qc XC mc ms free a (U.calling g mk a) o s₂ := hq
  rw [State.frames_setTop' g h.top] at hend
  obtain ⟨g₀, hg0⟩ := Option.isSome_iff_exists.mp h.top
  obtain ⟨r, hr⟩ := State.topJava?_eq_some.mp hg0
  have hr' : (({ U with heap := s₂.heap, slotsUsed := s₂.slotsUsed } : State).setVm s₂.vm).frames = .java g₀ :: r := hr
  rcases hq' with ⟨hqc, L, hfe, hL⟩ | ⟨q, rfl, E, ce, L, hx, hce, hcv, hcl, hW₂, hsm, hL⟩
  · obtain ⟨⟨v, rfl⟩, hW₂, e2, q2, q3, q4, q5, q6⟩ := id hfe
    have e3 : s₂ = ({ (U.calling g mk a).setFrames s₂.frames with heap := s₂.heap, slotsUsed := s₂.slotsUsed } : State).setVm s₂.vm := by
      have : s₂ = ({ s₂ with vm := (U.calling g mk a).vm } : State).setVm s₂.vm := rfl
      rw [e2] at this
      exact this
    obtain ⟨c₂, i₂, len₂, hc₂, hd₂, hf₂⟩ := hend
    have hW' : U.WarmedH s₂.vm := hW₂
    have hcc : c₂ = c := by
      have h1 : s₂.code? g.method = U.code? g.method := by
        rw [State.code?_eq, State.code?_eq, hW'.alike.method?]
      exact Option.some.inj (hc₂.symm.trans (h1.trans h.code))
    subst hcc
    have hlen : len₂ = len := by rw [hdg] at hd₂; cases hd₂; rfl
    subst hlen
    have hs₂ : s₂ = (({ U with heap := s₂.heap, slotsUsed := s₂.slotsUsed } : State).setVm s₂.vm).setTop { g with pc := g.pc + len₂, stack := v.toList ++ g.stack } := by
      refine e3.trans ?_
      rw [hf₂, State.calling_eq h.top, State.setFrames_setFrames, State.setTop_of_frames _ hr', hr]
      rfl
    have hsame : U.sameButNew ({ U with heap := s₂.heap, slotsUsed := s₂.slotsUsed } : State) L mc ms := by
      refine ⟨?_, q2, q3, q4, q5, q6⟩
      obtain ⟨t, ht, -⟩ := State.frames_cons hr
      show ({ U with heap := s₂.heap, slotsUsed := s₂.slotsUsed } : State) = { U.setFrames U.frames with heap := s₂.heap, slotsUsed := s₂.slotsUsed }
      rw [State.setFrames_self ht]
    subst hg
    refine Or.inl ⟨v, ⟨(({ U with heap := s₂.heap, slotsUsed := s₂.slotsUsed } : State).setVm s₂.vm), Ls ++ L, c0 + mc, s0 + ms⟩,
      ⟨X.admits, X.cas, X.clock, X.frames, X.room, X.hears, X.method, X.code, (X.here.setHeapUsed s₂.heap s₂.slotsUsed).setVm hW'.alike, X.tail, State.WarmedH.trans X.warmed hW', X.limits, X.bytes, X.same.trans (hsame.setVm s.vm)⟩,
      ⟨g, mk, s₂, L, rfl, rfl, hqc, rfl, hL, rfl, rfl⟩, ?_⟩
    show Steps p.tables e below _ ((({ U with heap := s₂.heap, slotsUsed := s₂.slotsUsed } : State).setVm s₂.vm).setTop { g with pc := g.pc + len₂, stack := v.toList ++ g.stack })
    rw [← hs₂]
    exact hsteps
  · obtain ⟨e2, q2, q3, q4, q5, q6⟩ := id hsm
    have e3 : s₂ = ({ (U.calling g mk a).setFrames s₂.frames with heap := s₂.heap, slotsUsed := s₂.slotsUsed } : State).setVm s₂.vm := by
      have : s₂ = ({ s₂ with vm := (U.calling g mk a).vm } : State).setVm s₂.vm := rfl
      rw [e2] at this
      exact this
    have hf₂ : s₂.frames = .throwing q :: .java g :: U.frames.tail := hend
    have hW' : U.WarmedH s₂.vm := hW₂
    have hs₂ : s₂ = ((({ U with heap := s₂.heap, slotsUsed := s₂.slotsUsed } : State).setVm s₂.vm).setTop g).pushFrame (.throwing q) := by
      refine e3.trans ?_
      rw [hf₂, State.calling_eq h.top, State.setFrames_setFrames, State.pushFrame, State.frames_setTop _ hr', State.setTop_of_frames _ hr', State.setFrames_setFrames, hr]
      rfl
    have hsame : U.sameButNew ({ U with heap := s₂.heap, slotsUsed := s₂.slotsUsed } : State) L mc ms := by
      refine ⟨?_, q2, q3, q4, q5, q6⟩
      obtain ⟨t, ht, -⟩ := State.frames_cons hr
      show ({ U with heap := s₂.heap, slotsUsed := s₂.slotsUsed } : State) = { U.setFrames U.frames with heap := s₂.heap, slotsUsed := s₂.slotsUsed }
      rw [State.setFrames_self ht]
    subst hg
    refine Or.inr ⟨q, ⟨(({ U with heap := s₂.heap, slotsUsed := s₂.slotsUsed } : State).setVm s₂.vm), Ls ++ L, c0 + mc, s0 + ms⟩,
      ⟨X.admits, X.cas, X.clock, X.frames, X.room, X.hears, X.method, X.code, (X.here.setHeapUsed s₂.heap s₂.slotsUsed).setVm hW'.alike, X.tail, State.WarmedH.trans X.warmed hW', X.limits, X.bytes, X.same.trans (hsame.setVm s.vm)⟩,
      ⟨g, mk, s₂, L, E, ce, rfl, rfl, hx, hce, hcv, hcl, rfl, hL, rfl, rfl⟩, ?_⟩
    show Steps p.tables e below _ (((({ U with heap := s₂.heap, slotsUsed := s₂.slotsUsed } : State).setVm s₂.vm).setTop g).pushFrame (.throwing q))
    rw [← hs₂]
    exact hsteps
end Payer
section Calls
variable {p : Program} {l : Launch} {e : Env} {R : Room} {s : State} {m : MethodId} {args : Array Value} {below : List Frame} {meth : Method} {c : Code} {T : State} {locs : List Loc} {cells slots : Nat}
theorem vx_callV (X : Stand p l e R s m args below meth c T locs cells slots) (hexec : p.tables.exec = Jvm.exec) {own C : String} {index : Nat} {y : MethodName} {bytes : ByteArray} {maxL : Nat} {ret : Option FieldType}
    (hown : s.vm.findClass own = some m.cls) (hlink : (Cond.methodLink own index y).before args s = true) (hinst : (Cond.instanceMethod y).before args s = true) (hsel : (Cond.selects C y y).before args s = true)
    (hcode : (Cond.code y bytes maxL ret).before args s = true) (hy : y.cls ≠ "java/lang/invoke/MethodHandle" ∧ y.cls ≠ "java/lang/invoke/VarHandle")
    {W9 : Nat} {Pre : Pt → Array Value → Prop} {Post : Pt → Array Value → Option Value → Pt → Prop} {PostX : Pt → Array Value → Addr → Pt → Prop} (hK : vx_Back l R p e below s args y 3 W9 Pre Post PostX)
    {b : Addr} {cellB : Cell} (hcell : T.heap[b]? = some cellB) (hobj : cellB.vm.isStatics = false) (hcls : s.vm.findClass C = some cellB.cls)
    {g : JFrame} (hg : g.method = m) (hsize : g.locals.size = c.maxLocals) {argsL rest : List Value} (hlen : ∀ sig, parseMethodDescriptor y.desc = some sig → argsL.length = sig.parameters.length)
    (hstack : g.stack = argsL.reverse ++ .ref b :: rest) (hW : 2 * g.monitorRoom + (rest.map fun v => v.category).sum ≤ W9) (hdg : decode c.code g.pc = .ok (.invokevirtual index, 3))
    (hpre : ∀ vm₁, s.WarmedH vm₁ → Pre ⟨T.setVm vm₁, locs, cells, slots⟩ (Value.ref b :: argsL).toArray) :
    (∃ (v : Option Value) (vm₁ : Vm) (B : Pt), s.WarmedH vm₁ ∧ Stand p l e R s m args below meth c B.U B.locs B.cells B.slots ∧ Post ⟨T.setVm vm₁, locs, cells, slots⟩ (Value.ref b :: argsL).toArray v B ∧
      ∀ target, Steps p.tables e below (B.U.setTop { g with pc := g.pc + 3, stack := v.toList ++ rest }) target → Steps p.tables e below (T.setTop g) target) ∨
    (∃ (q : Addr) (vm₁ : Vm) (B : Pt), s.WarmedH vm₁ ∧ Stand p l e R s m args below meth c B.U B.locs B.cells B.slots ∧ PostX ⟨T.setVm vm₁, locs, cells, slots⟩ (Value.ref b :: argsL).toArray q B ∧
      Steps p.tables e below (T.setTop g) ((B.U.setTop { g with stack := rest }).pushFrame (.throwing q))) := by
  obtain ⟨mk, methM, hnamed, hmethM, hstM, habM⟩ := Cond.instanceMethod_spec hinst
  obtain ⟨methM', cM, hmethM', -, -, -, -, -, -, hsigM⟩ := Cond.code_spec hnamed hcode
  cases hmethM.symm.trans hmethM'
  obtain ⟨c2, r2, m2, q1, q2, q3, q4, kP, hkP, hkPi⟩ := Cond.selects_spec hsel
  cases hcls.symm.trans q1
  cases (State.methodFound?_of_named hnamed hy).symm.trans q2
  cases hnamed.symm.trans q3
  have hselP : selectMethod e.platform s.vm cellB.cls mk = .method mk := by rw [Launch.admits_selectMethod X.admits]; exact q4
  obtain ⟨vm₁, X₁, hstep₁⟩ := X.invokevirtual hexec hown hlink hnamed hmethM hstM hkP hkPi hy (a := b) (cell := cellB) hcell
    (fun z h => by rw [h] at hobj; cases hobj) hselP hmethM habM hkP hkPi (g := g) hg (argsL := argsL) (rest := rest) (hlen _ hsigM) hstack hdg
  rcases hK m meth c ⟨T.setVm vm₁, locs, cells, slots⟩ { g with stack := rest } (.invokevirtual index) mk (Value.ref b :: argsL).toArray X₁ hg hsize hdg hW (X₁.named hnamed) (hpre vm₁ X₁.warmed) with ⟨v, B, X', hpost, hsteps⟩ | ⟨q, B, X', hpost, hsteps⟩
  · exact Or.inl ⟨v, vm₁, B, X₁.warmed, X', hpost, fun target h => hstep₁ _ fun acts => by rw [doInvoke_state]; exact hsteps.trans h⟩
  · exact Or.inr ⟨q, vm₁, B, X₁.warmed, X', hpost, hstep₁ _ fun acts => by rw [doInvoke_state]; exact hsteps⟩
theorem vx_callS (X : Stand p l e R s m args below meth c T locs cells slots) (hexec : p.tables.exec = Jvm.exec) {own : String} {index : Nat} {y : MethodName} {bytes : ByteArray} {maxL : Nat} {ret : Option FieldType}
    (hown : s.vm.findClass own = some m.cls) (hlink : (Cond.methodLink own index y).before args s = true) (hstat : (Cond.static y).before args s = true) (hinit : (Cond.initialized y.cls).before args s = true)
    (hcode : (Cond.code y bytes maxL ret).before args s = true) (hy : y.cls ≠ "java/lang/invoke/MethodHandle" ∧ y.cls ≠ "java/lang/invoke/VarHandle")
    {W9 : Nat} {Pre : Pt → Array Value → Prop} {Post : Pt → Array Value → Option Value → Pt → Prop} {PostX : Pt → Array Value → Addr → Pt → Prop} (hK : vx_Back l R p e below s args y 3 W9 Pre Post PostX)
    {g : JFrame} (hg : g.method = m) (hsize : g.locals.size = c.maxLocals) {argsL rest : List Value} (hlen : ∀ sig, parseMethodDescriptor y.desc = some sig → argsL.length = sig.parameters.length)
    (hstack : g.stack = argsL.reverse ++ rest) (hW : 2 * g.monitorRoom + (rest.map fun v => v.category).sum ≤ W9) (hdg : decode c.code g.pc = .ok (.invokestatic index, 3))
    (hpre : ∀ vm₁, s.WarmedH vm₁ → Pre ⟨T.setVm vm₁, locs, cells, slots⟩ argsL.toArray) :
    (∃ (v : Option Value) (vm₁ : Vm) (B : Pt), s.WarmedH vm₁ ∧ Stand p l e R s m args below meth c B.U B.locs B.cells B.slots ∧ Post ⟨T.setVm vm₁, locs, cells, slots⟩ argsL.toArray v B ∧
      ∀ target, Steps p.tables e below (B.U.setTop { g with pc := g.pc + 3, stack := v.toList ++ rest }) target → Steps p.tables e below (T.setTop g) target) ∨
    (∃ (q : Addr) (vm₁ : Vm) (B : Pt), s.WarmedH vm₁ ∧ Stand p l e R s m args below meth c B.U B.locs B.cells B.slots ∧ PostX ⟨T.setVm vm₁, locs, cells, slots⟩ argsL.toArray q B ∧
      Steps p.tables e below (T.setTop g) ((B.U.setTop { g with stack := rest }).pushFrame (.throwing q))) := by
  obtain ⟨mk, hnamed⟩ := Cond.code_named hcode
  obtain ⟨methM, cM, hmethM, -, -, -, -, -, -, hsigM⟩ := Cond.code_spec hnamed hcode
  have hstatic : methM.isStatic = true := Cond.static_spec hnamed hmethM hstat
  obtain ⟨kP, hkP, -⟩ := className_of_methodNamed hnamed
  have hinitP : kP.init = .initialized := Cond.initialized_spec (findClass_of_methodNamed hnamed) hkP hinit
  obtain ⟨vm₁, X₁, hstep₁⟩ := X.invokestatic hexec hown hlink hnamed hmethM hstatic hkP hinitP hy (g := g) hg (argsL := argsL) (rest := rest) (hlen _ hsigM) hstack hdg
  rcases hK m meth c ⟨T.setVm vm₁, locs, cells, slots⟩ { g with stack := rest } (.invokestatic index) mk argsL.toArray X₁ hg hsize hdg hW (X₁.named hnamed) (hpre vm₁ X₁.warmed) with ⟨v, B, X', hpost, hsteps⟩ | ⟨q, B, X', hpost, hsteps⟩
  · exact Or.inl ⟨v, vm₁, B, X₁.warmed, X', hpost, fun target h => hstep₁ _ fun acts => by rw [doInvoke_state]; exact hsteps.trans h⟩
  · exact Or.inr ⟨q, vm₁, B, X₁.warmed, X', hpost, hstep₁ _ fun acts => by rw [doInvoke_state]; exact hsteps⟩
end Calls
theorem vx_cls {s : State} {T : State} {vm₁ : Vm} {E : String} {k : ClassId} (hW : s.WarmedH vm₁) (h : (T.setVm vm₁).vm.findClass E = some k) : s.vm.findClass E = some k := by
  have h1 : vm₁.findClass E = some k := h
  rw [hW.alike.findClass] at h1
  exact h1
/-- the method's frame g, with q thrown over it -/
def vx_W (p : Program) (l : Launch) (e : Env) (R : Room) (s : State) (m : MethodId) (args : Array Value) (below : List Frame) (meth : Method) (c : Code) (H : Heap) (locs : List Loc) (cells slots : Nat) (Q : State → Prop) (g : JFrame) (q : Addr) : Prop :=
  ∀ T : State, T.heap = H → Stand p l e R s m args below meth c T locs cells slots → ∃ t, Steps p.tables e below ((T.setTop g).pushFrame (.throwing q)) t ∧ Q t
def vx_Run (p : Program) (l : Launch) (e : Env) (R : Room) (s : State) (m : MethodId) (args : Array Value) (below : List Frame) (meth : Method) (c : Code) (H : Heap) (locs : List Loc) (cells slots mc ms : Nat) (g : JFrame) (rest : List Value) (Qa : State → Outcome → State → Prop) (XC : String → State → State → Prop) (free : Addr → Prop) : Prop :=
  ∀ T : State, T.heap = H → Stand p l e R s m args below meth c T locs cells slots →
    (∃ (v : Option Value) (st₀ t T' : State) (L : List Loc), st₀.heap = H ∧ Stand p l e R s m args below meth c T' (locs ++ L) (cells + mc) (slots + ms) ∧ (∀ q ∈ L, free q.base) ∧ T'.heap = t.heap ∧ T'.vm = t.vm ∧ Qa st₀ (.returned v) t ∧
      Goes p e below T g T' { g with pc := g.pc + 3, stack := v.toList ++ rest }) ∨
    (∃ (q : Addr) (st₀ t T' : State) (L : List Loc) (E : String) (ce : Cell), st₀.heap = H ∧ Stand p l e R s m args below meth c T' (locs ++ L) (cells + mc) (slots + ms) ∧ (∀ z ∈ L, free z.base) ∧ T'.heap = t.heap ∧ T'.vm = t.vm ∧ XC E st₀ t ∧ t.heap[q]? = some ce ∧ ce.vm = .none ∧ s.vm.findClass E = some ce.cls ∧
      Steps p.tables e below (T.setTop g) ((T'.setTop { g with stack := rest }).pushFrame (.throwing q)))
def vx_X {S : Type} (px : S → Prop) (B : String → S → State → Prop) (A : Nat → Prop) : String → State → State → Prop := fun E st t => ∃ u : S, px u ∧ B E u t ∧ va_F A st t
section Runs
variable {p : Program} {l : Launch} {e : Env} {R : Room} {s : State} {m : MethodId} {args : Array Value} {below : List Frame} {meth : Method} {c : Code} {H : Heap} {locs : List Loc} {cells slots : Nat}
variable {y : MethodName} {bytes cc : ByteArray} {maxL nL mc ms n index : Nat} {ret : Option FieldType} {ws : List Cond} {rm : Room} {Pc : Array Value → State → Prop} {Qc : Array Value → State → Outcome → State → Prop} {XC : String → State → State → Prop} {free : Addr → Prop} {Ts : List Cond} {own C : String} {b : Addr} {As rest : List Value} {g : JFrame}
theorem vx_callBack (cb : CallB R s args own index y bytes maxL ret ws rm mc ms n) (hM : vx_Met l y ws rm Pc Qc XC mc ms free) (hbl : FrameBlind Pc) : vx_Back l R p e below s args y 3 8 (PreOf R mc ms Pc) (PostOf Qc mc ms free) (vx_Post XC mc ms free) := by
  obtain ⟨hrc, hrs, hfr, hlo, hws, hcw, -, hini, -⟩ := cb
  exact vx_back (bytes := bytes) (maxL := maxL) (ret := ret) hM hbl hrc hrs hfr hlo hws hcw (fun a' U hW => word_at hW (Or.inl (by first | rfl | simp [Cond.onTables, Cond.keeps, Cond.steady])) hini)
theorem vx_runV (S : CallFix p m c cc nL s args Ts own) (hM : vx_Met l y ws rm Pc Qc XC mc ms free) (cw : CallW R s args own C index y bytes maxL ret ws rm mc ms n) (hp : PreV s H C b Pc As)
    (hg : g.method = m) (hn : As.length = n) (hsize : g.locals.size = nL) (hstack : g.stack = As.reverse ++ .ref b :: rest) (hW : 2 * g.monitorRoom + (rest.map fun v => v.category).sum ≤ 8) (hdg : decode cc g.pc = .ok (.invokevirtual index, 3)) (hf : cells + mc ≤ R.cells ∧ slots + ms ≤ R.slots) :
    vx_Run p l e R s m args below meth c H locs cells slots mc ms g rest (Qc (Value.ref b :: As).toArray) XC free := by
  have hK : vx_Back l R p e below s args y 3 8 (PreOf R mc ms Pc) (PostOf Qc mc ms free) (vx_Post XC mc ms free) := vx_callBack cw.1 hM hp.1
  obtain ⟨⟨-, -, -, -, -, -, hcode, -, hy, hlen, hl⟩, hin, hse⟩ := cw
  obtain ⟨hx, hb, hml, ho, -⟩ := S
  obtain ⟨-, ⟨cellB, hcB, hoB, hclB⟩, hPc⟩ := hp
  intro T hT X
  rcases vx_callV X hx (C := C) (bytes := bytes) (maxL := maxL) (ret := ret) ho hl hin hse hcode hy hK (by rw [hT]; exact hcB) hoB hclB hg (hsize.trans hml.symm) (argsL := As) (rest := rest) (fun sig h => hn.trans (hlen sig h)) hstack hW (by rw [hb]; exact hdg)
    (fun vm₁ hW₁ => ⟨hf.1, hf.2, hPc (T.setVm vm₁) hT hW₁⟩) with ⟨v, vm₁, ⟨U', l2, c2, s2⟩, hW₁, X', ⟨g', mk, t, L, e1, e2, hq, h1, hL, h2, h3⟩, st⟩ | ⟨q, vm₁, ⟨U', l2, c2, s2⟩, hW₁, X', ⟨g', mk, t, L, E, ce, e1, e2, hq, hce, hcv, hcl, h1, hL, h2, h3⟩, st⟩
  · dsimp only [Pt.U, Pt.locs, Pt.cells, Pt.slots] at X' e1 e2 h1 h2 h3 st
    subst h1; subst h2; subst h3
    exact Or.inl ⟨v, (T.setVm vm₁).calling g' mk (Value.ref b :: As).toArray, t, U', L, hT, X', hL, e1, e2, hq, st⟩
  · dsimp only [Pt.U, Pt.locs, Pt.cells, Pt.slots] at X' e1 e2 h1 h2 h3 st hcl
    subst h1; subst h2; subst h3
    exact Or.inr ⟨q, (T.setVm vm₁).calling g' mk (Value.ref b :: As).toArray, t, U', L, E, ce, hT, X', hL, e1, e2, hq, hce, hcv, vx_cls hW₁ hcl, st⟩
theorem vx_runS (S : CallFix p m c cc nL s args Ts own) (hM : vx_Met l y ws rm Pc Qc XC mc ms free) (cw : CallB R s args own index y bytes maxL ret ws rm mc ms n ∧ (Cond.static y).before args s = true) (hp : PreS s H Pc As)
    (hg : g.method = m) (hn : As.length = n) (hsize : g.locals.size = nL) (hstack : g.stack = As.reverse ++ rest) (hW : 2 * g.monitorRoom + (rest.map fun v => v.category).sum ≤ 8) (hdg : decode cc g.pc = .ok (.invokestatic index, 3)) (hf : cells + mc ≤ R.cells ∧ slots + ms ≤ R.slots) :
    vx_Run p l e R s m args below meth c H locs cells slots mc ms g rest (Qc As.toArray) XC free := by
  have hK : vx_Back l R p e below s args y 3 8 (PreOf R mc ms Pc) (PostOf Qc mc ms free) (vx_Post XC mc ms free) := vx_callBack cw.1 hM hp.1
  obtain ⟨⟨-, -, -, -, -, -, hcode, hini, hy, hlen, hl⟩, hstt⟩ := cw
  obtain ⟨hx, hb, hml, ho, -⟩ := S
  intro T hT X
  rcases vx_callS X hx (bytes := bytes) (maxL := maxL) (ret := ret) ho hl hstt hini hcode hy hK hg (hsize.trans hml.symm) (argsL := As) (rest := rest) (fun sig h => hn.trans (hlen sig h)) hstack hW (by rw [hb]; exact hdg)
    (fun vm₁ hW₁ => ⟨hf.1, hf.2, hp.2 (T.setVm vm₁) hT hW₁⟩) with ⟨v, vm₁, ⟨U', l2, c2, s2⟩, hW₁, X', ⟨g', mk, t, L, e1, e2, hq, h1, hL, h2, h3⟩, st⟩ | ⟨q, vm₁, ⟨U', l2, c2, s2⟩, hW₁, X', ⟨g', mk, t, L, E, ce, e1, e2, hq, hce, hcv, hcl, h1, hL, h2, h3⟩, st⟩
  · dsimp only [Pt.U, Pt.locs, Pt.cells, Pt.slots] at X' e1 e2 h1 h2 h3 st
    subst h1; subst h2; subst h3
    exact Or.inl ⟨v, (T.setVm vm₁).calling g' mk As.toArray, t, U', L, hT, X', hL, e1, e2, hq, st⟩
  · dsimp only [Pt.U, Pt.locs, Pt.cells, Pt.slots] at X' e1 e2 h1 h2 h3 st hcl
    subst h1; subst h2; subst h3
    exact Or.inr ⟨q, (T.setVm vm₁).calling g' mk As.toArray, t, U', L, E, ce, hT, X', hL, e1, e2, hq, hce, hcv, vx_cls hW₁ hcl, st⟩
end Runs
section Rows
variable {p : Program} {l : Launch} {e : Env} {R : Room} {s : State} {m : MethodId} {args : Array Value} {below : List Frame} {meth : Method} {c : Code} {H : Heap} {locs : List Loc} {cells slots : Nat} {Q : State → Prop}
variable {mc ms : Nat} {free : Addr → Prop} {A0 A1 : Nat → Prop} {H0 : Heap} {a : Array Value} {pc : Nat} {ls : Array Slot} {st0 rest : List Value}
theorem vx_keep {st₀ t T' : State} {L : List Loc} (h0 : st₀.heap = H) (e1 : T'.heap = t.heap) (hS : va_S A0 H0 H locs) (hA : ∀ q, q < H.size → A1 q → A0 q) (hf : ∀ q, free q → A0 q) (hL : ∀ q ∈ L, free q.base) (hF : va_F A1 st₀ t) :
    H.size ≤ T'.heap.size ∧ (∀ q : Nat, q < H.size → ¬ A1 q → T'.heap[q]? = H[q]?) ∧ va_S A0 H0 T'.heap (locs ++ L) := by
  obtain ⟨hz, hk⟩ := hF
  rw [h0] at hz hk
  exact ⟨by rw [e1]; exact hz, fun q h1 h2 => by rw [e1]; exact hk q h1 h2,
    ⟨Nat.le_trans hS.1 (by rw [e1]; exact hz), fun q h1 h2 => by rw [e1, hk q (Nat.lt_of_lt_of_le h1 hS.1) (fun z => h2 (hA q (Nat.lt_of_lt_of_le h1 hS.1) z))]; exact hS.2.1 q h1 h2, fun q hq => by
      rcases List.mem_append.mp hq with h | h
      · exact hS.2.2 q h
      · exact hf _ (hL q h)⟩⟩
theorem vx_calli {S SX : Type} {post : Int32 → S → Prop} {px : SX → Prop} {B : S → State → Prop} {BX : String → SX → State → Prop} {AX : Nat → Prop} (hr : vx_Run p l e R s m args below meth c H locs cells slots mc ms (F0 m pc ls st0) rest (va_Qi post B A1 a) (vx_X px BX AX) free) (hS : va_S A0 H0 H locs) (hA : ∀ q, q < H.size → A1 q → A0 q) (hf : ∀ q, free q → A0 q) (hAX : ∀ q, q < H.size → AX q → A0 q)
    (kx : ∀ (E : String) (ce : Cell) (q9 : Addr) (u : SX) (t : State) (H1 : Heap) (locs1 : List Loc), t.heap = H1 → s.vm.Alike t.vm → px u → BX E u t → H.size ≤ H1.size → (∀ q : Nat, q < H.size → ¬ AX q → H1[q]? = H[q]?) → va_S A0 H0 H1 locs1 → H1[q9]? = some ce → ce.vm = .none → s.vm.findClass E = some ce.cls → vx_W p l e R s m args below meth c H1 locs1 (cells + mc) (slots + ms) Q (F0 m pc ls rest) q9)
    (kk : ∀ (r : Int32) (u : S) (t : State) (H1 : Heap) (locs1 : List Loc), t.heap = H1 → s.vm.Alike t.vm → post r u → B u t → H.size ≤ H1.size → (∀ q : Nat, q < H.size → ¬ A1 q → H1[q]? = H[q]?) → va_S A0 H0 H1 locs1 → W p l e R s m args below meth c H1 locs1 (cells + mc) (slots + ms) Q (F0 m (pc + 3) ls (.int r :: rest))) : W p l e R s m args below meth c H locs cells slots Q (F0 m pc ls st0) := by
  intro T hT X
  rcases hr T hT X with ⟨v, st₀, t, T', L, h0, X', hL, e1, e2, ⟨⟨r, u, hv, hp, hb⟩, hF⟩, st⟩ | ⟨q, st₀, t, T', L, E, ce, h0, X', hL, e1, e2, ⟨u, hp, hb, hF⟩, hce, hcv, hcl, st⟩
  · cases hv
    obtain ⟨k1, k2, k3⟩ := vx_keep h0 e1 hS hA hf hL hF
    obtain ⟨t2, a1, b1⟩ := kk r u t T'.heap (locs ++ L) e1.symm (by rw [← e2]; exact X'.warmed.alike) hp hb k1 k2 k3 T' rfl X'
    exact ⟨t2, st t2 a1, b1⟩
  · obtain ⟨k1, k2, k3⟩ := vx_keep h0 e1 hS hAX hf hL hF
    obtain ⟨t2, a1, b1⟩ := kx E ce q u t T'.heap (locs ++ L) e1.symm (by rw [← e2]; exact X'.warmed.alike) hp hb k1 k2 k3 (by rw [e1]; exact hce) hcv hcl T' rfl X'
    exact ⟨t2, st.trans a1, b1⟩
theorem vx_calll {S SX : Type} {post : Int64 → S → Prop} {px : SX → Prop} {B : S → State → Prop} {BX : String → SX → State → Prop} {AX : Nat → Prop} (hr : vx_Run p l e R s m args below meth c H locs cells slots mc ms (F0 m pc ls st0) rest (va_Ql post B A1 a) (vx_X px BX AX) free) (hS : va_S A0 H0 H locs) (hA : ∀ q, q < H.size → A1 q → A0 q) (hf : ∀ q, free q → A0 q) (hAX : ∀ q, q < H.size → AX q → A0 q)
    (kx : ∀ (E : String) (ce : Cell) (q9 : Addr) (u : SX) (t : State) (H1 : Heap) (locs1 : List Loc), t.heap = H1 → s.vm.Alike t.vm → px u → BX E u t → H.size ≤ H1.size → (∀ q : Nat, q < H.size → ¬ AX q → H1[q]? = H[q]?) → va_S A0 H0 H1 locs1 → H1[q9]? = some ce → ce.vm = .none → s.vm.findClass E = some ce.cls → vx_W p l e R s m args below meth c H1 locs1 (cells + mc) (slots + ms) Q (F0 m pc ls rest) q9)
    (kk : ∀ (r : Int64) (u : S) (t : State) (H1 : Heap) (locs1 : List Loc), t.heap = H1 → s.vm.Alike t.vm → post r u → B u t → H.size ≤ H1.size → (∀ q : Nat, q < H.size → ¬ A1 q → H1[q]? = H[q]?) → va_S A0 H0 H1 locs1 → W p l e R s m args below meth c H1 locs1 (cells + mc) (slots + ms) Q (F0 m (pc + 3) ls (.long r :: rest))) : W p l e R s m args below meth c H locs cells slots Q (F0 m pc ls st0) := by
  intro T hT X
  rcases hr T hT X with ⟨v, st₀, t, T', L, h0, X', hL, e1, e2, ⟨⟨r, u, hv, hp, hb⟩, hF⟩, st⟩ | ⟨q, st₀, t, T', L, E, ce, h0, X', hL, e1, e2, ⟨u, hp, hb, hF⟩, hce, hcv, hcl, st⟩
  · cases hv
    obtain ⟨k1, k2, k3⟩ := vx_keep h0 e1 hS hA hf hL hF
    obtain ⟨t2, a1, b1⟩ := kk r u t T'.heap (locs ++ L) e1.symm (by rw [← e2]; exact X'.warmed.alike) hp hb k1 k2 k3 T' rfl X'
    exact ⟨t2, st t2 a1, b1⟩
  · obtain ⟨k1, k2, k3⟩ := vx_keep h0 e1 hS hAX hf hL hF
    obtain ⟨t2, a1, b1⟩ := kx E ce q u t T'.heap (locs ++ L) e1.symm (by rw [← e2]; exact X'.warmed.alike) hp hb k1 k2 k3 (by rw [e1]; exact hce) hcv hcl T' rfl X'
    exact ⟨t2, st.trans a1, b1⟩
theorem vx_callf {S SX : Type} {post : UInt32 → S → Prop} {px : SX → Prop} {B : S → State → Prop} {BX : String → SX → State → Prop} {AX : Nat → Prop} (hr : vx_Run p l e R s m args below meth c H locs cells slots mc ms (F0 m pc ls st0) rest (va_Qf post B A1 a) (vx_X px BX AX) free) (hS : va_S A0 H0 H locs) (hA : ∀ q, q < H.size → A1 q → A0 q) (hf : ∀ q, free q → A0 q) (hAX : ∀ q, q < H.size → AX q → A0 q)
    (kx : ∀ (E : String) (ce : Cell) (q9 : Addr) (u : SX) (t : State) (H1 : Heap) (locs1 : List Loc), t.heap = H1 → s.vm.Alike t.vm → px u → BX E u t → H.size ≤ H1.size → (∀ q : Nat, q < H.size → ¬ AX q → H1[q]? = H[q]?) → va_S A0 H0 H1 locs1 → H1[q9]? = some ce → ce.vm = .none → s.vm.findClass E = some ce.cls → vx_W p l e R s m args below meth c H1 locs1 (cells + mc) (slots + ms) Q (F0 m pc ls rest) q9)
    (kk : ∀ (r : UInt32) (u : S) (t : State) (H1 : Heap) (locs1 : List Loc), t.heap = H1 → s.vm.Alike t.vm → post r u → B u t → H.size ≤ H1.size → (∀ q : Nat, q < H.size → ¬ A1 q → H1[q]? = H[q]?) → va_S A0 H0 H1 locs1 → W p l e R s m args below meth c H1 locs1 (cells + mc) (slots + ms) Q (F0 m (pc + 3) ls (.float r :: rest))) : W p l e R s m args below meth c H locs cells slots Q (F0 m pc ls st0) := by
  intro T hT X
  rcases hr T hT X with ⟨v, st₀, t, T', L, h0, X', hL, e1, e2, ⟨⟨r, u, hv, hp, hb⟩, hF⟩, st⟩ | ⟨q, st₀, t, T', L, E, ce, h0, X', hL, e1, e2, ⟨u, hp, hb, hF⟩, hce, hcv, hcl, st⟩
  · cases hv
    obtain ⟨k1, k2, k3⟩ := vx_keep h0 e1 hS hA hf hL hF
    obtain ⟨t2, a1, b1⟩ := kk r u t T'.heap (locs ++ L) e1.symm (by rw [← e2]; exact X'.warmed.alike) hp hb k1 k2 k3 T' rfl X'
    exact ⟨t2, st t2 a1, b1⟩
  · obtain ⟨k1, k2, k3⟩ := vx_keep h0 e1 hS hAX hf hL hF
    obtain ⟨t2, a1, b1⟩ := kx E ce q u t T'.heap (locs ++ L) e1.symm (by rw [← e2]; exact X'.warmed.alike) hp hb k1 k2 k3 (by rw [e1]; exact hce) hcv hcl T' rfl X'
    exact ⟨t2, st.trans a1, b1⟩
theorem vx_calld {S SX : Type} {post : UInt64 → S → Prop} {px : SX → Prop} {B : S → State → Prop} {BX : String → SX → State → Prop} {AX : Nat → Prop} (hr : vx_Run p l e R s m args below meth c H locs cells slots mc ms (F0 m pc ls st0) rest (va_Qd post B A1 a) (vx_X px BX AX) free) (hS : va_S A0 H0 H locs) (hA : ∀ q, q < H.size → A1 q → A0 q) (hf : ∀ q, free q → A0 q) (hAX : ∀ q, q < H.size → AX q → A0 q)
    (kx : ∀ (E : String) (ce : Cell) (q9 : Addr) (u : SX) (t : State) (H1 : Heap) (locs1 : List Loc), t.heap = H1 → s.vm.Alike t.vm → px u → BX E u t → H.size ≤ H1.size → (∀ q : Nat, q < H.size → ¬ AX q → H1[q]? = H[q]?) → va_S A0 H0 H1 locs1 → H1[q9]? = some ce → ce.vm = .none → s.vm.findClass E = some ce.cls → vx_W p l e R s m args below meth c H1 locs1 (cells + mc) (slots + ms) Q (F0 m pc ls rest) q9)
    (kk : ∀ (r : UInt64) (u : S) (t : State) (H1 : Heap) (locs1 : List Loc), t.heap = H1 → s.vm.Alike t.vm → post r u → B u t → H.size ≤ H1.size → (∀ q : Nat, q < H.size → ¬ A1 q → H1[q]? = H[q]?) → va_S A0 H0 H1 locs1 → W p l e R s m args below meth c H1 locs1 (cells + mc) (slots + ms) Q (F0 m (pc + 3) ls (.double r :: rest))) : W p l e R s m args below meth c H locs cells slots Q (F0 m pc ls st0) := by
  intro T hT X
  rcases hr T hT X with ⟨v, st₀, t, T', L, h0, X', hL, e1, e2, ⟨⟨r, u, hv, hp, hb⟩, hF⟩, st⟩ | ⟨q, st₀, t, T', L, E, ce, h0, X', hL, e1, e2, ⟨u, hp, hb, hF⟩, hce, hcv, hcl, st⟩
  · cases hv
    obtain ⟨k1, k2, k3⟩ := vx_keep h0 e1 hS hA hf hL hF
    obtain ⟨t2, a1, b1⟩ := kk r u t T'.heap (locs ++ L) e1.symm (by rw [← e2]; exact X'.warmed.alike) hp hb k1 k2 k3 T' rfl X'
    exact ⟨t2, st t2 a1, b1⟩
  · obtain ⟨k1, k2, k3⟩ := vx_keep h0 e1 hS hAX hf hL hF
    obtain ⟨t2, a1, b1⟩ := kx E ce q u t T'.heap (locs ++ L) e1.symm (by rw [← e2]; exact X'.warmed.alike) hp hb k1 k2 k3 (by rw [e1]; exact hce) hcv hcl T' rfl X'
    exact ⟨t2, st.trans a1, b1⟩
theorem vx_callv {S SX : Type} {post : S → Prop} {px : SX → Prop} {B : S → State → Prop} {BX : String → SX → State → Prop} {AX : Nat → Prop} (hr : vx_Run p l e R s m args below meth c H locs cells slots mc ms (F0 m pc ls st0) rest (va_Qv post B A1 a) (vx_X px BX AX) free) (hS : va_S A0 H0 H locs) (hA : ∀ q, q < H.size → A1 q → A0 q) (hf : ∀ q, free q → A0 q) (hAX : ∀ q, q < H.size → AX q → A0 q)
    (kx : ∀ (E : String) (ce : Cell) (q9 : Addr) (u : SX) (t : State) (H1 : Heap) (locs1 : List Loc), t.heap = H1 → s.vm.Alike t.vm → px u → BX E u t → H.size ≤ H1.size → (∀ q : Nat, q < H.size → ¬ AX q → H1[q]? = H[q]?) → va_S A0 H0 H1 locs1 → H1[q9]? = some ce → ce.vm = .none → s.vm.findClass E = some ce.cls → vx_W p l e R s m args below meth c H1 locs1 (cells + mc) (slots + ms) Q (F0 m pc ls rest) q9)
    (kk : ∀ (u : S) (t : State) (H1 : Heap) (locs1 : List Loc), t.heap = H1 → s.vm.Alike t.vm → post u → B u t → H.size ≤ H1.size → (∀ q : Nat, q < H.size → ¬ A1 q → H1[q]? = H[q]?) → va_S A0 H0 H1 locs1 → W p l e R s m args below meth c H1 locs1 (cells + mc) (slots + ms) Q (F0 m (pc + 3) ls (rest))) : W p l e R s m args below meth c H locs cells slots Q (F0 m pc ls st0) := by
  intro T hT X
  rcases hr T hT X with ⟨v, st₀, t, T', L, h0, X', hL, e1, e2, ⟨⟨u, hv, hp, hb⟩, hF⟩, st⟩ | ⟨q, st₀, t, T', L, E, ce, h0, X', hL, e1, e2, ⟨u, hp, hb, hF⟩, hce, hcv, hcl, st⟩
  · cases hv
    obtain ⟨k1, k2, k3⟩ := vx_keep h0 e1 hS hA hf hL hF
    obtain ⟨t2, a1, b1⟩ := kk u t T'.heap (locs ++ L) e1.symm (by rw [← e2]; exact X'.warmed.alike) hp hb k1 k2 k3 T' rfl X'
    exact ⟨t2, st t2 a1, b1⟩
  · obtain ⟨k1, k2, k3⟩ := vx_keep h0 e1 hS hAX hf hL hF
    obtain ⟨t2, a1, b1⟩ := kx E ce q u t T'.heap (locs ++ L) e1.symm (by rw [← e2]; exact X'.warmed.alike) hp hb k1 k2 k3 (by rw [e1]; exact hce) hcv hcl T' rfl X'
    exact ⟨t2, st.trans a1, b1⟩
/-- caught by the row x of this method's table; the rows ahead don't take it -/
theorem vx_catch {own name : String} {E : String} {ce : Cell} {q : Addr} (hown : s.vm.findClass own = some m.cls) (pre : List ExceptionTableEntry) (x : ExceptionTableEntry) (suf : List ExceptionTableEntry) (hsplit : c.exceptionTable.toList = pre ++ x :: suf)
    (hpass : ∀ z ∈ pre, covers z pc = false ∨ (z.catchType ≠ 0 ∧ ∃ nm : String, (Cond.classLink own z.catchType nm).before args s = true ∧ va_Nc E nm s)) (hx : covers x pc = true) (h0 : x.catchType ≠ 0)
    (hlink : (Cond.classLink own x.catchType name).before args s = true) (hcast : (Cond.castable E name).before args s = true) (hcell : H[q]? = some ce) (hv : ce.vm = .none) (hcl : s.vm.findClass E = some ce.cls)
    (kk : W p l e R s m args below meth c H locs cells slots Q (F0 m x.handlerPc ls [.ref q])) : vx_W p l e R s m args below meth c H locs cells slots Q (F0 m pc ls rest) q := by
  intro T hT X
  have hpl : e.platform.magicAccessors = ({} : Platform).magicAccessors := by rw [X.admits.platform]
  obtain ⟨c3, c4, hc3, hc4, hasg⟩ := Cond.castable_spec hcast
  cases Option.some.inj (hc3.symm.trans hcl)
  obtain ⟨c5, hc5, hcl5⟩ := Cond.classLink_spec hown hlink e.platform hpl
  cases Option.some.inj (hc4.symm.trans hc5)
  obtain ⟨vm', X', st⟩ := X.thenCaughtThrough q (g := F0 m pc ls rest) rfl (Steps.refl _) (by rw [hT]; exact hcell) (by rw [hv]; rfl) (by obtain ⟨k9, h9, -⟩ := Vm.findClass_spec hcl; exact ⟨k9, h9⟩) pre x suf hsplit
    (fun z hz => by
      rcases hpass z hz with h | ⟨hz0, nm, hl1, hn1⟩
      · exact Or.inl h
      · obtain ⟨c6, hc6, hcl6⟩ := Cond.classLink_spec hown hl1 e.platform hpl
        obtain ⟨a8, b8, h1, h2, h3⟩ := hn1
        cases Option.some.inj (h1.symm.trans hcl)
        cases Option.some.inj (h2.symm.trans hc6)
        exact Or.inr ⟨hz0, _, hcl6, h3⟩) hx (Or.inr ⟨h0, c4, hcl5, hasg⟩)
  obtain ⟨t, a1, b1⟩ := kk (T.setVm vm') hT X'
  exact ⟨t, st.trans a1, b1⟩
end Rows
section Ends
variable {p : Program} {l : Launch} {e : Env} {R : Room} {s : State} {m : MethodId} {args : Array Value} {below : List Frame} {meth : Method} {c : Code} {H : Heap} {locs : List Loc} {cells slots : Nat} {Q : State → Prop}
variable {mc ms : Nat} {free : Addr → Prop} {A0 A1 : Nat → Prop} {H0 : Heap} {a : Array Value} {ls : Array Slot} {st0 rest : List Value}
variable {Qc : Array Value → State → Outcome → State → Prop} {XC : String → State → State → Prop}
/-- what a body that may throw owes at its end -/
def vx_MQ (below : List Frame) (Qc : Array Value → State → Outcome → State → Prop) (XC : String → State → State → Prop) (a : Array Value) (s : State) (mc ms : Nat) (free : Addr → Prop) : State → Prop := fun t =>
  ∃ o, t.status = .running ∧ Ended t below o ∧ vx_Q Qc XC mc ms free a s o t
theorem vx_ret {g : JFrame} {mc ms : Nat} (k : W p l e R s m args below meth c H locs cells slots (MQ below Qc args s mc ms free) g) : W p l e R s m args below meth c H locs cells slots (vx_MQ below Qc XC args s mc ms free) g := by
  intro T hT X
  obtain ⟨t, a1, o, b1, b2, b3, b4⟩ := k T hT X
  exact ⟨t, a1, o, b1, b2, Or.inl ⟨b3, b4⟩⟩
/-- not caught here: it goes on to the caller -/
theorem vx_widen {g : JFrame} {q : Addr} {k n : Nat} (h1 : cells ≤ k) (h2 : slots ≤ n) (kk : vx_W p l e R s m args below meth c H locs k n Q g q) : vx_W p l e R s m args below meth c H locs cells slots Q g q := fun T hT X => kk T hT (stand_widen X h1 h2)
theorem vx_out {pc : Nat} {E : String} {ce : Cell} {q : Addr} {mc ms : Nat} (hout : ∀ x ∈ c.exceptionTable.toList, covers x pc = false) (hlocks : meth.locks = false) (hcell : H[q]? = some ce) (hv : ce.vm = .none) (hcl : s.vm.findClass E = some ce.cls)
    (hx : ∀ t : State, t.heap = H → s.vm.Alike t.vm → XC E s t) (hf : ∀ z ∈ locs, free z.base) (hc : cells ≤ mc) (hs : slots ≤ ms) :
    vx_W p l e R s m args below meth c H locs cells slots (vx_MQ below Qc XC args s mc ms free) (F0 m pc ls rest) q := by
  intro T hT X
  obtain ⟨st1, hrun, hend, hW, hsm⟩ := X.leaveThrown q (g := F0 m pc ls rest) rfl rfl rfl hout hlocks
  have hcell9 : (T.setFrames (.throwing q :: below)).heap[q]? = some ce := by
    show T.heap[q]? = some ce
    rw [hT]; exact hcell
  exact ⟨_, st1, .threw q, hrun, hend, Or.inr ⟨q, rfl, E, ce, locs, hx _ hT hW.alike, hcell9, hv, hcl, hW, hsm.mono hc hs, hf⟩⟩
theorem vx_frame {U : State} {k n : Nat} (h : s.sameButNew ({ U with vm := s.vm } : State) locs k n) : s.heap.size ≤ U.heap.size ∧ ∀ q : Nat, q < s.heap.size → (∀ z ∈ locs, z.base ≠ q) → U.heap[q]? = s.heap[q]? := by
  obtain ⟨-, h2, -, -, -, h6⟩ := h
  refine ⟨h2, fun q hq hz => ?_⟩
  obtain ⟨c9, e1, e2, e3, e4⟩ := h6 q _ (Array.getElem?_eq_getElem hq)
  have hs : c9.slots = (s.heap[q]).slots := Array.ext_getElem? fun i => e4 i fun hm => hz _ hm rfl
  have h9 : c9 = s.heap[q] := by
    rw [hs] at e2
    exact e2
  have e5 : U.heap[q]? = some c9 := e1
  rw [e5, h9, Array.getElem?_eq_getElem hq]
/-- the words of a throw but the four that speak of the heap -/
def vx_no (w : Cond) : Bool := decide (w ≠ .isRef (.static Bundle.tN "UNASSIGNED_STACK" Bundle.steD)) && decide (w ≠ .isRef (.static Bundle.tN "SUPPRESSED_SENTINEL" Bundle.listD)) && decide (w ≠ .laysStatic Bundle.tN "UNASSIGNED_STACK" Bundle.steD) && decide (w ≠ .laysStatic Bundle.tN "SUPPRESSED_SENTINEL" Bundle.listD)
def vx_at0 (own : String) (ic : Nat) (X : String) (names : List String) : List Cond := (Bundle.ownAtoms0 own ic X names).filter vx_no
def vx_atS (own : String) (ic : Nat) (X : String) (names : List String) : List Cond := (Bundle.ownAtoms own ic X names).filter vx_no
/-- a word that the tables alone decide, or a good one -/
def vx_ot (w : Cond) : Bool := w.onTables || goodWord w
theorem vx_ot_at {args a' : Array Value} {s U : State} {w : Cond} (hW : s.WarmedH U.vm) (hvm : s.vm = U.vm) (hg : vx_ot w = true) (h : w.before args s = true) : w.before a' U = true := by
  simp only [vx_ot, Bool.or_eq_true] at hg
  rcases hg with hg | hg
  · exact va_tabs hg hvm h
  · exact word_at hW (good_of_word hg) h
/-- a list's words: the good ones out of the method's own list, the others by premises of their own -/
theorem vx_hat {args : Array Value} {s : State} {L B : List Cond} (h1 : ∀ w ∈ L.filter goodWord, w.before args s = true) (h2 : ∀ w ∈ L.filter (fun w => !goodWord w), w ∈ B) (h3 : ∀ w ∈ B, w.before args s = true) : ∀ w ∈ L, w.before args s = true := by
  intro w hw
  by_cases g : goodWord w = true
  · exact h1 w (List.mem_filter.mpr ⟨hw, g⟩)
  · refine h3 w (h2 w (List.mem_filter.mpr ⟨hw, ?_⟩))
    show (!goodWord w) = true
    cases hgw : goodWord w
    · rfl
    · exact absurd hgw g
theorem vx_c {args : Array Value} {s : State} {w : Cond} {B : List Cond} (h : w.before args s = true) (t : ∀ w ∈ B, w.before args s = true) : ∀ w' ∈ w :: B, w'.before args s = true := fun w' h' => (List.mem_cons.mp h').elim (fun e => by rw [e]; exact h) (t w')
theorem vx_n {args : Array Value} {s : State} : ∀ w ∈ ([] : List Cond), w.before args s = true := fun _ h => nomatch h
theorem vx_own {args : Array Value} {s : State} {L : List Cond} (h1 : ∀ w ∈ L.filter vx_no, w.before args s = true)
    (hU : (Cond.isRef (.static Bundle.tN "UNASSIGNED_STACK" Bundle.steD)).before args s = true) (hN : (Cond.isRef (.static Bundle.tN "SUPPRESSED_SENTINEL" Bundle.listD)).before args s = true)
    (lU : (Cond.laysStatic Bundle.tN "UNASSIGNED_STACK" Bundle.steD).before args s = true) (lN : (Cond.laysStatic Bundle.tN "SUPPRESSED_SENTINEL" Bundle.listD).before args s = true) : ∀ w ∈ L, w.before args s = true := by
  intro w hw
  by_cases e1 : w = .isRef (.static Bundle.tN "UNASSIGNED_STACK" Bundle.steD)
  · rw [e1]; exact hU
  · by_cases e2 : w = .isRef (.static Bundle.tN "SUPPRESSED_SENTINEL" Bundle.listD)
    · rw [e2]; exact hN
    · by_cases e3 : w = .laysStatic Bundle.tN "UNASSIGNED_STACK" Bundle.steD
      · rw [e3]; exact lU
      · by_cases e4 : w = .laysStatic Bundle.tN "SUPPRESSED_SENTINEL" Bundle.listD
        · rw [e4]; exact lN
        · exact h1 w (List.mem_filter.mpr ⟨hw, by unfold vx_no; rw [decide_eq_true e1, decide_eq_true e2, decide_eq_true e3, decide_eq_true e4]; rfl⟩)
/-- where a static field lies, its class's statics cell in H -/
def vx_L (C n d : String) (A : Nat → Prop) (U : State) (H : Heap) : Prop := ∃ (c : ClassId) (k : Class) (i : Nat) (f : Field) (a : Nat) (cell : Cell), U.vm.findClass C = some c ∧ U.fieldFound? C n d = some (c, k, i, f) ∧ f.isStatic = true ∧ k.statics = some a ∧ H[a]? = some cell ∧ cell.vm.isStatics = true ∧ cell.cls = c ∧ f.slot < cell.slots.size ∧ k.staticTypes[f.slot]? = some f.type ∧ ¬ A a
theorem vx_L.moved {C n d : String} {A : Nat → Prop} {u U : State} {H : Heap} (hvm : u.vm.Alike U.vm) (h : vx_L C n d A u H) : vx_L C n d A U H := by
  obtain ⟨c, k, i, f, a, cell, h1, h2, h3, h4, h5, h6, h7, h8, h9, h10⟩ := h
  obtain ⟨k', hi', he⟩ := State.fieldFound?_setVm hvm h2
  exact ⟨c, k', i, f, a, cell, by rw [hvm.findClass]; exact h1, hi', h3, by rw [he]; exact h4, h5, h6, h7, h8, by rw [he]; exact h9, h10⟩
theorem vx_L.kept {C n d : String} {A : Nat → Prop} {U : State} {H H1 : Heap} (h : vx_L C n d A U H) (hq : ∀ a : Nat, a < H.size → ¬ A a → H1[a]? = H[a]?) : vx_L C n d A U H1 := by
  obtain ⟨c, k, i, f, a, cell, h1, h2, h3, h4, h5, h6, h7, h8, h9, h10⟩ := h
  exact ⟨c, k, i, f, a, cell, h1, h2, h3, h4, by rw [hq a (Array.getElem?_eq_some_iff.mp h5).1 h10]; exact h5, h6, h7, h8, h9, h10⟩
theorem vx_L.narrow {C n d : String} {A B : Nat → Prop} {U : State} {H : Heap} (h : vx_L C n d A U H) (hAB : ∀ q, B q → A q) : vx_L C n d B U H := by
  obtain ⟨c, k, i, f, a, cell, h1, h2, h3, h4, h5, h6, h7, h8, h9, h10⟩ := h
  exact ⟨c, k, i, f, a, cell, h1, h2, h3, h4, h5, h6, h7, h8, h9, fun z => h10 (hAB _ z)⟩
theorem vx_L.word {C n d : String} {A : Nat → Prop} {s : State} {args : Array Value} (h : vx_L C n d A s s.heap) : (Cond.laysStatic C n d).before args s = true := by
  obtain ⟨c, k, i, f, a, cell, h1, h2, h3, h4, h5, h6, h7, h8, h9, -⟩ := h
  show (Cond.laysStatic C n d).holds args s none s [] = true
  exact Cond.laysStatic_of h1 h2 h3 h4 h5 h6 h7 h8 h9
/-- .. and what it holds: null or some reference -/
def vx_Zq (C n d : String) (A : Nat → Prop) (U : State) (H : Heap) : Prop := va_Zq C n d A U H ∧ vx_L C n d A U H
theorem vx_Zq.moved {C n d : String} {A : Nat → Prop} {u U : State} {H : Heap} (hvm : u.vm.Alike U.vm) (h : vx_Zq C n d A u H) : vx_Zq C n d A U H := ⟨va_Zq.moved hvm h.1, vx_L.moved hvm h.2⟩
theorem vx_Zq.kept {C n d : String} {A : Nat → Prop} {U : State} {H H1 : Heap} (h : vx_Zq C n d A U H) (hq : ∀ a : Nat, a < H.size → ¬ A a → H1[a]? = H[a]?) : vx_Zq C n d A U H1 := ⟨va_Zq.kept h.1 hq, vx_L.kept h.2 hq⟩
theorem vx_Zq.narrow {C n d : String} {A B : Nat → Prop} {U : State} {H : Heap} (h : vx_Zq C n d A U H) (hAB : ∀ q, B q → A q) : vx_Zq C n d B U H := ⟨va_Zq.narrow h.1 hAB, vx_L.narrow h.2 hAB⟩
theorem vx_Zqof {args : Array Value} {s : State} {C n d : String} {A : Nat → Prop} (hl : (Cond.laysStatic C n d).before args s = true) (hini : (Cond.initialized C).before args s = true) (h : (Cond.isRef (.static C n d)).before args s = true) (hA : ∀ a : Nat, a < s.heap.size → ¬ A a) : vx_Zq C n d A s s.heap := by
  refine ⟨va_Zqof hl hini h hA, ?_⟩
  obtain ⟨c, k, i, f, a, cell, h1, h2, h3, h4, h5, h6, h7, h8, h9⟩ := Cond.laysStatic_spec hl
  exact ⟨c, k, i, f, a, cell, h1, h2, h3, h4, h5, h6, h7, h8, h9, hA a (Array.getElem?_eq_some_iff.mp h5).1⟩
theorem vx_isRef {C n d : String} {v : Value} {A : Nat → Prop} {s : State} {args : Array Value} (h : va_Z C n d v A s s.heap) (hv : v.isRef = true) : (Cond.isRef (.static C n d)).before args s = true := by
  obtain ⟨cf, kf, fi, f, a, cell, h1, h2, h3, h4, h5, h6, h7, -⟩ := h
  have he : (Term.static C n d).eval args s none [] s = some v := by
    simp [Term.eval, State.fieldNamed?, h1, h2, h4, h5, h6, h7]
  simp only [Cond.before, Cond.holds, Cond.value, he]
  cases v <;> simp_all [Value.isRef]
theorem vx_isRefq {C n d : String} {A : Nat → Prop} {s : State} {args : Array Value} (h : va_Zq C n d A s s.heap) : (Cond.isRef (.static C n d)).before args s = true := by
  rcases h with h | ⟨t, h⟩
  · exact vx_isRef h rfl
  · exact vx_isRef h rfl
/-- the same frame, seen from here: as if the method were called anew in this heap -/
theorem vx_rebase {T : State} (X : Stand p l e R s m args below meth c T locs cells slots) {R' : Room} (hf : R'.frames ≤ R.frames) (hl : R'.locals ≤ R.locals) (hc : cells + R'.cells ≤ R.cells) (hs : slots + R'.slots ≤ R.slots) :
    Stand p l e R' ((T.setVm s.vm).setFrames (.invoking m args :: below)) m args below meth c T [] 0 0 := by
  have htop : (T.setVm s.vm).topJava?.isSome := X.here.top
  have hF : ((T.setVm s.vm).setFrames (.invoking m args :: below)).frames = .invoking m args :: below := State.frames_setFrames _ (State.cur_lt_of_top htop)
  obtain ⟨g₀, hg0⟩ := Option.isSome_iff_exists.mp htop
  obtain ⟨r, hr⟩ := State.topJava?_eq_some.mp hg0
  have hl9 : e.platform.stackLimits (T.setVm s.vm).me = e.platform.stackLimits s.me := X.limits
  have hb9 : (T.setVm s.vm).me.stackBytes = s.me.stackBytes := X.bytes
  refine ⟨X.admits, X.cas, X.clock, hF, ?_, X.hears, X.method, X.code, X.here, X.tail, X.warmed, ?_, ?_, ?_⟩
  · have h := X.room
    have hU : ((T.setVm s.vm).setFrames (.invoking m args :: below)).localsInUse = s.localsInUse := by
      rw [State.localsInUse_invoking hF (meth := meth) (c := c) X.method X.code, State.localsInUse_invoking X.frames X.method X.code]
    simp only [State.hasRoom, Bool.and_eq_true, decide_eq_true_eq] at h ⊢
    obtain ⟨⟨⟨⟨h1, h2, h3, h4, h5, h6⟩, h7⟩, h8⟩, h9⟩ := h
    rw [X.frames, List.length_cons] at h2 h3
    have q1 := X.heapSize
    have q2 := X.used
    simp only [hF, hU, List.length_cons, State.stackLimits_setFrames, State.stackBytes_setFrames, hl9, hb9]
    refine ⟨⟨⟨⟨by omega, by omega, by omega, by omega, by omega, h6⟩, ?_⟩, ?_⟩, X.book⟩
    · show T.heap.size + R'.cells ≤ e.platform.maxCells
      omega
    · show T.slotsUsed + R'.slots ≤ e.platform.maxSlots
      omega
  · rw [State.stackLimits_setFrames]; rfl
  · rw [State.stackBytes_setFrames]; rfl
  · refine ⟨?_, Nat.le_refl _, Nat.le_refl _, ?_, ?_, fun a c9 h9 => ⟨c9, h9, rfl, rfl, fun _ _ => rfl⟩⟩
    · obtain ⟨t, ht, -⟩ := State.frames_cons hr
      show T.setVm s.vm = { ((T.setVm s.vm).setFrames (.invoking m args :: below)).setFrames (T.setVm s.vm).frames with heap := T.heap, slotsUsed := T.slotsUsed }
      rw [State.setFrames_setFrames, State.setFrames_self ht]
      rfl
    · show T.slotsUsed = T.slotsUsed + ((T.heap.toList.drop T.heap.size).map (·.slots.size)).sum
      rw [List.drop_eq_nil_of_le (Nat.le_of_eq Array.length_toList)]
      rfl
    · show ((T.heap.toList.drop T.heap.size).map (·.slots.size)).sum ≤ 0
      rw [List.drop_eq_nil_of_le (Nat.le_of_eq Array.length_toList)]
      exact Nat.le_refl _
/-- 'throw new E()': new; dup; invokespecial; athrow -/
theorem vx_throw0 {cc : ByteArray} {pc : Nat} (hexec : p.tables.exec = Jvm.exec) (hb : c.code = cc) (hl : l.stackTraces = false) {own cls : String} {names : List String} {ik ic mc ms : Nat} {A : Nat → Prop}
    (hown : s.vm.findClass own = some m.cls) (hcls : Bundle.fit cls = true) (hnames : ∀ n ∈ names, Bundle.fit n = true)
    (hk : (Cond.classLink own ik cls).before args s = true) (hini : (Cond.initialized cls).before args s = true) (hat : ∀ w ∈ vx_at0 own ic cls names, w.before args s = true)
    (hgood : ∀ w ∈ Cond.classLink own ik cls :: Cond.initialized cls :: vx_at0 own ic cls names, vx_ot w = true)
    (hU : vx_Zq Bundle.tN "UNASSIGNED_STACK" Bundle.steD A s s.heap) (hN : vx_Zq Bundle.tN "SUPPRESSED_SENTINEL" Bundle.listD A s s.heap) (hS : va_S A s.heap H locs) (hsize : ls.size = c.maxLocals)
    (d0 : decode cc pc = .ok (.new ik, 3)) (d3 : decode cc (pc + 3) = .ok (.dup, 1)) (d4 : decode cc (pc + 4) = .ok (.invokespecial ic, 3)) (d7 : decode cc (pc + 7) = .ok (.athrow, 1))
    (hout : ∀ x ∈ c.exceptionTable.toList, covers x (pc + 7) = false)
    (hRframes : names.length + 3 < R.frames) (hRlocals : (rest.map fun v => v.category).sum + (13 * (names.length + 1) + 42) ≤ R.locals) (hRcells : cells + 1 ≤ R.cells) (hRslots : slots + 6 ≤ R.slots) (hlocks : meth.locks = false)
    (hx : ∀ t : State, s.vm.Alike t.vm → H.size ≤ t.heap.size → (∀ q : Nat, q < H.size → t.heap[q]? = H[q]?) → XC cls s t)
    (hf : ∀ z ∈ locs, free z.base) (hc : cells + 1 ≤ mc) (hs : slots + 6 ≤ ms) :
    W p l e R s m args below meth c H locs cells slots (vx_MQ below Qc XC args s mc ms free) (F0 m pc ls rest) := by
  intro T hT X
  have htr : e.platform.stackTraces = false := (show e.platform.stackTraces = l.stackTraces by rw [X.admits.platform]).trans hl
  have Y := vx_rebase X (R' := { frames := R.frames, locals := R.locals, cells := 1, slots := 6 }) (Nat.le_refl _) (Nat.le_refl _) hRcells hRslots
  obtain ⟨s', hA⟩ : ∃ z, z = (T.setVm s.vm).setFrames (.invoking m args :: below) := ⟨_, rfl⟩
  rw [← hA] at Y
  have hvm : s'.vm = s.vm := by rw [hA]; rfl
  have hhp : s'.heap = H := by rw [hA]; exact hT
  have hW0 : s.WarmedH s'.vm := by rw [hvm]; exact State.WarmedH.refl s
  have hat' : ∀ w ∈ vx_at0 own ic cls names, w.before args s' = true := fun w hw => vx_ot_at hW0 hvm.symm (hgood w (List.mem_cons_of_mem _ (List.mem_cons_of_mem _ hw))) (hat w hw)
  have hk' : (Cond.classLink own ik cls).before args s' = true := vx_ot_at hW0 hvm.symm (hgood _ List.mem_cons_self) hk
  have hini' : (Cond.initialized cls).before args s' = true := vx_ot_at hW0 hvm.symm (hgood _ (List.mem_cons_of_mem _ List.mem_cons_self)) hini
  have hU' : vx_Zq Bundle.tN "UNASSIGNED_STACK" Bundle.steD A s' s'.heap := by rw [hhp]; exact vx_Zq.moved hW0.alike (hU.kept hS.2.1)
  have hN' : vx_Zq Bundle.tN "SUPPRESSED_SENTINEL" Bundle.listD A s' s'.heap := by rw [hhp]; exact vx_Zq.moved hW0.alike (hN.kept hS.2.1)
  have h : ∀ w ∈ Bundle.ownAtoms0 own ic cls names, w.before args s' = true := vx_own hat' (vx_isRefq hU'.1) (vx_isRefq hN'.1) hU'.2.word hN'.2.word
  have hown' : s'.vm.findClass own = some m.cls := by rw [hvm]; exact hown
  have hins : (Cond.instantiable cls 6).before args s' = true := h _ (by simp [Bundle.ownAtoms0])
  obtain ⟨vm₁, cX, kX, hfX, hkX, -, -, X₁, st1⟩ := Y.newCold hexec (own := own) (C := cls) (index := ik) (n := 6) hown' hk' hins hini'
    (g := F0 m pc ls rest) rfl (by rw [hb]; exact d0) (Nat.le_refl _) (Nat.le_refl _)
  generalize hT1 : (T.setVm vm₁).pushCell { cls := cX, slots := kX.instanceTypes.map defaultValue, vm := .none } = T1 at X₁ st1
  have hcat : (Value.ref T.heap.size).category = 1 := rfl
  have hcellA : T1.heap[T.heap.size]? = some (freshCell cX kX) := by rw [← hT1]; exact State.heap_pushCell_size _ _
  have d3' : decode c.code (pc + 3) = .ok (.dup, 1) := by rw [hb]; exact d3
  obtain ⟨U, hsteps, hrun, hend, hW, hsame, ce, hce, hO⟩ := X₁.ctorThrow0 hexec htr (own := own) (cls := cls) (names := names) (ic := ic) hown' hcls hnames h (fun x hx => nomatch hx) hfX hkX hcellA (by rw [hhp, hT]; exact Nat.le_refl _)
    (g := { method := m, pc := pc + 4, locals := ls, stack := .ref T.heap.size :: .ref T.heap.size :: rest, locked := none }) rfl hsize rfl rfl (rest := rest) rfl
    (by rw [hb]; exact d4) (by rw [hb]; exact d7) hout hRframes (by simp only [List.map_cons, List.sum_cons, hcat]; omega) hlocks
  obtain ⟨f1, f2⟩ := vx_frame hsame
  rw [hhp] at f1 f2
  have hWs : s.WarmedH U.vm := State.WarmedH.trans hW0 hW
  have hcl : s.vm.findClass cls = some ce.cls := by
    have h9 := hO.cls
    rw [hvm] at h9
    exact h9
  have hall : s.sameButNew ({ U with vm := s.vm } : State) locs mc ms := by
    subst hA
    obtain ⟨e1, e2⟩ := hsame
    rw [State.setFrames_setFrames] at e1
    have h2 : (T.setVm s.vm).sameButNew ({ U with vm := s.vm } : State) [] (0 + 1) (0 + 6) := ⟨e1, e2⟩
    have h3 := X.same.trans h2
    rw [List.append_nil] at h3
    exact h3.mono hc hs
  refine ⟨U, ?_, .threw T.heap.size, hrun, hend, Or.inr ⟨T.heap.size, rfl, cls, ce, locs, hx U hWs.alike f1 (fun q hq => f2 q hq (fun z hz => nomatch hz)), hce, hO.vm, hcl, hWs, hall, hf⟩⟩
  refine st1 _ ?_
  show Steps p.tables e below (T1.setTop { method := m, pc := pc + 3, locals := ls, stack := .ref T.heap.size :: rest, locked := none }) _
  jvm_step X₁.here [X₁.here.top, hexec, d3', Value.category]
  exact hsteps
/-- 'throw new E("text")': new; dup; ldc; invokespecial; athrow -/
theorem vx_throwS {cc : ByteArray} {pc : Nat} (hexec : p.tables.exec = Jvm.exec) (hb : c.code = cc) (hl : l.stackTraces = false) {own cls text : String} {names : List String} {ik is ic mc ms sa : Nat} {A : Nat → Prop}
    (hown : s.vm.findClass own = some m.cls) (hcls : Bundle.fit cls = true) (hnames : ∀ n ∈ names, Bundle.fit n = true)
    (hk : (Cond.classLink own ik cls).before args s = true) (hini : (Cond.initialized cls).before args s = true) (hstr : vk_R own is text sa s) (hat : ∀ w ∈ vx_atS own ic cls names, w.before args s = true)
    (hgood : ∀ w ∈ Cond.classLink own ik cls :: Cond.initialized cls :: vx_atS own ic cls names, vx_ot w = true)
    (hU : vx_Zq Bundle.tN "UNASSIGNED_STACK" Bundle.steD A s s.heap) (hN : vx_Zq Bundle.tN "SUPPRESSED_SENTINEL" Bundle.listD A s s.heap) (hS : va_S A s.heap H locs) (hsize : ls.size = c.maxLocals)
    (d0 : decode cc pc = .ok (.new ik, 3)) (d3 : decode cc (pc + 3) = .ok (.dup, 1)) (d4 : decode cc (pc + 4) = .ok (.ldc is, 2)) (d6 : decode cc (pc + 6) = .ok (.invokespecial ic, 3)) (d9 : decode cc (pc + 9) = .ok (.athrow, 1))
    (hout : ∀ x ∈ c.exceptionTable.toList, covers x (pc + 9) = false)
    (hRframes : names.length + 3 < R.frames) (hRlocals : (rest.map fun v => v.category).sum + (13 * (names.length + 1) + 43) ≤ R.locals) (hRcells : cells + 1 ≤ R.cells) (hRslots : slots + 6 ≤ R.slots) (hlocks : meth.locks = false)
    (hx : ∀ t : State, s.vm.Alike t.vm → H.size ≤ t.heap.size → (∀ q : Nat, q < H.size → t.heap[q]? = H[q]?) → XC cls s t)
    (hf : ∀ z ∈ locs, free z.base) (hc : cells + 1 ≤ mc) (hs : slots + 6 ≤ ms) :
    W p l e R s m args below meth c H locs cells slots (vx_MQ below Qc XC args s mc ms free) (F0 m pc ls rest) := by
  intro T hT X
  have htr : e.platform.stackTraces = false := (show e.platform.stackTraces = l.stackTraces by rw [X.admits.platform]).trans hl
  have Y := vx_rebase X (R' := { frames := R.frames, locals := R.locals, cells := 1, slots := 6 }) (Nat.le_refl _) (Nat.le_refl _) hRcells hRslots
  obtain ⟨s', hA⟩ : ∃ z, z = (T.setVm s.vm).setFrames (.invoking m args :: below) := ⟨_, rfl⟩
  rw [← hA] at Y
  have hvm : s'.vm = s.vm := by rw [hA]; rfl
  have hhp : s'.heap = H := by rw [hA]; exact hT
  have hW0 : s.WarmedH s'.vm := by rw [hvm]; exact State.WarmedH.refl s
  have hat' : ∀ w ∈ vx_atS own ic cls names, w.before args s' = true := fun w hw => vx_ot_at hW0 hvm.symm (hgood w (List.mem_cons_of_mem _ (List.mem_cons_of_mem _ hw))) (hat w hw)
  have hk' : (Cond.classLink own ik cls).before args s' = true := vx_ot_at hW0 hvm.symm (hgood _ List.mem_cons_self) hk
  have hini' : (Cond.initialized cls).before args s' = true := vx_ot_at hW0 hvm.symm (hgood _ (List.mem_cons_of_mem _ List.mem_cons_self)) hini
  have hU' : vx_Zq Bundle.tN "UNASSIGNED_STACK" Bundle.steD A s' s'.heap := by rw [hhp]; exact vx_Zq.moved hW0.alike (hU.kept hS.2.1)
  have hN' : vx_Zq Bundle.tN "SUPPRESSED_SENTINEL" Bundle.listD A s' s'.heap := by rw [hhp]; exact vx_Zq.moved hW0.alike (hN.kept hS.2.1)
  have h : ∀ w ∈ Bundle.ownAtoms own ic cls names, w.before args s' = true := vx_own hat' (vx_isRefq hU'.1) (vx_isRefq hN'.1) hU'.2.word hN'.2.word
  have hown' : s'.vm.findClass own = some m.cls := by rw [hvm]; exact hown
  have hins : (Cond.instantiable cls 6).before args s' = true := h _ (by simp [Bundle.ownAtoms])
  obtain ⟨vm₁, cX, kX, hfX, hkX, -, -, X₁, st1⟩ := Y.newCold hexec (own := own) (C := cls) (index := ik) (n := 6) hown' hk' hins hini'
    (g := F0 m pc ls rest) rfl (by rw [hb]; exact d0) (Nat.le_refl _) (Nat.le_refl _)
  generalize hT1 : (T.setVm vm₁).pushCell { cls := cX, slots := kX.instanceTypes.map defaultValue, vm := .none } = T1 at X₁ st1
  have hcat : (Value.ref T.heap.size).category = 1 := rfl
  have hcellA : T1.heap[T.heap.size]? = some (freshCell cX kX) := by rw [← hT1]; exact State.heap_pushCell_size _ _
  have d3' : decode c.code (pc + 3) = .ok (.dup, 1) := by rw [hb]; exact d3
  have d4' : decode c.code (pc + 4) = .ok (.ldc is, 2) := by rw [hb]; exact d4
  have hstr' : vk_R own is text sa s' := vk_R.warm hW0 hstr
  obtain ⟨U, hsteps, hrun, hend, hW, hsame, ce, hce, hO⟩ := X₁.ctorThrowS hexec htr (own := own) (cls := cls) (names := names) (ic := ic) hown' hcls hnames h (fun x hx => nomatch hx) hfX hkX hcellA (by rw [hhp, hT]; exact Nat.le_refl _) (msg := .ref sa) rfl
    (g := { method := m, pc := pc + 6, locals := ls, stack := .ref sa :: .ref T.heap.size :: .ref T.heap.size :: rest, locked := none }) rfl hsize rfl rfl (rest := rest) rfl
    (by rw [hb]; exact d6) (by rw [hb]; exact d9) hout hRframes (by simp only [List.map_cons, List.sum_cons, hcat]; omega) hlocks
  obtain ⟨f1, f2⟩ := vx_frame hsame
  rw [hhp] at f1 f2
  have hWs : s.WarmedH U.vm := State.WarmedH.trans hW0 hW
  have hcl : s.vm.findClass cls = some ce.cls := by
    have h9 := hO.cls
    rw [hvm] at h9
    exact h9
  have hall : s.sameButNew ({ U with vm := s.vm } : State) locs mc ms := by
    subst hA
    obtain ⟨e1, e2⟩ := hsame
    rw [State.setFrames_setFrames] at e1
    have h2 : (T.setVm s.vm).sameButNew ({ U with vm := s.vm } : State) [] (0 + 1) (0 + 6) := ⟨e1, e2⟩
    have h3 := X.same.trans h2
    rw [List.append_nil] at h3
    exact h3.mono hc hs
  refine ⟨U, ?_, .threw T.heap.size, hrun, hend, Or.inr ⟨T.heap.size, rfl, cls, ce, locs, hx U hWs.alike f1 (fun q hq => f2 q hq (fun z hz => nomatch hz)), hce, hO.vm, hcl, hWs, hall, hf⟩⟩
  refine st1 _ ?_
  show Steps p.tables e below (T1.setTop { method := m, pc := pc + 3, locals := ls, stack := .ref T.heap.size :: rest, locked := none }) _
  jvm_step X₁.here [X₁.here.top, hexec, d3', Value.category]
  exact X₁.ldcString hexec (own := own) (text := text) (index := is) (a := sa) hown' hstr'.1 hstr'.2
    (g := { method := m, pc := pc + 4, locals := ls, stack := .ref T.heap.size :: .ref T.heap.size :: rest, locked := none }) rfl d4' _ hsteps
/-- 'throw new E("text")', the text by a wide index -/
theorem vx_throwSW {cc : ByteArray} {pc : Nat} (hexec : p.tables.exec = Jvm.exec) (hb : c.code = cc) (hl : l.stackTraces = false) {own cls text : String} {names : List String} {ik is ic mc ms sa : Nat} {A : Nat → Prop}
    (hown : s.vm.findClass own = some m.cls) (hcls : Bundle.fit cls = true) (hnames : ∀ n ∈ names, Bundle.fit n = true)
    (hk : (Cond.classLink own ik cls).before args s = true) (hini : (Cond.initialized cls).before args s = true) (hstr : vk_R own is text sa s) (hat : ∀ w ∈ vx_atS own ic cls names, w.before args s = true)
    (hgood : ∀ w ∈ Cond.classLink own ik cls :: Cond.initialized cls :: vx_atS own ic cls names, vx_ot w = true)
    (hU : vx_Zq Bundle.tN "UNASSIGNED_STACK" Bundle.steD A s s.heap) (hN : vx_Zq Bundle.tN "SUPPRESSED_SENTINEL" Bundle.listD A s s.heap) (hS : va_S A s.heap H locs) (hsize : ls.size = c.maxLocals)
    (d0 : decode cc pc = .ok (.new ik, 3)) (d3 : decode cc (pc + 3) = .ok (.dup, 1)) (d4 : decode cc (pc + 4) = .ok (.ldc_w is, 3)) (d7 : decode cc (pc + 7) = .ok (.invokespecial ic, 3)) (d10 : decode cc (pc + 10) = .ok (.athrow, 1))
    (hout : ∀ x ∈ c.exceptionTable.toList, covers x (pc + 10) = false)
    (hRframes : names.length + 3 < R.frames) (hRlocals : (rest.map fun v => v.category).sum + (13 * (names.length + 1) + 43) ≤ R.locals) (hRcells : cells + 1 ≤ R.cells) (hRslots : slots + 6 ≤ R.slots) (hlocks : meth.locks = false)
    (hx : ∀ t : State, s.vm.Alike t.vm → H.size ≤ t.heap.size → (∀ q : Nat, q < H.size → t.heap[q]? = H[q]?) → XC cls s t)
    (hf : ∀ z ∈ locs, free z.base) (hc : cells + 1 ≤ mc) (hs : slots + 6 ≤ ms) :
    W p l e R s m args below meth c H locs cells slots (vx_MQ below Qc XC args s mc ms free) (F0 m pc ls rest) := by
  intro T hT X
  have htr : e.platform.stackTraces = false := (show e.platform.stackTraces = l.stackTraces by rw [X.admits.platform]).trans hl
  have Y := vx_rebase X (R' := { frames := R.frames, locals := R.locals, cells := 1, slots := 6 }) (Nat.le_refl _) (Nat.le_refl _) hRcells hRslots
  obtain ⟨s', hA⟩ : ∃ z, z = (T.setVm s.vm).setFrames (.invoking m args :: below) := ⟨_, rfl⟩
  rw [← hA] at Y
  have hvm : s'.vm = s.vm := by rw [hA]; rfl
  have hhp : s'.heap = H := by rw [hA]; exact hT
  have hW0 : s.WarmedH s'.vm := by rw [hvm]; exact State.WarmedH.refl s
  have hat' : ∀ w ∈ vx_atS own ic cls names, w.before args s' = true := fun w hw => vx_ot_at hW0 hvm.symm (hgood w (List.mem_cons_of_mem _ (List.mem_cons_of_mem _ hw))) (hat w hw)
  have hk' : (Cond.classLink own ik cls).before args s' = true := vx_ot_at hW0 hvm.symm (hgood _ List.mem_cons_self) hk
  have hini' : (Cond.initialized cls).before args s' = true := vx_ot_at hW0 hvm.symm (hgood _ (List.mem_cons_of_mem _ List.mem_cons_self)) hini
  have hU' : vx_Zq Bundle.tN "UNASSIGNED_STACK" Bundle.steD A s' s'.heap := by rw [hhp]; exact vx_Zq.moved hW0.alike (hU.kept hS.2.1)
  have hN' : vx_Zq Bundle.tN "SUPPRESSED_SENTINEL" Bundle.listD A s' s'.heap := by rw [hhp]; exact vx_Zq.moved hW0.alike (hN.kept hS.2.1)
  have h : ∀ w ∈ Bundle.ownAtoms own ic cls names, w.before args s' = true := vx_own hat' (vx_isRefq hU'.1) (vx_isRefq hN'.1) hU'.2.word hN'.2.word
  have hown' : s'.vm.findClass own = some m.cls := by rw [hvm]; exact hown
  have hins : (Cond.instantiable cls 6).before args s' = true := h _ (by simp [Bundle.ownAtoms])
  obtain ⟨vm₁, cX, kX, hfX, hkX, -, -, X₁, st1⟩ := Y.newCold hexec (own := own) (C := cls) (index := ik) (n := 6) hown' hk' hins hini'
    (g := F0 m pc ls rest) rfl (by rw [hb]; exact d0) (Nat.le_refl _) (Nat.le_refl _)
  generalize hT1 : (T.setVm vm₁).pushCell { cls := cX, slots := kX.instanceTypes.map defaultValue, vm := .none } = T1 at X₁ st1
  have hcat : (Value.ref T.heap.size).category = 1 := rfl
  have hcellA : T1.heap[T.heap.size]? = some (freshCell cX kX) := by rw [← hT1]; exact State.heap_pushCell_size _ _
  have d3' : decode c.code (pc + 3) = .ok (.dup, 1) := by rw [hb]; exact d3
  have d4' : decode c.code (pc + 4) = .ok (.ldc_w is, 3) := by rw [hb]; exact d4
  have hstr' : vk_R own is text sa s' := vk_R.warm hW0 hstr
  obtain ⟨U, hsteps, hrun, hend, hW, hsame, ce, hce, hO⟩ := X₁.ctorThrowS hexec htr (own := own) (cls := cls) (names := names) (ic := ic) hown' hcls hnames h (fun x hx => nomatch hx) hfX hkX hcellA (by rw [hhp, hT]; exact Nat.le_refl _) (msg := .ref sa) rfl
    (g := { method := m, pc := pc + 7, locals := ls, stack := .ref sa :: .ref T.heap.size :: .ref T.heap.size :: rest, locked := none }) rfl hsize rfl rfl (rest := rest) rfl
    (by rw [hb]; exact d7) (by rw [hb]; exact d10) hout hRframes (by simp only [List.map_cons, List.sum_cons, hcat]; omega) hlocks
  obtain ⟨f1, f2⟩ := vx_frame hsame
  rw [hhp] at f1 f2
  have hWs : s.WarmedH U.vm := State.WarmedH.trans hW0 hW
  have hcl : s.vm.findClass cls = some ce.cls := by
    have h9 := hO.cls
    rw [hvm] at h9
    exact h9
  have hall : s.sameButNew ({ U with vm := s.vm } : State) locs mc ms := by
    subst hA
    obtain ⟨e1, e2⟩ := hsame
    rw [State.setFrames_setFrames] at e1
    have h2 : (T.setVm s.vm).sameButNew ({ U with vm := s.vm } : State) [] (0 + 1) (0 + 6) := ⟨e1, e2⟩
    have h3 := X.same.trans h2
    rw [List.append_nil] at h3
    exact h3.mono hc hs
  refine ⟨U, ?_, .threw T.heap.size, hrun, hend, Or.inr ⟨T.heap.size, rfl, cls, ce, locs, hx U hWs.alike f1 (fun q hq => f2 q hq (fun z hz => nomatch hz)), hce, hO.vm, hcl, hWs, hall, hf⟩⟩
  refine st1 _ ?_
  show Steps p.tables e below (T1.setTop { method := m, pc := pc + 3, locals := ls, stack := .ref T.heap.size :: rest, locked := none }) _
  jvm_step X₁.here [X₁.here.top, hexec, d3', Value.category]
  exact X₁.ldcStringW hexec (own := own) (text := text) (index := is) (a := sa) hown' hstr'.1 hstr'.2
    (g := { method := m, pc := pc + 4, locals := ls, stack := .ref T.heap.size :: .ref T.heap.size :: rest, locked := none }) rfl d4' _ hsteps
end Ends
section Bodies
variable {l : Launch}
theorem vx_ofW {y : MethodName} {ws ws' : List Cond} {rm : Room} {Pc : Array Value → State → Prop} {Qc : Array Value → State → Outcome → State → Prop} {XC : String → State → State → Prop} {mc ms : Nat} {free : Addr → Prop} {cc : ByteArray} {maxL : Nat} {ret : Option FieldType}
    (hy : plainName y.cls = true) (hw : ws = Cond.code y cc maxL ret :: ws')
    (body : ∀ p e s m args below meth c s₁, BodyLoose p l y (headSpec ws rm) cc maxL ret e s m args below meth c s₁ → c.maxLocals = maxL → (∀ x ∈ c.exceptionTable.toList, False) → Pc args s →
      W p l e (headSpec ws rm).room s m args below meth c s.heap [] 0 0 (vx_MQ below Qc XC args s mc ms free) (entryFrame m args maxL)) : vx_Met l y ws rm Pc Qc XC mc ms free := by
  refine MetFree.of_bodyS (code := cc) (maxLocals := maxL) (ret := ret) hy ?_ ?_
  · intro args s m h hn
    obtain ⟨meth, c, h1, h2, h3, h4, h5, h6, -, -⟩ := Cond.code_spec hn (atoms_spec (ws := ws) h _ (by rw [hw]; exact List.mem_cons_self))
    exact ⟨meth, c, h1, h2, h3, h4, h5, h6⟩
  · intro p e s m args below meth c s₁ B hml hP _
    have hh0 : s₁.heap = s.heap := by rw [B.state]; rfl
    have ht : ∀ x ∈ c.exceptionTable.toList, False := by
      obtain ⟨meth9, c9, h1, h2, -, -, -, -, h7, -⟩ := Cond.code_spec B.named (atoms_spec (ws := ws) B.pre _ (by rw [hw]; exact List.mem_cons_self))
      cases Option.some.inj (h1.symm.trans B.method)
      cases Option.some.inj (h2.symm.trans (Stand.of_body B).code)
      intro x hx
      rw [Array.isEmpty_iff.mp h7] at hx
      cases hx
    obtain ⟨t, a1, o, b1, b2, b3⟩ := body p e s m args below meth c s₁ B hml ht hP s₁ hh0 (Stand.of_body B)
    exact ⟨t, o, a1, b1, b2, b3⟩
/-- the table of a body with handlers -/
theorem vx_table {p : Program} {x y : MethodName} {S : Spec} {cc bytes : ByteArray} {maxL maxL' : Nat} {ret ret' : Option FieldType} {e : Env} {s s₁ : State} {m : MethodId} {args : Array Value} {below : List Frame} {meth : Method} {c : Code} {hh : List (Nat × Nat × Nat × Nat)}
    (B : BodyLoose p l y S cc maxL ret e s m args below meth c s₁) (h : (Cond.codeWith y bytes maxL' ret' hh).before args s = true) : c.exceptionTable.toList = tableOf hh := by
  obtain ⟨m9, meth9, c9, hn9, h1, h2, -, -, h6, -⟩ := Cond.codeWith_spec h
  cases Option.some.inj (hn9.symm.trans B.named)
  cases Option.some.inj (h1.symm.trans B.method)
  cases Option.some.inj (h2.symm.trans (Stand.of_body B).code)
  rw [← h6, table_eq]
end Bodies
end VXA
/-! ===== END ===== -/
/-! ===== BEGIN a static call of a method with an exception table ===== -/
section VXS
variable {p : Program} {l : Launch} {e : Env} {R : Room} {s : State} {m : MethodId} {args : Array Value} {below : List Frame} {meth : Method} {c : Code} {T : State} {H : Heap} {locs : List Loc} {cells slots : Nat}
abbrev vx_CSW (R : Room) (s : State) (args : Array Value) (own : String) (index : Nat) (y : MethodName) (bytes : ByteArray) (maxL : Nat) (ret : Option FieldType) (hh : List (Nat × Nat × Nat × Nat)) (ws : List Cond) (rm : Room) (mc ms n : Nat) : Prop :=
  (rm.cells = mc ∧ rm.slots = ms ∧ rm.frames + 1 ≤ R.frames ∧ 8 + (maxL + 11) + rm.locals ≤ R.locals ∧ (∀ w ∈ ws, ∀ (a' : Array Value) (U : State), s.WarmedH U.vm → w.before a' U = true) ∧ Cond.codeWith y bytes maxL ret hh ∈ ws) ∧
  (Cond.codeWith y bytes maxL ret hh).before args s = true ∧ (Cond.initialized y.cls).before args s = true ∧ (y.cls ≠ "java/lang/invoke/MethodHandle" ∧ y.cls ≠ "java/lang/invoke/VarHandle") ∧
  (∀ sig, parseMethodDescriptor y.desc = some sig → n = sig.parameters.length) ∧ (Cond.methodLink own index y).before args s = true ∧ (Cond.static y).before args s = true
theorem vx_cwSW {own : String} {index maxL mc ms : Nat} {y : MethodName} {bytes : ByteArray} {ret : Option FieldType} {hh : List (Nat × Nat × Nat × Nat)} {Ts ws ws' : List Cond} {rm : Room} (n : Nat) (ht : ∀ w ∈ Ts, w.before args s = true) (hT : GoodIn Ts (va_wsS own index y ws)) (hw : ws = Cond.codeWith y bytes maxL ret hh :: ws') (hrc : rm.cells = mc) (hrs : rm.slots = ms)
    (hd : y.cls ≠ "java/lang/invoke/MethodHandle" ∧ y.cls ≠ "java/lang/invoke/VarHandle" ∧ (parseMethodDescriptor y.desc).map (fun d => d.parameters.length) = some n) (hR : rm.frames + 1 ≤ R.frames ∧ 8 + (maxL + 11) + rm.locals ≤ R.locals) :
    vx_CSW R s args own index y bytes maxL ret hh ws rm mc ms n := by
  have ok : ∀ w ∈ va_wsS own index y ws, w.before args s = true := fun w h => ht w (hT w h).1
  have hG : GoodIn Ts ws := fun w h => hT w (by unfold va_wsS; exact List.mem_append_right _ h)
  have hc : Cond.codeWith y bytes maxL ret hh ∈ ws := by rw [hw]; exact List.mem_cons_self
  refine ⟨⟨hrc, hrs, hR.1, hR.2, pay_in ht hG, hc⟩, ht _ (hG _ hc).1, ok _ (by simp [va_wsS]), ⟨hd.1, hd.2.1⟩, fun sig h => ?_, ok _ (by simp [va_wsS]), ok _ (by simp [va_wsS])⟩
  have h2 := hd.2.2
  rw [h] at h2
  exact (Option.some.inj h2).symm
theorem vx_callSW (X : Stand p l e R s m args below meth c T locs cells slots) (hexec : p.tables.exec = Jvm.exec) {own : String} {index : Nat} {y : MethodName} {bytes : ByteArray} {maxL : Nat} {ret : Option FieldType} {hh : List (Nat × Nat × Nat × Nat)}
    (hown : s.vm.findClass own = some m.cls) (hlink : (Cond.methodLink own index y).before args s = true) (hstat : (Cond.static y).before args s = true) (hinit : (Cond.initialized y.cls).before args s = true)
    (hcode : (Cond.codeWith y bytes maxL ret hh).before args s = true) (hy : y.cls ≠ "java/lang/invoke/MethodHandle" ∧ y.cls ≠ "java/lang/invoke/VarHandle")
    {W9 : Nat} {Pre : Pt → Array Value → Prop} {Post : Pt → Array Value → Option Value → Pt → Prop} (hK : Back l R p e below s args y 3 W9 Pre Post)
    {g : JFrame} (hg : g.method = m) (hsize : g.locals.size = c.maxLocals) {argsL rest : List Value} (hlen : ∀ sig, parseMethodDescriptor y.desc = some sig → argsL.length = sig.parameters.length)
    (hstack : g.stack = argsL.reverse ++ rest) (hW : 2 * g.monitorRoom + (rest.map fun v => v.category).sum ≤ W9) (hdg : decode c.code g.pc = .ok (.invokestatic index, 3))
    (hpre : ∀ vm₁, s.WarmedH vm₁ → Pre ⟨T.setVm vm₁, locs, cells, slots⟩ argsL.toArray) :
    ∃ (v : Option Value) (vm₁ : Vm) (B : Pt), s.WarmedH vm₁ ∧ Stand p l e R s m args below meth c B.U B.locs B.cells B.slots ∧ Post ⟨T.setVm vm₁, locs, cells, slots⟩ argsL.toArray v B ∧
      ∀ target, Steps p.tables e below (B.U.setTop { g with pc := g.pc + 3, stack := v.toList ++ rest }) target → Steps p.tables e below (T.setTop g) target := by
  obtain ⟨mk, methM, cM, hnamed, hmethM, -, -, -, -, -, -, hsigM⟩ := Cond.codeWith_spec hcode
  have hstatic : methM.isStatic = true := Cond.static_spec hnamed hmethM hstat
  obtain ⟨kP, hkP, -⟩ := className_of_methodNamed hnamed
  have hinitP : kP.init = .initialized := Cond.initialized_spec (findClass_of_methodNamed hnamed) hkP hinit
  obtain ⟨vm₁, X₁, hstep₁⟩ := X.invokestatic hexec hown hlink hnamed hmethM hstatic hkP hinitP hy (g := g) hg (argsL := argsL) (rest := rest) (hlen _ hsigM) hstack hdg
  obtain ⟨v, B, X', hpost, hsteps⟩ := hK m meth c ⟨T.setVm vm₁, locs, cells, slots⟩ { g with stack := rest } (.invokestatic index) mk argsL.toArray X₁ hg hsize hdg hW (X₁.named hnamed) (hpre vm₁ X₁.warmed)
  exact ⟨v, vm₁, B, X₁.warmed, X', hpost, fun target h => hstep₁ _ fun acts => by rw [doInvoke_state]; exact hsteps.trans h⟩
theorem vx_runSW {y : MethodName} {bytes cc : ByteArray} {maxL nL mc ms n index : Nat} {ret : Option FieldType} {hh : List (Nat × Nat × Nat × Nat)} {ws : List Cond} {rm : Room} {Pc : Array Value → State → Prop} {Qc : Array Value → State → Outcome → State → Prop} {free : Addr → Prop} {Ts : List Cond} {own : String} {As rest : List Value} {g : JFrame}
    (S : CallFix p m c cc nL s args Ts own) (hM : Met l y ws rm Pc Qc mc ms free) (cw : vx_CSW R s args own index y bytes maxL ret hh ws rm mc ms n) (hp : PreS s H Pc As)
    (hg : g.method = m) (hn : As.length = n) (hsize : g.locals.size = nL) (hstack : g.stack = As.reverse ++ rest) (hW : 2 * g.monitorRoom + (rest.map fun v => v.category).sum ≤ 8) (hdg : decode cc g.pc = .ok (.invokestatic index, 3)) (hf : cells + mc ≤ R.cells ∧ slots + ms ≤ R.slots) :
    va_Run p l e R s m args below meth c H locs cells slots mc ms g rest (Qc As.toArray) (free) := by
  obtain ⟨⟨hrc, hrs, hfr, hlo, hws, hcw⟩, hcode, hini, hy, hlen, hl, hstt⟩ := cw
  have hK : Back l R p e below s args y 3 8 (PreOf R mc ms Pc) (PostOf Qc mc ms free) := va_backW (hh := hh) (bytes := bytes) (maxL := maxL) (ret := ret) hM hp.1 hrc hrs hfr hlo hws hcw (fun a' U hW => word_at hW (Or.inl (by first | rfl | simp [Cond.onTables, Cond.keeps, Cond.steady])) hini)
  obtain ⟨hx, hb, hml, ho, -⟩ := S
  intro T hT X
  obtain ⟨v, vm₁, ⟨U', l2, c2, s2⟩, hW₁, X', ⟨g', mk, t, L, e1, e2, hq, h1, hL, h2, h3⟩, st⟩ := vx_callSW X hx (hh := hh) (bytes := bytes) (maxL := maxL) (ret := ret) ho hl hstt hini hcode hy hK hg (hsize.trans hml.symm) (argsL := As) (rest := rest) (fun sig h => hn.trans (hlen sig h)) hstack hW (by rw [hb]; exact hdg)
    (fun vm₁ hW₁ => ⟨hf.1, hf.2, hp.2 (T.setVm vm₁) hT hW₁⟩)
  dsimp only [Pt.U, Pt.locs, Pt.cells, Pt.slots] at X' e1 e2 h1 h2 h3 st
  subst h1; subst h2; subst h3
  exact ⟨v, (T.setVm vm₁).calling g' mk As.toArray, t, U', L, hT, X', hL, e1, e2, hq, st⟩
/-- not caught here, past rows that name other classes: it goes on to the caller -/
theorem vx_outP {p : Program} {l : Launch} {e : Env} {R : Room} {s : State} {m : MethodId} {args : Array Value} {below : List Frame} {meth : Method} {c : Code} {H : Heap} {locs : List Loc} {cells slots : Nat} {free : Addr → Prop} {ls : Array Slot} {rest : List Value} {Qc : Array Value → State → Outcome → State → Prop} {XC : String → State → State → Prop}
    {pc : Nat} {own E : String} {ce : Cell} {q : Addr} {mc ms : Nat} (hown : s.vm.findClass own = some m.cls) (hlocks : meth.locks = false)
    (hpass : ∀ z ∈ c.exceptionTable.toList, covers z pc = false ∨ (z.catchType ≠ 0 ∧ ∃ nm : String, (Cond.classLink own z.catchType nm).before args s = true ∧ va_Nc E nm s)) (hcell : H[q]? = some ce) (hv : ce.vm = .none) (hcl : s.vm.findClass E = some ce.cls)
    (hx : ∀ t : State, t.heap = H → s.vm.Alike t.vm → XC E s t) (hf : ∀ z ∈ locs, free z.base) (hc : cells ≤ mc) (hs : slots ≤ ms) :
    vx_W p l e R s m args below meth c H locs cells slots (vx_MQ below Qc XC args s mc ms free) (F0 m pc ls rest) q := by
  intro T hT X
  have hpl : e.platform.magicAccessors = ({} : Platform).magicAccessors := by rw [X.admits.platform]
  obtain ⟨vm', hW', X', st⟩ := X.outThrough hlocks q (g := F0 m pc ls rest) rfl rfl rfl (cell := ce) (by rw [hT]; exact hcell) (by rw [hv]; rfl)
    (by obtain ⟨k9, h9, -⟩ := Vm.findClass_spec hcl; exact ⟨k9, h9⟩) (fun z hz => by
      rcases hpass z hz with h | ⟨hz0, nm, hl1, hn1⟩
      · exact Or.inl h
      · obtain ⟨c6, hc6, hcl6⟩ := Cond.classLink_spec hown hl1 e.platform hpl
        obtain ⟨a8, b8, h1, h2, h3⟩ := hn1
        cases Option.some.inj (h1.symm.trans hcl)
        cases Option.some.inj (h2.symm.trans hc6)
        exact Or.inr ⟨hz0, _, hcl6, h3⟩)
  obtain ⟨g₀, hfr⟩ := X'.frames_eq
  have hcell9 : ((T.setVm vm').setFrames (.throwing q :: below)).heap[q]? = some ce := by
    show T.heap[q]? = some ce
    rw [hT]; exact hcell
  have hend : Ended ((T.setVm vm').setFrames (.throwing q :: below)) below (.threw q) := State.frames_setFrames _ (State.cur_lt_of_frames hfr)
  refine ⟨(T.setVm vm').setFrames (.throwing q :: below), ?_, .threw q, X'.here.running, hend, Or.inr ⟨q, rfl, E, ce, locs, hx _ hT (X'.ends _).1.alike, hcell9, hv, hcl, (X'.ends _).1, (X'.ends _).2.mono hc hs, hf⟩⟩
  rw [X.pushThrowing_eq]
  exact st
/-- a thing of a world lies in the heap -/
theorem vx_lt {D : va_G} {cl : List vw_C} {ws : va_W} {H1 : Heap} (h : va_P D cl ws H1) {k : Nat} {q : Nat × va_E} (hk : ws[k]? = some q) : q.1 < H1.size := (h k q hk).lt
end VXS
/-! ===== END ===== -/
/-! ===== BEGIN methods with a table of their own: called by a name, returning or throwing ===== -/
section VXH
/-! vx_backW, vx_callVX, vx_callSX, vx_callVW, vx_runVW, vx_runVX, vx_runSX, vx_ofWH follow the same proofs as their sisters above (Free/Laws.lean, Shelf42/LK1.lean); vx_outP calls Shelf42/NT130.lean (outThrough). -/
section
variable {l : Launch} {R : Room} {p : Program} {e : Env} {below : List Frame} {s : State} {sargs : Array Value} {y : MethodName} {len W9 : Nat}
theorem vx_backW {ws : List Cond} {rm : Room} {Pc : Array Value → State → Prop} {Qc : Array Value → State → Outcome → State → Prop} {XC : String → State → State → Prop} {mc ms : Nat} {free : Addr → Prop} {bytes : ByteArray} {maxL : Nat} {ret : Option FieldType} {hh : List (Nat × Nat × Nat × Nat)}
    (hM : vx_Met l y ws rm Pc Qc XC mc ms free) (hblind : FrameBlind Pc) (hrc : rm.cells = mc) (hrs : rm.slots = ms)
    (hframes : rm.frames + 1 ≤ R.frames) (hlocals : W9 + (maxL + 11) + rm.locals ≤ R.locals)
    (hws : ∀ w ∈ ws, ∀ a' U, s.WarmedH U.vm → w.before a' U = true) (hcode : Cond.codeWith y bytes maxL ret hh ∈ ws) (hinit : ∀ a' U, s.WarmedH U.vm → (Cond.initialized y.cls).before a' U = true) :
    vx_Back l R p e below s sargs y len W9 (PreOf R mc ms Pc) (PostOf Qc mc ms free) (vx_Post XC mc ms free) := by
  intro m meth c A g ig mk a X hg hsize hdg hW hn hp
  have h1 : (headSpec ws rm).pre.before a A.U = true := atoms_intro fun w hw => hws w hw _ _ X.warmed
  have h2 : (Cond.codeWith y bytes maxL ret hh).before a A.U = true := hws _ hcode _ _ X.warmed
  have h3 : (Cond.initialized y.cls).before a A.U = true := hinit _ _ X.warmed
  have h4 : A.cells + (headSpec ws rm).room.cells ≤ R.cells := by rw [show (headSpec ws rm).room.cells = mc from hrc]; exact hp.1
  have h5 : A.slots + (headSpec ws rm).room.slots ≤ R.slots := by rw [show (headSpec ws rm).room.slots = ms from hrs]; exact hp.2.1
  have hPc : Pc a (A.U.calling g mk a) := hblind _ _ _ _ hp.2.2
  obtain ⟨U, Ls, c0, s0⟩ := A
  dsimp only [Pt.U, Pt.locs, Pt.cells, Pt.slots] at h1 h2 h3 h4 h5 X hn hPc ⊢
  obtain ⟨m9, methY, cY, hn9, hmY, hcY, -, hlY, -⟩ := Cond.codeWith_spec h2
  cases Option.some.inj (hn9.symm.trans hn)
  obtain ⟨kY, hkY, -⟩ := className_of_methodNamed hn
  have hinitY : kY.init = .initialized := Cond.initialized_spec (findClass_of_methodNamed hn) hkY h3
  have h : At U g.method c below := by rw [hg]; exact X.here
  have hlocals9 : W9 + (maxL + 11) + (headSpec ws rm).room.locals ≤ R.locals := hlocals
  have happ : (headSpec ws rm).appliesLoose y e.platform (U.calling g mk a) = true :=
    Spec.appliesLoose_calling (g := g) h hdg hn hkY hinitY
      (X.room_calling (g := g) (R' := (headSpec ws rm).room) hsize hmY hcY hframes (by rw [hlY]; omega) h4 h5) h1
  obtain ⟨mid, hmid⟩ := h.above
  have hfr : (U.setTop g).frames = (.java g :: mid) ++ below := by rw [State.frames_setTop' g h.top, hmid]; rfl
  obtain ⟨o, s₂, hsteps, -, hend, hq⟩ := Steps.callFree hM p X.admits X.cas X.clock (acts := []) hfr happ hPc trivial
  have hq' : vx_Q Qc XC mc ms free a (U.calling g mk a) o s₂ := hq
  rw [State.frames_setTop' g h.top] at hend
  obtain ⟨g₀, hg0⟩ := Option.isSome_iff_exists.mp h.top
  obtain ⟨r, hr⟩ := State.topJava?_eq_some.mp hg0
  have hr' : (({ U with heap := s₂.heap, slotsUsed := s₂.slotsUsed } : State).setVm s₂.vm).frames = .java g₀ :: r := hr
  rcases hq' with ⟨hqc, L, hfe, hL⟩ | ⟨q, rfl, E, ce, L, hx, hce, hcv, hcl, hW₂, hsm, hL⟩
  · obtain ⟨⟨v, rfl⟩, hW₂, e2, q2, q3, q4, q5, q6⟩ := id hfe
    have e3 : s₂ = ({ (U.calling g mk a).setFrames s₂.frames with heap := s₂.heap, slotsUsed := s₂.slotsUsed } : State).setVm s₂.vm := by
      have : s₂ = ({ s₂ with vm := (U.calling g mk a).vm } : State).setVm s₂.vm := rfl
      rw [e2] at this
      exact this
    obtain ⟨c₂, i₂, len₂, hc₂, hd₂, hf₂⟩ := hend
    have hW' : U.WarmedH s₂.vm := hW₂
    have hcc : c₂ = c := by
      have h1 : s₂.code? g.method = U.code? g.method := by
        rw [State.code?_eq, State.code?_eq, hW'.alike.method?]
      exact Option.some.inj (hc₂.symm.trans (h1.trans h.code))
    subst hcc
    have hlen : len₂ = len := by rw [hdg] at hd₂; cases hd₂; rfl
    subst hlen
    have hs₂ : s₂ = (({ U with heap := s₂.heap, slotsUsed := s₂.slotsUsed } : State).setVm s₂.vm).setTop { g with pc := g.pc + len₂, stack := v.toList ++ g.stack } := by
      refine e3.trans ?_
      rw [hf₂, State.calling_eq h.top, State.setFrames_setFrames, State.setTop_of_frames _ hr', hr]
      rfl
    have hsame : U.sameButNew ({ U with heap := s₂.heap, slotsUsed := s₂.slotsUsed } : State) L mc ms := by
      refine ⟨?_, q2, q3, q4, q5, q6⟩
      obtain ⟨t, ht, -⟩ := State.frames_cons hr
      show ({ U with heap := s₂.heap, slotsUsed := s₂.slotsUsed } : State) = { U.setFrames U.frames with heap := s₂.heap, slotsUsed := s₂.slotsUsed }
      rw [State.setFrames_self ht]
    subst hg
    refine Or.inl ⟨v, ⟨(({ U with heap := s₂.heap, slotsUsed := s₂.slotsUsed } : State).setVm s₂.vm), Ls ++ L, c0 + mc, s0 + ms⟩,
      ⟨X.admits, X.cas, X.clock, X.frames, X.room, X.hears, X.method, X.code, (X.here.setHeapUsed s₂.heap s₂.slotsUsed).setVm hW'.alike, X.tail, State.WarmedH.trans X.warmed hW', X.limits, X.bytes, X.same.trans (hsame.setVm s.vm)⟩,
      ⟨g, mk, s₂, L, rfl, rfl, hqc, rfl, hL, rfl, rfl⟩, ?_⟩
    show Steps p.tables e below _ ((({ U with heap := s₂.heap, slotsUsed := s₂.slotsUsed } : State).setVm s₂.vm).setTop { g with pc := g.pc + len₂, stack := v.toList ++ g.stack })
    rw [← hs₂]
    exact hsteps
  · obtain ⟨e2, q2, q3, q4, q5, q6⟩ := id hsm
    have e3 : s₂ = ({ (U.calling g mk a).setFrames s₂.frames with heap := s₂.heap, slotsUsed := s₂.slotsUsed } : State).setVm s₂.vm := by
      have : s₂ = ({ s₂ with vm := (U.calling g mk a).vm } : State).setVm s₂.vm := rfl
      rw [e2] at this
      exact this
    have hf₂ : s₂.frames = .throwing q :: .java g :: U.frames.tail := hend
    have hW' : U.WarmedH s₂.vm := hW₂
    have hs₂ : s₂ = ((({ U with heap := s₂.heap, slotsUsed := s₂.slotsUsed } : State).setVm s₂.vm).setTop g).pushFrame (.throwing q) := by
      refine e3.trans ?_
      rw [hf₂, State.calling_eq h.top, State.setFrames_setFrames, State.pushFrame, State.frames_setTop _ hr', State.setTop_of_frames _ hr', State.setFrames_setFrames, hr]
      rfl
    have hsame : U.sameButNew ({ U with heap := s₂.heap, slotsUsed := s₂.slotsUsed } : State) L mc ms := by
      refine ⟨?_, q2, q3, q4, q5, q6⟩
      obtain ⟨t, ht, -⟩ := State.frames_cons hr
      show ({ U with heap := s₂.heap, slotsUsed := s₂.slotsUsed } : State) = { U.setFrames U.frames with heap := s₂.heap, slotsUsed := s₂.slotsUsed }
      rw [State.setFrames_self ht]
    subst hg
    refine Or.inr ⟨q, ⟨(({ U with heap := s₂.heap, slotsUsed := s₂.slotsUsed } : State).setVm s₂.vm), Ls ++ L, c0 + mc, s0 + ms⟩,
      ⟨X.admits, X.cas, X.clock, X.frames, X.room, X.hears, X.method, X.code, (X.here.setHeapUsed s₂.heap s₂.slotsUsed).setVm hW'.alike, X.tail, State.WarmedH.trans X.warmed hW', X.limits, X.bytes, X.same.trans (hsame.setVm s.vm)⟩,
      ⟨g, mk, s₂, L, E, ce, rfl, rfl, hx, hce, hcv, hcl, rfl, hL, rfl, rfl⟩, ?_⟩
    show Steps p.tables e below _ (((({ U with heap := s₂.heap, slotsUsed := s₂.slotsUsed } : State).setVm s₂.vm).setTop g).pushFrame (.throwing q))
    rw [← hs₂]
    exact hsteps
end
variable {p : Program} {l : Launch} {e : Env} {R : Room} {s : State} {m : MethodId} {args : Array Value} {below : List Frame} {meth : Method} {c : Code} {T : State} {H : Heap} {locs : List Loc} {cells slots : Nat}
theorem vx_callVX (X : Stand p l e R s m args below meth c T locs cells slots) (hexec : p.tables.exec = Jvm.exec) {own C : String} {index : Nat} {y : MethodName} {bytes : ByteArray} {maxL : Nat} {ret : Option FieldType} {hh : List (Nat × Nat × Nat × Nat)}
    (hown : s.vm.findClass own = some m.cls) (hlink : (Cond.methodLink own index y).before args s = true) (hinst : (Cond.instanceMethod y).before args s = true) (hsel : (Cond.selects C y y).before args s = true)
    (hcode : (Cond.codeWith y bytes maxL ret hh).before args s = true) (hy : y.cls ≠ "java/lang/invoke/MethodHandle" ∧ y.cls ≠ "java/lang/invoke/VarHandle")
    {W9 : Nat} {Pre : Pt → Array Value → Prop} {Post : Pt → Array Value → Option Value → Pt → Prop} {PostX : Pt → Array Value → Addr → Pt → Prop} (hK : vx_Back l R p e below s args y 3 W9 Pre Post PostX)
    {b : Addr} {cellB : Cell} (hcell : T.heap[b]? = some cellB) (hobj : cellB.vm.isStatics = false) (hcls : s.vm.findClass C = some cellB.cls)
    {g : JFrame} (hg : g.method = m) (hsize : g.locals.size = c.maxLocals) {argsL rest : List Value} (hlen : ∀ sig, parseMethodDescriptor y.desc = some sig → argsL.length = sig.parameters.length)
    (hstack : g.stack = argsL.reverse ++ .ref b :: rest) (hW : 2 * g.monitorRoom + (rest.map fun v => v.category).sum ≤ W9) (hdg : decode c.code g.pc = .ok (.invokevirtual index, 3))
    (hpre : ∀ vm₁, s.WarmedH vm₁ → Pre ⟨T.setVm vm₁, locs, cells, slots⟩ (Value.ref b :: argsL).toArray) :
    (∃ (v : Option Value) (vm₁ : Vm) (B : Pt), s.WarmedH vm₁ ∧ Stand p l e R s m args below meth c B.U B.locs B.cells B.slots ∧ Post ⟨T.setVm vm₁, locs, cells, slots⟩ (Value.ref b :: argsL).toArray v B ∧
      ∀ target, Steps p.tables e below (B.U.setTop { g with pc := g.pc + 3, stack := v.toList ++ rest }) target → Steps p.tables e below (T.setTop g) target) ∨
    (∃ (q : Addr) (vm₁ : Vm) (B : Pt), s.WarmedH vm₁ ∧ Stand p l e R s m args below meth c B.U B.locs B.cells B.slots ∧ PostX ⟨T.setVm vm₁, locs, cells, slots⟩ (Value.ref b :: argsL).toArray q B ∧
      Steps p.tables e below (T.setTop g) ((B.U.setTop { g with stack := rest }).pushFrame (.throwing q))) := by
  obtain ⟨mk, methM, hnamed, hmethM, hstM, habM⟩ := Cond.instanceMethod_spec hinst
  obtain ⟨m8, methM', cM, hn8, hmethM', -, -, -, -, -, -, hsigM⟩ := Cond.codeWith_spec hcode
  cases Option.some.inj (hn8.symm.trans hnamed)
  cases hmethM.symm.trans hmethM'
  obtain ⟨c2, r2, m2, q1, q2, q3, q4, kP, hkP, hkPi⟩ := Cond.selects_spec hsel
  cases hcls.symm.trans q1
  cases (State.methodFound?_of_named hnamed hy).symm.trans q2
  cases hnamed.symm.trans q3
  have hselP : selectMethod e.platform s.vm cellB.cls mk = .method mk := by rw [Launch.admits_selectMethod X.admits]; exact q4
  obtain ⟨vm₁, X₁, hstep₁⟩ := X.invokevirtual hexec hown hlink hnamed hmethM hstM hkP hkPi hy (a := b) (cell := cellB) hcell
    (fun z h => by rw [h] at hobj; cases hobj) hselP hmethM habM hkP hkPi (g := g) hg (argsL := argsL) (rest := rest) (hlen _ hsigM) hstack hdg
  rcases hK m meth c ⟨T.setVm vm₁, locs, cells, slots⟩ { g with stack := rest } (.invokevirtual index) mk (Value.ref b :: argsL).toArray X₁ hg hsize hdg hW (X₁.named hnamed) (hpre vm₁ X₁.warmed) with ⟨v, B, X', hpost, hsteps⟩ | ⟨q, B, X', hpost, hsteps⟩
  · exact Or.inl ⟨v, vm₁, B, X₁.warmed, X', hpost, fun target h => hstep₁ _ fun acts => by rw [doInvoke_state]; exact hsteps.trans h⟩
  · exact Or.inr ⟨q, vm₁, B, X₁.warmed, X', hpost, hstep₁ _ fun acts => by rw [doInvoke_state]; exact hsteps⟩
theorem vx_callSX (X : Stand p l e R s m args below meth c T locs cells slots) (hexec : p.tables.exec = Jvm.exec) {own : String} {index : Nat} {y : MethodName} {bytes : ByteArray} {maxL : Nat} {ret : Option FieldType} {hh : List (Nat × Nat × Nat × Nat)}
    (hown : s.vm.findClass own = some m.cls) (hlink : (Cond.methodLink own index y).before args s = true) (hstat : (Cond.static y).before args s = true) (hinit : (Cond.initialized y.cls).before args s = true)
    (hcode : (Cond.codeWith y bytes maxL ret hh).before args s = true) (hy : y.cls ≠ "java/lang/invoke/MethodHandle" ∧ y.cls ≠ "java/lang/invoke/VarHandle")
    {W9 : Nat} {Pre : Pt → Array Value → Prop} {Post : Pt → Array Value → Option Value → Pt → Prop} {PostX : Pt → Array Value → Addr → Pt → Prop} (hK : vx_Back l R p e below s args y 3 W9 Pre Post PostX)
    {g : JFrame} (hg : g.method = m) (hsize : g.locals.size = c.maxLocals) {argsL rest : List Value} (hlen : ∀ sig, parseMethodDescriptor y.desc = some sig → argsL.length = sig.parameters.length)
    (hstack : g.stack = argsL.reverse ++ rest) (hW : 2 * g.monitorRoom + (rest.map fun v => v.category).sum ≤ W9) (hdg : decode c.code g.pc = .ok (.invokestatic index, 3))
    (hpre : ∀ vm₁, s.WarmedH vm₁ → Pre ⟨T.setVm vm₁, locs, cells, slots⟩ argsL.toArray) :
    (∃ (v : Option Value) (vm₁ : Vm) (B : Pt), s.WarmedH vm₁ ∧ Stand p l e R s m args below meth c B.U B.locs B.cells B.slots ∧ Post ⟨T.setVm vm₁, locs, cells, slots⟩ argsL.toArray v B ∧
      ∀ target, Steps p.tables e below (B.U.setTop { g with pc := g.pc + 3, stack := v.toList ++ rest }) target → Steps p.tables e below (T.setTop g) target) ∨
    (∃ (q : Addr) (vm₁ : Vm) (B : Pt), s.WarmedH vm₁ ∧ Stand p l e R s m args below meth c B.U B.locs B.cells B.slots ∧ PostX ⟨T.setVm vm₁, locs, cells, slots⟩ argsL.toArray q B ∧
      Steps p.tables e below (T.setTop g) ((B.U.setTop { g with stack := rest }).pushFrame (.throwing q))) := by
  obtain ⟨mk, methM, cM, hnamed, hmethM, -, -, -, -, -, -, hsigM⟩ := Cond.codeWith_spec hcode
  have hstatic : methM.isStatic = true := Cond.static_spec hnamed hmethM hstat
  obtain ⟨kP, hkP, -⟩ := className_of_methodNamed hnamed
  have hinitP : kP.init = .initialized := Cond.initialized_spec (findClass_of_methodNamed hnamed) hkP hinit
  obtain ⟨vm₁, X₁, hstep₁⟩ := X.invokestatic hexec hown hlink hnamed hmethM hstatic hkP hinitP hy (g := g) hg (argsL := argsL) (rest := rest) (hlen _ hsigM) hstack hdg
  rcases hK m meth c ⟨T.setVm vm₁, locs, cells, slots⟩ { g with stack := rest } (.invokestatic index) mk argsL.toArray X₁ hg hsize hdg hW (X₁.named hnamed) (hpre vm₁ X₁.warmed) with ⟨v, B, X', hpost, hsteps⟩ | ⟨q, B, X', hpost, hsteps⟩
  · exact Or.inl ⟨v, vm₁, B, X₁.warmed, X', hpost, fun target h => hstep₁ _ fun acts => by rw [doInvoke_state]; exact hsteps.trans h⟩
  · exact Or.inr ⟨q, vm₁, B, X₁.warmed, X', hpost, hstep₁ _ fun acts => by rw [doInvoke_state]; exact hsteps⟩
theorem vx_callVW (X : Stand p l e R s m args below meth c T locs cells slots) (hexec : p.tables.exec = Jvm.exec) {own C : String} {index : Nat} {y : MethodName} {bytes : ByteArray} {maxL : Nat} {ret : Option FieldType} {hh : List (Nat × Nat × Nat × Nat)}
    (hown : s.vm.findClass own = some m.cls) (hlink : (Cond.methodLink own index y).before args s = true) (hinst : (Cond.instanceMethod y).before args s = true) (hsel : (Cond.selects C y y).before args s = true)
    (hcode : (Cond.codeWith y bytes maxL ret hh).before args s = true) (hy : y.cls ≠ "java/lang/invoke/MethodHandle" ∧ y.cls ≠ "java/lang/invoke/VarHandle")
    {W9 : Nat} {Pre : Pt → Array Value → Prop} {Post : Pt → Array Value → Option Value → Pt → Prop} (hK : Back l R p e below s args y 3 W9 Pre Post)
    {b : Addr} {cellB : Cell} (hcell : T.heap[b]? = some cellB) (hobj : cellB.vm.isStatics = false) (hcls : s.vm.findClass C = some cellB.cls)
    {g : JFrame} (hg : g.method = m) (hsize : g.locals.size = c.maxLocals) {argsL rest : List Value} (hlen : ∀ sig, parseMethodDescriptor y.desc = some sig → argsL.length = sig.parameters.length)
    (hstack : g.stack = argsL.reverse ++ .ref b :: rest) (hW : 2 * g.monitorRoom + (rest.map fun v => v.category).sum ≤ W9) (hdg : decode c.code g.pc = .ok (.invokevirtual index, 3))
    (hpre : ∀ vm₁, s.WarmedH vm₁ → Pre ⟨T.setVm vm₁, locs, cells, slots⟩ (Value.ref b :: argsL).toArray) :
    ∃ (v : Option Value) (vm₁ : Vm) (B : Pt), s.WarmedH vm₁ ∧ Stand p l e R s m args below meth c B.U B.locs B.cells B.slots ∧ Post ⟨T.setVm vm₁, locs, cells, slots⟩ (Value.ref b :: argsL).toArray v B ∧
      ∀ target, Steps p.tables e below (B.U.setTop { g with pc := g.pc + 3, stack := v.toList ++ rest }) target → Steps p.tables e below (T.setTop g) target := by
  obtain ⟨mk, methM, hnamed, hmethM, hstM, habM⟩ := Cond.instanceMethod_spec hinst
  obtain ⟨m8, methM', cM, hn8, hmethM', -, -, -, -, -, -, hsigM⟩ := Cond.codeWith_spec hcode
  cases Option.some.inj (hn8.symm.trans hnamed)
  cases hmethM.symm.trans hmethM'
  obtain ⟨c2, r2, m2, q1, q2, q3, q4, kP, hkP, hkPi⟩ := Cond.selects_spec hsel
  cases hcls.symm.trans q1
  cases (State.methodFound?_of_named hnamed hy).symm.trans q2
  cases hnamed.symm.trans q3
  have hselP : selectMethod e.platform s.vm cellB.cls mk = .method mk := by rw [Launch.admits_selectMethod X.admits]; exact q4
  obtain ⟨vm₁, X₁, hstep₁⟩ := X.invokevirtual hexec hown hlink hnamed hmethM hstM hkP hkPi hy (a := b) (cell := cellB) hcell
    (fun z h => by rw [h] at hobj; cases hobj) hselP hmethM habM hkP hkPi (g := g) hg (argsL := argsL) (rest := rest) (hlen _ hsigM) hstack hdg
  obtain ⟨v, B, X', hpost, hsteps⟩ := hK m meth c ⟨T.setVm vm₁, locs, cells, slots⟩ { g with stack := rest } (.invokevirtual index) mk (Value.ref b :: argsL).toArray X₁ hg hsize hdg hW (X₁.named hnamed) (hpre vm₁ X₁.warmed)
  exact ⟨v, vm₁, B, X₁.warmed, X', hpost, fun target h => hstep₁ _ fun acts => by rw [doInvoke_state]; exact hsteps.trans h⟩
abbrev vx_CVW (R : Room) (s : State) (args : Array Value) (own C : String) (index : Nat) (y : MethodName) (bytes : ByteArray) (maxL : Nat) (ret : Option FieldType) (hh : List (Nat × Nat × Nat × Nat)) (ws : List Cond) (rm : Room) (mc ms n : Nat) : Prop :=
  (rm.cells = mc ∧ rm.slots = ms ∧ rm.frames + 1 ≤ R.frames ∧ 8 + (maxL + 11) + rm.locals ≤ R.locals ∧ (∀ w ∈ ws, ∀ (a' : Array Value) (U : State), s.WarmedH U.vm → w.before a' U = true) ∧ Cond.codeWith y bytes maxL ret hh ∈ ws) ∧
  (Cond.codeWith y bytes maxL ret hh).before args s = true ∧ (Cond.initialized y.cls).before args s = true ∧ (y.cls ≠ "java/lang/invoke/MethodHandle" ∧ y.cls ≠ "java/lang/invoke/VarHandle") ∧
  (∀ sig, parseMethodDescriptor y.desc = some sig → n = sig.parameters.length) ∧ (Cond.methodLink own index y).before args s = true ∧ (Cond.instanceMethod y).before args s = true ∧ (Cond.selects C y y).before args s = true
theorem vx_cwVW {own C : String} {index maxL mc ms : Nat} {y : MethodName} {bytes : ByteArray} {ret : Option FieldType} {hh : List (Nat × Nat × Nat × Nat)} {Ts ws ws' : List Cond} {rm : Room} (n : Nat) (ht : ∀ w ∈ Ts, w.before args s = true) (hT : GoodIn Ts (wsV own index C y ws)) (hw : ws = Cond.codeWith y bytes maxL ret hh :: ws') (hrc : rm.cells = mc) (hrs : rm.slots = ms)
    (hd : y.cls = C ∧ y.cls ≠ "java/lang/invoke/MethodHandle" ∧ y.cls ≠ "java/lang/invoke/VarHandle" ∧ (parseMethodDescriptor y.desc).map (fun d => d.parameters.length) = some n) (hR : rm.frames + 1 ≤ R.frames ∧ 8 + (maxL + 11) + rm.locals ≤ R.locals) :
    vx_CVW R s args own C index y bytes maxL ret hh ws rm mc ms n := by
  obtain ⟨hC, hd⟩ := hd
  subst hC
  have ok : ∀ w ∈ wsV own index y.cls y ws, w.before args s = true := fun w h => ht w (hT w h).1
  have hG : GoodIn Ts ws := fun w h => hT w (by unfold wsV; exact List.mem_append_right _ h)
  have hc : Cond.codeWith y bytes maxL ret hh ∈ ws := by rw [hw]; exact List.mem_cons_self
  refine ⟨⟨hrc, hrs, hR.1, hR.2, pay_in ht hG, hc⟩, ht _ (hG _ hc).1, ok _ (by simp [wsV]), ⟨hd.1, hd.2.1⟩, fun sig h => ?_, ok _ (by simp [wsV]), ok _ (by simp [wsV]), ok _ (by simp [wsV])⟩
  have h2 := hd.2.2
  rw [h] at h2
  exact (Option.some.inj h2).symm
theorem vx_runVW {y : MethodName} {bytes cc : ByteArray} {maxL nL mc ms n index : Nat} {ret : Option FieldType} {hh : List (Nat × Nat × Nat × Nat)} {ws : List Cond} {rm : Room} {Pc : Array Value → State → Prop} {Qc : Array Value → State → Outcome → State → Prop} {free : Addr → Prop} {Ts : List Cond} {own C : String} {b : Addr} {As rest : List Value} {g : JFrame}
    (S : CallFix p m c cc nL s args Ts own) (hM : Met l y ws rm Pc Qc mc ms free) (cw : vx_CVW R s args own C index y bytes maxL ret hh ws rm mc ms n) (hp : PreV s H C b Pc As)
    (hg : g.method = m) (hn : As.length = n) (hsize : g.locals.size = nL) (hstack : g.stack = As.reverse ++ .ref b :: rest) (hW : 2 * g.monitorRoom + (rest.map fun v => v.category).sum ≤ 8) (hdg : decode cc g.pc = .ok (.invokevirtual index, 3)) (hf : cells + mc ≤ R.cells ∧ slots + ms ≤ R.slots) :
    va_Run p l e R s m args below meth c H locs cells slots mc ms g rest (Qc (Value.ref b :: As).toArray) free := by
  obtain ⟨⟨hrc, hrs, hfr, hlo, hws, hcw⟩, hcode, hini, hy, hlen, hl, hin, hse⟩ := cw
  have hK : Back l R p e below s args y 3 8 (PreOf R mc ms Pc) (PostOf Qc mc ms free) := va_backW (hh := hh) (bytes := bytes) (maxL := maxL) (ret := ret) hM hp.1 hrc hrs hfr hlo hws hcw (fun a' U hW => word_at hW (Or.inl (by first | rfl | simp [Cond.onTables, Cond.keeps, Cond.steady])) hini)
  obtain ⟨hx, hb, hml, ho, -⟩ := S
  obtain ⟨-, ⟨cellB, hcB, hoB, hclB⟩, hPc⟩ := hp
  intro T hT X
  obtain ⟨v, vm₁, ⟨U', l2, c2, s2⟩, hW₁, X', ⟨g', mk, t, L, e1, e2, hq, h1, hL, h2, h3⟩, st⟩ := vx_callVW X hx (C := C) (hh := hh) (bytes := bytes) (maxL := maxL) (ret := ret) ho hl hin hse hcode hy hK (by rw [hT]; exact hcB) hoB hclB hg (hsize.trans hml.symm) (argsL := As) (rest := rest) (fun sig h => hn.trans (hlen sig h)) hstack hW (by rw [hb]; exact hdg)
    (fun vm₁ hW₁ => ⟨hf.1, hf.2, hPc (T.setVm vm₁) hT hW₁⟩)
  dsimp only [Pt.U, Pt.locs, Pt.cells, Pt.slots] at X' e1 e2 h1 h2 h3 st
  subst h1; subst h2; subst h3
  exact ⟨v, (T.setVm vm₁).calling g' mk (Value.ref b :: As).toArray, t, U', L, hT, X', hL, e1, e2, hq, st⟩
section
variable {y : MethodName} {bytes cc : ByteArray} {maxL nL mc ms n index : Nat} {ret : Option FieldType} {ws : List Cond} {rm : Room} {Pc : Array Value → State → Prop} {Qc : Array Value → State → Outcome → State → Prop} {XC : String → State → State → Prop} {free : Addr → Prop} {Ts : List Cond} {own C : String} {b : Addr} {As rest : List Value} {g : JFrame}
theorem vx_runVX {hh : List (Nat × Nat × Nat × Nat)} (S : CallFix p m c cc nL s args Ts own) (hM : vx_Met l y ws rm Pc Qc XC mc ms free) (cw : vx_CVW R s args own C index y bytes maxL ret hh ws rm mc ms n) (hp : PreV s H C b Pc As)
    (hg : g.method = m) (hn : As.length = n) (hsize : g.locals.size = nL) (hstack : g.stack = As.reverse ++ .ref b :: rest) (hW : 2 * g.monitorRoom + (rest.map fun v => v.category).sum ≤ 8) (hdg : decode cc g.pc = .ok (.invokevirtual index, 3)) (hf : cells + mc ≤ R.cells ∧ slots + ms ≤ R.slots) :
    vx_Run p l e R s m args below meth c H locs cells slots mc ms g rest (Qc (Value.ref b :: As).toArray) XC free := by
  obtain ⟨⟨hrc, hrs, hfr, hlo, hws, hcw⟩, hcode, hini, hy, hlen, hl, hin, hse⟩ := cw
  have hK : vx_Back l R p e below s args y 3 8 (PreOf R mc ms Pc) (PostOf Qc mc ms free) (vx_Post XC mc ms free) := vx_backW (hh := hh) (bytes := bytes) (maxL := maxL) (ret := ret) hM hp.1 hrc hrs hfr hlo hws hcw (fun a' U hW => word_at hW (Or.inl (by first | rfl | simp [Cond.onTables, Cond.keeps, Cond.steady])) hini)
  obtain ⟨hx, hb, hml, ho, -⟩ := S
  obtain ⟨-, ⟨cellB, hcB, hoB, hclB⟩, hPc⟩ := hp
  intro T hT X
  rcases vx_callVX X hx (C := C) (hh := hh) (bytes := bytes) (maxL := maxL) (ret := ret) ho hl hin hse hcode hy hK (by rw [hT]; exact hcB) hoB hclB hg (hsize.trans hml.symm) (argsL := As) (rest := rest) (fun sig h => hn.trans (hlen sig h)) hstack hW (by rw [hb]; exact hdg)
    (fun vm₁ hW₁ => ⟨hf.1, hf.2, hPc (T.setVm vm₁) hT hW₁⟩) with ⟨v, vm₁, ⟨U', l2, c2, s2⟩, hW₁, X', ⟨g', mk, t, L, e1, e2, hq, h1, hL, h2, h3⟩, st⟩ | ⟨q, vm₁, ⟨U', l2, c2, s2⟩, hW₁, X', ⟨g', mk, t, L, E, ce, e1, e2, hq, hce, hcv, hcl, h1, hL, h2, h3⟩, st⟩
  · dsimp only [Pt.U, Pt.locs, Pt.cells, Pt.slots] at X' e1 e2 h1 h2 h3 st
    subst h1; subst h2; subst h3
    exact Or.inl ⟨v, (T.setVm vm₁).calling g' mk (Value.ref b :: As).toArray, t, U', L, hT, X', hL, e1, e2, hq, st⟩
  · dsimp only [Pt.U, Pt.locs, Pt.cells, Pt.slots] at X' e1 e2 h1 h2 h3 st hcl
    subst h1; subst h2; subst h3
    exact Or.inr ⟨q, (T.setVm vm₁).calling g' mk (Value.ref b :: As).toArray, t, U', L, E, ce, hT, X', hL, e1, e2, hq, hce, hcv, vx_cls hW₁ hcl, st⟩
theorem vx_runSX {hh : List (Nat × Nat × Nat × Nat)} (S : CallFix p m c cc nL s args Ts own) (hM : vx_Met l y ws rm Pc Qc XC mc ms free) (cw : vx_CSW R s args own index y bytes maxL ret hh ws rm mc ms n) (hp : PreS s H Pc As)
    (hg : g.method = m) (hn : As.length = n) (hsize : g.locals.size = nL) (hstack : g.stack = As.reverse ++ rest) (hW : 2 * g.monitorRoom + (rest.map fun v => v.category).sum ≤ 8) (hdg : decode cc g.pc = .ok (.invokestatic index, 3)) (hf : cells + mc ≤ R.cells ∧ slots + ms ≤ R.slots) :
    vx_Run p l e R s m args below meth c H locs cells slots mc ms g rest (Qc As.toArray) XC free := by
  obtain ⟨⟨hrc, hrs, hfr, hlo, hws, hcw⟩, hcode, hini, hy, hlen, hl, hstt⟩ := cw
  have hK : vx_Back l R p e below s args y 3 8 (PreOf R mc ms Pc) (PostOf Qc mc ms free) (vx_Post XC mc ms free) := vx_backW (hh := hh) (bytes := bytes) (maxL := maxL) (ret := ret) hM hp.1 hrc hrs hfr hlo hws hcw (fun a' U hW => word_at hW (Or.inl (by first | rfl | simp [Cond.onTables, Cond.keeps, Cond.steady])) hini)
  obtain ⟨hx, hb, hml, ho, -⟩ := S
  intro T hT X
  rcases vx_callSX X hx (hh := hh) (bytes := bytes) (maxL := maxL) (ret := ret) ho hl hstt hini hcode hy hK hg (hsize.trans hml.symm) (argsL := As) (rest := rest) (fun sig h => hn.trans (hlen sig h)) hstack hW (by rw [hb]; exact hdg)
    (fun vm₁ hW₁ => ⟨hf.1, hf.2, hp.2 (T.setVm vm₁) hT hW₁⟩) with ⟨v, vm₁, ⟨U', l2, c2, s2⟩, hW₁, X', ⟨g', mk, t, L, e1, e2, hq, h1, hL, h2, h3⟩, st⟩ | ⟨q, vm₁, ⟨U', l2, c2, s2⟩, hW₁, X', ⟨g', mk, t, L, E, ce, e1, e2, hq, hce, hcv, hcl, h1, hL, h2, h3⟩, st⟩
  · dsimp only [Pt.U, Pt.locs, Pt.cells, Pt.slots] at X' e1 e2 h1 h2 h3 st
    subst h1; subst h2; subst h3
    exact Or.inl ⟨v, (T.setVm vm₁).calling g' mk As.toArray, t, U', L, hT, X', hL, e1, e2, hq, st⟩
  · dsimp only [Pt.U, Pt.locs, Pt.cells, Pt.slots] at X' e1 e2 h1 h2 h3 st hcl
    subst h1; subst h2; subst h3
    exact Or.inr ⟨q, (T.setVm vm₁).calling g' mk As.toArray, t, U', L, E, ce, hT, X', hL, e1, e2, hq, hce, hcv, vx_cls hW₁ hcl, st⟩
end
end VXH
theorem vx_ofWH {l : Launch} {y : MethodName} {ws ws' : List Cond} {rm : Room} {Pc : Array Value → State → Prop} {Qc : Array Value → State → Outcome → State → Prop} {XC : String → State → State → Prop} {mc ms : Nat} {free : Addr → Prop} {cc : ByteArray} {maxL : Nat} {ret : Option FieldType} {hh : List (Nat × Nat × Nat × Nat)}
    (hy : plainName y.cls = true) (hw : ws = Cond.codeWith y cc maxL ret hh :: ws')
    (body : ∀ p e s m args below meth c s₁, BodyLoose p l y (headSpec ws rm) cc maxL ret e s m args below meth c s₁ → c.maxLocals = maxL → Pc args s →
      W p l e (headSpec ws rm).room s m args below meth c s.heap [] 0 0 (vx_MQ below Qc XC args s mc ms free) (entryFrame m args maxL)) : vx_Met l y ws rm Pc Qc XC mc ms free := by
  refine MetFree.of_bodyS (code := cc) (maxLocals := maxL) (ret := ret) hy ?_ ?_
  · intro args s m h hn
    obtain ⟨m9, meth, c, hn9, h1, h2, h3, h4, -, h5, h6, -⟩ := Cond.codeWith_spec (atoms_spec (ws := ws) h _ (by rw [hw]; exact List.mem_cons_self))
    cases hn.symm.trans hn9
    exact ⟨meth, c, h1, h2, h3, h4, h5, h6⟩
  · intro p e s m args below meth c s₁ B hml hP _
    have hh0 : s₁.heap = s.heap := by rw [B.state]; rfl
    obtain ⟨t, a1, o, b1, b2, b3⟩ := body p e s m args below meth c s₁ B hml hP s₁ hh0 (Stand.of_body B)
    exact ⟨t, o, a1, b1, b2, b3⟩
/-! ===== END ===== -/
end
section
def RX0 : String := "TaylorModels$Arithmetic"
def TX0 : u_T := fun k => match k with
  | 0 => ("TaylorModels$Arithmetic", "products", "[J", true)
  | 1 => ("TaylorModels$Arithmetic", "low", "J", false)
  | 2 => ("TaylorModels$Arithmetic", "high", "J", false)
  | 3 => ("TaylorModels$Arithmetic", "part", "LTaylorModels$Model;", true)
  | 4 => ("TaylorModels$Arithmetic", "whole", "LTaylorModels$Model;", true)
  | 5 => ("TaylorModels$Arithmetic", "speed", "LTaylorModels$Model;", true)
  | 6 => ("TaylorModels$Arithmetic", "nextX", "LTaylorModels$Model;", true)
  | _ => ("TaylorModels$Arithmetic", "nextY", "LTaylorModels$Model;", true)
def tyX0 : Nat → FieldType := fun k => match k with
  | 0 => .array .long
  | 1 => .long
  | 2 => .long
  | 3 => .object "TaylorModels$Model"
  | 4 => .object "TaylorModels$Model"
  | 5 => .object "TaylorModels$Model"
  | 6 => .object "TaylorModels$Model"
  | _ => .object "TaylorModels$Model"
abbrev wsX00 : List Cond := u_ws RX0 TX0 8
theorem nmX0 : ∀ a, a < 8 → ∀ b, b < 8 → a ≠ b → (TX0 a).2.1 ≠ (TX0 b).2.1 := by decide +kernel
theorem tyX0_ok : ∀ k, k < 8 → parseFieldDescriptor (TX0 k).2.2.1 = some (tyX0 k) := by decide +kernel
abbrev cX0_init : ByteArray := prog_2_method_1_code
def yX0_init : MethodName := ⟨RX0, "<init>", "()V"⟩
abbrev cX0_addModels : ByteArray := prog_2_method_2_code
def yX0_addModels : MethodName := ⟨RX0, "addModels", "(LTaylorModels$Model;LTaylorModels$Model;LTaylorModels$Model;)Z"⟩
abbrev cX0_subtractModels : ByteArray := prog_2_method_3_code
def yX0_subtractModels : MethodName := ⟨RX0, "subtractModels", "(LTaylorModels$Model;LTaylorModels$Model;LTaylorModels$Model;)Z"⟩
abbrev cX0_multiplyModels : ByteArray := prog_2_method_4_code
def yX0_multiplyModels : MethodName := ⟨RX0, "multiplyModels", "(LTaylorModels$Model;LTaylorModels$Model;LTaylorModels$Model;)Z"⟩
abbrev cX0_collectProducts : ByteArray := prog_2_method_5_code
def yX0_collectProducts : MethodName := ⟨RX0, "collectProducts", "(LTaylorModels$Model;LTaylorModels$Model;)V"⟩
abbrev cX0_addIntervalProduct : ByteArray := prog_2_method_6_code
def yX0_addIntervalProduct : MethodName := ⟨RX0, "addIntervalProduct", "(JJJJ)V"⟩
abbrev cX0_composeModels : ByteArray := prog_2_method_7_code
def yX0_composeModels : MethodName := ⟨RX0, "composeModels", "(LTaylorModels$Model;LTaylorModels$Model;LTaylorModels$Model;LTaylorModels$Model;)Z"⟩
abbrev cX0_integrateModel : ByteArray := prog_2_method_8_code
def yX0_integrateModel : MethodName := ⟨RX0, "integrateModel", "(LTaylorModels$Model;LTaylorModels$Model;I)Z"⟩
abbrev cX0_integrateTerm : ByteArray := prog_2_method_9_code
def yX0_integrateTerm : MethodName := ⟨RX0, "integrateTerm", "(JIII)V"⟩
abbrev cX0_moveModels : ByteArray := prog_2_method_10_code
def yX0_moveModels : MethodName := ⟨RX0, "moveModels", "(LTaylorModels$Model;LTaylorModels$Model;LTaylorModels$Model;LTaylorModels$Model;J)Z"⟩
def RX1 : String := "TaylorModels$History"
def TX1 : u_T := fun k => match k with
  | 0 => ("TaylorModels$History", "ring", "[LTaylorModels$Models;", true)
  | 1 => ("TaylorModels$History", "next", "I", false)
  | _ => ("TaylorModels$History", "count", "I", false)
def tyX1 : Nat → FieldType := fun k => match k with
  | 0 => .array (.object "TaylorModels$Models")
  | 1 => .int
  | _ => .int
abbrev wsX10 : List Cond := u_ws RX1 TX1 3
theorem nmX1 : ∀ a, a < 3 → ∀ b, b < 3 → a ≠ b → (TX1 a).2.1 ≠ (TX1 b).2.1 := by decide +kernel
theorem tyX1_ok : ∀ k, k < 3 → parseFieldDescriptor (TX1 k).2.2.1 = some (tyX1 k) := by decide +kernel
abbrev cX1_init : ByteArray := prog_3_method_1_code
def yX1_init : MethodName := ⟨RX1, "<init>", "()V"⟩
abbrev cX1_remember : ByteArray := prog_3_method_2_code
def yX1_remember : MethodName := ⟨RX1, "remember", "(LTaylorModels$Models;)V"⟩
abbrev cX1_restore : ByteArray := prog_3_method_3_code
def yX1_restore : MethodName := ⟨RX1, "restore", "(LTaylorModels$Models;)Z"⟩
def RX2 : String := "TaylorModels$Model"
def TX2 : u_T := fun k => match k with
  | 0 => ("TaylorModels$Model", "coefficients", "[J", true)
  | 1 => ("TaylorModels$Model", "low", "J", false)
  | _ => ("TaylorModels$Model", "high", "J", false)
def tyX2 : Nat → FieldType := fun k => match k with
  | 0 => .array .long
  | 1 => .long
  | _ => .long
abbrev wsX20 : List Cond := u_ws RX2 TX2 3
theorem nmX2 : ∀ a, a < 3 → ∀ b, b < 3 → a ≠ b → (TX2 a).2.1 ≠ (TX2 b).2.1 := by decide +kernel
theorem tyX2_ok : ∀ k, k < 3 → parseFieldDescriptor (TX2 k).2.2.1 = some (tyX2 k) := by decide +kernel
abbrev cX2_init : ByteArray := prog_4_method_1_code
def yX2_init : MethodName := ⟨RX2, "<init>", "()V"⟩
abbrev cX2_becomeConstant : ByteArray := prog_4_method_2_code
def yX2_becomeConstant : MethodName := ⟨RX2, "becomeConstant", "(J)V"⟩
abbrev cX2_becomeVariable : ByteArray := prog_4_method_3_code
def yX2_becomeVariable : MethodName := ⟨RX2, "becomeVariable", "(I)V"⟩
abbrev cX2_copyFrom : ByteArray := prog_4_method_4_code
def yX2_copyFrom : MethodName := ⟨RX2, "copyFrom", "(LTaylorModels$Model;)V"⟩
abbrev cX2_coefficientAt : ByteArray := prog_4_method_5_code
def yX2_coefficientAt : MethodName := ⟨RX2, "coefficientAt", "(I)J"⟩
abbrev cX2_setCoefficientAt : ByteArray := prog_4_method_6_code
def yX2_setCoefficientAt : MethodName := ⟨RX2, "setCoefficientAt", "(IJ)V"⟩
abbrev cX2_putQuotient : ByteArray := prog_4_method_7_code
def yX2_putQuotient : MethodName := ⟨RX2, "putQuotient", "(IJJ)V"⟩
abbrev cX2_widen : ByteArray := prog_4_method_8_code
def yX2_widen : MethodName := ⟨RX2, "widen", "(J)V"⟩
abbrev cX2_width : ByteArray := prog_4_method_9_code
def yX2_width : MethodName := ⟨RX2, "width", "()I"⟩
abbrev cX2_fits : ByteArray := prog_4_method_10_code
def yX2_fits : MethodName := ⟨RX2, "fits", "()Z"⟩
abbrev cX2_spreadLow : ByteArray := prog_4_method_11_code
def yX2_spreadLow : MethodName := ⟨RX2, "spreadLow", "()J"⟩
abbrev cX2_spreadHigh : ByteArray := prog_4_method_12_code
def yX2_spreadHigh : MethodName := ⟨RX2, "spreadHigh", "()J"⟩
abbrev cX2_boundLow : ByteArray := prog_4_method_13_code
def yX2_boundLow : MethodName := ⟨RX2, "boundLow", "()J"⟩
abbrev cX2_boundHigh : ByteArray := prog_4_method_14_code
def yX2_boundHigh : MethodName := ⟨RX2, "boundHigh", "()J"⟩
abbrev cX2_staysInSquare : ByteArray := prog_4_method_15_code
def yX2_staysInSquare : MethodName := ⟨RX2, "staysInSquare", "()Z"⟩
abbrev cX2_valueInBillionths : ByteArray := prog_4_method_16_code
def yX2_valueInBillionths : MethodName := ⟨RX2, "valueInBillionths", "(JJ)J"⟩
abbrev cX2_highestDegree : ByteArray := prog_4_method_17_code
def yX2_highestDegree : MethodName := ⟨RX2, "highestDegree", "()I"⟩
abbrev cX2_contains : ByteArray := prog_4_method_18_code
def yX2_contains : MethodName := ⟨RX2, "contains", "(LTaylorModels$Model;)Z"⟩
abbrev cX2_sweepUpTo : ByteArray := prog_4_method_19_code
def yX2_sweepUpTo : MethodName := ⟨RX2, "sweepUpTo", "(J)I"⟩
abbrev cX2_addToChecksum : ByteArray := prog_4_method_20_code
def yX2_addToChecksum : MethodName := ⟨RX2, "addToChecksum", "(J)J"⟩
def RX3 : String := "TaylorModels$Models"
def TX3 : u_T := fun k => match k with
  | 0 => ("TaylorModels$Models", "rows", "[LTaylorModels$Model;", true)
  | _ => ("TaylorModels$Models", "mask", "I", false)
def tyX3 : Nat → FieldType := fun k => match k with
  | 0 => .array (.object "TaylorModels$Model")
  | _ => .int
abbrev wsX30 : List Cond := u_ws RX3 TX3 2
theorem nmX3 : ∀ a, a < 2 → ∀ b, b < 2 → a ≠ b → (TX3 a).2.1 ≠ (TX3 b).2.1 := by decide +kernel
theorem tyX3_ok : ∀ k, k < 2 → parseFieldDescriptor (TX3 k).2.2.1 = some (tyX3 k) := by decide +kernel
abbrev cX3_init : ByteArray := prog_5_method_1_code
def yX3_init : MethodName := ⟨RX3, "<init>", "()V"⟩
abbrev cX3_has : ByteArray := prog_5_method_2_code
def yX3_has : MethodName := ⟨RX3, "has", "(I)Z"⟩
abbrev cX3_count : ByteArray := prog_5_method_3_code
def yX3_count : MethodName := ⟨RX3, "count", "()I"⟩
abbrev cX3_define : ByteArray := prog_5_method_4_code
def yX3_define : MethodName := ⟨RX3, "define", "(ILTaylorModels$Model;)V"⟩
abbrev cX3_remove : ByteArray := prog_5_method_5_code
def yX3_remove : MethodName := ⟨RX3, "remove", "(I)V"⟩
abbrev cX3_copyFrom : ByteArray := prog_5_method_6_code
def yX3_copyFrom : MethodName := ⟨RX3, "copyFrom", "(LTaylorModels$Models;)V"⟩
def RX4 : String := "TaylorModels$SetupReader"
def TX4 : u_T := fun k => match k with
  | 0 => ("TaylorModels$SetupReader", "text", "LTaylorModels$SetupText;", true)
  | 1 => ("TaylorModels$SetupReader", "draft", "LTaylorModels$Models;", true)
  | 2 => ("TaylorModels$SetupReader", "arithmetic", "LTaylorModels$Arithmetic;", true)
  | 3 => ("TaylorModels$SetupReader", "sums", "[LTaylorModels$Model;", true)
  | 4 => ("TaylorModels$SetupReader", "terms", "[LTaylorModels$Model;", true)
  | 5 => ("TaylorModels$SetupReader", "factors", "[LTaylorModels$Model;", true)
  | 6 => ("TaylorModels$SetupReader", "arguments", "[LTaylorModels$Model;", true)
  | _ => ("TaylorModels$SetupReader", "error", "I", false)
def tyX4 : Nat → FieldType := fun k => match k with
  | 0 => .object "TaylorModels$SetupText"
  | 1 => .object "TaylorModels$Models"
  | 2 => .object "TaylorModels$Arithmetic"
  | 3 => .array (.object "TaylorModels$Model")
  | 4 => .array (.object "TaylorModels$Model")
  | 5 => .array (.object "TaylorModels$Model")
  | 6 => .array (.object "TaylorModels$Model")
  | _ => .int
abbrev wsX40 : List Cond := u_ws RX4 TX4 8
theorem nmX4 : ∀ a, a < 8 → ∀ b, b < 8 → a ≠ b → (TX4 a).2.1 ≠ (TX4 b).2.1 := by decide +kernel
theorem tyX4_ok : ∀ k, k < 8 → parseFieldDescriptor (TX4 k).2.2.1 = some (tyX4 k) := by decide +kernel
abbrev cX4_init : ByteArray := prog_6_method_1_code
def yX4_init : MethodName := ⟨RX4, "<init>", "()V"⟩
abbrev cX4_readSetup : ByteArray := prog_6_method_2_code
def yX4_readSetup : MethodName := ⟨RX4, "readSetup", "(I)Z"⟩
abbrev cX4_fail : ByteArray := prog_6_method_3_code
def yX4_fail : MethodName := ⟨RX4, "fail", "(I)Z"⟩
abbrev cX4_take : ByteArray := prog_6_method_4_code
def yX4_take : MethodName := ⟨RX4, "take", "(I)Z"⟩
abbrev cX4_open : ByteArray := prog_6_method_5_code
def yX4_open : MethodName := ⟨RX4, "open", "(II)Z"⟩
abbrev cX4_readUncertainty : ByteArray := prog_6_method_6_code
def yX4_readUncertainty : MethodName := ⟨RX4, "readUncertainty", "()Z"⟩
abbrev cX4_checkNumber : ByteArray := prog_6_method_7_code
def yX4_checkNumber : MethodName := ⟨RX4, "checkNumber", "()Z"⟩
abbrev cX4_readSum : ByteArray := prog_6_method_8_code
def yX4_readSum : MethodName := ⟨RX4, "readSum", "(I)Z"⟩
abbrev cX4_readTerm : ByteArray := prog_6_method_9_code
def yX4_readTerm : MethodName := ⟨RX4, "readTerm", "(I)Z"⟩
abbrev cX4_readFactor : ByteArray := prog_6_method_10_code
def yX4_readFactor : MethodName := ⟨RX4, "readFactor", "(I)Z"⟩
abbrev cX4_readConstant : ByteArray := prog_6_method_11_code
def yX4_readConstant : MethodName := ⟨RX4, "readConstant", "(LTaylorModels$Model;)Z"⟩
abbrev cX4_readParenthesis : ByteArray := prog_6_method_12_code
def yX4_readParenthesis : MethodName := ⟨RX4, "readParenthesis", "(I)Z"⟩
abbrev cX4_readBrackets : ByteArray := prog_6_method_13_code
def yX4_readBrackets : MethodName := ⟨RX4, "readBrackets", "(I)Z"⟩
def RX5 : String := "TaylorModels$SetupText"
def TX5 : u_T := fun k => match k with
  | 0 => ("TaylorModels$SetupText", "bytes", "[I", true)
  | 1 => ("TaylorModels$SetupText", "filled", "I", false)
  | 2 => ("TaylorModels$SetupText", "starts", "[I", true)
  | 3 => ("TaylorModels$SetupText", "ends", "[I", true)
  | 4 => ("TaylorModels$SetupText", "last", "I", false)
  | 5 => ("TaylorModels$SetupText", "current", "I", false)
  | 6 => ("TaylorModels$SetupText", "start", "I", false)
  | 7 => ("TaylorModels$SetupText", "end", "I", false)
  | _ => ("TaylorModels$SetupText", "first", "I", false)
def tyX5 : Nat → FieldType := fun k => match k with
  | 0 => .array .int
  | 1 => .int
  | 2 => .array .int
  | 3 => .array .int
  | 4 => .int
  | 5 => .int
  | 6 => .int
  | 7 => .int
  | _ => .int
abbrev wsX50 : List Cond := u_ws RX5 TX5 9
theorem nmX5 : ∀ a, a < 9 → ∀ b, b < 9 → a ≠ b → (TX5 a).2.1 ≠ (TX5 b).2.1 := by decide +kernel
theorem tyX5_ok : ∀ k, k < 9 → parseFieldDescriptor (TX5 k).2.2.1 = some (tyX5 k) := by decide +kernel
abbrev cX5_init : ByteArray := prog_7_method_1_code
def yX5_init : MethodName := ⟨RX5, "<init>", "()V"⟩
abbrev cX5_putWord : ByteArray := prog_7_method_2_code
def yX5_putWord : MethodName := ⟨RX5, "putWord", "(I)V"⟩
abbrev cX5_split : ByteArray := prog_7_method_3_code
def yX5_split : MethodName := ⟨RX5, "split", "(I)V"⟩
abbrev cX5_kindOf : ByteArray := prog_7_method_4_code
def yX5_kindOf : MethodName := ⟨RX5, "kindOf", "(I)I"⟩
abbrev cX5_advance : ByteArray := prog_7_method_5_code
def yX5_advance : MethodName := ⟨RX5, "advance", "()V"⟩
abbrev cX5_isWord : ByteArray := prog_7_method_6_code
def yX5_isWord : MethodName := ⟨RX5, "isWord", "(Ljava/lang/String;)Z"⟩
abbrev cX5_name : ByteArray := prog_7_method_7_code
def yX5_name : MethodName := ⟨RX5, "name", "()I"⟩
abbrev cX5_isNumber : ByteArray := prog_7_method_8_code
def yX5_isNumber : MethodName := ⟨RX5, "isNumber", "()Z"⟩
abbrev cX5_number : ByteArray := prog_7_method_9_code
def yX5_number : MethodName := ⟨RX5, "number", "()I"⟩
def RX6 : String := "TaylorModels"
def TX6 : u_T := fun k => match k with
  | 0 => ("TaylorModels", "models", "LTaylorModels$Models;", true)
  | 1 => ("TaylorModels", "history", "LTaylorModels$History;", true)
  | 2 => ("TaylorModels", "arithmetic", "LTaylorModels$Arithmetic;", true)
  | 3 => ("TaylorModels", "reader", "LTaylorModels$SetupReader;", true)
  | 4 => ("TaylorModels", "result", "LTaylorModels$Model;", true)
  | _ => ("TaylorModels", "errorStart", "I", false)
def tyX6 : Nat → FieldType := fun k => match k with
  | 0 => .object "TaylorModels$Models"
  | 1 => .object "TaylorModels$History"
  | 2 => .object "TaylorModels$Arithmetic"
  | 3 => .object "TaylorModels$SetupReader"
  | 4 => .object "TaylorModels$Model"
  | _ => .int
abbrev wsX60 : List Cond := u_ws RX6 TX6 6
theorem nmX6 : ∀ a, a < 6 → ∀ b, b < 6 → a ≠ b → (TX6 a).2.1 ≠ (TX6 b).2.1 := by decide +kernel
theorem tyX6_ok : ∀ k, k < 6 → parseFieldDescriptor (TX6 k).2.2.1 = some (tyX6 k) := by decide +kernel
abbrev cX6_init : ByteArray := prog_1_method_1_code
def yX6_init : MethodName := ⟨RX6, "<init>", "()V"⟩
abbrev cX6_append : ByteArray := prog_1_method_2_code
def yX6_append : MethodName := ⟨RX6, "append", "(IIIII)I"⟩
abbrev cX6_load : ByteArray := prog_1_method_3_code
def yX6_load : MethodName := ⟨RX6, "load", "(I)I"⟩
abbrev cX6_errorOffset : ByteArray := prog_1_method_4_code
def yX6_errorOffset : MethodName := ⟨RX6, "errorOffset", "()I"⟩
abbrev cX6_defined : ByteArray := prog_1_method_5_code
def yX6_defined : MethodName := ⟨RX6, "defined", "()I"⟩
abbrev cX6_coefficient : ByteArray := prog_1_method_6_code
def yX6_coefficient : MethodName := ⟨RX6, "coefficient", "(III)I"⟩
abbrev cX6_remainder : ByteArray := prog_1_method_7_code
def yX6_remainder : MethodName := ⟨RX6, "remainder", "(II)I"⟩
abbrev cX6_bound : ByteArray := prog_1_method_8_code
def yX6_bound : MethodName := ⟨RX6, "bound", "(II)I"⟩
abbrev cX6_value : ByteArray := prog_1_method_9_code
def yX6_value : MethodName := ⟨RX6, "value", "(IIII)I"⟩
abbrev cX6_degree : ByteArray := prog_1_method_10_code
def yX6_degree : MethodName := ⟨RX6, "degree", "(I)I"⟩
abbrev cX6_covers : ByteArray := prog_1_method_11_code
def yX6_covers : MethodName := ⟨RX6, "covers", "(II)Z"⟩
abbrev cX6_reason : ByteArray := prog_1_method_12_code
def yX6_reason : MethodName := ⟨RX6, "reason", "(III)I"⟩
abbrev cX6_add : ByteArray := prog_1_method_13_code
def yX6_add : MethodName := ⟨RX6, "add", "(III)I"⟩
abbrev cX6_subtract : ByteArray := prog_1_method_14_code
def yX6_subtract : MethodName := ⟨RX6, "subtract", "(III)I"⟩
abbrev cX6_multiply : ByteArray := prog_1_method_15_code
def yX6_multiply : MethodName := ⟨RX6, "multiply", "(III)I"⟩
abbrev cX6_compose : ByteArray := prog_1_method_16_code
def yX6_compose : MethodName := ⟨RX6, "compose", "(IIII)I"⟩
abbrev cX6_integrate : ByteArray := prog_1_method_17_code
def yX6_integrate : MethodName := ⟨RX6, "integrate", "(III)I"⟩
abbrev cX6_step : ByteArray := prog_1_method_18_code
def yX6_step : MethodName := ⟨RX6, "step", "(II)I"⟩
abbrev cX6_sweep : ByteArray := prog_1_method_19_code
def yX6_sweep : MethodName := ⟨RX6, "sweep", "(II)I"⟩
abbrev cX6_wrap : ByteArray := prog_1_method_20_code
def yX6_wrap : MethodName := ⟨RX6, "wrap", "(II)I"⟩
abbrev cX6_setCoefficient : ByteArray := prog_1_method_21_code
def yX6_setCoefficient : MethodName := ⟨RX6, "setCoefficient", "(IIII)I"⟩
abbrev cX6_setRemainder : ByteArray := prog_1_method_22_code
def yX6_setRemainder : MethodName := ⟨RX6, "setRemainder", "(III)I"⟩
abbrev cX6_clear : ByteArray := prog_1_method_23_code
def yX6_clear : MethodName := ⟨RX6, "clear", "(I)Z"⟩
abbrev cX6_undo : ByteArray := prog_1_method_24_code
def yX6_undo : MethodName := ⟨RX6, "undo", "()I"⟩
abbrev cX6_checksum : ByteArray := prog_1_method_25_code
def yX6_checksum : MethodName := ⟨RX6, "checksum", "()J"⟩
abbrev cX6_requireIndex : ByteArray := prog_1_method_26_code
def yX6_requireIndex : MethodName := ⟨RX6, "requireIndex", "(I)V"⟩
abbrev cX6_requireDefined : ByteArray := prog_1_method_27_code
def yX6_requireDefined : MethodName := ⟨RX6, "requireDefined", "(I)LTaylorModels$Model;"⟩
abbrev cX6_requireSlot : ByteArray := prog_1_method_28_code
def yX6_requireSlot : MethodName := ⟨RX6, "requireSlot", "(II)I"⟩
abbrev cX6_requireZeroOrOne : ByteArray := prog_1_method_29_code
def yX6_requireZeroOrOne : MethodName := ⟨RX6, "requireZeroOrOne", "(I)V"⟩
abbrev cX6_requireBetween : ByteArray := prog_1_method_30_code
def yX6_requireBetween : MethodName := ⟨RX6, "requireBetween", "(JJJ)V"⟩
abbrev cX6_settle : ByteArray := prog_1_method_31_code
def yX6_settle : MethodName := ⟨RX6, "settle", "(IZ)I"⟩
abbrev cX6_slotOf : ByteArray := prog_1_method_32_code
def yX6_slotOf : MethodName := ⟨RX6, "slotOf", "(II)I"⟩
abbrev cX6_lowestOf : ByteArray := prog_1_method_33_code
def yX6_lowestOf : MethodName := ⟨RX6, "lowestOf", "(II)I"⟩
abbrev cX6_rangeLow : ByteArray := prog_1_method_34_code
def yX6_rangeLow : MethodName := ⟨RX6, "rangeLow", "(JI)J"⟩
abbrev cX6_rangeHigh : ByteArray := prog_1_method_35_code
def yX6_rangeHigh : MethodName := ⟨RX6, "rangeHigh", "(JI)J"⟩
def RX7 : String := "TaylorModelsModel"
def TX7 : u_T := fun k => match k with
  | 0 => ("TaylorModelsModel", "thrown", "I", false)
  | 1 => ("TaylorModelsModel", "buffer", "[I", true)
  | 2 => ("TaylorModelsModel", "bufferLength", "I", false)
  | 3 => ("TaylorModelsModel", "textLength", "I", false)
  | 4 => ("TaylorModelsModel", "position", "I", false)
  | 5 => ("TaylorModelsModel", "error", "I", false)
  | 6 => ("TaylorModelsModel", "errorAt", "I", false)
  | 7 => ("TaylorModelsModel", "errorOffset", "I", false)
  | 8 => ("TaylorModelsModel", "data", "[I", true)
  | 9 => ("TaylorModelsModel", "draft", "[I", true)
  | 10 => ("TaylorModelsModel", "history", "[[I", true)
  | 11 => ("TaylorModelsModel", "undoDepth", "I", false)
  | 12 => ("TaylorModelsModel", "products", "[J", true)
  | 13 => ("TaylorModelsModel", "product", "[J", true)
  | 14 => ("TaylorModelsModel", "composed", "[J", true)
  | 15 => ("TaylorModelsModel", "power", "[J", true)
  | 16 => ("TaylorModelsModel", "integral", "[J", true)
  | 17 => ("TaylorModelsModel", "numberStart", "I", false)
  | 18 => ("TaylorModelsModel", "sums", "[[J", true)
  | 19 => ("TaylorModelsModel", "terms", "[[J", true)
  | 20 => ("TaylorModelsModel", "factors", "[[J", true)
  | 21 => ("TaylorModelsModel", "firsts", "[[J", true)
  | 22 => ("TaylorModelsModel", "named", "[J", true)
  | 23 => ("TaylorModelsModel", "nesting", "I", false)
  | 24 => ("TaylorModelsModel", "one", "[J", true)
  | 25 => ("TaylorModelsModel", "two", "[J", true)
  | 26 => ("TaylorModelsModel", "three", "[J", true)
  | 27 => ("TaylorModelsModel", "result", "[J", true)
  | 28 => ("TaylorModelsModel", "nextX", "[J", true)
  | _ => ("TaylorModelsModel", "nextY", "[J", true)
def tyX7 : Nat → FieldType := fun k => match k with
  | 0 => .int
  | 1 => .array .int
  | 2 => .int
  | 3 => .int
  | 4 => .int
  | 5 => .int
  | 6 => .int
  | 7 => .int
  | 8 => .array .int
  | 9 => .array .int
  | 10 => .array (.array .int)
  | 11 => .int
  | 12 => .array .long
  | 13 => .array .long
  | 14 => .array .long
  | 15 => .array .long
  | 16 => .array .long
  | 17 => .int
  | 18 => .array (.array .long)
  | 19 => .array (.array .long)
  | 20 => .array (.array .long)
  | 21 => .array (.array .long)
  | 22 => .array .long
  | 23 => .int
  | 24 => .array .long
  | 25 => .array .long
  | 26 => .array .long
  | 27 => .array .long
  | 28 => .array .long
  | _ => .array .long
abbrev wsX70 : List Cond := u_ws RX7 TX7 30
theorem nmX7 : ∀ a, a < 30 → ∀ b, b < 30 → a ≠ b → (TX7 a).2.1 ≠ (TX7 b).2.1 := by decide +kernel
theorem tyX7_ok : ∀ k, k < 30 → parseFieldDescriptor (TX7 k).2.2.1 = some (tyX7 k) := by decide +kernel
abbrev cX7_init : ByteArray := prog_9_method_1_code
def yX7_init : MethodName := ⟨RX7, "<init>", "()V"⟩
abbrev cX7_thrown : ByteArray := prog_9_method_2_code
def yX7_thrown : MethodName := ⟨RX7, "thrown", "()I"⟩
abbrev cX7_fails : ByteArray := prog_9_method_3_code
def yX7_fails : MethodName := ⟨RX7, "fails", "(ZI)Z"⟩
abbrev cX7_in : ByteArray := prog_9_method_4_code
def yX7_in : MethodName := ⟨RX7, "in", "(III)Z"⟩
abbrev cX7_min : ByteArray := prog_9_method_5_code
def yX7_min : MethodName := ⟨RX7, "min", "(II)I"⟩
abbrev cX7_copy : ByteArray := prog_9_method_6_code
def yX7_copy : MethodName := ⟨RX7, "copy", "([I[I)V"⟩
abbrev cX7_clearRow : ByteArray := prog_9_method_7_code
def yX7_clearRow : MethodName := ⟨RX7, "clearRow", "([J)V"⟩
abbrev cX7_copyRow : ByteArray := prog_9_method_8_code
def yX7_copyRow : MethodName := ⟨RX7, "copyRow", "([J[J)V"⟩
abbrev cX7_isDefined : ByteArray := prog_9_method_9_code
def yX7_isDefined : MethodName := ⟨RX7, "isDefined", "([II)Z"⟩
abbrev cX7_take : ByteArray := prog_9_method_10_code
def yX7_take : MethodName := ⟨RX7, "take", "([II[J)V"⟩
abbrev cX7_give : ByteArray := prog_9_method_11_code
def yX7_give : MethodName := ⟨RX7, "give", "([J[II)V"⟩
abbrev cX7_place : ByteArray := prog_9_method_12_code
def yX7_place : MethodName := ⟨RX7, "place", "(II)I"⟩
abbrev cX7_iOf : ByteArray := prog_9_method_13_code
def yX7_iOf : MethodName := ⟨RX7, "iOf", "(I)I"⟩
abbrev cX7_jOf : ByteArray := prog_9_method_14_code
def yX7_jOf : MethodName := ⟨RX7, "jOf", "(I)I"⟩
abbrev cX7_smaller : ByteArray := prog_9_method_15_code
def yX7_smaller : MethodName := ⟨RX7, "smaller", "(JJ)J"⟩
abbrev cX7_greater : ByteArray := prog_9_method_16_code
def yX7_greater : MethodName := ⟨RX7, "greater", "(JJ)J"⟩
abbrev cX7_down : ByteArray := prog_9_method_17_code
def yX7_down : MethodName := ⟨RX7, "down", "(JJ)J"⟩
abbrev cX7_up : ByteArray := prog_9_method_18_code
def yX7_up : MethodName := ⟨RX7, "up", "(JJ)J"⟩
abbrev cX7_low : ByteArray := prog_9_method_19_code
def yX7_low : MethodName := ⟨RX7, "low", "(JII)J"⟩
abbrev cX7_high : ByteArray := prog_9_method_20_code
def yX7_high : MethodName := ⟨RX7, "high", "(JII)J"⟩
abbrev cX7_spreadLow : ByteArray := prog_9_method_21_code
def yX7_spreadLow : MethodName := ⟨RX7, "spreadLow", "([J)J"⟩
abbrev cX7_spreadHigh : ByteArray := prog_9_method_22_code
def yX7_spreadHigh : MethodName := ⟨RX7, "spreadHigh", "([J)J"⟩
abbrev cX7_isSmall : ByteArray := prog_9_method_23_code
def yX7_isSmall : MethodName := ⟨RX7, "isSmall", "([J)Z"⟩
abbrev cX7_isWithin : ByteArray := prog_9_method_24_code
def yX7_isWithin : MethodName := ⟨RX7, "isWithin", "([J)Z"⟩
abbrev cX7_sumOf : ByteArray := prog_9_method_25_code
def yX7_sumOf : MethodName := ⟨RX7, "sumOf", "([J[JI[J)Z"⟩
abbrev cX7_leastProduct : ByteArray := prog_9_method_26_code
def yX7_leastProduct : MethodName := ⟨RX7, "leastProduct", "(JJJJ)J"⟩
abbrev cX7_greatestProduct : ByteArray := prog_9_method_27_code
def yX7_greatestProduct : MethodName := ⟨RX7, "greatestProduct", "(JJJJ)J"⟩
abbrev cX7_layProducts : ByteArray := prog_9_method_28_code
def yX7_layProducts : MethodName := ⟨RX7, "layProducts", "([J[J)V"⟩
abbrev cX7_productOf : ByteArray := prog_9_method_29_code
def yX7_productOf : MethodName := ⟨RX7, "productOf", "([J[J[J)Z"⟩
abbrev cX7_compositionOf : ByteArray := prog_9_method_30_code
def yX7_compositionOf : MethodName := ⟨RX7, "compositionOf", "([J[J[J[J)I"⟩
abbrev cX7_integralOf : ByteArray := prog_9_method_31_code
def yX7_integralOf : MethodName := ⟨RX7, "integralOf", "([JI[J)Z"⟩
abbrev cX7_append : ByteArray := prog_9_method_32_code
def yX7_append : MethodName := ⟨RX7, "append", "(IIIII)I"⟩
abbrev cX7_byteAt : ByteArray := prog_9_method_33_code
def yX7_byteAt : MethodName := ⟨RX7, "byteAt", "(I)I"⟩
abbrev cX7_next : ByteArray := prog_9_method_34_code
def yX7_next : MethodName := ⟨RX7, "next", "()I"⟩
abbrev cX7_isGood : ByteArray := prog_9_method_35_code
def yX7_isGood : MethodName := ⟨RX7, "isGood", "()Z"⟩
abbrev cX7_report : ByteArray := prog_9_method_36_code
def yX7_report : MethodName := ⟨RX7, "report", "(II)V"⟩
abbrev cX7_isDigit : ByteArray := prog_9_method_37_code
def yX7_isDigit : MethodName := ⟨RX7, "isDigit", "(I)Z"⟩
abbrev cX7_takeWord : ByteArray := prog_9_method_38_code
def yX7_takeWord : MethodName := ⟨RX7, "takeWord", "(Ljava/lang/String;)Z"⟩
abbrev cX7_expect : ByteArray := prog_9_method_39_code
def yX7_expect : MethodName := ⟨RX7, "expect", "(I)V"⟩
abbrev cX7_number : ByteArray := prog_9_method_40_code
def yX7_number : MethodName := ⟨RX7, "number", "(II)I"⟩
abbrev cX7_refuse : ByteArray := prog_9_method_41_code
def yX7_refuse : MethodName := ⟨RX7, "refuse", "(Z)V"⟩
abbrev cX7_open : ByteArray := prog_9_method_42_code
def yX7_open : MethodName := ⟨RX7, "open", "(I)V"⟩
abbrev cX7_close : ByteArray := prog_9_method_43_code
def yX7_close : MethodName := ⟨RX7, "close", "(I)V"⟩
abbrev cX7_takeName : ByteArray := prog_9_method_44_code
def yX7_takeName : MethodName := ⟨RX7, "takeName", "()I"⟩
abbrev cX7_readNamed : ByteArray := prog_9_method_45_code
def yX7_readNamed : MethodName := ⟨RX7, "readNamed", "(III)V"⟩
abbrev cX7_readIntegral : ByteArray := prog_9_method_46_code
def yX7_readIntegral : MethodName := ⟨RX7, "readIntegral", "(II)V"⟩
abbrev cX7_factor : ByteArray := prog_9_method_47_code
def yX7_factor : MethodName := ⟨RX7, "factor", "(I)V"⟩
abbrev cX7_term : ByteArray := prog_9_method_48_code
def yX7_term : MethodName := ⟨RX7, "term", "(I)V"⟩
abbrev cX7_sum : ByteArray := prog_9_method_49_code
def yX7_sum : MethodName := ⟨RX7, "sum", "(I)V"⟩
abbrev cX7_statement : ByteArray := prog_9_method_50_code
def yX7_statement : MethodName := ⟨RX7, "statement", "()V"⟩
abbrev cX7_load : ByteArray := prog_9_method_51_code
def yX7_load : MethodName := ⟨RX7, "load", "(I)I"⟩
abbrev cX7_errorOffset : ByteArray := prog_9_method_52_code
def yX7_errorOffset : MethodName := ⟨RX7, "errorOffset", "()I"⟩
abbrev cX7_noIndex : ByteArray := prog_9_method_53_code
def yX7_noIndex : MethodName := ⟨RX7, "noIndex", "(I)Z"⟩
abbrev cX7_noModel : ByteArray := prog_9_method_54_code
def yX7_noModel : MethodName := ⟨RX7, "noModel", "(I)Z"⟩
abbrev cX7_noPair : ByteArray := prog_9_method_55_code
def yX7_noPair : MethodName := ⟨RX7, "noPair", "(II)Z"⟩
abbrev cX7_isPlace : ByteArray := prog_9_method_56_code
def yX7_isPlace : MethodName := ⟨RX7, "isPlace", "(II)Z"⟩
abbrev cX7_defined : ByteArray := prog_9_method_57_code
def yX7_defined : MethodName := ⟨RX7, "defined", "()I"⟩
abbrev cX7_coefficient : ByteArray := prog_9_method_58_code
def yX7_coefficient : MethodName := ⟨RX7, "coefficient", "(III)I"⟩
abbrev cX7_remainder : ByteArray := prog_9_method_59_code
def yX7_remainder : MethodName := ⟨RX7, "remainder", "(II)I"⟩
abbrev cX7_bound : ByteArray := prog_9_method_60_code
def yX7_bound : MethodName := ⟨RX7, "bound", "(II)I"⟩
abbrev cX7_power : ByteArray := prog_9_method_61_code
def yX7_power : MethodName := ⟨RX7, "power", "(JI)J"⟩
abbrev cX7_value : ByteArray := prog_9_method_62_code
def yX7_value : MethodName := ⟨RX7, "value", "(IIII)I"⟩
abbrev cX7_degree : ByteArray := prog_9_method_63_code
def yX7_degree : MethodName := ⟨RX7, "degree", "(I)I"⟩
abbrev cX7_covers : ByteArray := prog_9_method_64_code
def yX7_covers : MethodName := ⟨RX7, "covers", "(II)Z"⟩
abbrev cX7_noThree : ByteArray := prog_9_method_65_code
def yX7_noThree : MethodName := ⟨RX7, "noThree", "(III)Z"⟩
abbrev cX7_reason : ByteArray := prog_9_method_66_code
def yX7_reason : MethodName := ⟨RX7, "reason", "(III)I"⟩
abbrev cX7_remember : ByteArray := prog_9_method_67_code
def yX7_remember : MethodName := ⟨RX7, "remember", "()V"⟩
abbrev cX7_becomes : ByteArray := prog_9_method_68_code
def yX7_becomes : MethodName := ⟨RX7, "becomes", "(I)I"⟩
abbrev cX7_add : ByteArray := prog_9_method_69_code
def yX7_add : MethodName := ⟨RX7, "add", "(III)I"⟩
abbrev cX7_subtract : ByteArray := prog_9_method_70_code
def yX7_subtract : MethodName := ⟨RX7, "subtract", "(III)I"⟩
abbrev cX7_multiply : ByteArray := prog_9_method_71_code
def yX7_multiply : MethodName := ⟨RX7, "multiply", "(III)I"⟩
abbrev cX7_compose : ByteArray := prog_9_method_72_code
def yX7_compose : MethodName := ⟨RX7, "compose", "(IIII)I"⟩
abbrev cX7_integrate : ByteArray := prog_9_method_73_code
def yX7_integrate : MethodName := ⟨RX7, "integrate", "(III)I"⟩
abbrev cX7_stepOf : ByteArray := prog_9_method_74_code
def yX7_stepOf : MethodName := ⟨RX7, "stepOf", "(III[J)Z"⟩
abbrev cX7_step : ByteArray := prog_9_method_75_code
def yX7_step : MethodName := ⟨RX7, "step", "(II)I"⟩
abbrev cX7_sweep : ByteArray := prog_9_method_76_code
def yX7_sweep : MethodName := ⟨RX7, "sweep", "(II)I"⟩
abbrev cX7_wrap : ByteArray := prog_9_method_77_code
def yX7_wrap : MethodName := ⟨RX7, "wrap", "(II)I"⟩
abbrev cX7_isValue : ByteArray := prog_9_method_78_code
def yX7_isValue : MethodName := ⟨RX7, "isValue", "(I)Z"⟩
abbrev cX7_setCoefficient : ByteArray := prog_9_method_79_code
def yX7_setCoefficient : MethodName := ⟨RX7, "setCoefficient", "(IIII)I"⟩
abbrev cX7_setRemainder : ByteArray := prog_9_method_80_code
def yX7_setRemainder : MethodName := ⟨RX7, "setRemainder", "(III)I"⟩
abbrev cX7_clear : ByteArray := prog_9_method_81_code
def yX7_clear : MethodName := ⟨RX7, "clear", "(I)Z"⟩
abbrev cX7_undo : ByteArray := prog_9_method_82_code
def yX7_undo : MethodName := ⟨RX7, "undo", "()I"⟩
abbrev cX7_checksum : ByteArray := prog_9_method_83_code
def yX7_checksum : MethodName := ⟨RX7, "checksum", "()J"⟩
def RJx145de : String := "java/io/Serializable"
def TJx145de : u_T := fun k => match k with
  | _ => ("", "", "", false)
def tyJx145de : Nat → FieldType := fun k => match k with
  | _ => .int
theorem nmJx145de : ∀ a, a < 0 → ∀ b, b < 0 → a ≠ b → (TJx145de a).2.1 ≠ (TJx145de b).2.1 := by decide +kernel
theorem tyJx145de_ok : ∀ k, k < 0 → parseFieldDescriptor (TJx145de k).2.2.1 = some (tyJx145de k) := by decide +kernel
def RJx9f9b0 : String := "java/lang/CharSequence"
def TJx9f9b0 : u_T := fun k => match k with
  | _ => ("", "", "", false)
def tyJx9f9b0 : Nat → FieldType := fun k => match k with
  | _ => .int
theorem nmJx9f9b0 : ∀ a, a < 0 → ∀ b, b < 0 → a ≠ b → (TJx9f9b0 a).2.1 ≠ (TJx9f9b0 b).2.1 := by decide +kernel
theorem tyJx9f9b0_ok : ∀ k, k < 0 → parseFieldDescriptor (TJx9f9b0 k).2.2.1 = some (tyJx9f9b0 k) := by decide +kernel
def RJxb160c : String := "java/lang/Comparable"
def TJxb160c : u_T := fun k => match k with
  | _ => ("", "", "", false)
def tyJxb160c : Nat → FieldType := fun k => match k with
  | _ => .int
theorem nmJxb160c : ∀ a, a < 0 → ∀ b, b < 0 → a ≠ b → (TJxb160c a).2.1 ≠ (TJxb160c b).2.1 := by decide +kernel
theorem tyJxb160c_ok : ∀ k, k < 0 → parseFieldDescriptor (TJxb160c k).2.2.1 = some (tyJxb160c k) := by decide +kernel
def RJ6 : String := "java/lang/Integer"
def TJ6 : u_T := fun k => match k with
  | _ => ("", "", "", false)
def tyJ6 : Nat → FieldType := fun k => match k with
  | _ => .int
theorem nmJ6 : ∀ a, a < 0 → ∀ b, b < 0 → a ≠ b → (TJ6 a).2.1 ≠ (TJ6 b).2.1 := by decide +kernel
theorem tyJ6_ok : ∀ k, k < 0 → parseFieldDescriptor (TJ6 k).2.2.1 = some (tyJ6 k) := by decide +kernel
abbrev cJ6_bitCount_0f7a4 : ByteArray := prog_17_method_49_code
def yJ6_bitCount_0f7a4 : MethodName := ⟨RJ6, "bitCount", "(I)I"⟩
def RJ9 : String := "java/lang/Math"
def TJ9 : u_T := fun k => match k with
  | _ => ("", "", "", false)
def tyJ9 : Nat → FieldType := fun k => match k with
  | _ => .int
theorem nmJ9 : ∀ a, a < 0 → ∀ b, b < 0 → a ≠ b → (TJ9 a).2.1 ≠ (TJ9 b).2.1 := by decide +kernel
theorem tyJ9_ok : ∀ k, k < 0 → parseFieldDescriptor (TJ9 k).2.2.1 = some (tyJ9 k) := by decide +kernel
abbrev cJ9_floorDiv_f86c9 : ByteArray := prog_18_method_49_code
def yJ9_floorDiv_f86c9 : MethodName := ⟨RJ9, "floorDiv", "(JJ)J"⟩
abbrev cJ9_abs_067f4 : ByteArray := prog_18_method_61_code
def yJ9_abs_067f4 : MethodName := ⟨RJ9, "abs", "(J)J"⟩
abbrev cJ9_max_7cf53 : ByteArray := prog_18_method_65_code
def yJ9_max_7cf53 : MethodName := ⟨RJ9, "max", "(II)I"⟩
abbrev cJ9_max_f86c9 : ByteArray := prog_18_method_66_code
def yJ9_max_f86c9 : MethodName := ⟨RJ9, "max", "(JJ)J"⟩
abbrev cJ9_min_7cf53 : ByteArray := prog_18_method_69_code
def yJ9_min_7cf53 : MethodName := ⟨RJ9, "min", "(II)I"⟩
abbrev cJ9_min_f86c9 : ByteArray := prog_18_method_70_code
def yJ9_min_f86c9 : MethodName := ⟨RJ9, "min", "(JJ)J"⟩
def RJ0 : String := "java/lang/String"
def TJ0 : u_T := fun k => match k with
  | _ => ("", "", "", false)
def tyJ0 : Nat → FieldType := fun k => match k with
  | _ => .int
theorem nmJ0 : ∀ a, a < 0 → ∀ b, b < 0 → a ≠ b → (TJ0 a).2.1 ≠ (TJ0 b).2.1 := by decide +kernel
theorem tyJ0_ok : ∀ k, k < 0 → parseFieldDescriptor (TJ0 k).2.2.1 = some (tyJ0 k) := by decide +kernel
abbrev cJ0_length_8abf5 : ByteArray := prog_20_method_54_code
def yJ0_length_8abf5 : MethodName := ⟨RJ0, "length", "()I"⟩
abbrev cJ0_charAt_5068e : ByteArray := prog_20_method_56_code
def yJ0_charAt_5068e : MethodName := ⟨RJ0, "charAt", "(I)C"⟩
abbrev cJ0_coder_7d493 : ByteArray := prog_20_method_152_code
def yJ0_coder_7d493 : MethodName := ⟨RJ0, "coder", "()B"⟩
abbrev cJ0_isLatin1_aae02 : ByteArray := prog_20_method_154_code
def yJ0_isLatin1_aae02 : MethodName := ⟨RJ0, "isLatin1", "()Z"⟩
abbrev cJ0_checkIndex_df160 : ByteArray := prog_20_method_155_code
def yJ0_checkIndex_df160 : MethodName := ⟨RJ0, "checkIndex", "(II)V"⟩
def RJ1 : String := "java/lang/StringLatin1"
def TJ1 : u_T := fun k => match k with
  | _ => ("", "", "", false)
def tyJ1 : Nat → FieldType := fun k => match k with
  | _ => .int
theorem nmJ1 : ∀ a, a < 0 → ∀ b, b < 0 → a ≠ b → (TJ1 a).2.1 ≠ (TJ1 b).2.1 := by decide +kernel
theorem tyJ1_ok : ∀ k, k < 0 → parseFieldDescriptor (TJ1 k).2.2.1 = some (tyJ1 k) := by decide +kernel
abbrev cJ1_charAt_3b067 : ByteArray := prog_21_method_2_code
def yJ1_charAt_3b067 : MethodName := ⟨RJ1, "charAt", "([BI)C"⟩
def RJ2 : String := "java/lang/StringUTF16"
def TJ2 : u_T := fun k => match k with
  | _ => ("", "", "", false)
def tyJ2 : Nat → FieldType := fun k => match k with
  | _ => .int
theorem nmJ2 : ∀ a, a < 0 → ∀ b, b < 0 → a ≠ b → (TJ2 a).2.1 ≠ (TJ2 b).2.1 := by decide +kernel
theorem tyJ2_ok : ∀ k, k < 0 → parseFieldDescriptor (TJ2 k).2.2.1 = some (tyJ2 k) := by decide +kernel
abbrev cJ2_getChar_3b067 : ByteArray := prog_22_method_5_code
def yJ2_getChar_3b067 : MethodName := ⟨RJ2, "getChar", "([BI)C"⟩
abbrev cJ2_length_9d52b : ByteArray := prog_22_method_6_code
def yJ2_length_9d52b : MethodName := ⟨RJ2, "length", "([B)I"⟩
abbrev cJ2_charAt_3b067 : ByteArray := prog_22_method_83_code
def yJ2_charAt_3b067 : MethodName := ⟨RJ2, "charAt", "([BI)C"⟩
abbrev cJ2_checkIndex_2214a : ByteArray := prog_22_method_91_code
def yJ2_checkIndex_2214a : MethodName := ⟨RJ2, "checkIndex", "(I[B)V"⟩
def RJ10 : String := "java/lang/System"
def TJ10 : u_T := fun k => match k with
  | _ => ("", "", "", false)
def tyJ10 : Nat → FieldType := fun k => match k with
  | _ => .int
theorem nmJ10 : ∀ a, a < 0 → ∀ b, b < 0 → a ≠ b → (TJ10 a).2.1 ≠ (TJ10 b).2.1 := by decide +kernel
theorem tyJ10_ok : ∀ k, k < 0 → parseFieldDescriptor (TJ10 k).2.2.1 = some (tyJ10 k) := by decide +kernel
def RJxfd54e : String := "java/lang/constant/Constable"
def TJxfd54e : u_T := fun k => match k with
  | _ => ("", "", "", false)
def tyJxfd54e : Nat → FieldType := fun k => match k with
  | _ => .int
theorem nmJxfd54e : ∀ a, a < 0 → ∀ b, b < 0 → a ≠ b → (TJxfd54e a).2.1 ≠ (TJxfd54e b).2.1 := by decide +kernel
theorem tyJxfd54e_ok : ∀ k, k < 0 → parseFieldDescriptor (TJxfd54e k).2.2.1 = some (tyJxfd54e k) := by decide +kernel
def RJx3cf43 : String := "java/lang/constant/ConstantDesc"
def TJx3cf43 : u_T := fun k => match k with
  | _ => ("", "", "", false)
def tyJx3cf43 : Nat → FieldType := fun k => match k with
  | _ => .int
theorem nmJx3cf43 : ∀ a, a < 0 → ∀ b, b < 0 → a ≠ b → (TJx3cf43 a).2.1 ≠ (TJx3cf43 b).2.1 := by decide +kernel
theorem tyJx3cf43_ok : ∀ k, k < 0 → parseFieldDescriptor (TJx3cf43 k).2.2.1 = some (tyJx3cf43 k) := by decide +kernel
def RJ7 : String := "java/util/Arrays"
def TJ7 : u_T := fun k => match k with
  | _ => ("", "", "", false)
def tyJ7 : Nat → FieldType := fun k => match k with
  | _ => .int
theorem nmJ7 : ∀ a, a < 0 → ∀ b, b < 0 → a ≠ b → (TJ7 a).2.1 ≠ (TJ7 b).2.1 := by decide +kernel
theorem tyJ7_ok : ∀ k, k < 0 → parseFieldDescriptor (TJ7 k).2.2.1 = some (tyJ7 k) := by decide +kernel
abbrev cJ7_fill_d0a16 : ByteArray := prog_27_method_101_code
def yJ7_fill_d0a16 : MethodName := ⟨RJ7, "fill", "([JJ)V"⟩
def RJ3 : String := "jdk/internal/util/Preconditions"
def TJ3 : u_T := fun k => match k with
  | _ => ("", "", "", false)
def tyJ3 : Nat → FieldType := fun k => match k with
  | _ => .int
theorem nmJ3 : ∀ a, a < 0 → ∀ b, b < 0 → a ≠ b → (TJ3 a).2.1 ≠ (TJ3 b).2.1 := by decide +kernel
theorem tyJ3_ok : ∀ k, k < 0 → parseFieldDescriptor (TJ3 k).2.2.1 = some (tyJ3 k) := by decide +kernel
abbrev cJ3_checkIndex_8e157 : ByteArray := prog_29_method_11_code
def yJ3_checkIndex_8e157 : MethodName := ⟨RJ3, "checkIndex", "(IILjava/util/function/BiFunction;)I"⟩
def RL : String := "TaylorModelsLaw"
abbrev cL_load : ByteArray := method_3_code
def yL_load : MethodName := ⟨RL, "load", "(LTaylorModels;I[J)I"⟩
abbrev cL_coefficient : ByteArray := method_4_code
def yL_coefficient : MethodName := ⟨RL, "coefficient", "(LTaylorModels;III[J)I"⟩
abbrev cL_remainder : ByteArray := method_5_code
def yL_remainder : MethodName := ⟨RL, "remainder", "(LTaylorModels;II[J)I"⟩
abbrev cL_bound : ByteArray := method_6_code
def yL_bound : MethodName := ⟨RL, "bound", "(LTaylorModels;II[J)I"⟩
abbrev cL_value : ByteArray := method_7_code
def yL_value : MethodName := ⟨RL, "value", "(LTaylorModels;IIII[J)I"⟩
abbrev cL_degree : ByteArray := method_8_code
def yL_degree : MethodName := ⟨RL, "degree", "(LTaylorModels;I[J)I"⟩
abbrev cL_covers : ByteArray := method_9_code
def yL_covers : MethodName := ⟨RL, "covers", "(LTaylorModels;II[J)I"⟩
abbrev cL_reason : ByteArray := method_10_code
def yL_reason : MethodName := ⟨RL, "reason", "(LTaylorModels;III[J)I"⟩
abbrev cL_add : ByteArray := method_11_code
def yL_add : MethodName := ⟨RL, "add", "(LTaylorModels;III[J)I"⟩
abbrev cL_subtract : ByteArray := method_12_code
def yL_subtract : MethodName := ⟨RL, "subtract", "(LTaylorModels;III[J)I"⟩
abbrev cL_multiply : ByteArray := method_13_code
def yL_multiply : MethodName := ⟨RL, "multiply", "(LTaylorModels;III[J)I"⟩
abbrev cL_compose : ByteArray := method_14_code
def yL_compose : MethodName := ⟨RL, "compose", "(LTaylorModels;IIII[J)I"⟩
abbrev cL_integrate : ByteArray := method_15_code
def yL_integrate : MethodName := ⟨RL, "integrate", "(LTaylorModels;III[J)I"⟩
abbrev cL_step : ByteArray := method_16_code
def yL_step : MethodName := ⟨RL, "step", "(LTaylorModels;II[J)I"⟩
abbrev cL_sweep : ByteArray := method_17_code
def yL_sweep : MethodName := ⟨RL, "sweep", "(LTaylorModels;II[J)I"⟩
abbrev cL_wrap : ByteArray := method_18_code
def yL_wrap : MethodName := ⟨RL, "wrap", "(LTaylorModels;II[J)I"⟩
abbrev cL_setCoefficient : ByteArray := method_19_code
def yL_setCoefficient : MethodName := ⟨RL, "setCoefficient", "(LTaylorModels;IIII[J)I"⟩
abbrev cL_setRemainder : ByteArray := method_20_code
def yL_setRemainder : MethodName := ⟨RL, "setRemainder", "(LTaylorModels;III[J)I"⟩
abbrev cL_clear : ByteArray := method_21_code
def yL_clear : MethodName := ⟨RL, "clear", "(LTaylorModels;I[J)I"⟩
abbrev cL_law : ByteArray := code
def yL_law : MethodName := ⟨RL, "law", "([I)Z"⟩
abbrev vwCl : List vw_C := [(RX0, TX0, 8), (RX1, TX1, 3), (RX2, TX2, 3), (RX3, TX3, 2), (RX4, TX4, 8), (RX5, TX5, 9), (RX6, TX6, 6), (RX7, TX7, 30)]
end
section
theorem dX0_init_0 : decode cX0_init 0 = .ok (.aload_n 0, 1) := by decide +kernel
theorem dX0_init_1 : decode cX0_init 1 = .ok (.invokespecial 3, 3) := by decide +kernel
theorem dX0_init_4 : decode cX0_init 4 = .ok (.aload_n 0, 1) := by decide +kernel
theorem dX0_init_5 : decode cX0_init 5 = .ok (.bipush 49, 2) := by decide +kernel
theorem dX0_init_7 : decode cX0_init 7 = .ok (.newarray .long, 2) := by decide +kernel
theorem dX0_init_9 : decode cX0_init 9 = .ok (.putfield 11, 3) := by decide +kernel
theorem dX0_init_12 : decode cX0_init 12 = .ok (.aload_n 0, 1) := by decide +kernel
theorem dX0_init_13 : decode cX0_init 13 = .ok (.new 15, 3) := by decide +kernel
theorem dX0_init_16 : decode cX0_init 16 = .ok (.dup, 1) := by decide +kernel
theorem dX0_init_17 : decode cX0_init 17 = .ok (.invokespecial 17, 3) := by decide +kernel
theorem dX0_init_20 : decode cX0_init 20 = .ok (.putfield 18, 3) := by decide +kernel
theorem dX0_init_23 : decode cX0_init 23 = .ok (.aload_n 0, 1) := by decide +kernel
theorem dX0_init_24 : decode cX0_init 24 = .ok (.new 15, 3) := by decide +kernel
theorem dX0_init_27 : decode cX0_init 27 = .ok (.dup, 1) := by decide +kernel
theorem dX0_init_28 : decode cX0_init 28 = .ok (.invokespecial 17, 3) := by decide +kernel
theorem dX0_init_31 : decode cX0_init 31 = .ok (.putfield 22, 3) := by decide +kernel
theorem dX0_init_34 : decode cX0_init 34 = .ok (.aload_n 0, 1) := by decide +kernel
theorem dX0_init_35 : decode cX0_init 35 = .ok (.new 15, 3) := by decide +kernel
theorem dX0_init_38 : decode cX0_init 38 = .ok (.dup, 1) := by decide +kernel
theorem dX0_init_39 : decode cX0_init 39 = .ok (.invokespecial 17, 3) := by decide +kernel
theorem dX0_init_42 : decode cX0_init 42 = .ok (.putfield 25, 3) := by decide +kernel
theorem dX0_init_45 : decode cX0_init 45 = .ok (.aload_n 0, 1) := by decide +kernel
theorem dX0_init_46 : decode cX0_init 46 = .ok (.new 15, 3) := by decide +kernel
theorem dX0_init_49 : decode cX0_init 49 = .ok (.dup, 1) := by decide +kernel
theorem dX0_init_50 : decode cX0_init 50 = .ok (.invokespecial 17, 3) := by decide +kernel
theorem dX0_init_53 : decode cX0_init 53 = .ok (.putfield 28, 3) := by decide +kernel
theorem dX0_init_56 : decode cX0_init 56 = .ok (.aload_n 0, 1) := by decide +kernel
theorem dX0_init_57 : decode cX0_init 57 = .ok (.new 15, 3) := by decide +kernel
theorem dX0_init_60 : decode cX0_init 60 = .ok (.dup, 1) := by decide +kernel
theorem dX0_init_61 : decode cX0_init 61 = .ok (.invokespecial 17, 3) := by decide +kernel
theorem dX0_init_64 : decode cX0_init 64 = .ok (.putfield 31, 3) := by decide +kernel
theorem dX0_init_67 : decode cX0_init 67 = .ok (.return_, 1) := by decide +kernel
theorem dX0_addModels_0 : decode cX0_addModels 0 = .ok (.iconst 0, 1) := by decide +kernel
theorem dX0_addModels_1 : decode cX0_addModels 1 = .ok (.istore 4, 2) := by decide +kernel
theorem dX0_addModels_3 : decode cX0_addModels 3 = .ok (.iload 4, 2) := by decide +kernel
theorem dX0_addModels_5 : decode cX0_addModels 5 = .ok (.bipush 10, 2) := by decide +kernel
theorem dX0_addModels_7 : decode cX0_addModels 7 = .ok (.if_icmp .ge 31, 3) := by decide +kernel
theorem dX0_addModels_10 : decode cX0_addModels 10 = .ok (.aload_n 1, 1) := by decide +kernel
theorem dX0_addModels_11 : decode cX0_addModels 11 = .ok (.getfield 34, 3) := by decide +kernel
theorem dX0_addModels_14 : decode cX0_addModels 14 = .ok (.iload 4, 2) := by decide +kernel
theorem dX0_addModels_16 : decode cX0_addModels 16 = .ok (.aload_n 2, 1) := by decide +kernel
theorem dX0_addModels_17 : decode cX0_addModels 17 = .ok (.getfield 34, 3) := by decide +kernel
theorem dX0_addModels_20 : decode cX0_addModels 20 = .ok (.iload 4, 2) := by decide +kernel
theorem dX0_addModels_22 : decode cX0_addModels 22 = .ok (.laload, 1) := by decide +kernel
theorem dX0_addModels_23 : decode cX0_addModels 23 = .ok (.aload_n 3, 1) := by decide +kernel
theorem dX0_addModels_24 : decode cX0_addModels 24 = .ok (.getfield 34, 3) := by decide +kernel
theorem dX0_addModels_27 : decode cX0_addModels 27 = .ok (.iload 4, 2) := by decide +kernel
theorem dX0_addModels_29 : decode cX0_addModels 29 = .ok (.laload, 1) := by decide +kernel
theorem dX0_addModels_30 : decode cX0_addModels 30 = .ok (.ladd, 1) := by decide +kernel
theorem dX0_addModels_31 : decode cX0_addModels 31 = .ok (.lastore, 1) := by decide +kernel
theorem dX0_addModels_32 : decode cX0_addModels 32 = .ok (.iinc 4 1, 3) := by decide +kernel
theorem dX0_addModels_35 : decode cX0_addModels 35 = .ok (.goto (-32), 3) := by decide +kernel
theorem dX0_addModels_38 : decode cX0_addModels 38 = .ok (.aload_n 1, 1) := by decide +kernel
theorem dX0_addModels_39 : decode cX0_addModels 39 = .ok (.aload_n 2, 1) := by decide +kernel
theorem dX0_addModels_40 : decode cX0_addModels 40 = .ok (.getfield 37, 3) := by decide +kernel
theorem dX0_addModels_43 : decode cX0_addModels 43 = .ok (.aload_n 3, 1) := by decide +kernel
theorem dX0_addModels_44 : decode cX0_addModels 44 = .ok (.getfield 37, 3) := by decide +kernel
theorem dX0_addModels_47 : decode cX0_addModels 47 = .ok (.ladd, 1) := by decide +kernel
theorem dX0_addModels_48 : decode cX0_addModels 48 = .ok (.putfield 37, 3) := by decide +kernel
theorem dX0_addModels_51 : decode cX0_addModels 51 = .ok (.aload_n 1, 1) := by decide +kernel
theorem dX0_addModels_52 : decode cX0_addModels 52 = .ok (.aload_n 2, 1) := by decide +kernel
theorem dX0_addModels_53 : decode cX0_addModels 53 = .ok (.getfield 41, 3) := by decide +kernel
theorem dX0_addModels_56 : decode cX0_addModels 56 = .ok (.aload_n 3, 1) := by decide +kernel
theorem dX0_addModels_57 : decode cX0_addModels 57 = .ok (.getfield 41, 3) := by decide +kernel
theorem dX0_addModels_60 : decode cX0_addModels 60 = .ok (.ladd, 1) := by decide +kernel
theorem dX0_addModels_61 : decode cX0_addModels 61 = .ok (.putfield 41, 3) := by decide +kernel
theorem dX0_addModels_64 : decode cX0_addModels 64 = .ok (.aload_n 1, 1) := by decide +kernel
theorem dX0_addModels_65 : decode cX0_addModels 65 = .ok (.invokevirtual 44, 3) := by decide +kernel
theorem dX0_addModels_68 : decode cX0_addModels 68 = .ok (.ireturn, 1) := by decide +kernel
theorem dX0_subtractModels_0 : decode cX0_subtractModels 0 = .ok (.iconst 0, 1) := by decide +kernel
theorem dX0_subtractModels_1 : decode cX0_subtractModels 1 = .ok (.istore 4, 2) := by decide +kernel
theorem dX0_subtractModels_3 : decode cX0_subtractModels 3 = .ok (.iload 4, 2) := by decide +kernel
theorem dX0_subtractModels_5 : decode cX0_subtractModels 5 = .ok (.bipush 10, 2) := by decide +kernel
theorem dX0_subtractModels_7 : decode cX0_subtractModels 7 = .ok (.if_icmp .ge 31, 3) := by decide +kernel
theorem dX0_subtractModels_10 : decode cX0_subtractModels 10 = .ok (.aload_n 1, 1) := by decide +kernel
theorem dX0_subtractModels_11 : decode cX0_subtractModels 11 = .ok (.getfield 34, 3) := by decide +kernel
theorem dX0_subtractModels_14 : decode cX0_subtractModels 14 = .ok (.iload 4, 2) := by decide +kernel
theorem dX0_subtractModels_16 : decode cX0_subtractModels 16 = .ok (.aload_n 2, 1) := by decide +kernel
theorem dX0_subtractModels_17 : decode cX0_subtractModels 17 = .ok (.getfield 34, 3) := by decide +kernel
theorem dX0_subtractModels_20 : decode cX0_subtractModels 20 = .ok (.iload 4, 2) := by decide +kernel
theorem dX0_subtractModels_22 : decode cX0_subtractModels 22 = .ok (.laload, 1) := by decide +kernel
theorem dX0_subtractModels_23 : decode cX0_subtractModels 23 = .ok (.aload_n 3, 1) := by decide +kernel
theorem dX0_subtractModels_24 : decode cX0_subtractModels 24 = .ok (.getfield 34, 3) := by decide +kernel
theorem dX0_subtractModels_27 : decode cX0_subtractModels 27 = .ok (.iload 4, 2) := by decide +kernel
theorem dX0_subtractModels_29 : decode cX0_subtractModels 29 = .ok (.laload, 1) := by decide +kernel
theorem dX0_subtractModels_30 : decode cX0_subtractModels 30 = .ok (.lsub, 1) := by decide +kernel
theorem dX0_subtractModels_31 : decode cX0_subtractModels 31 = .ok (.lastore, 1) := by decide +kernel
theorem dX0_subtractModels_32 : decode cX0_subtractModels 32 = .ok (.iinc 4 1, 3) := by decide +kernel
theorem dX0_subtractModels_35 : decode cX0_subtractModels 35 = .ok (.goto (-32), 3) := by decide +kernel
theorem dX0_subtractModels_38 : decode cX0_subtractModels 38 = .ok (.aload_n 2, 1) := by decide +kernel
theorem dX0_subtractModels_39 : decode cX0_subtractModels 39 = .ok (.getfield 37, 3) := by decide +kernel
theorem dX0_subtractModels_42 : decode cX0_subtractModels 42 = .ok (.aload_n 3, 1) := by decide +kernel
theorem dX0_subtractModels_43 : decode cX0_subtractModels 43 = .ok (.getfield 41, 3) := by decide +kernel
theorem dX0_subtractModels_46 : decode cX0_subtractModels 46 = .ok (.lsub, 1) := by decide +kernel
theorem dX0_subtractModels_47 : decode cX0_subtractModels 47 = .ok (.lstore 4, 2) := by decide +kernel
theorem dX0_subtractModels_49 : decode cX0_subtractModels 49 = .ok (.aload_n 2, 1) := by decide +kernel
theorem dX0_subtractModels_50 : decode cX0_subtractModels 50 = .ok (.getfield 41, 3) := by decide +kernel
theorem dX0_subtractModels_53 : decode cX0_subtractModels 53 = .ok (.aload_n 3, 1) := by decide +kernel
theorem dX0_subtractModels_54 : decode cX0_subtractModels 54 = .ok (.getfield 37, 3) := by decide +kernel
theorem dX0_subtractModels_57 : decode cX0_subtractModels 57 = .ok (.lsub, 1) := by decide +kernel
theorem dX0_subtractModels_58 : decode cX0_subtractModels 58 = .ok (.lstore 6, 2) := by decide +kernel
theorem dX0_subtractModels_60 : decode cX0_subtractModels 60 = .ok (.aload_n 1, 1) := by decide +kernel
theorem dX0_subtractModels_61 : decode cX0_subtractModels 61 = .ok (.lload 4, 2) := by decide +kernel
theorem dX0_subtractModels_63 : decode cX0_subtractModels 63 = .ok (.putfield 37, 3) := by decide +kernel
theorem dX0_subtractModels_66 : decode cX0_subtractModels 66 = .ok (.aload_n 1, 1) := by decide +kernel
theorem dX0_subtractModels_67 : decode cX0_subtractModels 67 = .ok (.lload 6, 2) := by decide +kernel
theorem dX0_subtractModels_69 : decode cX0_subtractModels 69 = .ok (.putfield 41, 3) := by decide +kernel
theorem dX0_subtractModels_72 : decode cX0_subtractModels 72 = .ok (.aload_n 1, 1) := by decide +kernel
theorem dX0_subtractModels_73 : decode cX0_subtractModels 73 = .ok (.invokevirtual 44, 3) := by decide +kernel
theorem dX0_subtractModels_76 : decode cX0_subtractModels 76 = .ok (.ireturn, 1) := by decide +kernel
theorem dX0_multiplyModels_0 : decode cX0_multiplyModels 0 = .ok (.aload_n 0, 1) := by decide +kernel
theorem dX0_multiplyModels_1 : decode cX0_multiplyModels 1 = .ok (.aload_n 2, 1) := by decide +kernel
theorem dX0_multiplyModels_2 : decode cX0_multiplyModels 2 = .ok (.aload_n 3, 1) := by decide +kernel
theorem dX0_multiplyModels_3 : decode cX0_multiplyModels 3 = .ok (.invokevirtual 48, 3) := by decide +kernel
theorem dX0_multiplyModels_6 : decode cX0_multiplyModels 6 = .ok (.aload_n 0, 1) := by decide +kernel
theorem dX0_multiplyModels_7 : decode cX0_multiplyModels 7 = .ok (.lconst 0, 1) := by decide +kernel
theorem dX0_multiplyModels_8 : decode cX0_multiplyModels 8 = .ok (.putfield 52, 3) := by decide +kernel
theorem dX0_multiplyModels_11 : decode cX0_multiplyModels 11 = .ok (.aload_n 0, 1) := by decide +kernel
theorem dX0_multiplyModels_12 : decode cX0_multiplyModels 12 = .ok (.lconst 0, 1) := by decide +kernel
theorem dX0_multiplyModels_13 : decode cX0_multiplyModels 13 = .ok (.putfield 53, 3) := by decide +kernel
theorem dX0_multiplyModels_16 : decode cX0_multiplyModels 16 = .ok (.iconst 0, 1) := by decide +kernel
theorem dX0_multiplyModels_17 : decode cX0_multiplyModels 17 = .ok (.istore 4, 2) := by decide +kernel
theorem dX0_multiplyModels_19 : decode cX0_multiplyModels 19 = .ok (.iload 4, 2) := by decide +kernel
theorem dX0_multiplyModels_21 : decode cX0_multiplyModels 21 = .ok (.bipush 7, 2) := by decide +kernel
theorem dX0_multiplyModels_23 : decode cX0_multiplyModels 23 = .ok (.if_icmp .ge 91, 3) := by decide +kernel
theorem dX0_multiplyModels_26 : decode cX0_multiplyModels 26 = .ok (.iconst 0, 1) := by decide +kernel
theorem dX0_multiplyModels_27 : decode cX0_multiplyModels 27 = .ok (.iconst 4, 1) := by decide +kernel
theorem dX0_multiplyModels_28 : decode cX0_multiplyModels 28 = .ok (.iload 4, 2) := by decide +kernel
theorem dX0_multiplyModels_30 : decode cX0_multiplyModels 30 = .ok (.isub, 1) := by decide +kernel
theorem dX0_multiplyModels_31 : decode cX0_multiplyModels 31 = .ok (.invokestatic 54, 3) := by decide +kernel
theorem dX0_multiplyModels_34 : decode cX0_multiplyModels 34 = .ok (.istore 5, 2) := by decide +kernel
theorem dX0_multiplyModels_36 : decode cX0_multiplyModels 36 = .ok (.iload 4, 2) := by decide +kernel
theorem dX0_multiplyModels_38 : decode cX0_multiplyModels 38 = .ok (.iload 5, 2) := by decide +kernel
theorem dX0_multiplyModels_40 : decode cX0_multiplyModels 40 = .ok (.iadd, 1) := by decide +kernel
theorem dX0_multiplyModels_41 : decode cX0_multiplyModels 41 = .ok (.bipush 7, 2) := by decide +kernel
theorem dX0_multiplyModels_43 : decode cX0_multiplyModels 43 = .ok (.if_icmp .ge 65, 3) := by decide +kernel
theorem dX0_multiplyModels_46 : decode cX0_multiplyModels 46 = .ok (.aload_n 0, 1) := by decide +kernel
theorem dX0_multiplyModels_47 : decode cX0_multiplyModels 47 = .ok (.getfield 11, 3) := by decide +kernel
theorem dX0_multiplyModels_50 : decode cX0_multiplyModels 50 = .ok (.iload 4, 2) := by decide +kernel
theorem dX0_multiplyModels_52 : decode cX0_multiplyModels 52 = .ok (.bipush 7, 2) := by decide +kernel
theorem dX0_multiplyModels_54 : decode cX0_multiplyModels 54 = .ok (.imul, 1) := by decide +kernel
theorem dX0_multiplyModels_55 : decode cX0_multiplyModels 55 = .ok (.iload 5, 2) := by decide +kernel
theorem dX0_multiplyModels_57 : decode cX0_multiplyModels 57 = .ok (.iadd, 1) := by decide +kernel
theorem dX0_multiplyModels_58 : decode cX0_multiplyModels 58 = .ok (.laload, 1) := by decide +kernel
theorem dX0_multiplyModels_59 : decode cX0_multiplyModels 59 = .ok (.lstore 6, 2) := by decide +kernel
theorem dX0_multiplyModels_61 : decode cX0_multiplyModels 61 = .ok (.iload 4, 2) := by decide +kernel
theorem dX0_multiplyModels_63 : decode cX0_multiplyModels 63 = .ok (.iload 5, 2) := by decide +kernel
theorem dX0_multiplyModels_65 : decode cX0_multiplyModels 65 = .ok (.invokestatic 60, 3) := by decide +kernel
theorem dX0_multiplyModels_68 : decode cX0_multiplyModels 68 = .ok (.istore 8, 2) := by decide +kernel
theorem dX0_multiplyModels_70 : decode cX0_multiplyModels 70 = .ok (.aload_n 0, 1) := by decide +kernel
theorem dX0_multiplyModels_71 : decode cX0_multiplyModels 71 = .ok (.dup, 1) := by decide +kernel
theorem dX0_multiplyModels_72 : decode cX0_multiplyModels 72 = .ok (.getfield 52, 3) := by decide +kernel
theorem dX0_multiplyModels_75 : decode cX0_multiplyModels 75 = .ok (.lload 6, 2) := by decide +kernel
theorem dX0_multiplyModels_77 : decode cX0_multiplyModels 77 = .ok (.iload 8, 2) := by decide +kernel
theorem dX0_multiplyModels_79 : decode cX0_multiplyModels 79 = .ok (.invokestatic 63, 3) := by decide +kernel
theorem dX0_multiplyModels_82 : decode cX0_multiplyModels 82 = .ok (.ladd, 1) := by decide +kernel
theorem dX0_multiplyModels_83 : decode cX0_multiplyModels 83 = .ok (.putfield 52, 3) := by decide +kernel
theorem dX0_multiplyModels_86 : decode cX0_multiplyModels 86 = .ok (.aload_n 0, 1) := by decide +kernel
theorem dX0_multiplyModels_87 : decode cX0_multiplyModels 87 = .ok (.dup, 1) := by decide +kernel
theorem dX0_multiplyModels_88 : decode cX0_multiplyModels 88 = .ok (.getfield 53, 3) := by decide +kernel
theorem dX0_multiplyModels_91 : decode cX0_multiplyModels 91 = .ok (.lload 6, 2) := by decide +kernel
theorem dX0_multiplyModels_93 : decode cX0_multiplyModels 93 = .ok (.iload 8, 2) := by decide +kernel
theorem dX0_multiplyModels_95 : decode cX0_multiplyModels 95 = .ok (.invokestatic 67, 3) := by decide +kernel
theorem dX0_multiplyModels_98 : decode cX0_multiplyModels 98 = .ok (.ladd, 1) := by decide +kernel
theorem dX0_multiplyModels_99 : decode cX0_multiplyModels 99 = .ok (.putfield 53, 3) := by decide +kernel
theorem dX0_multiplyModels_102 : decode cX0_multiplyModels 102 = .ok (.iinc 5 1, 3) := by decide +kernel
theorem dX0_multiplyModels_105 : decode cX0_multiplyModels 105 = .ok (.goto (-69), 3) := by decide +kernel
theorem dX0_multiplyModels_108 : decode cX0_multiplyModels 108 = .ok (.iinc 4 1, 3) := by decide +kernel
theorem dX0_multiplyModels_111 : decode cX0_multiplyModels 111 = .ok (.goto (-92), 3) := by decide +kernel
theorem dX0_multiplyModels_114 : decode cX0_multiplyModels 114 = .ok (.aload_n 0, 1) := by decide +kernel
theorem dX0_multiplyModels_115 : decode cX0_multiplyModels 115 = .ok (.aload_n 2, 1) := by decide +kernel
theorem dX0_multiplyModels_116 : decode cX0_multiplyModels 116 = .ok (.invokevirtual 70, 3) := by decide +kernel
theorem dX0_multiplyModels_119 : decode cX0_multiplyModels 119 = .ok (.aload_n 2, 1) := by decide +kernel
theorem dX0_multiplyModels_120 : decode cX0_multiplyModels 120 = .ok (.invokevirtual 74, 3) := by decide +kernel
theorem dX0_multiplyModels_123 : decode cX0_multiplyModels 123 = .ok (.aload_n 3, 1) := by decide +kernel
theorem dX0_multiplyModels_124 : decode cX0_multiplyModels 124 = .ok (.getfield 37, 3) := by decide +kernel
theorem dX0_multiplyModels_127 : decode cX0_multiplyModels 127 = .ok (.aload_n 3, 1) := by decide +kernel
theorem dX0_multiplyModels_128 : decode cX0_multiplyModels 128 = .ok (.getfield 41, 3) := by decide +kernel
theorem dX0_multiplyModels_131 : decode cX0_multiplyModels 131 = .ok (.invokevirtual 77, 3) := by decide +kernel
theorem dX0_multiplyModels_134 : decode cX0_multiplyModels 134 = .ok (.aload_n 0, 1) := by decide +kernel
theorem dX0_multiplyModels_135 : decode cX0_multiplyModels 135 = .ok (.aload_n 2, 1) := by decide +kernel
theorem dX0_multiplyModels_136 : decode cX0_multiplyModels 136 = .ok (.getfield 37, 3) := by decide +kernel
theorem dX0_multiplyModels_139 : decode cX0_multiplyModels 139 = .ok (.aload_n 2, 1) := by decide +kernel
theorem dX0_multiplyModels_140 : decode cX0_multiplyModels 140 = .ok (.getfield 41, 3) := by decide +kernel
theorem dX0_multiplyModels_143 : decode cX0_multiplyModels 143 = .ok (.aload_n 3, 1) := by decide +kernel
theorem dX0_multiplyModels_144 : decode cX0_multiplyModels 144 = .ok (.invokevirtual 70, 3) := by decide +kernel
theorem dX0_multiplyModels_147 : decode cX0_multiplyModels 147 = .ok (.aload_n 3, 1) := by decide +kernel
theorem dX0_multiplyModels_148 : decode cX0_multiplyModels 148 = .ok (.invokevirtual 74, 3) := by decide +kernel
theorem dX0_multiplyModels_151 : decode cX0_multiplyModels 151 = .ok (.invokevirtual 77, 3) := by decide +kernel
theorem dX0_multiplyModels_154 : decode cX0_multiplyModels 154 = .ok (.aload_n 0, 1) := by decide +kernel
theorem dX0_multiplyModels_155 : decode cX0_multiplyModels 155 = .ok (.aload_n 2, 1) := by decide +kernel
theorem dX0_multiplyModels_156 : decode cX0_multiplyModels 156 = .ok (.getfield 37, 3) := by decide +kernel
theorem dX0_multiplyModels_159 : decode cX0_multiplyModels 159 = .ok (.aload_n 2, 1) := by decide +kernel
theorem dX0_multiplyModels_160 : decode cX0_multiplyModels 160 = .ok (.getfield 41, 3) := by decide +kernel
theorem dX0_multiplyModels_163 : decode cX0_multiplyModels 163 = .ok (.aload_n 3, 1) := by decide +kernel
theorem dX0_multiplyModels_164 : decode cX0_multiplyModels 164 = .ok (.getfield 37, 3) := by decide +kernel
theorem dX0_multiplyModels_167 : decode cX0_multiplyModels 167 = .ok (.aload_n 3, 1) := by decide +kernel
theorem dX0_multiplyModels_168 : decode cX0_multiplyModels 168 = .ok (.getfield 41, 3) := by decide +kernel
theorem dX0_multiplyModels_171 : decode cX0_multiplyModels 171 = .ok (.invokevirtual 77, 3) := by decide +kernel
theorem dX0_multiplyModels_174 : decode cX0_multiplyModels 174 = .ok (.aload_n 1, 1) := by decide +kernel
theorem dX0_multiplyModels_175 : decode cX0_multiplyModels 175 = .ok (.aload_n 0, 1) := by decide +kernel
theorem dX0_multiplyModels_176 : decode cX0_multiplyModels 176 = .ok (.getfield 52, 3) := by decide +kernel
theorem dX0_multiplyModels_179 : decode cX0_multiplyModels 179 = .ok (.ldc2_w 81, 3) := by decide +kernel
theorem dX0_multiplyModels_182 : decode cX0_multiplyModels 182 = .ok (.invokestatic 83, 3) := by decide +kernel
theorem dX0_multiplyModels_185 : decode cX0_multiplyModels 185 = .ok (.putfield 37, 3) := by decide +kernel
theorem dX0_multiplyModels_188 : decode cX0_multiplyModels 188 = .ok (.aload_n 1, 1) := by decide +kernel
theorem dX0_multiplyModels_189 : decode cX0_multiplyModels 189 = .ok (.aload_n 0, 1) := by decide +kernel
theorem dX0_multiplyModels_190 : decode cX0_multiplyModels 190 = .ok (.getfield 53, 3) := by decide +kernel
theorem dX0_multiplyModels_193 : decode cX0_multiplyModels 193 = .ok (.lneg, 1) := by decide +kernel
theorem dX0_multiplyModels_194 : decode cX0_multiplyModels 194 = .ok (.ldc2_w 81, 3) := by decide +kernel
theorem dX0_multiplyModels_197 : decode cX0_multiplyModels 197 = .ok (.invokestatic 83, 3) := by decide +kernel
theorem dX0_multiplyModels_200 : decode cX0_multiplyModels 200 = .ok (.lneg, 1) := by decide +kernel
theorem dX0_multiplyModels_201 : decode cX0_multiplyModels 201 = .ok (.putfield 41, 3) := by decide +kernel
theorem dX0_multiplyModels_204 : decode cX0_multiplyModels 204 = .ok (.iconst 0, 1) := by decide +kernel
theorem dX0_multiplyModels_205 : decode cX0_multiplyModels 205 = .ok (.istore 4, 2) := by decide +kernel
theorem dX0_multiplyModels_207 : decode cX0_multiplyModels 207 = .ok (.iload 4, 2) := by decide +kernel
theorem dX0_multiplyModels_209 : decode cX0_multiplyModels 209 = .ok (.bipush 10, 2) := by decide +kernel
theorem dX0_multiplyModels_211 : decode cX0_multiplyModels 211 = .ok (.if_icmp .ge 39, 3) := by decide +kernel
theorem dX0_multiplyModels_214 : decode cX0_multiplyModels 214 = .ok (.aload_n 1, 1) := by decide +kernel
theorem dX0_multiplyModels_215 : decode cX0_multiplyModels 215 = .ok (.iload 4, 2) := by decide +kernel
theorem dX0_multiplyModels_217 : decode cX0_multiplyModels 217 = .ok (.aload_n 0, 1) := by decide +kernel
theorem dX0_multiplyModels_218 : decode cX0_multiplyModels 218 = .ok (.getfield 11, 3) := by decide +kernel
theorem dX0_multiplyModels_221 : decode cX0_multiplyModels 221 = .ok (.getstatic 87, 3) := by decide +kernel
theorem dX0_multiplyModels_224 : decode cX0_multiplyModels 224 = .ok (.iload 4, 2) := by decide +kernel
theorem dX0_multiplyModels_226 : decode cX0_multiplyModels 226 = .ok (.iaload, 1) := by decide +kernel
theorem dX0_multiplyModels_227 : decode cX0_multiplyModels 227 = .ok (.bipush 7, 2) := by decide +kernel
theorem dX0_multiplyModels_229 : decode cX0_multiplyModels 229 = .ok (.imul, 1) := by decide +kernel
theorem dX0_multiplyModels_230 : decode cX0_multiplyModels 230 = .ok (.getstatic 91, 3) := by decide +kernel
theorem dX0_multiplyModels_233 : decode cX0_multiplyModels 233 = .ok (.iload 4, 2) := by decide +kernel
theorem dX0_multiplyModels_235 : decode cX0_multiplyModels 235 = .ok (.iaload, 1) := by decide +kernel
theorem dX0_multiplyModels_236 : decode cX0_multiplyModels 236 = .ok (.iadd, 1) := by decide +kernel
theorem dX0_multiplyModels_237 : decode cX0_multiplyModels 237 = .ok (.laload, 1) := by decide +kernel
theorem dX0_multiplyModels_238 : decode cX0_multiplyModels 238 = .ok (.ldc2_w 81, 3) := by decide +kernel
theorem dX0_multiplyModels_241 : decode cX0_multiplyModels 241 = .ok (.invokevirtual 94, 3) := by decide +kernel
theorem dX0_multiplyModels_244 : decode cX0_multiplyModels 244 = .ok (.iinc 4 1, 3) := by decide +kernel
theorem dX0_multiplyModels_247 : decode cX0_multiplyModels 247 = .ok (.goto (-40), 3) := by decide +kernel
theorem dX0_multiplyModels_250 : decode cX0_multiplyModels 250 = .ok (.aload_n 1, 1) := by decide +kernel
theorem dX0_multiplyModels_251 : decode cX0_multiplyModels 251 = .ok (.invokevirtual 44, 3) := by decide +kernel
theorem dX0_multiplyModels_254 : decode cX0_multiplyModels 254 = .ok (.ireturn, 1) := by decide +kernel
theorem dX0_collectProducts_0 : decode cX0_collectProducts 0 = .ok (.aload_n 0, 1) := by decide +kernel
theorem dX0_collectProducts_1 : decode cX0_collectProducts 1 = .ok (.getfield 11, 3) := by decide +kernel
theorem dX0_collectProducts_4 : decode cX0_collectProducts 4 = .ok (.lconst 0, 1) := by decide +kernel
theorem dX0_collectProducts_5 : decode cX0_collectProducts 5 = .ok (.invokestatic 98, 3) := by decide +kernel
theorem dX0_collectProducts_8 : decode cX0_collectProducts 8 = .ok (.iconst 0, 1) := by decide +kernel
theorem dX0_collectProducts_9 : decode cX0_collectProducts 9 = .ok (.istore_n 3, 1) := by decide +kernel
theorem dX0_collectProducts_10 : decode cX0_collectProducts 10 = .ok (.iload_n 3, 1) := by decide +kernel
theorem dX0_collectProducts_11 : decode cX0_collectProducts 11 = .ok (.bipush 10, 2) := by decide +kernel
theorem dX0_collectProducts_13 : decode cX0_collectProducts 13 = .ok (.if_icmp .ge 90, 3) := by decide +kernel
theorem dX0_collectProducts_16 : decode cX0_collectProducts 16 = .ok (.iconst 0, 1) := by decide +kernel
theorem dX0_collectProducts_17 : decode cX0_collectProducts 17 = .ok (.istore 4, 2) := by decide +kernel
theorem dX0_collectProducts_19 : decode cX0_collectProducts 19 = .ok (.aload_n 1, 1) := by decide +kernel
theorem dX0_collectProducts_20 : decode cX0_collectProducts 20 = .ok (.getfield 34, 3) := by decide +kernel
theorem dX0_collectProducts_23 : decode cX0_collectProducts 23 = .ok (.iload_n 3, 1) := by decide +kernel
theorem dX0_collectProducts_24 : decode cX0_collectProducts 24 = .ok (.laload, 1) := by decide +kernel
theorem dX0_collectProducts_25 : decode cX0_collectProducts 25 = .ok (.lconst 0, 1) := by decide +kernel
theorem dX0_collectProducts_26 : decode cX0_collectProducts 26 = .ok (.lcmp, 1) := by decide +kernel
theorem dX0_collectProducts_27 : decode cX0_collectProducts 27 = .ok (.ifCond .eq 70, 3) := by decide +kernel
theorem dX0_collectProducts_30 : decode cX0_collectProducts 30 = .ok (.iload 4, 2) := by decide +kernel
theorem dX0_collectProducts_32 : decode cX0_collectProducts 32 = .ok (.bipush 10, 2) := by decide +kernel
theorem dX0_collectProducts_34 : decode cX0_collectProducts 34 = .ok (.if_icmp .ge 63, 3) := by decide +kernel
theorem dX0_collectProducts_37 : decode cX0_collectProducts 37 = .ok (.getstatic 87, 3) := by decide +kernel
theorem dX0_collectProducts_40 : decode cX0_collectProducts 40 = .ok (.iload_n 3, 1) := by decide +kernel
theorem dX0_collectProducts_41 : decode cX0_collectProducts 41 = .ok (.iaload, 1) := by decide +kernel
theorem dX0_collectProducts_42 : decode cX0_collectProducts 42 = .ok (.getstatic 87, 3) := by decide +kernel
theorem dX0_collectProducts_45 : decode cX0_collectProducts 45 = .ok (.iload 4, 2) := by decide +kernel
theorem dX0_collectProducts_47 : decode cX0_collectProducts 47 = .ok (.iaload, 1) := by decide +kernel
theorem dX0_collectProducts_48 : decode cX0_collectProducts 48 = .ok (.iadd, 1) := by decide +kernel
theorem dX0_collectProducts_49 : decode cX0_collectProducts 49 = .ok (.bipush 7, 2) := by decide +kernel
theorem dX0_collectProducts_51 : decode cX0_collectProducts 51 = .ok (.imul, 1) := by decide +kernel
theorem dX0_collectProducts_52 : decode cX0_collectProducts 52 = .ok (.getstatic 91, 3) := by decide +kernel
theorem dX0_collectProducts_55 : decode cX0_collectProducts 55 = .ok (.iload_n 3, 1) := by decide +kernel
theorem dX0_collectProducts_56 : decode cX0_collectProducts 56 = .ok (.iaload, 1) := by decide +kernel
theorem dX0_collectProducts_57 : decode cX0_collectProducts 57 = .ok (.iadd, 1) := by decide +kernel
theorem dX0_collectProducts_58 : decode cX0_collectProducts 58 = .ok (.getstatic 91, 3) := by decide +kernel
theorem dX0_collectProducts_61 : decode cX0_collectProducts 61 = .ok (.iload 4, 2) := by decide +kernel
theorem dX0_collectProducts_63 : decode cX0_collectProducts 63 = .ok (.iaload, 1) := by decide +kernel
theorem dX0_collectProducts_64 : decode cX0_collectProducts 64 = .ok (.iadd, 1) := by decide +kernel
theorem dX0_collectProducts_65 : decode cX0_collectProducts 65 = .ok (.istore 5, 2) := by decide +kernel
theorem dX0_collectProducts_67 : decode cX0_collectProducts 67 = .ok (.aload_n 0, 1) := by decide +kernel
theorem dX0_collectProducts_68 : decode cX0_collectProducts 68 = .ok (.getfield 11, 3) := by decide +kernel
theorem dX0_collectProducts_71 : decode cX0_collectProducts 71 = .ok (.iload 5, 2) := by decide +kernel
theorem dX0_collectProducts_73 : decode cX0_collectProducts 73 = .ok (.dup2, 1) := by decide +kernel
theorem dX0_collectProducts_74 : decode cX0_collectProducts 74 = .ok (.laload, 1) := by decide +kernel
theorem dX0_collectProducts_75 : decode cX0_collectProducts 75 = .ok (.aload_n 1, 1) := by decide +kernel
theorem dX0_collectProducts_76 : decode cX0_collectProducts 76 = .ok (.getfield 34, 3) := by decide +kernel
theorem dX0_collectProducts_79 : decode cX0_collectProducts 79 = .ok (.iload_n 3, 1) := by decide +kernel
theorem dX0_collectProducts_80 : decode cX0_collectProducts 80 = .ok (.laload, 1) := by decide +kernel
theorem dX0_collectProducts_81 : decode cX0_collectProducts 81 = .ok (.aload_n 2, 1) := by decide +kernel
theorem dX0_collectProducts_82 : decode cX0_collectProducts 82 = .ok (.getfield 34, 3) := by decide +kernel
theorem dX0_collectProducts_85 : decode cX0_collectProducts 85 = .ok (.iload 4, 2) := by decide +kernel
theorem dX0_collectProducts_87 : decode cX0_collectProducts 87 = .ok (.laload, 1) := by decide +kernel
theorem dX0_collectProducts_88 : decode cX0_collectProducts 88 = .ok (.lmul, 1) := by decide +kernel
theorem dX0_collectProducts_89 : decode cX0_collectProducts 89 = .ok (.ladd, 1) := by decide +kernel
theorem dX0_collectProducts_90 : decode cX0_collectProducts 90 = .ok (.lastore, 1) := by decide +kernel
theorem dX0_collectProducts_91 : decode cX0_collectProducts 91 = .ok (.iinc 4 1, 3) := by decide +kernel
theorem dX0_collectProducts_94 : decode cX0_collectProducts 94 = .ok (.goto (-75), 3) := by decide +kernel
theorem dX0_collectProducts_97 : decode cX0_collectProducts 97 = .ok (.iinc 3 1, 3) := by decide +kernel
theorem dX0_collectProducts_100 : decode cX0_collectProducts 100 = .ok (.goto (-90), 3) := by decide +kernel
theorem dX0_collectProducts_103 : decode cX0_collectProducts 103 = .ok (.return_, 1) := by decide +kernel
theorem dX0_addIntervalProduct_0 : decode cX0_addIntervalProduct 0 = .ok (.lload_n 1, 1) := by decide +kernel
theorem dX0_addIntervalProduct_1 : decode cX0_addIntervalProduct 1 = .ok (.lload 5, 2) := by decide +kernel
theorem dX0_addIntervalProduct_3 : decode cX0_addIntervalProduct 3 = .ok (.lmul, 1) := by decide +kernel
theorem dX0_addIntervalProduct_4 : decode cX0_addIntervalProduct 4 = .ok (.lstore 9, 2) := by decide +kernel
theorem dX0_addIntervalProduct_6 : decode cX0_addIntervalProduct 6 = .ok (.lload_n 1, 1) := by decide +kernel
theorem dX0_addIntervalProduct_7 : decode cX0_addIntervalProduct 7 = .ok (.lload 7, 2) := by decide +kernel
theorem dX0_addIntervalProduct_9 : decode cX0_addIntervalProduct 9 = .ok (.lmul, 1) := by decide +kernel
theorem dX0_addIntervalProduct_10 : decode cX0_addIntervalProduct 10 = .ok (.lstore 11, 2) := by decide +kernel
theorem dX0_addIntervalProduct_12 : decode cX0_addIntervalProduct 12 = .ok (.lload_n 3, 1) := by decide +kernel
theorem dX0_addIntervalProduct_13 : decode cX0_addIntervalProduct 13 = .ok (.lload 5, 2) := by decide +kernel
theorem dX0_addIntervalProduct_15 : decode cX0_addIntervalProduct 15 = .ok (.lmul, 1) := by decide +kernel
theorem dX0_addIntervalProduct_16 : decode cX0_addIntervalProduct 16 = .ok (.lstore 13, 2) := by decide +kernel
theorem dX0_addIntervalProduct_18 : decode cX0_addIntervalProduct 18 = .ok (.lload_n 3, 1) := by decide +kernel
theorem dX0_addIntervalProduct_19 : decode cX0_addIntervalProduct 19 = .ok (.lload 7, 2) := by decide +kernel
theorem dX0_addIntervalProduct_21 : decode cX0_addIntervalProduct 21 = .ok (.lmul, 1) := by decide +kernel
theorem dX0_addIntervalProduct_22 : decode cX0_addIntervalProduct 22 = .ok (.lstore 15, 2) := by decide +kernel
theorem dX0_addIntervalProduct_24 : decode cX0_addIntervalProduct 24 = .ok (.aload_n 0, 1) := by decide +kernel
theorem dX0_addIntervalProduct_25 : decode cX0_addIntervalProduct 25 = .ok (.dup, 1) := by decide +kernel
theorem dX0_addIntervalProduct_26 : decode cX0_addIntervalProduct 26 = .ok (.getfield 52, 3) := by decide +kernel
theorem dX0_addIntervalProduct_29 : decode cX0_addIntervalProduct 29 = .ok (.lload 9, 2) := by decide +kernel
theorem dX0_addIntervalProduct_31 : decode cX0_addIntervalProduct 31 = .ok (.lload 11, 2) := by decide +kernel
theorem dX0_addIntervalProduct_33 : decode cX0_addIntervalProduct 33 = .ok (.invokestatic 104, 3) := by decide +kernel
theorem dX0_addIntervalProduct_36 : decode cX0_addIntervalProduct 36 = .ok (.lload 13, 2) := by decide +kernel
theorem dX0_addIntervalProduct_38 : decode cX0_addIntervalProduct 38 = .ok (.lload 15, 2) := by decide +kernel
theorem dX0_addIntervalProduct_40 : decode cX0_addIntervalProduct 40 = .ok (.invokestatic 104, 3) := by decide +kernel
theorem dX0_addIntervalProduct_43 : decode cX0_addIntervalProduct 43 = .ok (.invokestatic 104, 3) := by decide +kernel
theorem dX0_addIntervalProduct_46 : decode cX0_addIntervalProduct 46 = .ok (.ladd, 1) := by decide +kernel
theorem dX0_addIntervalProduct_47 : decode cX0_addIntervalProduct 47 = .ok (.putfield 52, 3) := by decide +kernel
theorem dX0_addIntervalProduct_50 : decode cX0_addIntervalProduct 50 = .ok (.aload_n 0, 1) := by decide +kernel
theorem dX0_addIntervalProduct_51 : decode cX0_addIntervalProduct 51 = .ok (.dup, 1) := by decide +kernel
theorem dX0_addIntervalProduct_52 : decode cX0_addIntervalProduct 52 = .ok (.getfield 53, 3) := by decide +kernel
theorem dX0_addIntervalProduct_55 : decode cX0_addIntervalProduct 55 = .ok (.lload 9, 2) := by decide +kernel
theorem dX0_addIntervalProduct_57 : decode cX0_addIntervalProduct 57 = .ok (.lload 11, 2) := by decide +kernel
theorem dX0_addIntervalProduct_59 : decode cX0_addIntervalProduct 59 = .ok (.invokestatic 107, 3) := by decide +kernel
theorem dX0_addIntervalProduct_62 : decode cX0_addIntervalProduct 62 = .ok (.lload 13, 2) := by decide +kernel
theorem dX0_addIntervalProduct_64 : decode cX0_addIntervalProduct 64 = .ok (.lload 15, 2) := by decide +kernel
theorem dX0_addIntervalProduct_66 : decode cX0_addIntervalProduct 66 = .ok (.invokestatic 107, 3) := by decide +kernel
theorem dX0_addIntervalProduct_69 : decode cX0_addIntervalProduct 69 = .ok (.invokestatic 107, 3) := by decide +kernel
theorem dX0_addIntervalProduct_72 : decode cX0_addIntervalProduct 72 = .ok (.ladd, 1) := by decide +kernel
theorem dX0_addIntervalProduct_73 : decode cX0_addIntervalProduct 73 = .ok (.putfield 53, 3) := by decide +kernel
theorem dX0_addIntervalProduct_76 : decode cX0_addIntervalProduct 76 = .ok (.return_, 1) := by decide +kernel
theorem dX0_composeModels_0 : decode cX0_composeModels 0 = .ok (.aload_n 3, 1) := by decide +kernel
theorem dX0_composeModels_1 : decode cX0_composeModels 1 = .ok (.invokevirtual 109, 3) := by decide +kernel
theorem dX0_composeModels_4 : decode cX0_composeModels 4 = .ok (.ifCond .eq 11, 3) := by decide +kernel
theorem dX0_composeModels_7 : decode cX0_composeModels 7 = .ok (.aload 4, 2) := by decide +kernel
theorem dX0_composeModels_9 : decode cX0_composeModels 9 = .ok (.invokevirtual 109, 3) := by decide +kernel
theorem dX0_composeModels_12 : decode cX0_composeModels 12 = .ok (.ifCond .ne 5, 3) := by decide +kernel
theorem dX0_composeModels_15 : decode cX0_composeModels 15 = .ok (.iconst 0, 1) := by decide +kernel
theorem dX0_composeModels_16 : decode cX0_composeModels 16 = .ok (.ireturn, 1) := by decide +kernel
theorem dX0_composeModels_17 : decode cX0_composeModels 17 = .ok (.aload_n 0, 1) := by decide +kernel
theorem dX0_composeModels_18 : decode cX0_composeModels 18 = .ok (.getfield 22, 3) := by decide +kernel
theorem dX0_composeModels_21 : decode cX0_composeModels 21 = .ok (.lconst 0, 1) := by decide +kernel
theorem dX0_composeModels_22 : decode cX0_composeModels 22 = .ok (.invokevirtual 112, 3) := by decide +kernel
theorem dX0_composeModels_25 : decode cX0_composeModels 25 = .ok (.iconst 0, 1) := by decide +kernel
theorem dX0_composeModels_26 : decode cX0_composeModels 26 = .ok (.istore 5, 2) := by decide +kernel
theorem dX0_composeModels_28 : decode cX0_composeModels 28 = .ok (.iload 5, 2) := by decide +kernel
theorem dX0_composeModels_30 : decode cX0_composeModels 30 = .ok (.bipush 10, 2) := by decide +kernel
theorem dX0_composeModels_32 : decode cX0_composeModels 32 = .ok (.if_icmp .ge 117, 3) := by decide +kernel
theorem dX0_composeModels_35 : decode cX0_composeModels 35 = .ok (.aload_n 2, 1) := by decide +kernel
theorem dX0_composeModels_36 : decode cX0_composeModels 36 = .ok (.getfield 34, 3) := by decide +kernel
theorem dX0_composeModels_39 : decode cX0_composeModels 39 = .ok (.iload 5, 2) := by decide +kernel
theorem dX0_composeModels_41 : decode cX0_composeModels 41 = .ok (.laload, 1) := by decide +kernel
theorem dX0_composeModels_42 : decode cX0_composeModels 42 = .ok (.lconst 0, 1) := by decide +kernel
theorem dX0_composeModels_43 : decode cX0_composeModels 43 = .ok (.lcmp, 1) := by decide +kernel
theorem dX0_composeModels_44 : decode cX0_composeModels 44 = .ok (.ifCond .eq 99, 3) := by decide +kernel
theorem dX0_composeModels_47 : decode cX0_composeModels 47 = .ok (.aload_n 0, 1) := by decide +kernel
theorem dX0_composeModels_48 : decode cX0_composeModels 48 = .ok (.getfield 18, 3) := by decide +kernel
theorem dX0_composeModels_51 : decode cX0_composeModels 51 = .ok (.aload_n 2, 1) := by decide +kernel
theorem dX0_composeModels_52 : decode cX0_composeModels 52 = .ok (.getfield 34, 3) := by decide +kernel
theorem dX0_composeModels_55 : decode cX0_composeModels 55 = .ok (.iload 5, 2) := by decide +kernel
theorem dX0_composeModels_57 : decode cX0_composeModels 57 = .ok (.laload, 1) := by decide +kernel
theorem dX0_composeModels_58 : decode cX0_composeModels 58 = .ok (.invokevirtual 112, 3) := by decide +kernel
theorem dX0_composeModels_61 : decode cX0_composeModels 61 = .ok (.iconst 0, 1) := by decide +kernel
theorem dX0_composeModels_62 : decode cX0_composeModels 62 = .ok (.istore 6, 2) := by decide +kernel
theorem dX0_composeModels_64 : decode cX0_composeModels 64 = .ok (.iload 6, 2) := by decide +kernel
theorem dX0_composeModels_66 : decode cX0_composeModels 66 = .ok (.getstatic 87, 3) := by decide +kernel
theorem dX0_composeModels_69 : decode cX0_composeModels 69 = .ok (.iload 5, 2) := by decide +kernel
theorem dX0_composeModels_71 : decode cX0_composeModels 71 = .ok (.iaload, 1) := by decide +kernel
theorem dX0_composeModels_72 : decode cX0_composeModels 72 = .ok (.getstatic 91, 3) := by decide +kernel
theorem dX0_composeModels_75 : decode cX0_composeModels 75 = .ok (.iload 5, 2) := by decide +kernel
theorem dX0_composeModels_77 : decode cX0_composeModels 77 = .ok (.iaload, 1) := by decide +kernel
theorem dX0_composeModels_78 : decode cX0_composeModels 78 = .ok (.iadd, 1) := by decide +kernel
theorem dX0_composeModels_79 : decode cX0_composeModels 79 = .ok (.if_icmp .ge 43, 3) := by decide +kernel
theorem dX0_composeModels_82 : decode cX0_composeModels 82 = .ok (.aload_n 0, 1) := by decide +kernel
theorem dX0_composeModels_83 : decode cX0_composeModels 83 = .ok (.aload_n 0, 1) := by decide +kernel
theorem dX0_composeModels_84 : decode cX0_composeModels 84 = .ok (.getfield 18, 3) := by decide +kernel
theorem dX0_composeModels_87 : decode cX0_composeModels 87 = .ok (.aload_n 0, 1) := by decide +kernel
theorem dX0_composeModels_88 : decode cX0_composeModels 88 = .ok (.getfield 18, 3) := by decide +kernel
theorem dX0_composeModels_91 : decode cX0_composeModels 91 = .ok (.iload 6, 2) := by decide +kernel
theorem dX0_composeModels_93 : decode cX0_composeModels 93 = .ok (.getstatic 87, 3) := by decide +kernel
theorem dX0_composeModels_96 : decode cX0_composeModels 96 = .ok (.iload 5, 2) := by decide +kernel
theorem dX0_composeModels_98 : decode cX0_composeModels 98 = .ok (.iaload, 1) := by decide +kernel
theorem dX0_composeModels_99 : decode cX0_composeModels 99 = .ok (.if_icmp .ge 7, 3) := by decide +kernel
theorem dX0_composeModels_102 : decode cX0_composeModels 102 = .ok (.aload_n 3, 1) := by decide +kernel
theorem dX0_composeModels_103 : decode cX0_composeModels 103 = .ok (.goto 5, 3) := by decide +kernel
theorem dX0_composeModels_106 : decode cX0_composeModels 106 = .ok (.aload 4, 2) := by decide +kernel
theorem dX0_composeModels_108 : decode cX0_composeModels 108 = .ok (.invokevirtual 116, 3) := by decide +kernel
theorem dX0_composeModels_111 : decode cX0_composeModels 111 = .ok (.ifCond .ne 5, 3) := by decide +kernel
theorem dX0_composeModels_114 : decode cX0_composeModels 114 = .ok (.iconst 0, 1) := by decide +kernel
theorem dX0_composeModels_115 : decode cX0_composeModels 115 = .ok (.ireturn, 1) := by decide +kernel
theorem dX0_composeModels_116 : decode cX0_composeModels 116 = .ok (.iinc 6 1, 3) := by decide +kernel
theorem dX0_composeModels_119 : decode cX0_composeModels 119 = .ok (.goto (-55), 3) := by decide +kernel
theorem dX0_composeModels_122 : decode cX0_composeModels 122 = .ok (.aload_n 0, 1) := by decide +kernel
theorem dX0_composeModels_123 : decode cX0_composeModels 123 = .ok (.aload_n 0, 1) := by decide +kernel
theorem dX0_composeModels_124 : decode cX0_composeModels 124 = .ok (.getfield 22, 3) := by decide +kernel
theorem dX0_composeModels_127 : decode cX0_composeModels 127 = .ok (.aload_n 0, 1) := by decide +kernel
theorem dX0_composeModels_128 : decode cX0_composeModels 128 = .ok (.getfield 22, 3) := by decide +kernel
theorem dX0_composeModels_131 : decode cX0_composeModels 131 = .ok (.aload_n 0, 1) := by decide +kernel
theorem dX0_composeModels_132 : decode cX0_composeModels 132 = .ok (.getfield 18, 3) := by decide +kernel
theorem dX0_composeModels_135 : decode cX0_composeModels 135 = .ok (.invokevirtual 120, 3) := by decide +kernel
theorem dX0_composeModels_138 : decode cX0_composeModels 138 = .ok (.ifCond .ne 5, 3) := by decide +kernel
theorem dX0_composeModels_141 : decode cX0_composeModels 141 = .ok (.iconst 0, 1) := by decide +kernel
theorem dX0_composeModels_142 : decode cX0_composeModels 142 = .ok (.ireturn, 1) := by decide +kernel
theorem dX0_composeModels_143 : decode cX0_composeModels 143 = .ok (.iinc 5 1, 3) := by decide +kernel
theorem dX0_composeModels_146 : decode cX0_composeModels 146 = .ok (.goto (-118), 3) := by decide +kernel
theorem dX0_composeModels_149 : decode cX0_composeModels 149 = .ok (.aload_n 0, 1) := by decide +kernel
theorem dX0_composeModels_150 : decode cX0_composeModels 150 = .ok (.getfield 22, 3) := by decide +kernel
theorem dX0_composeModels_153 : decode cX0_composeModels 153 = .ok (.dup, 1) := by decide +kernel
theorem dX0_composeModels_154 : decode cX0_composeModels 154 = .ok (.getfield 37, 3) := by decide +kernel
theorem dX0_composeModels_157 : decode cX0_composeModels 157 = .ok (.aload_n 2, 1) := by decide +kernel
theorem dX0_composeModels_158 : decode cX0_composeModels 158 = .ok (.getfield 37, 3) := by decide +kernel
theorem dX0_composeModels_161 : decode cX0_composeModels 161 = .ok (.ladd, 1) := by decide +kernel
theorem dX0_composeModels_162 : decode cX0_composeModels 162 = .ok (.putfield 37, 3) := by decide +kernel
theorem dX0_composeModels_165 : decode cX0_composeModels 165 = .ok (.aload_n 0, 1) := by decide +kernel
theorem dX0_composeModels_166 : decode cX0_composeModels 166 = .ok (.getfield 22, 3) := by decide +kernel
theorem dX0_composeModels_169 : decode cX0_composeModels 169 = .ok (.dup, 1) := by decide +kernel
theorem dX0_composeModels_170 : decode cX0_composeModels 170 = .ok (.getfield 41, 3) := by decide +kernel
theorem dX0_composeModels_173 : decode cX0_composeModels 173 = .ok (.aload_n 2, 1) := by decide +kernel
theorem dX0_composeModels_174 : decode cX0_composeModels 174 = .ok (.getfield 41, 3) := by decide +kernel
theorem dX0_composeModels_177 : decode cX0_composeModels 177 = .ok (.ladd, 1) := by decide +kernel
theorem dX0_composeModels_178 : decode cX0_composeModels 178 = .ok (.putfield 41, 3) := by decide +kernel
theorem dX0_composeModels_181 : decode cX0_composeModels 181 = .ok (.aload_n 1, 1) := by decide +kernel
theorem dX0_composeModels_182 : decode cX0_composeModels 182 = .ok (.aload_n 0, 1) := by decide +kernel
theorem dX0_composeModels_183 : decode cX0_composeModels 183 = .ok (.getfield 22, 3) := by decide +kernel
theorem dX0_composeModels_186 : decode cX0_composeModels 186 = .ok (.invokevirtual 123, 3) := by decide +kernel
theorem dX0_composeModels_189 : decode cX0_composeModels 189 = .ok (.aload_n 1, 1) := by decide +kernel
theorem dX0_composeModels_190 : decode cX0_composeModels 190 = .ok (.invokevirtual 44, 3) := by decide +kernel
theorem dX0_composeModels_193 : decode cX0_composeModels 193 = .ok (.ireturn, 1) := by decide +kernel
theorem dX0_integrateModel_0 : decode cX0_integrateModel 0 = .ok (.aload_n 0, 1) := by decide +kernel
theorem dX0_integrateModel_1 : decode cX0_integrateModel 1 = .ok (.getfield 22, 3) := by decide +kernel
theorem dX0_integrateModel_4 : decode cX0_integrateModel 4 = .ok (.lconst 0, 1) := by decide +kernel
theorem dX0_integrateModel_5 : decode cX0_integrateModel 5 = .ok (.invokevirtual 112, 3) := by decide +kernel
theorem dX0_integrateModel_8 : decode cX0_integrateModel 8 = .ok (.aload_n 0, 1) := by decide +kernel
theorem dX0_integrateModel_9 : decode cX0_integrateModel 9 = .ok (.getfield 22, 3) := by decide +kernel
theorem dX0_integrateModel_12 : decode cX0_integrateModel 12 = .ok (.aload_n 2, 1) := by decide +kernel
theorem dX0_integrateModel_13 : decode cX0_integrateModel 13 = .ok (.getfield 37, 3) := by decide +kernel
theorem dX0_integrateModel_16 : decode cX0_integrateModel 16 = .ok (.invokestatic 127, 3) := by decide +kernel
theorem dX0_integrateModel_19 : decode cX0_integrateModel 19 = .ok (.aload_n 2, 1) := by decide +kernel
theorem dX0_integrateModel_20 : decode cX0_integrateModel 20 = .ok (.getfield 41, 3) := by decide +kernel
theorem dX0_integrateModel_23 : decode cX0_integrateModel 23 = .ok (.invokestatic 127, 3) := by decide +kernel
theorem dX0_integrateModel_26 : decode cX0_integrateModel 26 = .ok (.invokestatic 107, 3) := by decide +kernel
theorem dX0_integrateModel_29 : decode cX0_integrateModel 29 = .ok (.invokevirtual 131, 3) := by decide +kernel
theorem dX0_integrateModel_32 : decode cX0_integrateModel 32 = .ok (.iconst 0, 1) := by decide +kernel
theorem dX0_integrateModel_33 : decode cX0_integrateModel 33 = .ok (.istore 4, 2) := by decide +kernel
theorem dX0_integrateModel_35 : decode cX0_integrateModel 35 = .ok (.iload 4, 2) := by decide +kernel
theorem dX0_integrateModel_37 : decode cX0_integrateModel 37 = .ok (.bipush 10, 2) := by decide +kernel
theorem dX0_integrateModel_39 : decode cX0_integrateModel 39 = .ok (.if_icmp .ge 81, 3) := by decide +kernel
theorem dX0_integrateModel_42 : decode cX0_integrateModel 42 = .ok (.iload_n 3, 1) := by decide +kernel
theorem dX0_integrateModel_43 : decode cX0_integrateModel 43 = .ok (.ifCond .ne 14, 3) := by decide +kernel
theorem dX0_integrateModel_46 : decode cX0_integrateModel 46 = .ok (.getstatic 87, 3) := by decide +kernel
theorem dX0_integrateModel_49 : decode cX0_integrateModel 49 = .ok (.iload 4, 2) := by decide +kernel
theorem dX0_integrateModel_51 : decode cX0_integrateModel 51 = .ok (.iaload, 1) := by decide +kernel
theorem dX0_integrateModel_52 : decode cX0_integrateModel 52 = .ok (.iconst 1, 1) := by decide +kernel
theorem dX0_integrateModel_53 : decode cX0_integrateModel 53 = .ok (.iadd, 1) := by decide +kernel
theorem dX0_integrateModel_54 : decode cX0_integrateModel 54 = .ok (.goto 9, 3) := by decide +kernel
theorem dX0_integrateModel_57 : decode cX0_integrateModel 57 = .ok (.getstatic 87, 3) := by decide +kernel
theorem dX0_integrateModel_60 : decode cX0_integrateModel 60 = .ok (.iload 4, 2) := by decide +kernel
theorem dX0_integrateModel_62 : decode cX0_integrateModel 62 = .ok (.iaload, 1) := by decide +kernel
theorem dX0_integrateModel_63 : decode cX0_integrateModel 63 = .ok (.istore 5, 2) := by decide +kernel
theorem dX0_integrateModel_65 : decode cX0_integrateModel 65 = .ok (.iload_n 3, 1) := by decide +kernel
theorem dX0_integrateModel_66 : decode cX0_integrateModel 66 = .ok (.ifCond .ne 12, 3) := by decide +kernel
theorem dX0_integrateModel_69 : decode cX0_integrateModel 69 = .ok (.getstatic 91, 3) := by decide +kernel
theorem dX0_integrateModel_72 : decode cX0_integrateModel 72 = .ok (.iload 4, 2) := by decide +kernel
theorem dX0_integrateModel_74 : decode cX0_integrateModel 74 = .ok (.iaload, 1) := by decide +kernel
theorem dX0_integrateModel_75 : decode cX0_integrateModel 75 = .ok (.goto 11, 3) := by decide +kernel
theorem dX0_integrateModel_78 : decode cX0_integrateModel 78 = .ok (.getstatic 91, 3) := by decide +kernel
theorem dX0_integrateModel_81 : decode cX0_integrateModel 81 = .ok (.iload 4, 2) := by decide +kernel
theorem dX0_integrateModel_83 : decode cX0_integrateModel 83 = .ok (.iaload, 1) := by decide +kernel
theorem dX0_integrateModel_84 : decode cX0_integrateModel 84 = .ok (.iconst 1, 1) := by decide +kernel
theorem dX0_integrateModel_85 : decode cX0_integrateModel 85 = .ok (.iadd, 1) := by decide +kernel
theorem dX0_integrateModel_86 : decode cX0_integrateModel 86 = .ok (.istore 6, 2) := by decide +kernel
theorem dX0_integrateModel_88 : decode cX0_integrateModel 88 = .ok (.aload_n 0, 1) := by decide +kernel
theorem dX0_integrateModel_89 : decode cX0_integrateModel 89 = .ok (.aload_n 2, 1) := by decide +kernel
theorem dX0_integrateModel_90 : decode cX0_integrateModel 90 = .ok (.getfield 34, 3) := by decide +kernel
theorem dX0_integrateModel_93 : decode cX0_integrateModel 93 = .ok (.iload 4, 2) := by decide +kernel
theorem dX0_integrateModel_95 : decode cX0_integrateModel 95 = .ok (.laload, 1) := by decide +kernel
theorem dX0_integrateModel_96 : decode cX0_integrateModel 96 = .ok (.iload 5, 2) := by decide +kernel
theorem dX0_integrateModel_98 : decode cX0_integrateModel 98 = .ok (.iload 6, 2) := by decide +kernel
theorem dX0_integrateModel_100 : decode cX0_integrateModel 100 = .ok (.iload_n 3, 1) := by decide +kernel
theorem dX0_integrateModel_101 : decode cX0_integrateModel 101 = .ok (.ifCond .ne 8, 3) := by decide +kernel
theorem dX0_integrateModel_104 : decode cX0_integrateModel 104 = .ok (.iload 5, 2) := by decide +kernel
theorem dX0_integrateModel_106 : decode cX0_integrateModel 106 = .ok (.goto 5, 3) := by decide +kernel
theorem dX0_integrateModel_109 : decode cX0_integrateModel 109 = .ok (.iload 6, 2) := by decide +kernel
theorem dX0_integrateModel_111 : decode cX0_integrateModel 111 = .ok (.invokevirtual 134, 3) := by decide +kernel
theorem dX0_integrateModel_114 : decode cX0_integrateModel 114 = .ok (.iinc 4 1, 3) := by decide +kernel
theorem dX0_integrateModel_117 : decode cX0_integrateModel 117 = .ok (.goto (-82), 3) := by decide +kernel
theorem dX0_integrateModel_120 : decode cX0_integrateModel 120 = .ok (.aload_n 1, 1) := by decide +kernel
theorem dX0_integrateModel_121 : decode cX0_integrateModel 121 = .ok (.aload_n 0, 1) := by decide +kernel
theorem dX0_integrateModel_122 : decode cX0_integrateModel 122 = .ok (.getfield 22, 3) := by decide +kernel
theorem dX0_integrateModel_125 : decode cX0_integrateModel 125 = .ok (.invokevirtual 123, 3) := by decide +kernel
theorem dX0_integrateModel_128 : decode cX0_integrateModel 128 = .ok (.aload_n 1, 1) := by decide +kernel
theorem dX0_integrateModel_129 : decode cX0_integrateModel 129 = .ok (.invokevirtual 44, 3) := by decide +kernel
theorem dX0_integrateModel_132 : decode cX0_integrateModel 132 = .ok (.ireturn, 1) := by decide +kernel
theorem dX0_integrateTerm_0 : decode cX0_integrateTerm 0 = .ok (.iload_n 3, 1) := by decide +kernel
theorem dX0_integrateTerm_1 : decode cX0_integrateTerm 1 = .ok (.iload 4, 2) := by decide +kernel
theorem dX0_integrateTerm_3 : decode cX0_integrateTerm 3 = .ok (.invokestatic 138, 3) := by decide +kernel
theorem dX0_integrateTerm_6 : decode cX0_integrateTerm 6 = .ok (.istore 6, 2) := by decide +kernel
theorem dX0_integrateTerm_8 : decode cX0_integrateTerm 8 = .ok (.iload 6, 2) := by decide +kernel
theorem dX0_integrateTerm_10 : decode cX0_integrateTerm 10 = .ok (.ifCond .lt 19, 3) := by decide +kernel
theorem dX0_integrateTerm_13 : decode cX0_integrateTerm 13 = .ok (.aload_n 0, 1) := by decide +kernel
theorem dX0_integrateTerm_14 : decode cX0_integrateTerm 14 = .ok (.getfield 22, 3) := by decide +kernel
theorem dX0_integrateTerm_17 : decode cX0_integrateTerm 17 = .ok (.iload 6, 2) := by decide +kernel
theorem dX0_integrateTerm_19 : decode cX0_integrateTerm 19 = .ok (.lload_n 1, 1) := by decide +kernel
theorem dX0_integrateTerm_20 : decode cX0_integrateTerm 20 = .ok (.iload 5, 2) := by decide +kernel
theorem dX0_integrateTerm_22 : decode cX0_integrateTerm 22 = .ok (.i2l, 1) := by decide +kernel
theorem dX0_integrateTerm_23 : decode cX0_integrateTerm 23 = .ok (.invokevirtual 94, 3) := by decide +kernel
theorem dX0_integrateTerm_26 : decode cX0_integrateTerm 26 = .ok (.goto 65, 3) := by decide +kernel
theorem dX0_integrateTerm_29 : decode cX0_integrateTerm 29 = .ok (.iload 5, 2) := by decide +kernel
theorem dX0_integrateTerm_31 : decode cX0_integrateTerm 31 = .ok (.ifCond .le 60, 3) := by decide +kernel
theorem dX0_integrateTerm_34 : decode cX0_integrateTerm 34 = .ok (.iload_n 3, 1) := by decide +kernel
theorem dX0_integrateTerm_35 : decode cX0_integrateTerm 35 = .ok (.iload 4, 2) := by decide +kernel
theorem dX0_integrateTerm_37 : decode cX0_integrateTerm 37 = .ok (.invokestatic 60, 3) := by decide +kernel
theorem dX0_integrateTerm_40 : decode cX0_integrateTerm 40 = .ok (.istore 7, 2) := by decide +kernel
theorem dX0_integrateTerm_42 : decode cX0_integrateTerm 42 = .ok (.aload_n 0, 1) := by decide +kernel
theorem dX0_integrateTerm_43 : decode cX0_integrateTerm 43 = .ok (.getfield 22, 3) := by decide +kernel
theorem dX0_integrateTerm_46 : decode cX0_integrateTerm 46 = .ok (.dup, 1) := by decide +kernel
theorem dX0_integrateTerm_47 : decode cX0_integrateTerm 47 = .ok (.getfield 37, 3) := by decide +kernel
theorem dX0_integrateTerm_50 : decode cX0_integrateTerm 50 = .ok (.lload_n 1, 1) := by decide +kernel
theorem dX0_integrateTerm_51 : decode cX0_integrateTerm 51 = .ok (.iload 7, 2) := by decide +kernel
theorem dX0_integrateTerm_53 : decode cX0_integrateTerm 53 = .ok (.invokestatic 63, 3) := by decide +kernel
theorem dX0_integrateTerm_56 : decode cX0_integrateTerm 56 = .ok (.iload 5, 2) := by decide +kernel
theorem dX0_integrateTerm_58 : decode cX0_integrateTerm 58 = .ok (.i2l, 1) := by decide +kernel
theorem dX0_integrateTerm_59 : decode cX0_integrateTerm 59 = .ok (.invokestatic 83, 3) := by decide +kernel
theorem dX0_integrateTerm_62 : decode cX0_integrateTerm 62 = .ok (.ladd, 1) := by decide +kernel
theorem dX0_integrateTerm_63 : decode cX0_integrateTerm 63 = .ok (.putfield 37, 3) := by decide +kernel
theorem dX0_integrateTerm_66 : decode cX0_integrateTerm 66 = .ok (.aload_n 0, 1) := by decide +kernel
theorem dX0_integrateTerm_67 : decode cX0_integrateTerm 67 = .ok (.getfield 22, 3) := by decide +kernel
theorem dX0_integrateTerm_70 : decode cX0_integrateTerm 70 = .ok (.dup, 1) := by decide +kernel
theorem dX0_integrateTerm_71 : decode cX0_integrateTerm 71 = .ok (.getfield 41, 3) := by decide +kernel
theorem dX0_integrateTerm_74 : decode cX0_integrateTerm 74 = .ok (.lload_n 1, 1) := by decide +kernel
theorem dX0_integrateTerm_75 : decode cX0_integrateTerm 75 = .ok (.iload 7, 2) := by decide +kernel
theorem dX0_integrateTerm_77 : decode cX0_integrateTerm 77 = .ok (.invokestatic 67, 3) := by decide +kernel
theorem dX0_integrateTerm_80 : decode cX0_integrateTerm 80 = .ok (.lneg, 1) := by decide +kernel
theorem dX0_integrateTerm_81 : decode cX0_integrateTerm 81 = .ok (.iload 5, 2) := by decide +kernel
theorem dX0_integrateTerm_83 : decode cX0_integrateTerm 83 = .ok (.i2l, 1) := by decide +kernel
theorem dX0_integrateTerm_84 : decode cX0_integrateTerm 84 = .ok (.invokestatic 83, 3) := by decide +kernel
theorem dX0_integrateTerm_87 : decode cX0_integrateTerm 87 = .ok (.lsub, 1) := by decide +kernel
theorem dX0_integrateTerm_88 : decode cX0_integrateTerm 88 = .ok (.putfield 41, 3) := by decide +kernel
theorem dX0_integrateTerm_91 : decode cX0_integrateTerm 91 = .ok (.return_, 1) := by decide +kernel
theorem dX0_moveModels_0 : decode cX0_moveModels 0 = .ok (.aload_n 0, 1) := by decide +kernel
theorem dX0_moveModels_1 : decode cX0_moveModels 1 = .ok (.getfield 25, 3) := by decide +kernel
theorem dX0_moveModels_4 : decode cX0_moveModels 4 = .ok (.lload 5, 2) := by decide +kernel
theorem dX0_moveModels_6 : decode cX0_moveModels 6 = .ok (.invokevirtual 112, 3) := by decide +kernel
theorem dX0_moveModels_9 : decode cX0_moveModels 9 = .ok (.aload_n 0, 1) := by decide +kernel
theorem dX0_moveModels_10 : decode cX0_moveModels 10 = .ok (.aload_n 0, 1) := by decide +kernel
theorem dX0_moveModels_11 : decode cX0_moveModels 11 = .ok (.getfield 28, 3) := by decide +kernel
theorem dX0_moveModels_14 : decode cX0_moveModels 14 = .ok (.aload_n 3, 1) := by decide +kernel
theorem dX0_moveModels_15 : decode cX0_moveModels 15 = .ok (.aload_n 1, 1) := by decide +kernel
theorem dX0_moveModels_16 : decode cX0_moveModels 16 = .ok (.aload_n 2, 1) := by decide +kernel
theorem dX0_moveModels_17 : decode cX0_moveModels 17 = .ok (.invokevirtual 141, 3) := by decide +kernel
theorem dX0_moveModels_20 : decode cX0_moveModels 20 = .ok (.ifCond .eq 18, 3) := by decide +kernel
theorem dX0_moveModels_23 : decode cX0_moveModels 23 = .ok (.aload_n 0, 1) := by decide +kernel
theorem dX0_moveModels_24 : decode cX0_moveModels 24 = .ok (.aload_n 0, 1) := by decide +kernel
theorem dX0_moveModels_25 : decode cX0_moveModels 25 = .ok (.getfield 31, 3) := by decide +kernel
theorem dX0_moveModels_28 : decode cX0_moveModels 28 = .ok (.aload 4, 2) := by decide +kernel
theorem dX0_moveModels_30 : decode cX0_moveModels 30 = .ok (.aload_n 1, 1) := by decide +kernel
theorem dX0_moveModels_31 : decode cX0_moveModels 31 = .ok (.aload_n 2, 1) := by decide +kernel
theorem dX0_moveModels_32 : decode cX0_moveModels 32 = .ok (.invokevirtual 141, 3) := by decide +kernel
theorem dX0_moveModels_35 : decode cX0_moveModels 35 = .ok (.ifCond .ne 5, 3) := by decide +kernel
theorem dX0_moveModels_38 : decode cX0_moveModels 38 = .ok (.iconst 0, 1) := by decide +kernel
theorem dX0_moveModels_39 : decode cX0_moveModels 39 = .ok (.ireturn, 1) := by decide +kernel
theorem dX0_moveModels_40 : decode cX0_moveModels 40 = .ok (.aload_n 0, 1) := by decide +kernel
theorem dX0_moveModels_41 : decode cX0_moveModels 41 = .ok (.aload_n 0, 1) := by decide +kernel
theorem dX0_moveModels_42 : decode cX0_moveModels 42 = .ok (.getfield 28, 3) := by decide +kernel
theorem dX0_moveModels_45 : decode cX0_moveModels 45 = .ok (.aload_n 0, 1) := by decide +kernel
theorem dX0_moveModels_46 : decode cX0_moveModels 46 = .ok (.getfield 25, 3) := by decide +kernel
theorem dX0_moveModels_49 : decode cX0_moveModels 49 = .ok (.aload_n 0, 1) := by decide +kernel
theorem dX0_moveModels_50 : decode cX0_moveModels 50 = .ok (.getfield 28, 3) := by decide +kernel
theorem dX0_moveModels_53 : decode cX0_moveModels 53 = .ok (.invokevirtual 116, 3) := by decide +kernel
theorem dX0_moveModels_56 : decode cX0_moveModels 56 = .ok (.ifCond .eq 22, 3) := by decide +kernel
theorem dX0_moveModels_59 : decode cX0_moveModels 59 = .ok (.aload_n 0, 1) := by decide +kernel
theorem dX0_moveModels_60 : decode cX0_moveModels 60 = .ok (.aload_n 0, 1) := by decide +kernel
theorem dX0_moveModels_61 : decode cX0_moveModels 61 = .ok (.getfield 31, 3) := by decide +kernel
theorem dX0_moveModels_64 : decode cX0_moveModels 64 = .ok (.aload_n 0, 1) := by decide +kernel
theorem dX0_moveModels_65 : decode cX0_moveModels 65 = .ok (.getfield 25, 3) := by decide +kernel
theorem dX0_moveModels_68 : decode cX0_moveModels 68 = .ok (.aload_n 0, 1) := by decide +kernel
theorem dX0_moveModels_69 : decode cX0_moveModels 69 = .ok (.getfield 31, 3) := by decide +kernel
theorem dX0_moveModels_72 : decode cX0_moveModels 72 = .ok (.invokevirtual 116, 3) := by decide +kernel
theorem dX0_moveModels_75 : decode cX0_moveModels 75 = .ok (.ifCond .ne 5, 3) := by decide +kernel
theorem dX0_moveModels_78 : decode cX0_moveModels 78 = .ok (.iconst 0, 1) := by decide +kernel
theorem dX0_moveModels_79 : decode cX0_moveModels 79 = .ok (.ireturn, 1) := by decide +kernel
theorem dX0_moveModels_80 : decode cX0_moveModels 80 = .ok (.aload_n 0, 1) := by decide +kernel
theorem dX0_moveModels_81 : decode cX0_moveModels 81 = .ok (.aload_n 0, 1) := by decide +kernel
theorem dX0_moveModels_82 : decode cX0_moveModels 82 = .ok (.getfield 28, 3) := by decide +kernel
theorem dX0_moveModels_85 : decode cX0_moveModels 85 = .ok (.aload_n 1, 1) := by decide +kernel
theorem dX0_moveModels_86 : decode cX0_moveModels 86 = .ok (.aload_n 0, 1) := by decide +kernel
theorem dX0_moveModels_87 : decode cX0_moveModels 87 = .ok (.getfield 28, 3) := by decide +kernel
theorem dX0_moveModels_90 : decode cX0_moveModels 90 = .ok (.invokevirtual 120, 3) := by decide +kernel
theorem dX0_moveModels_93 : decode cX0_moveModels 93 = .ok (.ifCond .eq 19, 3) := by decide +kernel
theorem dX0_moveModels_96 : decode cX0_moveModels 96 = .ok (.aload_n 0, 1) := by decide +kernel
theorem dX0_moveModels_97 : decode cX0_moveModels 97 = .ok (.aload_n 0, 1) := by decide +kernel
theorem dX0_moveModels_98 : decode cX0_moveModels 98 = .ok (.getfield 31, 3) := by decide +kernel
theorem dX0_moveModels_101 : decode cX0_moveModels 101 = .ok (.aload_n 2, 1) := by decide +kernel
theorem dX0_moveModels_102 : decode cX0_moveModels 102 = .ok (.aload_n 0, 1) := by decide +kernel
theorem dX0_moveModels_103 : decode cX0_moveModels 103 = .ok (.getfield 31, 3) := by decide +kernel
theorem dX0_moveModels_106 : decode cX0_moveModels 106 = .ok (.invokevirtual 120, 3) := by decide +kernel
theorem dX0_moveModels_109 : decode cX0_moveModels 109 = .ok (.ifCond .ne 5, 3) := by decide +kernel
theorem dX0_moveModels_112 : decode cX0_moveModels 112 = .ok (.iconst 0, 1) := by decide +kernel
theorem dX0_moveModels_113 : decode cX0_moveModels 113 = .ok (.ireturn, 1) := by decide +kernel
theorem dX0_moveModels_114 : decode cX0_moveModels 114 = .ok (.aload_n 1, 1) := by decide +kernel
theorem dX0_moveModels_115 : decode cX0_moveModels 115 = .ok (.aload_n 0, 1) := by decide +kernel
theorem dX0_moveModels_116 : decode cX0_moveModels 116 = .ok (.getfield 28, 3) := by decide +kernel
theorem dX0_moveModels_119 : decode cX0_moveModels 119 = .ok (.invokevirtual 123, 3) := by decide +kernel
theorem dX0_moveModels_122 : decode cX0_moveModels 122 = .ok (.aload_n 2, 1) := by decide +kernel
theorem dX0_moveModels_123 : decode cX0_moveModels 123 = .ok (.aload_n 0, 1) := by decide +kernel
theorem dX0_moveModels_124 : decode cX0_moveModels 124 = .ok (.getfield 31, 3) := by decide +kernel
theorem dX0_moveModels_127 : decode cX0_moveModels 127 = .ok (.invokevirtual 123, 3) := by decide +kernel
theorem dX0_moveModels_130 : decode cX0_moveModels 130 = .ok (.iconst 1, 1) := by decide +kernel
theorem dX0_moveModels_131 : decode cX0_moveModels 131 = .ok (.ireturn, 1) := by decide +kernel
theorem dX1_init_0 : decode cX1_init 0 = .ok (.aload_n 0, 1) := by decide +kernel
theorem dX1_init_1 : decode cX1_init 1 = .ok (.invokespecial 3, 3) := by decide +kernel
theorem dX1_init_4 : decode cX1_init 4 = .ok (.aload_n 0, 1) := by decide +kernel
theorem dX1_init_5 : decode cX1_init 5 = .ok (.bipush 8, 2) := by decide +kernel
theorem dX1_init_7 : decode cX1_init 7 = .ok (.anewarray 9, 3) := by decide +kernel
theorem dX1_init_10 : decode cX1_init 10 = .ok (.putfield 11, 3) := by decide +kernel
theorem dX1_init_13 : decode cX1_init 13 = .ok (.iconst 0, 1) := by decide +kernel
theorem dX1_init_14 : decode cX1_init 14 = .ok (.istore_n 1, 1) := by decide +kernel
theorem dX1_init_15 : decode cX1_init 15 = .ok (.iload_n 1, 1) := by decide +kernel
theorem dX1_init_16 : decode cX1_init 16 = .ok (.bipush 8, 2) := by decide +kernel
theorem dX1_init_18 : decode cX1_init 18 = .ok (.if_icmp .ge 22, 3) := by decide +kernel
theorem dX1_init_21 : decode cX1_init 21 = .ok (.aload_n 0, 1) := by decide +kernel
theorem dX1_init_22 : decode cX1_init 22 = .ok (.getfield 11, 3) := by decide +kernel
theorem dX1_init_25 : decode cX1_init 25 = .ok (.iload_n 1, 1) := by decide +kernel
theorem dX1_init_26 : decode cX1_init 26 = .ok (.new 9, 3) := by decide +kernel
theorem dX1_init_29 : decode cX1_init 29 = .ok (.dup, 1) := by decide +kernel
theorem dX1_init_30 : decode cX1_init 30 = .ok (.invokespecial 17, 3) := by decide +kernel
theorem dX1_init_33 : decode cX1_init 33 = .ok (.aastore, 1) := by decide +kernel
theorem dX1_init_34 : decode cX1_init 34 = .ok (.iinc 1 1, 3) := by decide +kernel
theorem dX1_init_37 : decode cX1_init 37 = .ok (.goto (-22), 3) := by decide +kernel
theorem dX1_init_40 : decode cX1_init 40 = .ok (.return_, 1) := by decide +kernel
theorem dX1_remember_0 : decode cX1_remember 0 = .ok (.aload_n 0, 1) := by decide +kernel
theorem dX1_remember_1 : decode cX1_remember 1 = .ok (.getfield 18, 3) := by decide +kernel
theorem dX1_remember_4 : decode cX1_remember 4 = .ok (.ifCond .lt 12, 3) := by decide +kernel
theorem dX1_remember_7 : decode cX1_remember 7 = .ok (.aload_n 0, 1) := by decide +kernel
theorem dX1_remember_8 : decode cX1_remember 8 = .ok (.getfield 18, 3) := by decide +kernel
theorem dX1_remember_11 : decode cX1_remember 11 = .ok (.bipush 8, 2) := by decide +kernel
theorem dX1_remember_13 : decode cX1_remember 13 = .ok (.if_icmp .lt 8, 3) := by decide +kernel
theorem dX1_remember_16 : decode cX1_remember 16 = .ok (.aload_n 0, 1) := by decide +kernel
theorem dX1_remember_17 : decode cX1_remember 17 = .ok (.iconst 0, 1) := by decide +kernel
theorem dX1_remember_18 : decode cX1_remember 18 = .ok (.putfield 18, 3) := by decide +kernel
theorem dX1_remember_21 : decode cX1_remember 21 = .ok (.aload_n 0, 1) := by decide +kernel
theorem dX1_remember_22 : decode cX1_remember 22 = .ok (.getfield 11, 3) := by decide +kernel
theorem dX1_remember_25 : decode cX1_remember 25 = .ok (.aload_n 0, 1) := by decide +kernel
theorem dX1_remember_26 : decode cX1_remember 26 = .ok (.getfield 18, 3) := by decide +kernel
theorem dX1_remember_29 : decode cX1_remember 29 = .ok (.aaload, 1) := by decide +kernel
theorem dX1_remember_30 : decode cX1_remember 30 = .ok (.aload_n 1, 1) := by decide +kernel
theorem dX1_remember_31 : decode cX1_remember 31 = .ok (.invokevirtual 22, 3) := by decide +kernel
theorem dX1_remember_34 : decode cX1_remember 34 = .ok (.aload_n 0, 1) := by decide +kernel
theorem dX1_remember_35 : decode cX1_remember 35 = .ok (.aload_n 0, 1) := by decide +kernel
theorem dX1_remember_36 : decode cX1_remember 36 = .ok (.getfield 18, 3) := by decide +kernel
theorem dX1_remember_39 : decode cX1_remember 39 = .ok (.iconst 1, 1) := by decide +kernel
theorem dX1_remember_40 : decode cX1_remember 40 = .ok (.iadd, 1) := by decide +kernel
theorem dX1_remember_41 : decode cX1_remember 41 = .ok (.bipush 8, 2) := by decide +kernel
theorem dX1_remember_43 : decode cX1_remember 43 = .ok (.if_icmp .ne 7, 3) := by decide +kernel
theorem dX1_remember_46 : decode cX1_remember 46 = .ok (.iconst 0, 1) := by decide +kernel
theorem dX1_remember_47 : decode cX1_remember 47 = .ok (.goto 9, 3) := by decide +kernel
theorem dX1_remember_50 : decode cX1_remember 50 = .ok (.aload_n 0, 1) := by decide +kernel
theorem dX1_remember_51 : decode cX1_remember 51 = .ok (.getfield 18, 3) := by decide +kernel
theorem dX1_remember_54 : decode cX1_remember 54 = .ok (.iconst 1, 1) := by decide +kernel
theorem dX1_remember_55 : decode cX1_remember 55 = .ok (.iadd, 1) := by decide +kernel
theorem dX1_remember_56 : decode cX1_remember 56 = .ok (.putfield 18, 3) := by decide +kernel
theorem dX1_remember_59 : decode cX1_remember 59 = .ok (.aload_n 0, 1) := by decide +kernel
theorem dX1_remember_60 : decode cX1_remember 60 = .ok (.aload_n 0, 1) := by decide +kernel
theorem dX1_remember_61 : decode cX1_remember 61 = .ok (.getfield 26, 3) := by decide +kernel
theorem dX1_remember_64 : decode cX1_remember 64 = .ok (.iconst 1, 1) := by decide +kernel
theorem dX1_remember_65 : decode cX1_remember 65 = .ok (.iadd, 1) := by decide +kernel
theorem dX1_remember_66 : decode cX1_remember 66 = .ok (.bipush 8, 2) := by decide +kernel
theorem dX1_remember_68 : decode cX1_remember 68 = .ok (.invokestatic 29, 3) := by decide +kernel
theorem dX1_remember_71 : decode cX1_remember 71 = .ok (.putfield 26, 3) := by decide +kernel
theorem dX1_remember_74 : decode cX1_remember 74 = .ok (.return_, 1) := by decide +kernel
theorem dX1_restore_0 : decode cX1_restore 0 = .ok (.aload_n 0, 1) := by decide +kernel
theorem dX1_restore_1 : decode cX1_restore 1 = .ok (.getfield 26, 3) := by decide +kernel
theorem dX1_restore_4 : decode cX1_restore 4 = .ok (.ifCond .ne 5, 3) := by decide +kernel
theorem dX1_restore_7 : decode cX1_restore 7 = .ok (.iconst 0, 1) := by decide +kernel
theorem dX1_restore_8 : decode cX1_restore 8 = .ok (.ireturn, 1) := by decide +kernel
theorem dX1_restore_9 : decode cX1_restore 9 = .ok (.aload_n 0, 1) := by decide +kernel
theorem dX1_restore_10 : decode cX1_restore 10 = .ok (.getfield 18, 3) := by decide +kernel
theorem dX1_restore_13 : decode cX1_restore 13 = .ok (.ifCond .ne 8, 3) := by decide +kernel
theorem dX1_restore_16 : decode cX1_restore 16 = .ok (.bipush 7, 2) := by decide +kernel
theorem dX1_restore_18 : decode cX1_restore 18 = .ok (.goto 9, 3) := by decide +kernel
theorem dX1_restore_21 : decode cX1_restore 21 = .ok (.aload_n 0, 1) := by decide +kernel
theorem dX1_restore_22 : decode cX1_restore 22 = .ok (.getfield 18, 3) := by decide +kernel
theorem dX1_restore_25 : decode cX1_restore 25 = .ok (.iconst 1, 1) := by decide +kernel
theorem dX1_restore_26 : decode cX1_restore 26 = .ok (.isub, 1) := by decide +kernel
theorem dX1_restore_27 : decode cX1_restore 27 = .ok (.istore_n 2, 1) := by decide +kernel
theorem dX1_restore_28 : decode cX1_restore 28 = .ok (.iload_n 2, 1) := by decide +kernel
theorem dX1_restore_29 : decode cX1_restore 29 = .ok (.ifCond .lt 9, 3) := by decide +kernel
theorem dX1_restore_32 : decode cX1_restore 32 = .ok (.iload_n 2, 1) := by decide +kernel
theorem dX1_restore_33 : decode cX1_restore 33 = .ok (.bipush 8, 2) := by decide +kernel
theorem dX1_restore_35 : decode cX1_restore 35 = .ok (.if_icmp .lt 5, 3) := by decide +kernel
theorem dX1_restore_38 : decode cX1_restore 38 = .ok (.iconst 0, 1) := by decide +kernel
theorem dX1_restore_39 : decode cX1_restore 39 = .ok (.ireturn, 1) := by decide +kernel
theorem dX1_restore_40 : decode cX1_restore 40 = .ok (.aload_n 1, 1) := by decide +kernel
theorem dX1_restore_41 : decode cX1_restore 41 = .ok (.aload_n 0, 1) := by decide +kernel
theorem dX1_restore_42 : decode cX1_restore 42 = .ok (.getfield 11, 3) := by decide +kernel
theorem dX1_restore_45 : decode cX1_restore 45 = .ok (.iload_n 2, 1) := by decide +kernel
theorem dX1_restore_46 : decode cX1_restore 46 = .ok (.aaload, 1) := by decide +kernel
theorem dX1_restore_47 : decode cX1_restore 47 = .ok (.invokevirtual 22, 3) := by decide +kernel
theorem dX1_restore_50 : decode cX1_restore 50 = .ok (.aload_n 0, 1) := by decide +kernel
theorem dX1_restore_51 : decode cX1_restore 51 = .ok (.iload_n 2, 1) := by decide +kernel
theorem dX1_restore_52 : decode cX1_restore 52 = .ok (.putfield 18, 3) := by decide +kernel
theorem dX1_restore_55 : decode cX1_restore 55 = .ok (.aload_n 0, 1) := by decide +kernel
theorem dX1_restore_56 : decode cX1_restore 56 = .ok (.dup, 1) := by decide +kernel
theorem dX1_restore_57 : decode cX1_restore 57 = .ok (.getfield 26, 3) := by decide +kernel
theorem dX1_restore_60 : decode cX1_restore 60 = .ok (.iconst 1, 1) := by decide +kernel
theorem dX1_restore_61 : decode cX1_restore 61 = .ok (.isub, 1) := by decide +kernel
theorem dX1_restore_62 : decode cX1_restore 62 = .ok (.putfield 26, 3) := by decide +kernel
theorem dX1_restore_65 : decode cX1_restore 65 = .ok (.iconst 1, 1) := by decide +kernel
theorem dX1_restore_66 : decode cX1_restore 66 = .ok (.ireturn, 1) := by decide +kernel
theorem dX2_init_0 : decode cX2_init 0 = .ok (.aload_n 0, 1) := by decide +kernel
theorem dX2_init_1 : decode cX2_init 1 = .ok (.invokespecial 3, 3) := by decide +kernel
theorem dX2_init_4 : decode cX2_init 4 = .ok (.aload_n 0, 1) := by decide +kernel
theorem dX2_init_5 : decode cX2_init 5 = .ok (.bipush 10, 2) := by decide +kernel
theorem dX2_init_7 : decode cX2_init 7 = .ok (.newarray .long, 2) := by decide +kernel
theorem dX2_init_9 : decode cX2_init 9 = .ok (.putfield 9, 3) := by decide +kernel
theorem dX2_init_12 : decode cX2_init 12 = .ok (.return_, 1) := by decide +kernel
theorem dX2_becomeConstant_0 : decode cX2_becomeConstant 0 = .ok (.aload_n 0, 1) := by decide +kernel
theorem dX2_becomeConstant_1 : decode cX2_becomeConstant 1 = .ok (.getfield 9, 3) := by decide +kernel
theorem dX2_becomeConstant_4 : decode cX2_becomeConstant 4 = .ok (.lconst 0, 1) := by decide +kernel
theorem dX2_becomeConstant_5 : decode cX2_becomeConstant 5 = .ok (.invokestatic 15, 3) := by decide +kernel
theorem dX2_becomeConstant_8 : decode cX2_becomeConstant 8 = .ok (.aload_n 0, 1) := by decide +kernel
theorem dX2_becomeConstant_9 : decode cX2_becomeConstant 9 = .ok (.getfield 9, 3) := by decide +kernel
theorem dX2_becomeConstant_12 : decode cX2_becomeConstant 12 = .ok (.iconst 0, 1) := by decide +kernel
theorem dX2_becomeConstant_13 : decode cX2_becomeConstant 13 = .ok (.lload_n 1, 1) := by decide +kernel
theorem dX2_becomeConstant_14 : decode cX2_becomeConstant 14 = .ok (.lastore, 1) := by decide +kernel
theorem dX2_becomeConstant_15 : decode cX2_becomeConstant 15 = .ok (.aload_n 0, 1) := by decide +kernel
theorem dX2_becomeConstant_16 : decode cX2_becomeConstant 16 = .ok (.lconst 0, 1) := by decide +kernel
theorem dX2_becomeConstant_17 : decode cX2_becomeConstant 17 = .ok (.putfield 21, 3) := by decide +kernel
theorem dX2_becomeConstant_20 : decode cX2_becomeConstant 20 = .ok (.aload_n 0, 1) := by decide +kernel
theorem dX2_becomeConstant_21 : decode cX2_becomeConstant 21 = .ok (.lconst 0, 1) := by decide +kernel
theorem dX2_becomeConstant_22 : decode cX2_becomeConstant 22 = .ok (.putfield 25, 3) := by decide +kernel
theorem dX2_becomeConstant_25 : decode cX2_becomeConstant 25 = .ok (.return_, 1) := by decide +kernel
theorem dX2_becomeVariable_0 : decode cX2_becomeVariable 0 = .ok (.aload_n 0, 1) := by decide +kernel
theorem dX2_becomeVariable_1 : decode cX2_becomeVariable 1 = .ok (.lconst 0, 1) := by decide +kernel
theorem dX2_becomeVariable_2 : decode cX2_becomeVariable 2 = .ok (.invokevirtual 28, 3) := by decide +kernel
theorem dX2_becomeVariable_5 : decode cX2_becomeVariable 5 = .ok (.aload_n 0, 1) := by decide +kernel
theorem dX2_becomeVariable_6 : decode cX2_becomeVariable 6 = .ok (.iload_n 1, 1) := by decide +kernel
theorem dX2_becomeVariable_7 : decode cX2_becomeVariable 7 = .ok (.ldc2_w 32, 3) := by decide +kernel
theorem dX2_becomeVariable_10 : decode cX2_becomeVariable 10 = .ok (.invokevirtual 34, 3) := by decide +kernel
theorem dX2_becomeVariable_13 : decode cX2_becomeVariable 13 = .ok (.return_, 1) := by decide +kernel
theorem dX2_copyFrom_0 : decode cX2_copyFrom 0 = .ok (.aload_n 1, 1) := by decide +kernel
theorem dX2_copyFrom_1 : decode cX2_copyFrom 1 = .ok (.getfield 9, 3) := by decide +kernel
theorem dX2_copyFrom_4 : decode cX2_copyFrom 4 = .ok (.iconst 0, 1) := by decide +kernel
theorem dX2_copyFrom_5 : decode cX2_copyFrom 5 = .ok (.aload_n 0, 1) := by decide +kernel
theorem dX2_copyFrom_6 : decode cX2_copyFrom 6 = .ok (.getfield 9, 3) := by decide +kernel
theorem dX2_copyFrom_9 : decode cX2_copyFrom 9 = .ok (.iconst 0, 1) := by decide +kernel
theorem dX2_copyFrom_10 : decode cX2_copyFrom 10 = .ok (.bipush 10, 2) := by decide +kernel
theorem dX2_copyFrom_12 : decode cX2_copyFrom 12 = .ok (.invokestatic 38, 3) := by decide +kernel
theorem dX2_copyFrom_15 : decode cX2_copyFrom 15 = .ok (.aload_n 0, 1) := by decide +kernel
theorem dX2_copyFrom_16 : decode cX2_copyFrom 16 = .ok (.aload_n 1, 1) := by decide +kernel
theorem dX2_copyFrom_17 : decode cX2_copyFrom 17 = .ok (.getfield 21, 3) := by decide +kernel
theorem dX2_copyFrom_20 : decode cX2_copyFrom 20 = .ok (.putfield 21, 3) := by decide +kernel
theorem dX2_copyFrom_23 : decode cX2_copyFrom 23 = .ok (.aload_n 0, 1) := by decide +kernel
theorem dX2_copyFrom_24 : decode cX2_copyFrom 24 = .ok (.aload_n 1, 1) := by decide +kernel
theorem dX2_copyFrom_25 : decode cX2_copyFrom 25 = .ok (.getfield 25, 3) := by decide +kernel
theorem dX2_copyFrom_28 : decode cX2_copyFrom 28 = .ok (.putfield 25, 3) := by decide +kernel
theorem dX2_copyFrom_31 : decode cX2_copyFrom 31 = .ok (.return_, 1) := by decide +kernel
theorem dX2_coefficientAt_0 : decode cX2_coefficientAt 0 = .ok (.iload_n 1, 1) := by decide +kernel
theorem dX2_coefficientAt_1 : decode cX2_coefficientAt 1 = .ok (.ifCond .lt 18, 3) := by decide +kernel
theorem dX2_coefficientAt_4 : decode cX2_coefficientAt 4 = .ok (.iload_n 1, 1) := by decide +kernel
theorem dX2_coefficientAt_5 : decode cX2_coefficientAt 5 = .ok (.bipush 10, 2) := by decide +kernel
theorem dX2_coefficientAt_7 : decode cX2_coefficientAt 7 = .ok (.if_icmp .ge 12, 3) := by decide +kernel
theorem dX2_coefficientAt_10 : decode cX2_coefficientAt 10 = .ok (.aload_n 0, 1) := by decide +kernel
theorem dX2_coefficientAt_11 : decode cX2_coefficientAt 11 = .ok (.getfield 9, 3) := by decide +kernel
theorem dX2_coefficientAt_14 : decode cX2_coefficientAt 14 = .ok (.iload_n 1, 1) := by decide +kernel
theorem dX2_coefficientAt_15 : decode cX2_coefficientAt 15 = .ok (.laload, 1) := by decide +kernel
theorem dX2_coefficientAt_16 : decode cX2_coefficientAt 16 = .ok (.goto 4, 3) := by decide +kernel
theorem dX2_coefficientAt_19 : decode cX2_coefficientAt 19 = .ok (.lconst 0, 1) := by decide +kernel
theorem dX2_coefficientAt_20 : decode cX2_coefficientAt 20 = .ok (.lreturn, 1) := by decide +kernel
theorem dX2_setCoefficientAt_0 : decode cX2_setCoefficientAt 0 = .ok (.iload_n 1, 1) := by decide +kernel
theorem dX2_setCoefficientAt_1 : decode cX2_setCoefficientAt 1 = .ok (.ifCond .lt 16, 3) := by decide +kernel
theorem dX2_setCoefficientAt_4 : decode cX2_setCoefficientAt 4 = .ok (.iload_n 1, 1) := by decide +kernel
theorem dX2_setCoefficientAt_5 : decode cX2_setCoefficientAt 5 = .ok (.bipush 10, 2) := by decide +kernel
theorem dX2_setCoefficientAt_7 : decode cX2_setCoefficientAt 7 = .ok (.if_icmp .ge 10, 3) := by decide +kernel
theorem dX2_setCoefficientAt_10 : decode cX2_setCoefficientAt 10 = .ok (.aload_n 0, 1) := by decide +kernel
theorem dX2_setCoefficientAt_11 : decode cX2_setCoefficientAt 11 = .ok (.getfield 9, 3) := by decide +kernel
theorem dX2_setCoefficientAt_14 : decode cX2_setCoefficientAt 14 = .ok (.iload_n 1, 1) := by decide +kernel
theorem dX2_setCoefficientAt_15 : decode cX2_setCoefficientAt 15 = .ok (.lload_n 2, 1) := by decide +kernel
theorem dX2_setCoefficientAt_16 : decode cX2_setCoefficientAt 16 = .ok (.lastore, 1) := by decide +kernel
theorem dX2_setCoefficientAt_17 : decode cX2_setCoefficientAt 17 = .ok (.return_, 1) := by decide +kernel
theorem dX2_putQuotient_0 : decode cX2_putQuotient 0 = .ok (.iload_n 1, 1) := by decide +kernel
theorem dX2_putQuotient_1 : decode cX2_putQuotient 1 = .ok (.ifCond .lt 16, 3) := by decide +kernel
theorem dX2_putQuotient_4 : decode cX2_putQuotient 4 = .ok (.iload_n 1, 1) := by decide +kernel
theorem dX2_putQuotient_5 : decode cX2_putQuotient 5 = .ok (.bipush 10, 2) := by decide +kernel
theorem dX2_putQuotient_7 : decode cX2_putQuotient 7 = .ok (.if_icmp .ge 10, 3) := by decide +kernel
theorem dX2_putQuotient_10 : decode cX2_putQuotient 10 = .ok (.lload 4, 2) := by decide +kernel
theorem dX2_putQuotient_12 : decode cX2_putQuotient 12 = .ok (.lconst 0, 1) := by decide +kernel
theorem dX2_putQuotient_13 : decode cX2_putQuotient 13 = .ok (.lcmp, 1) := by decide +kernel
theorem dX2_putQuotient_14 : decode cX2_putQuotient 14 = .ok (.ifCond .gt 4, 3) := by decide +kernel
theorem dX2_putQuotient_17 : decode cX2_putQuotient 17 = .ok (.return_, 1) := by decide +kernel
theorem dX2_putQuotient_18 : decode cX2_putQuotient 18 = .ok (.lload_n 2, 1) := by decide +kernel
theorem dX2_putQuotient_19 : decode cX2_putQuotient 19 = .ok (.lload 4, 2) := by decide +kernel
theorem dX2_putQuotient_21 : decode cX2_putQuotient 21 = .ok (.invokestatic 44, 3) := by decide +kernel
theorem dX2_putQuotient_24 : decode cX2_putQuotient 24 = .ok (.lstore 6, 2) := by decide +kernel
theorem dX2_putQuotient_26 : decode cX2_putQuotient 26 = .ok (.aload_n 0, 1) := by decide +kernel
theorem dX2_putQuotient_27 : decode cX2_putQuotient 27 = .ok (.getfield 9, 3) := by decide +kernel
theorem dX2_putQuotient_30 : decode cX2_putQuotient 30 = .ok (.iload_n 1, 1) := by decide +kernel
theorem dX2_putQuotient_31 : decode cX2_putQuotient 31 = .ok (.lload 6, 2) := by decide +kernel
theorem dX2_putQuotient_33 : decode cX2_putQuotient 33 = .ok (.lastore, 1) := by decide +kernel
theorem dX2_putQuotient_34 : decode cX2_putQuotient 34 = .ok (.lload 6, 2) := by decide +kernel
theorem dX2_putQuotient_36 : decode cX2_putQuotient 36 = .ok (.lload 4, 2) := by decide +kernel
theorem dX2_putQuotient_38 : decode cX2_putQuotient 38 = .ok (.lmul, 1) := by decide +kernel
theorem dX2_putQuotient_39 : decode cX2_putQuotient 39 = .ok (.lload_n 2, 1) := by decide +kernel
theorem dX2_putQuotient_40 : decode cX2_putQuotient 40 = .ok (.lcmp, 1) := by decide +kernel
theorem dX2_putQuotient_41 : decode cX2_putQuotient 41 = .ok (.ifCond .eq 32, 3) := by decide +kernel
theorem dX2_putQuotient_44 : decode cX2_putQuotient 44 = .ok (.aload_n 0, 1) := by decide +kernel
theorem dX2_putQuotient_45 : decode cX2_putQuotient 45 = .ok (.dup, 1) := by decide +kernel
theorem dX2_putQuotient_46 : decode cX2_putQuotient 46 = .ok (.getfield 21, 3) := by decide +kernel
theorem dX2_putQuotient_49 : decode cX2_putQuotient 49 = .ok (.getstatic 50, 3) := by decide +kernel
theorem dX2_putQuotient_52 : decode cX2_putQuotient 52 = .ok (.iload_n 1, 1) := by decide +kernel
theorem dX2_putQuotient_53 : decode cX2_putQuotient 53 = .ok (.iaload, 1) := by decide +kernel
theorem dX2_putQuotient_54 : decode cX2_putQuotient 54 = .ok (.iconst 0, 1) := by decide +kernel
theorem dX2_putQuotient_55 : decode cX2_putQuotient 55 = .ok (.invokestatic 54, 3) := by decide +kernel
theorem dX2_putQuotient_58 : decode cX2_putQuotient 58 = .ok (.i2l, 1) := by decide +kernel
theorem dX2_putQuotient_59 : decode cX2_putQuotient 59 = .ok (.ladd, 1) := by decide +kernel
theorem dX2_putQuotient_60 : decode cX2_putQuotient 60 = .ok (.putfield 21, 3) := by decide +kernel
theorem dX2_putQuotient_63 : decode cX2_putQuotient 63 = .ok (.aload_n 0, 1) := by decide +kernel
theorem dX2_putQuotient_64 : decode cX2_putQuotient 64 = .ok (.dup, 1) := by decide +kernel
theorem dX2_putQuotient_65 : decode cX2_putQuotient 65 = .ok (.getfield 25, 3) := by decide +kernel
theorem dX2_putQuotient_68 : decode cX2_putQuotient 68 = .ok (.lconst 1, 1) := by decide +kernel
theorem dX2_putQuotient_69 : decode cX2_putQuotient 69 = .ok (.ladd, 1) := by decide +kernel
theorem dX2_putQuotient_70 : decode cX2_putQuotient 70 = .ok (.putfield 25, 3) := by decide +kernel
theorem dX2_putQuotient_73 : decode cX2_putQuotient 73 = .ok (.return_, 1) := by decide +kernel
theorem dX2_widen_0 : decode cX2_widen 0 = .ok (.aload_n 0, 1) := by decide +kernel
theorem dX2_widen_1 : decode cX2_widen 1 = .ok (.dup, 1) := by decide +kernel
theorem dX2_widen_2 : decode cX2_widen 2 = .ok (.getfield 21, 3) := by decide +kernel
theorem dX2_widen_5 : decode cX2_widen 5 = .ok (.lload_n 1, 1) := by decide +kernel
theorem dX2_widen_6 : decode cX2_widen 6 = .ok (.lsub, 1) := by decide +kernel
theorem dX2_widen_7 : decode cX2_widen 7 = .ok (.putfield 21, 3) := by decide +kernel
theorem dX2_widen_10 : decode cX2_widen 10 = .ok (.aload_n 0, 1) := by decide +kernel
theorem dX2_widen_11 : decode cX2_widen 11 = .ok (.dup, 1) := by decide +kernel
theorem dX2_widen_12 : decode cX2_widen 12 = .ok (.getfield 25, 3) := by decide +kernel
theorem dX2_widen_15 : decode cX2_widen 15 = .ok (.lload_n 1, 1) := by decide +kernel
theorem dX2_widen_16 : decode cX2_widen 16 = .ok (.ladd, 1) := by decide +kernel
theorem dX2_widen_17 : decode cX2_widen 17 = .ok (.putfield 25, 3) := by decide +kernel
theorem dX2_widen_20 : decode cX2_widen 20 = .ok (.return_, 1) := by decide +kernel
theorem dX2_width_0 : decode cX2_width 0 = .ok (.aload_n 0, 1) := by decide +kernel
theorem dX2_width_1 : decode cX2_width 1 = .ok (.getfield 25, 3) := by decide +kernel
theorem dX2_width_4 : decode cX2_width 4 = .ok (.aload_n 0, 1) := by decide +kernel
theorem dX2_width_5 : decode cX2_width 5 = .ok (.getfield 21, 3) := by decide +kernel
theorem dX2_width_8 : decode cX2_width 8 = .ok (.lsub, 1) := by decide +kernel
theorem dX2_width_9 : decode cX2_width 9 = .ok (.l2i, 1) := by decide +kernel
theorem dX2_width_10 : decode cX2_width 10 = .ok (.ireturn, 1) := by decide +kernel
theorem dX2_fits_0 : decode cX2_fits 0 = .ok (.iconst 0, 1) := by decide +kernel
theorem dX2_fits_1 : decode cX2_fits 1 = .ok (.istore_n 1, 1) := by decide +kernel
theorem dX2_fits_2 : decode cX2_fits 2 = .ok (.iload_n 1, 1) := by decide +kernel
theorem dX2_fits_3 : decode cX2_fits 3 = .ok (.bipush 10, 2) := by decide +kernel
theorem dX2_fits_5 : decode cX2_fits 5 = .ok (.if_icmp .ge 37, 3) := by decide +kernel
theorem dX2_fits_8 : decode cX2_fits 8 = .ok (.aload_n 0, 1) := by decide +kernel
theorem dX2_fits_9 : decode cX2_fits 9 = .ok (.getfield 9, 3) := by decide +kernel
theorem dX2_fits_12 : decode cX2_fits 12 = .ok (.iload_n 1, 1) := by decide +kernel
theorem dX2_fits_13 : decode cX2_fits 13 = .ok (.laload, 1) := by decide +kernel
theorem dX2_fits_14 : decode cX2_fits 14 = .ok (.ldc2_w 58, 3) := by decide +kernel
theorem dX2_fits_17 : decode cX2_fits 17 = .ok (.lcmp, 1) := by decide +kernel
theorem dX2_fits_18 : decode cX2_fits 18 = .ok (.ifCond .lt 16, 3) := by decide +kernel
theorem dX2_fits_21 : decode cX2_fits 21 = .ok (.aload_n 0, 1) := by decide +kernel
theorem dX2_fits_22 : decode cX2_fits 22 = .ok (.getfield 9, 3) := by decide +kernel
theorem dX2_fits_25 : decode cX2_fits 25 = .ok (.iload_n 1, 1) := by decide +kernel
theorem dX2_fits_26 : decode cX2_fits 26 = .ok (.laload, 1) := by decide +kernel
theorem dX2_fits_27 : decode cX2_fits 27 = .ok (.ldc2_w 60, 3) := by decide +kernel
theorem dX2_fits_30 : decode cX2_fits 30 = .ok (.lcmp, 1) := by decide +kernel
theorem dX2_fits_31 : decode cX2_fits 31 = .ok (.ifCond .le 5, 3) := by decide +kernel
theorem dX2_fits_34 : decode cX2_fits 34 = .ok (.iconst 0, 1) := by decide +kernel
theorem dX2_fits_35 : decode cX2_fits 35 = .ok (.ireturn, 1) := by decide +kernel
theorem dX2_fits_36 : decode cX2_fits 36 = .ok (.iinc 1 1, 3) := by decide +kernel
theorem dX2_fits_39 : decode cX2_fits 39 = .ok (.goto (-37), 3) := by decide +kernel
theorem dX2_fits_42 : decode cX2_fits 42 = .ok (.aload_n 0, 1) := by decide +kernel
theorem dX2_fits_43 : decode cX2_fits 43 = .ok (.getfield 21, 3) := by decide +kernel
theorem dX2_fits_46 : decode cX2_fits 46 = .ok (.ldc2_w 58, 3) := by decide +kernel
theorem dX2_fits_49 : decode cX2_fits 49 = .ok (.lcmp, 1) := by decide +kernel
theorem dX2_fits_50 : decode cX2_fits 50 = .ok (.ifCond .lt 40, 3) := by decide +kernel
theorem dX2_fits_53 : decode cX2_fits 53 = .ok (.aload_n 0, 1) := by decide +kernel
theorem dX2_fits_54 : decode cX2_fits 54 = .ok (.getfield 21, 3) := by decide +kernel
theorem dX2_fits_57 : decode cX2_fits 57 = .ok (.ldc2_w 60, 3) := by decide +kernel
theorem dX2_fits_60 : decode cX2_fits 60 = .ok (.lcmp, 1) := by decide +kernel
theorem dX2_fits_61 : decode cX2_fits 61 = .ok (.ifCond .gt 29, 3) := by decide +kernel
theorem dX2_fits_64 : decode cX2_fits 64 = .ok (.aload_n 0, 1) := by decide +kernel
theorem dX2_fits_65 : decode cX2_fits 65 = .ok (.getfield 25, 3) := by decide +kernel
theorem dX2_fits_68 : decode cX2_fits 68 = .ok (.ldc2_w 58, 3) := by decide +kernel
theorem dX2_fits_71 : decode cX2_fits 71 = .ok (.lcmp, 1) := by decide +kernel
theorem dX2_fits_72 : decode cX2_fits 72 = .ok (.ifCond .lt 18, 3) := by decide +kernel
theorem dX2_fits_75 : decode cX2_fits 75 = .ok (.aload_n 0, 1) := by decide +kernel
theorem dX2_fits_76 : decode cX2_fits 76 = .ok (.getfield 25, 3) := by decide +kernel
theorem dX2_fits_79 : decode cX2_fits 79 = .ok (.ldc2_w 60, 3) := by decide +kernel
theorem dX2_fits_82 : decode cX2_fits 82 = .ok (.lcmp, 1) := by decide +kernel
theorem dX2_fits_83 : decode cX2_fits 83 = .ok (.ifCond .gt 7, 3) := by decide +kernel
theorem dX2_fits_86 : decode cX2_fits 86 = .ok (.iconst 1, 1) := by decide +kernel
theorem dX2_fits_87 : decode cX2_fits 87 = .ok (.goto 4, 3) := by decide +kernel
theorem dX2_fits_90 : decode cX2_fits 90 = .ok (.iconst 0, 1) := by decide +kernel
theorem dX2_fits_91 : decode cX2_fits 91 = .ok (.ireturn, 1) := by decide +kernel
theorem dX2_spreadLow_0 : decode cX2_spreadLow 0 = .ok (.lconst 0, 1) := by decide +kernel
theorem dX2_spreadLow_1 : decode cX2_spreadLow 1 = .ok (.lstore_n 1, 1) := by decide +kernel
theorem dX2_spreadLow_2 : decode cX2_spreadLow 2 = .ok (.iconst 0, 1) := by decide +kernel
theorem dX2_spreadLow_3 : decode cX2_spreadLow 3 = .ok (.istore_n 3, 1) := by decide +kernel
theorem dX2_spreadLow_4 : decode cX2_spreadLow 4 = .ok (.iload_n 3, 1) := by decide +kernel
theorem dX2_spreadLow_5 : decode cX2_spreadLow 5 = .ok (.bipush 10, 2) := by decide +kernel
theorem dX2_spreadLow_7 : decode cX2_spreadLow 7 = .ok (.if_icmp .ge 34, 3) := by decide +kernel
theorem dX2_spreadLow_10 : decode cX2_spreadLow 10 = .ok (.lload_n 1, 1) := by decide +kernel
theorem dX2_spreadLow_11 : decode cX2_spreadLow 11 = .ok (.aload_n 0, 1) := by decide +kernel
theorem dX2_spreadLow_12 : decode cX2_spreadLow 12 = .ok (.getfield 9, 3) := by decide +kernel
theorem dX2_spreadLow_15 : decode cX2_spreadLow 15 = .ok (.iload_n 3, 1) := by decide +kernel
theorem dX2_spreadLow_16 : decode cX2_spreadLow 16 = .ok (.laload, 1) := by decide +kernel
theorem dX2_spreadLow_17 : decode cX2_spreadLow 17 = .ok (.getstatic 50, 3) := by decide +kernel
theorem dX2_spreadLow_20 : decode cX2_spreadLow 20 = .ok (.iload_n 3, 1) := by decide +kernel
theorem dX2_spreadLow_21 : decode cX2_spreadLow 21 = .ok (.iaload, 1) := by decide +kernel
theorem dX2_spreadLow_22 : decode cX2_spreadLow 22 = .ok (.i2l, 1) := by decide +kernel
theorem dX2_spreadLow_23 : decode cX2_spreadLow 23 = .ok (.lmul, 1) := by decide +kernel
theorem dX2_spreadLow_24 : decode cX2_spreadLow 24 = .ok (.aload_n 0, 1) := by decide +kernel
theorem dX2_spreadLow_25 : decode cX2_spreadLow 25 = .ok (.getfield 9, 3) := by decide +kernel
theorem dX2_spreadLow_28 : decode cX2_spreadLow 28 = .ok (.iload_n 3, 1) := by decide +kernel
theorem dX2_spreadLow_29 : decode cX2_spreadLow 29 = .ok (.laload, 1) := by decide +kernel
theorem dX2_spreadLow_30 : decode cX2_spreadLow 30 = .ok (.invokestatic 62, 3) := by decide +kernel
theorem dX2_spreadLow_33 : decode cX2_spreadLow 33 = .ok (.ladd, 1) := by decide +kernel
theorem dX2_spreadLow_34 : decode cX2_spreadLow 34 = .ok (.lstore_n 1, 1) := by decide +kernel
theorem dX2_spreadLow_35 : decode cX2_spreadLow 35 = .ok (.iinc 3 1, 3) := by decide +kernel
theorem dX2_spreadLow_38 : decode cX2_spreadLow 38 = .ok (.goto (-34), 3) := by decide +kernel
theorem dX2_spreadLow_41 : decode cX2_spreadLow 41 = .ok (.lload_n 1, 1) := by decide +kernel
theorem dX2_spreadLow_42 : decode cX2_spreadLow 42 = .ok (.lreturn, 1) := by decide +kernel
theorem dX2_spreadHigh_0 : decode cX2_spreadHigh 0 = .ok (.lconst 0, 1) := by decide +kernel
theorem dX2_spreadHigh_1 : decode cX2_spreadHigh 1 = .ok (.lstore_n 1, 1) := by decide +kernel
theorem dX2_spreadHigh_2 : decode cX2_spreadHigh 2 = .ok (.iconst 0, 1) := by decide +kernel
theorem dX2_spreadHigh_3 : decode cX2_spreadHigh 3 = .ok (.istore_n 3, 1) := by decide +kernel
theorem dX2_spreadHigh_4 : decode cX2_spreadHigh 4 = .ok (.iload_n 3, 1) := by decide +kernel
theorem dX2_spreadHigh_5 : decode cX2_spreadHigh 5 = .ok (.bipush 10, 2) := by decide +kernel
theorem dX2_spreadHigh_7 : decode cX2_spreadHigh 7 = .ok (.if_icmp .ge 34, 3) := by decide +kernel
theorem dX2_spreadHigh_10 : decode cX2_spreadHigh 10 = .ok (.lload_n 1, 1) := by decide +kernel
theorem dX2_spreadHigh_11 : decode cX2_spreadHigh 11 = .ok (.aload_n 0, 1) := by decide +kernel
theorem dX2_spreadHigh_12 : decode cX2_spreadHigh 12 = .ok (.getfield 9, 3) := by decide +kernel
theorem dX2_spreadHigh_15 : decode cX2_spreadHigh 15 = .ok (.iload_n 3, 1) := by decide +kernel
theorem dX2_spreadHigh_16 : decode cX2_spreadHigh 16 = .ok (.laload, 1) := by decide +kernel
theorem dX2_spreadHigh_17 : decode cX2_spreadHigh 17 = .ok (.getstatic 50, 3) := by decide +kernel
theorem dX2_spreadHigh_20 : decode cX2_spreadHigh 20 = .ok (.iload_n 3, 1) := by decide +kernel
theorem dX2_spreadHigh_21 : decode cX2_spreadHigh 21 = .ok (.iaload, 1) := by decide +kernel
theorem dX2_spreadHigh_22 : decode cX2_spreadHigh 22 = .ok (.i2l, 1) := by decide +kernel
theorem dX2_spreadHigh_23 : decode cX2_spreadHigh 23 = .ok (.lmul, 1) := by decide +kernel
theorem dX2_spreadHigh_24 : decode cX2_spreadHigh 24 = .ok (.aload_n 0, 1) := by decide +kernel
theorem dX2_spreadHigh_25 : decode cX2_spreadHigh 25 = .ok (.getfield 9, 3) := by decide +kernel
theorem dX2_spreadHigh_28 : decode cX2_spreadHigh 28 = .ok (.iload_n 3, 1) := by decide +kernel
theorem dX2_spreadHigh_29 : decode cX2_spreadHigh 29 = .ok (.laload, 1) := by decide +kernel
theorem dX2_spreadHigh_30 : decode cX2_spreadHigh 30 = .ok (.invokestatic 64, 3) := by decide +kernel
theorem dX2_spreadHigh_33 : decode cX2_spreadHigh 33 = .ok (.ladd, 1) := by decide +kernel
theorem dX2_spreadHigh_34 : decode cX2_spreadHigh 34 = .ok (.lstore_n 1, 1) := by decide +kernel
theorem dX2_spreadHigh_35 : decode cX2_spreadHigh 35 = .ok (.iinc 3 1, 3) := by decide +kernel
theorem dX2_spreadHigh_38 : decode cX2_spreadHigh 38 = .ok (.goto (-34), 3) := by decide +kernel
theorem dX2_spreadHigh_41 : decode cX2_spreadHigh 41 = .ok (.lload_n 1, 1) := by decide +kernel
theorem dX2_spreadHigh_42 : decode cX2_spreadHigh 42 = .ok (.lreturn, 1) := by decide +kernel
theorem dX2_boundLow_0 : decode cX2_boundLow 0 = .ok (.aload_n 0, 1) := by decide +kernel
theorem dX2_boundLow_1 : decode cX2_boundLow 1 = .ok (.invokevirtual 67, 3) := by decide +kernel
theorem dX2_boundLow_4 : decode cX2_boundLow 4 = .ok (.aload_n 0, 1) := by decide +kernel
theorem dX2_boundLow_5 : decode cX2_boundLow 5 = .ok (.getfield 21, 3) := by decide +kernel
theorem dX2_boundLow_8 : decode cX2_boundLow 8 = .ok (.ladd, 1) := by decide +kernel
theorem dX2_boundLow_9 : decode cX2_boundLow 9 = .ok (.lreturn, 1) := by decide +kernel
theorem dX2_boundHigh_0 : decode cX2_boundHigh 0 = .ok (.aload_n 0, 1) := by decide +kernel
theorem dX2_boundHigh_1 : decode cX2_boundHigh 1 = .ok (.invokevirtual 71, 3) := by decide +kernel
theorem dX2_boundHigh_4 : decode cX2_boundHigh 4 = .ok (.aload_n 0, 1) := by decide +kernel
theorem dX2_boundHigh_5 : decode cX2_boundHigh 5 = .ok (.getfield 25, 3) := by decide +kernel
theorem dX2_boundHigh_8 : decode cX2_boundHigh 8 = .ok (.ladd, 1) := by decide +kernel
theorem dX2_boundHigh_9 : decode cX2_boundHigh 9 = .ok (.lreturn, 1) := by decide +kernel
theorem dX2_staysInSquare_0 : decode cX2_staysInSquare 0 = .ok (.aload_n 0, 1) := by decide +kernel
theorem dX2_staysInSquare_1 : decode cX2_staysInSquare 1 = .ok (.invokevirtual 67, 3) := by decide +kernel
theorem dX2_staysInSquare_4 : decode cX2_staysInSquare 4 = .ok (.aload_n 0, 1) := by decide +kernel
theorem dX2_staysInSquare_5 : decode cX2_staysInSquare 5 = .ok (.getfield 21, 3) := by decide +kernel
theorem dX2_staysInSquare_8 : decode cX2_staysInSquare 8 = .ok (.ladd, 1) := by decide +kernel
theorem dX2_staysInSquare_9 : decode cX2_staysInSquare 9 = .ok (.ldc2_w 74, 3) := by decide +kernel
theorem dX2_staysInSquare_12 : decode cX2_staysInSquare 12 = .ok (.lcmp, 1) := by decide +kernel
theorem dX2_staysInSquare_13 : decode cX2_staysInSquare 13 = .ok (.ifCond .lt 23, 3) := by decide +kernel
theorem dX2_staysInSquare_16 : decode cX2_staysInSquare 16 = .ok (.aload_n 0, 1) := by decide +kernel
theorem dX2_staysInSquare_17 : decode cX2_staysInSquare 17 = .ok (.invokevirtual 71, 3) := by decide +kernel
theorem dX2_staysInSquare_20 : decode cX2_staysInSquare 20 = .ok (.aload_n 0, 1) := by decide +kernel
theorem dX2_staysInSquare_21 : decode cX2_staysInSquare 21 = .ok (.getfield 25, 3) := by decide +kernel
theorem dX2_staysInSquare_24 : decode cX2_staysInSquare 24 = .ok (.ladd, 1) := by decide +kernel
theorem dX2_staysInSquare_25 : decode cX2_staysInSquare 25 = .ok (.ldc2_w 32, 3) := by decide +kernel
theorem dX2_staysInSquare_28 : decode cX2_staysInSquare 28 = .ok (.lcmp, 1) := by decide +kernel
theorem dX2_staysInSquare_29 : decode cX2_staysInSquare 29 = .ok (.ifCond .gt 7, 3) := by decide +kernel
theorem dX2_staysInSquare_32 : decode cX2_staysInSquare 32 = .ok (.iconst 1, 1) := by decide +kernel
theorem dX2_staysInSquare_33 : decode cX2_staysInSquare 33 = .ok (.goto 4, 3) := by decide +kernel
theorem dX2_staysInSquare_36 : decode cX2_staysInSquare 36 = .ok (.iconst 0, 1) := by decide +kernel
theorem dX2_staysInSquare_37 : decode cX2_staysInSquare 37 = .ok (.ireturn, 1) := by decide +kernel
theorem dX2_valueInBillionths_0 : decode cX2_valueInBillionths 0 = .ok (.lconst 0, 1) := by decide +kernel
theorem dX2_valueInBillionths_1 : decode cX2_valueInBillionths 1 = .ok (.lstore 5, 2) := by decide +kernel
theorem dX2_valueInBillionths_3 : decode cX2_valueInBillionths 3 = .ok (.iconst 0, 1) := by decide +kernel
theorem dX2_valueInBillionths_4 : decode cX2_valueInBillionths 4 = .ok (.istore 7, 2) := by decide +kernel
theorem dX2_valueInBillionths_6 : decode cX2_valueInBillionths 6 = .ok (.iload 7, 2) := by decide +kernel
theorem dX2_valueInBillionths_8 : decode cX2_valueInBillionths 8 = .ok (.bipush 10, 2) := by decide +kernel
theorem dX2_valueInBillionths_10 : decode cX2_valueInBillionths 10 = .ok (.if_icmp .ge 95, 3) := by decide +kernel
theorem dX2_valueInBillionths_13 : decode cX2_valueInBillionths 13 = .ok (.aload_n 0, 1) := by decide +kernel
theorem dX2_valueInBillionths_14 : decode cX2_valueInBillionths 14 = .ok (.getfield 9, 3) := by decide +kernel
theorem dX2_valueInBillionths_17 : decode cX2_valueInBillionths 17 = .ok (.iload 7, 2) := by decide +kernel
theorem dX2_valueInBillionths_19 : decode cX2_valueInBillionths 19 = .ok (.laload, 1) := by decide +kernel
theorem dX2_valueInBillionths_20 : decode cX2_valueInBillionths 20 = .ok (.lstore 8, 2) := by decide +kernel
theorem dX2_valueInBillionths_22 : decode cX2_valueInBillionths 22 = .ok (.iconst 0, 1) := by decide +kernel
theorem dX2_valueInBillionths_23 : decode cX2_valueInBillionths 23 = .ok (.istore 10, 2) := by decide +kernel
theorem dX2_valueInBillionths_25 : decode cX2_valueInBillionths 25 = .ok (.iload 10, 2) := by decide +kernel
theorem dX2_valueInBillionths_27 : decode cX2_valueInBillionths 27 = .ok (.iconst 3, 1) := by decide +kernel
theorem dX2_valueInBillionths_28 : decode cX2_valueInBillionths 28 = .ok (.if_icmp .ge 64, 3) := by decide +kernel
theorem dX2_valueInBillionths_31 : decode cX2_valueInBillionths 31 = .ok (.iload 10, 2) := by decide +kernel
theorem dX2_valueInBillionths_33 : decode cX2_valueInBillionths 33 = .ok (.getstatic 76, 3) := by decide +kernel
theorem dX2_valueInBillionths_36 : decode cX2_valueInBillionths 36 = .ok (.iload 7, 2) := by decide +kernel
theorem dX2_valueInBillionths_38 : decode cX2_valueInBillionths 38 = .ok (.iaload, 1) := by decide +kernel
theorem dX2_valueInBillionths_39 : decode cX2_valueInBillionths 39 = .ok (.if_icmp .ge 12, 3) := by decide +kernel
theorem dX2_valueInBillionths_42 : decode cX2_valueInBillionths 42 = .ok (.lload 8, 2) := by decide +kernel
theorem dX2_valueInBillionths_44 : decode cX2_valueInBillionths 44 = .ok (.lload_n 1, 1) := by decide +kernel
theorem dX2_valueInBillionths_45 : decode cX2_valueInBillionths 45 = .ok (.lmul, 1) := by decide +kernel
theorem dX2_valueInBillionths_46 : decode cX2_valueInBillionths 46 = .ok (.lstore 8, 2) := by decide +kernel
theorem dX2_valueInBillionths_48 : decode cX2_valueInBillionths 48 = .ok (.goto 38, 3) := by decide +kernel
theorem dX2_valueInBillionths_51 : decode cX2_valueInBillionths 51 = .ok (.iload 10, 2) := by decide +kernel
theorem dX2_valueInBillionths_53 : decode cX2_valueInBillionths 53 = .ok (.getstatic 76, 3) := by decide +kernel
theorem dX2_valueInBillionths_56 : decode cX2_valueInBillionths 56 = .ok (.iload 7, 2) := by decide +kernel
theorem dX2_valueInBillionths_58 : decode cX2_valueInBillionths 58 = .ok (.iaload, 1) := by decide +kernel
theorem dX2_valueInBillionths_59 : decode cX2_valueInBillionths 59 = .ok (.getstatic 79, 3) := by decide +kernel
theorem dX2_valueInBillionths_62 : decode cX2_valueInBillionths 62 = .ok (.iload 7, 2) := by decide +kernel
theorem dX2_valueInBillionths_64 : decode cX2_valueInBillionths 64 = .ok (.iaload, 1) := by decide +kernel
theorem dX2_valueInBillionths_65 : decode cX2_valueInBillionths 65 = .ok (.iadd, 1) := by decide +kernel
theorem dX2_valueInBillionths_66 : decode cX2_valueInBillionths 66 = .ok (.if_icmp .ge 12, 3) := by decide +kernel
theorem dX2_valueInBillionths_69 : decode cX2_valueInBillionths 69 = .ok (.lload 8, 2) := by decide +kernel
theorem dX2_valueInBillionths_71 : decode cX2_valueInBillionths 71 = .ok (.lload_n 3, 1) := by decide +kernel
theorem dX2_valueInBillionths_72 : decode cX2_valueInBillionths 72 = .ok (.lmul, 1) := by decide +kernel
theorem dX2_valueInBillionths_73 : decode cX2_valueInBillionths 73 = .ok (.lstore 8, 2) := by decide +kernel
theorem dX2_valueInBillionths_75 : decode cX2_valueInBillionths 75 = .ok (.goto 11, 3) := by decide +kernel
theorem dX2_valueInBillionths_78 : decode cX2_valueInBillionths 78 = .ok (.lload 8, 2) := by decide +kernel
theorem dX2_valueInBillionths_80 : decode cX2_valueInBillionths 80 = .ok (.ldc2_w 32, 3) := by decide +kernel
theorem dX2_valueInBillionths_83 : decode cX2_valueInBillionths 83 = .ok (.lmul, 1) := by decide +kernel
theorem dX2_valueInBillionths_84 : decode cX2_valueInBillionths 84 = .ok (.lstore 8, 2) := by decide +kernel
theorem dX2_valueInBillionths_86 : decode cX2_valueInBillionths 86 = .ok (.iinc 10 1, 3) := by decide +kernel
theorem dX2_valueInBillionths_89 : decode cX2_valueInBillionths 89 = .ok (.goto (-64), 3) := by decide +kernel
theorem dX2_valueInBillionths_92 : decode cX2_valueInBillionths 92 = .ok (.lload 5, 2) := by decide +kernel
theorem dX2_valueInBillionths_94 : decode cX2_valueInBillionths 94 = .ok (.lload 8, 2) := by decide +kernel
theorem dX2_valueInBillionths_96 : decode cX2_valueInBillionths 96 = .ok (.ladd, 1) := by decide +kernel
theorem dX2_valueInBillionths_97 : decode cX2_valueInBillionths 97 = .ok (.lstore 5, 2) := by decide +kernel
theorem dX2_valueInBillionths_99 : decode cX2_valueInBillionths 99 = .ok (.iinc 7 1, 3) := by decide +kernel
theorem dX2_valueInBillionths_102 : decode cX2_valueInBillionths 102 = .ok (.goto (-96), 3) := by decide +kernel
theorem dX2_valueInBillionths_105 : decode cX2_valueInBillionths 105 = .ok (.lload 5, 2) := by decide +kernel
theorem dX2_valueInBillionths_107 : decode cX2_valueInBillionths 107 = .ok (.lreturn, 1) := by decide +kernel
theorem dX2_highestDegree_0 : decode cX2_highestDegree 0 = .ok (.iconst (-1), 1) := by decide +kernel
theorem dX2_highestDegree_1 : decode cX2_highestDegree 1 = .ok (.istore_n 1, 1) := by decide +kernel
theorem dX2_highestDegree_2 : decode cX2_highestDegree 2 = .ok (.iconst 0, 1) := by decide +kernel
theorem dX2_highestDegree_3 : decode cX2_highestDegree 3 = .ok (.istore_n 2, 1) := by decide +kernel
theorem dX2_highestDegree_4 : decode cX2_highestDegree 4 = .ok (.iload_n 2, 1) := by decide +kernel
theorem dX2_highestDegree_5 : decode cX2_highestDegree 5 = .ok (.bipush 10, 2) := by decide +kernel
theorem dX2_highestDegree_7 : decode cX2_highestDegree 7 = .ok (.if_icmp .ge 36, 3) := by decide +kernel
theorem dX2_highestDegree_10 : decode cX2_highestDegree 10 = .ok (.aload_n 0, 1) := by decide +kernel
theorem dX2_highestDegree_11 : decode cX2_highestDegree 11 = .ok (.getfield 9, 3) := by decide +kernel
theorem dX2_highestDegree_14 : decode cX2_highestDegree 14 = .ok (.iload_n 2, 1) := by decide +kernel
theorem dX2_highestDegree_15 : decode cX2_highestDegree 15 = .ok (.laload, 1) := by decide +kernel
theorem dX2_highestDegree_16 : decode cX2_highestDegree 16 = .ok (.lconst 0, 1) := by decide +kernel
theorem dX2_highestDegree_17 : decode cX2_highestDegree 17 = .ok (.lcmp, 1) := by decide +kernel
theorem dX2_highestDegree_18 : decode cX2_highestDegree 18 = .ok (.ifCond .eq 19, 3) := by decide +kernel
theorem dX2_highestDegree_21 : decode cX2_highestDegree 21 = .ok (.iload_n 1, 1) := by decide +kernel
theorem dX2_highestDegree_22 : decode cX2_highestDegree 22 = .ok (.getstatic 76, 3) := by decide +kernel
theorem dX2_highestDegree_25 : decode cX2_highestDegree 25 = .ok (.iload_n 2, 1) := by decide +kernel
theorem dX2_highestDegree_26 : decode cX2_highestDegree 26 = .ok (.iaload, 1) := by decide +kernel
theorem dX2_highestDegree_27 : decode cX2_highestDegree 27 = .ok (.getstatic 79, 3) := by decide +kernel
theorem dX2_highestDegree_30 : decode cX2_highestDegree 30 = .ok (.iload_n 2, 1) := by decide +kernel
theorem dX2_highestDegree_31 : decode cX2_highestDegree 31 = .ok (.iaload, 1) := by decide +kernel
theorem dX2_highestDegree_32 : decode cX2_highestDegree 32 = .ok (.iadd, 1) := by decide +kernel
theorem dX2_highestDegree_33 : decode cX2_highestDegree 33 = .ok (.invokestatic 82, 3) := by decide +kernel
theorem dX2_highestDegree_36 : decode cX2_highestDegree 36 = .ok (.istore_n 1, 1) := by decide +kernel
theorem dX2_highestDegree_37 : decode cX2_highestDegree 37 = .ok (.iinc 2 1, 3) := by decide +kernel
theorem dX2_highestDegree_40 : decode cX2_highestDegree 40 = .ok (.goto (-36), 3) := by decide +kernel
theorem dX2_highestDegree_43 : decode cX2_highestDegree 43 = .ok (.iload_n 1, 1) := by decide +kernel
theorem dX2_highestDegree_44 : decode cX2_highestDegree 44 = .ok (.ireturn, 1) := by decide +kernel
theorem dX2_contains_0 : decode cX2_contains 0 = .ok (.aload_n 1, 1) := by decide +kernel
theorem dX2_contains_1 : decode cX2_contains 1 = .ok (.getfield 21, 3) := by decide +kernel
theorem dX2_contains_4 : decode cX2_contains 4 = .ok (.lstore_n 2, 1) := by decide +kernel
theorem dX2_contains_5 : decode cX2_contains 5 = .ok (.aload_n 1, 1) := by decide +kernel
theorem dX2_contains_6 : decode cX2_contains 6 = .ok (.getfield 25, 3) := by decide +kernel
theorem dX2_contains_9 : decode cX2_contains 9 = .ok (.lstore 4, 2) := by decide +kernel
theorem dX2_contains_11 : decode cX2_contains 11 = .ok (.iconst 0, 1) := by decide +kernel
theorem dX2_contains_12 : decode cX2_contains 12 = .ok (.istore 6, 2) := by decide +kernel
theorem dX2_contains_14 : decode cX2_contains 14 = .ok (.iload 6, 2) := by decide +kernel
theorem dX2_contains_16 : decode cX2_contains 16 = .ok (.bipush 10, 2) := by decide +kernel
theorem dX2_contains_18 : decode cX2_contains 18 = .ok (.if_icmp .ge 56, 3) := by decide +kernel
theorem dX2_contains_21 : decode cX2_contains 21 = .ok (.aload_n 1, 1) := by decide +kernel
theorem dX2_contains_22 : decode cX2_contains 22 = .ok (.getfield 9, 3) := by decide +kernel
theorem dX2_contains_25 : decode cX2_contains 25 = .ok (.iload 6, 2) := by decide +kernel
theorem dX2_contains_27 : decode cX2_contains 27 = .ok (.laload, 1) := by decide +kernel
theorem dX2_contains_28 : decode cX2_contains 28 = .ok (.aload_n 0, 1) := by decide +kernel
theorem dX2_contains_29 : decode cX2_contains 29 = .ok (.getfield 9, 3) := by decide +kernel
theorem dX2_contains_32 : decode cX2_contains 32 = .ok (.iload 6, 2) := by decide +kernel
theorem dX2_contains_34 : decode cX2_contains 34 = .ok (.laload, 1) := by decide +kernel
theorem dX2_contains_35 : decode cX2_contains 35 = .ok (.lsub, 1) := by decide +kernel
theorem dX2_contains_36 : decode cX2_contains 36 = .ok (.lstore 7, 2) := by decide +kernel
theorem dX2_contains_38 : decode cX2_contains 38 = .ok (.lload_n 2, 1) := by decide +kernel
theorem dX2_contains_39 : decode cX2_contains 39 = .ok (.lload 7, 2) := by decide +kernel
theorem dX2_contains_41 : decode cX2_contains 41 = .ok (.getstatic 50, 3) := by decide +kernel
theorem dX2_contains_44 : decode cX2_contains 44 = .ok (.iload 6, 2) := by decide +kernel
theorem dX2_contains_46 : decode cX2_contains 46 = .ok (.iaload, 1) := by decide +kernel
theorem dX2_contains_47 : decode cX2_contains 47 = .ok (.invokestatic 84, 3) := by decide +kernel
theorem dX2_contains_50 : decode cX2_contains 50 = .ok (.ladd, 1) := by decide +kernel
theorem dX2_contains_51 : decode cX2_contains 51 = .ok (.lstore_n 2, 1) := by decide +kernel
theorem dX2_contains_52 : decode cX2_contains 52 = .ok (.lload 4, 2) := by decide +kernel
theorem dX2_contains_54 : decode cX2_contains 54 = .ok (.lload 7, 2) := by decide +kernel
theorem dX2_contains_56 : decode cX2_contains 56 = .ok (.getstatic 50, 3) := by decide +kernel
theorem dX2_contains_59 : decode cX2_contains 59 = .ok (.iload 6, 2) := by decide +kernel
theorem dX2_contains_61 : decode cX2_contains 61 = .ok (.iaload, 1) := by decide +kernel
theorem dX2_contains_62 : decode cX2_contains 62 = .ok (.invokestatic 88, 3) := by decide +kernel
theorem dX2_contains_65 : decode cX2_contains 65 = .ok (.ladd, 1) := by decide +kernel
theorem dX2_contains_66 : decode cX2_contains 66 = .ok (.lstore 4, 2) := by decide +kernel
theorem dX2_contains_68 : decode cX2_contains 68 = .ok (.iinc 6 1, 3) := by decide +kernel
theorem dX2_contains_71 : decode cX2_contains 71 = .ok (.goto (-57), 3) := by decide +kernel
theorem dX2_contains_74 : decode cX2_contains 74 = .ok (.lload_n 2, 1) := by decide +kernel
theorem dX2_contains_75 : decode cX2_contains 75 = .ok (.aload_n 0, 1) := by decide +kernel
theorem dX2_contains_76 : decode cX2_contains 76 = .ok (.getfield 21, 3) := by decide +kernel
theorem dX2_contains_79 : decode cX2_contains 79 = .ok (.lcmp, 1) := by decide +kernel
theorem dX2_contains_80 : decode cX2_contains 80 = .ok (.ifCond .lt 17, 3) := by decide +kernel
theorem dX2_contains_83 : decode cX2_contains 83 = .ok (.lload 4, 2) := by decide +kernel
theorem dX2_contains_85 : decode cX2_contains 85 = .ok (.aload_n 0, 1) := by decide +kernel
theorem dX2_contains_86 : decode cX2_contains 86 = .ok (.getfield 25, 3) := by decide +kernel
theorem dX2_contains_89 : decode cX2_contains 89 = .ok (.lcmp, 1) := by decide +kernel
theorem dX2_contains_90 : decode cX2_contains 90 = .ok (.ifCond .gt 7, 3) := by decide +kernel
theorem dX2_contains_93 : decode cX2_contains 93 = .ok (.iconst 1, 1) := by decide +kernel
theorem dX2_contains_94 : decode cX2_contains 94 = .ok (.goto 4, 3) := by decide +kernel
theorem dX2_contains_97 : decode cX2_contains 97 = .ok (.iconst 0, 1) := by decide +kernel
theorem dX2_contains_98 : decode cX2_contains 98 = .ok (.ireturn, 1) := by decide +kernel
theorem dX2_sweepUpTo_0 : decode cX2_sweepUpTo 0 = .ok (.iconst 0, 1) := by decide +kernel
theorem dX2_sweepUpTo_1 : decode cX2_sweepUpTo 1 = .ok (.istore_n 3, 1) := by decide +kernel
theorem dX2_sweepUpTo_2 : decode cX2_sweepUpTo 2 = .ok (.iconst 0, 1) := by decide +kernel
theorem dX2_sweepUpTo_3 : decode cX2_sweepUpTo 3 = .ok (.istore 4, 2) := by decide +kernel
theorem dX2_sweepUpTo_5 : decode cX2_sweepUpTo 5 = .ok (.iload 4, 2) := by decide +kernel
theorem dX2_sweepUpTo_7 : decode cX2_sweepUpTo 7 = .ok (.bipush 10, 2) := by decide +kernel
theorem dX2_sweepUpTo_9 : decode cX2_sweepUpTo 9 = .ok (.if_icmp .ge 91, 3) := by decide +kernel
theorem dX2_sweepUpTo_12 : decode cX2_sweepUpTo 12 = .ok (.aload_n 0, 1) := by decide +kernel
theorem dX2_sweepUpTo_13 : decode cX2_sweepUpTo 13 = .ok (.getfield 9, 3) := by decide +kernel
theorem dX2_sweepUpTo_16 : decode cX2_sweepUpTo 16 = .ok (.iload 4, 2) := by decide +kernel
theorem dX2_sweepUpTo_18 : decode cX2_sweepUpTo 18 = .ok (.laload, 1) := by decide +kernel
theorem dX2_sweepUpTo_19 : decode cX2_sweepUpTo 19 = .ok (.lstore 5, 2) := by decide +kernel
theorem dX2_sweepUpTo_21 : decode cX2_sweepUpTo 21 = .ok (.iload 4, 2) := by decide +kernel
theorem dX2_sweepUpTo_23 : decode cX2_sweepUpTo 23 = .ok (.ifCond .eq 71, 3) := by decide +kernel
theorem dX2_sweepUpTo_26 : decode cX2_sweepUpTo 26 = .ok (.lload 5, 2) := by decide +kernel
theorem dX2_sweepUpTo_28 : decode cX2_sweepUpTo 28 = .ok (.lconst 0, 1) := by decide +kernel
theorem dX2_sweepUpTo_29 : decode cX2_sweepUpTo 29 = .ok (.lcmp, 1) := by decide +kernel
theorem dX2_sweepUpTo_30 : decode cX2_sweepUpTo 30 = .ok (.ifCond .eq 64, 3) := by decide +kernel
theorem dX2_sweepUpTo_33 : decode cX2_sweepUpTo 33 = .ok (.lload 5, 2) := by decide +kernel
theorem dX2_sweepUpTo_35 : decode cX2_sweepUpTo 35 = .ok (.invokestatic 91, 3) := by decide +kernel
theorem dX2_sweepUpTo_38 : decode cX2_sweepUpTo 38 = .ok (.lload_n 1, 1) := by decide +kernel
theorem dX2_sweepUpTo_39 : decode cX2_sweepUpTo 39 = .ok (.lcmp, 1) := by decide +kernel
theorem dX2_sweepUpTo_40 : decode cX2_sweepUpTo 40 = .ok (.ifCond .gt 54, 3) := by decide +kernel
theorem dX2_sweepUpTo_43 : decode cX2_sweepUpTo 43 = .ok (.aload_n 0, 1) := by decide +kernel
theorem dX2_sweepUpTo_44 : decode cX2_sweepUpTo 44 = .ok (.dup, 1) := by decide +kernel
theorem dX2_sweepUpTo_45 : decode cX2_sweepUpTo 45 = .ok (.getfield 21, 3) := by decide +kernel
theorem dX2_sweepUpTo_48 : decode cX2_sweepUpTo 48 = .ok (.lload 5, 2) := by decide +kernel
theorem dX2_sweepUpTo_50 : decode cX2_sweepUpTo 50 = .ok (.getstatic 50, 3) := by decide +kernel
theorem dX2_sweepUpTo_53 : decode cX2_sweepUpTo 53 = .ok (.iload 4, 2) := by decide +kernel
theorem dX2_sweepUpTo_55 : decode cX2_sweepUpTo 55 = .ok (.iaload, 1) := by decide +kernel
theorem dX2_sweepUpTo_56 : decode cX2_sweepUpTo 56 = .ok (.invokestatic 84, 3) := by decide +kernel
theorem dX2_sweepUpTo_59 : decode cX2_sweepUpTo 59 = .ok (.ladd, 1) := by decide +kernel
theorem dX2_sweepUpTo_60 : decode cX2_sweepUpTo 60 = .ok (.putfield 21, 3) := by decide +kernel
theorem dX2_sweepUpTo_63 : decode cX2_sweepUpTo 63 = .ok (.aload_n 0, 1) := by decide +kernel
theorem dX2_sweepUpTo_64 : decode cX2_sweepUpTo 64 = .ok (.dup, 1) := by decide +kernel
theorem dX2_sweepUpTo_65 : decode cX2_sweepUpTo 65 = .ok (.getfield 25, 3) := by decide +kernel
theorem dX2_sweepUpTo_68 : decode cX2_sweepUpTo 68 = .ok (.lload 5, 2) := by decide +kernel
theorem dX2_sweepUpTo_70 : decode cX2_sweepUpTo 70 = .ok (.getstatic 50, 3) := by decide +kernel
theorem dX2_sweepUpTo_73 : decode cX2_sweepUpTo 73 = .ok (.iload 4, 2) := by decide +kernel
theorem dX2_sweepUpTo_75 : decode cX2_sweepUpTo 75 = .ok (.iaload, 1) := by decide +kernel
theorem dX2_sweepUpTo_76 : decode cX2_sweepUpTo 76 = .ok (.invokestatic 88, 3) := by decide +kernel
theorem dX2_sweepUpTo_79 : decode cX2_sweepUpTo 79 = .ok (.ladd, 1) := by decide +kernel
theorem dX2_sweepUpTo_80 : decode cX2_sweepUpTo 80 = .ok (.putfield 25, 3) := by decide +kernel
theorem dX2_sweepUpTo_83 : decode cX2_sweepUpTo 83 = .ok (.aload_n 0, 1) := by decide +kernel
theorem dX2_sweepUpTo_84 : decode cX2_sweepUpTo 84 = .ok (.getfield 9, 3) := by decide +kernel
theorem dX2_sweepUpTo_87 : decode cX2_sweepUpTo 87 = .ok (.iload 4, 2) := by decide +kernel
theorem dX2_sweepUpTo_89 : decode cX2_sweepUpTo 89 = .ok (.lconst 0, 1) := by decide +kernel
theorem dX2_sweepUpTo_90 : decode cX2_sweepUpTo 90 = .ok (.lastore, 1) := by decide +kernel
theorem dX2_sweepUpTo_91 : decode cX2_sweepUpTo 91 = .ok (.iinc 3 1, 3) := by decide +kernel
theorem dX2_sweepUpTo_94 : decode cX2_sweepUpTo 94 = .ok (.iinc 4 1, 3) := by decide +kernel
theorem dX2_sweepUpTo_97 : decode cX2_sweepUpTo 97 = .ok (.goto (-92), 3) := by decide +kernel
theorem dX2_sweepUpTo_100 : decode cX2_sweepUpTo 100 = .ok (.iload_n 3, 1) := by decide +kernel
theorem dX2_sweepUpTo_101 : decode cX2_sweepUpTo 101 = .ok (.ireturn, 1) := by decide +kernel
theorem dX2_addToChecksum_0 : decode cX2_addToChecksum 0 = .ok (.lload_n 1, 1) := by decide +kernel
theorem dX2_addToChecksum_1 : decode cX2_addToChecksum 1 = .ok (.lstore_n 3, 1) := by decide +kernel
theorem dX2_addToChecksum_2 : decode cX2_addToChecksum 2 = .ok (.iconst 0, 1) := by decide +kernel
theorem dX2_addToChecksum_3 : decode cX2_addToChecksum 3 = .ok (.istore 5, 2) := by decide +kernel
theorem dX2_addToChecksum_5 : decode cX2_addToChecksum 5 = .ok (.iload 5, 2) := by decide +kernel
theorem dX2_addToChecksum_7 : decode cX2_addToChecksum 7 = .ok (.bipush 10, 2) := by decide +kernel
theorem dX2_addToChecksum_9 : decode cX2_addToChecksum 9 = .ok (.if_icmp .ge 23, 3) := by decide +kernel
theorem dX2_addToChecksum_12 : decode cX2_addToChecksum 12 = .ok (.ldc2_w 95, 3) := by decide +kernel
theorem dX2_addToChecksum_15 : decode cX2_addToChecksum 15 = .ok (.lload_n 3, 1) := by decide +kernel
theorem dX2_addToChecksum_16 : decode cX2_addToChecksum 16 = .ok (.lmul, 1) := by decide +kernel
theorem dX2_addToChecksum_17 : decode cX2_addToChecksum 17 = .ok (.aload_n 0, 1) := by decide +kernel
theorem dX2_addToChecksum_18 : decode cX2_addToChecksum 18 = .ok (.getfield 9, 3) := by decide +kernel
theorem dX2_addToChecksum_21 : decode cX2_addToChecksum 21 = .ok (.iload 5, 2) := by decide +kernel
theorem dX2_addToChecksum_23 : decode cX2_addToChecksum 23 = .ok (.laload, 1) := by decide +kernel
theorem dX2_addToChecksum_24 : decode cX2_addToChecksum 24 = .ok (.ladd, 1) := by decide +kernel
theorem dX2_addToChecksum_25 : decode cX2_addToChecksum 25 = .ok (.lstore_n 3, 1) := by decide +kernel
theorem dX2_addToChecksum_26 : decode cX2_addToChecksum 26 = .ok (.iinc 5 1, 3) := by decide +kernel
theorem dX2_addToChecksum_29 : decode cX2_addToChecksum 29 = .ok (.goto (-24), 3) := by decide +kernel
theorem dX2_addToChecksum_32 : decode cX2_addToChecksum 32 = .ok (.ldc2_w 95, 3) := by decide +kernel
theorem dX2_addToChecksum_35 : decode cX2_addToChecksum 35 = .ok (.lload_n 3, 1) := by decide +kernel
theorem dX2_addToChecksum_36 : decode cX2_addToChecksum 36 = .ok (.lmul, 1) := by decide +kernel
theorem dX2_addToChecksum_37 : decode cX2_addToChecksum 37 = .ok (.aload_n 0, 1) := by decide +kernel
theorem dX2_addToChecksum_38 : decode cX2_addToChecksum 38 = .ok (.getfield 21, 3) := by decide +kernel
theorem dX2_addToChecksum_41 : decode cX2_addToChecksum 41 = .ok (.ladd, 1) := by decide +kernel
theorem dX2_addToChecksum_42 : decode cX2_addToChecksum 42 = .ok (.lstore_n 3, 1) := by decide +kernel
theorem dX2_addToChecksum_43 : decode cX2_addToChecksum 43 = .ok (.ldc2_w 95, 3) := by decide +kernel
theorem dX2_addToChecksum_46 : decode cX2_addToChecksum 46 = .ok (.lload_n 3, 1) := by decide +kernel
theorem dX2_addToChecksum_47 : decode cX2_addToChecksum 47 = .ok (.lmul, 1) := by decide +kernel
theorem dX2_addToChecksum_48 : decode cX2_addToChecksum 48 = .ok (.aload_n 0, 1) := by decide +kernel
theorem dX2_addToChecksum_49 : decode cX2_addToChecksum 49 = .ok (.getfield 25, 3) := by decide +kernel
theorem dX2_addToChecksum_52 : decode cX2_addToChecksum 52 = .ok (.ladd, 1) := by decide +kernel
theorem dX2_addToChecksum_53 : decode cX2_addToChecksum 53 = .ok (.lreturn, 1) := by decide +kernel
theorem dX3_init_0 : decode cX3_init 0 = .ok (.aload_n 0, 1) := by decide +kernel
theorem dX3_init_1 : decode cX3_init 1 = .ok (.invokespecial 3, 3) := by decide +kernel
theorem dX3_init_4 : decode cX3_init 4 = .ok (.aload_n 0, 1) := by decide +kernel
theorem dX3_init_5 : decode cX3_init 5 = .ok (.bipush 8, 2) := by decide +kernel
theorem dX3_init_7 : decode cX3_init 7 = .ok (.anewarray 9, 3) := by decide +kernel
theorem dX3_init_10 : decode cX3_init 10 = .ok (.putfield 11, 3) := by decide +kernel
theorem dX3_init_13 : decode cX3_init 13 = .ok (.iconst 0, 1) := by decide +kernel
theorem dX3_init_14 : decode cX3_init 14 = .ok (.istore_n 1, 1) := by decide +kernel
theorem dX3_init_15 : decode cX3_init 15 = .ok (.iload_n 1, 1) := by decide +kernel
theorem dX3_init_16 : decode cX3_init 16 = .ok (.bipush 8, 2) := by decide +kernel
theorem dX3_init_18 : decode cX3_init 18 = .ok (.if_icmp .ge 22, 3) := by decide +kernel
theorem dX3_init_21 : decode cX3_init 21 = .ok (.aload_n 0, 1) := by decide +kernel
theorem dX3_init_22 : decode cX3_init 22 = .ok (.getfield 11, 3) := by decide +kernel
theorem dX3_init_25 : decode cX3_init 25 = .ok (.iload_n 1, 1) := by decide +kernel
theorem dX3_init_26 : decode cX3_init 26 = .ok (.new 9, 3) := by decide +kernel
theorem dX3_init_29 : decode cX3_init 29 = .ok (.dup, 1) := by decide +kernel
theorem dX3_init_30 : decode cX3_init 30 = .ok (.invokespecial 17, 3) := by decide +kernel
theorem dX3_init_33 : decode cX3_init 33 = .ok (.aastore, 1) := by decide +kernel
theorem dX3_init_34 : decode cX3_init 34 = .ok (.iinc 1 1, 3) := by decide +kernel
theorem dX3_init_37 : decode cX3_init 37 = .ok (.goto (-22), 3) := by decide +kernel
theorem dX3_init_40 : decode cX3_init 40 = .ok (.return_, 1) := by decide +kernel
theorem dX3_has_0 : decode cX3_has 0 = .ok (.iload_n 1, 1) := by decide +kernel
theorem dX3_has_1 : decode cX3_has 1 = .ok (.ifCond .lt 25, 3) := by decide +kernel
theorem dX3_has_4 : decode cX3_has 4 = .ok (.iload_n 1, 1) := by decide +kernel
theorem dX3_has_5 : decode cX3_has 5 = .ok (.bipush 8, 2) := by decide +kernel
theorem dX3_has_7 : decode cX3_has 7 = .ok (.if_icmp .ge 19, 3) := by decide +kernel
theorem dX3_has_10 : decode cX3_has 10 = .ok (.aload_n 0, 1) := by decide +kernel
theorem dX3_has_11 : decode cX3_has 11 = .ok (.getfield 18, 3) := by decide +kernel
theorem dX3_has_14 : decode cX3_has 14 = .ok (.iload_n 1, 1) := by decide +kernel
theorem dX3_has_15 : decode cX3_has 15 = .ok (.ishr, 1) := by decide +kernel
theorem dX3_has_16 : decode cX3_has 16 = .ok (.iconst 1, 1) := by decide +kernel
theorem dX3_has_17 : decode cX3_has 17 = .ok (.iand, 1) := by decide +kernel
theorem dX3_has_18 : decode cX3_has 18 = .ok (.iconst 1, 1) := by decide +kernel
theorem dX3_has_19 : decode cX3_has 19 = .ok (.if_icmp .ne 7, 3) := by decide +kernel
theorem dX3_has_22 : decode cX3_has 22 = .ok (.iconst 1, 1) := by decide +kernel
theorem dX3_has_23 : decode cX3_has 23 = .ok (.goto 4, 3) := by decide +kernel
theorem dX3_has_26 : decode cX3_has 26 = .ok (.iconst 0, 1) := by decide +kernel
theorem dX3_has_27 : decode cX3_has 27 = .ok (.ireturn, 1) := by decide +kernel
theorem dX3_count_0 : decode cX3_count 0 = .ok (.aload_n 0, 1) := by decide +kernel
theorem dX3_count_1 : decode cX3_count 1 = .ok (.getfield 18, 3) := by decide +kernel
theorem dX3_count_4 : decode cX3_count 4 = .ok (.invokestatic 22, 3) := by decide +kernel
theorem dX3_count_7 : decode cX3_count 7 = .ok (.ireturn, 1) := by decide +kernel
theorem dX3_define_0 : decode cX3_define 0 = .ok (.iload_n 1, 1) := by decide +kernel
theorem dX3_define_1 : decode cX3_define 1 = .ok (.ifCond .lt 31, 3) := by decide +kernel
theorem dX3_define_4 : decode cX3_define 4 = .ok (.iload_n 1, 1) := by decide +kernel
theorem dX3_define_5 : decode cX3_define 5 = .ok (.bipush 8, 2) := by decide +kernel
theorem dX3_define_7 : decode cX3_define 7 = .ok (.if_icmp .ge 25, 3) := by decide +kernel
theorem dX3_define_10 : decode cX3_define 10 = .ok (.aload_n 0, 1) := by decide +kernel
theorem dX3_define_11 : decode cX3_define 11 = .ok (.getfield 11, 3) := by decide +kernel
theorem dX3_define_14 : decode cX3_define 14 = .ok (.iload_n 1, 1) := by decide +kernel
theorem dX3_define_15 : decode cX3_define 15 = .ok (.aaload, 1) := by decide +kernel
theorem dX3_define_16 : decode cX3_define 16 = .ok (.aload_n 2, 1) := by decide +kernel
theorem dX3_define_17 : decode cX3_define 17 = .ok (.invokevirtual 28, 3) := by decide +kernel
theorem dX3_define_20 : decode cX3_define 20 = .ok (.aload_n 0, 1) := by decide +kernel
theorem dX3_define_21 : decode cX3_define 21 = .ok (.dup, 1) := by decide +kernel
theorem dX3_define_22 : decode cX3_define 22 = .ok (.getfield 18, 3) := by decide +kernel
theorem dX3_define_25 : decode cX3_define 25 = .ok (.iconst 1, 1) := by decide +kernel
theorem dX3_define_26 : decode cX3_define 26 = .ok (.iload_n 1, 1) := by decide +kernel
theorem dX3_define_27 : decode cX3_define 27 = .ok (.ishl, 1) := by decide +kernel
theorem dX3_define_28 : decode cX3_define 28 = .ok (.ior, 1) := by decide +kernel
theorem dX3_define_29 : decode cX3_define 29 = .ok (.putfield 18, 3) := by decide +kernel
theorem dX3_define_32 : decode cX3_define 32 = .ok (.return_, 1) := by decide +kernel
theorem dX3_remove_0 : decode cX3_remove 0 = .ok (.iload_n 1, 1) := by decide +kernel
theorem dX3_remove_1 : decode cX3_remove 1 = .ok (.ifCond .lt 23, 3) := by decide +kernel
theorem dX3_remove_4 : decode cX3_remove 4 = .ok (.iload_n 1, 1) := by decide +kernel
theorem dX3_remove_5 : decode cX3_remove 5 = .ok (.bipush 8, 2) := by decide +kernel
theorem dX3_remove_7 : decode cX3_remove 7 = .ok (.if_icmp .ge 17, 3) := by decide +kernel
theorem dX3_remove_10 : decode cX3_remove 10 = .ok (.aload_n 0, 1) := by decide +kernel
theorem dX3_remove_11 : decode cX3_remove 11 = .ok (.dup, 1) := by decide +kernel
theorem dX3_remove_12 : decode cX3_remove 12 = .ok (.getfield 18, 3) := by decide +kernel
theorem dX3_remove_15 : decode cX3_remove 15 = .ok (.iconst 1, 1) := by decide +kernel
theorem dX3_remove_16 : decode cX3_remove 16 = .ok (.iload_n 1, 1) := by decide +kernel
theorem dX3_remove_17 : decode cX3_remove 17 = .ok (.ishl, 1) := by decide +kernel
theorem dX3_remove_18 : decode cX3_remove 18 = .ok (.iconst (-1), 1) := by decide +kernel
theorem dX3_remove_19 : decode cX3_remove 19 = .ok (.ixor, 1) := by decide +kernel
theorem dX3_remove_20 : decode cX3_remove 20 = .ok (.iand, 1) := by decide +kernel
theorem dX3_remove_21 : decode cX3_remove 21 = .ok (.putfield 18, 3) := by decide +kernel
theorem dX3_remove_24 : decode cX3_remove 24 = .ok (.return_, 1) := by decide +kernel
theorem dX3_copyFrom_0 : decode cX3_copyFrom 0 = .ok (.aload_n 0, 1) := by decide +kernel
theorem dX3_copyFrom_1 : decode cX3_copyFrom 1 = .ok (.aload_n 1, 1) := by decide +kernel
theorem dX3_copyFrom_2 : decode cX3_copyFrom 2 = .ok (.getfield 18, 3) := by decide +kernel
theorem dX3_copyFrom_5 : decode cX3_copyFrom 5 = .ok (.putfield 18, 3) := by decide +kernel
theorem dX3_copyFrom_8 : decode cX3_copyFrom 8 = .ok (.iconst 0, 1) := by decide +kernel
theorem dX3_copyFrom_9 : decode cX3_copyFrom 9 = .ok (.istore_n 2, 1) := by decide +kernel
theorem dX3_copyFrom_10 : decode cX3_copyFrom 10 = .ok (.iload_n 2, 1) := by decide +kernel
theorem dX3_copyFrom_11 : decode cX3_copyFrom 11 = .ok (.bipush 8, 2) := by decide +kernel
theorem dX3_copyFrom_13 : decode cX3_copyFrom 13 = .ok (.if_icmp .ge 24, 3) := by decide +kernel
theorem dX3_copyFrom_16 : decode cX3_copyFrom 16 = .ok (.aload_n 0, 1) := by decide +kernel
theorem dX3_copyFrom_17 : decode cX3_copyFrom 17 = .ok (.getfield 11, 3) := by decide +kernel
theorem dX3_copyFrom_20 : decode cX3_copyFrom 20 = .ok (.iload_n 2, 1) := by decide +kernel
theorem dX3_copyFrom_21 : decode cX3_copyFrom 21 = .ok (.aaload, 1) := by decide +kernel
theorem dX3_copyFrom_22 : decode cX3_copyFrom 22 = .ok (.aload_n 1, 1) := by decide +kernel
theorem dX3_copyFrom_23 : decode cX3_copyFrom 23 = .ok (.getfield 11, 3) := by decide +kernel
theorem dX3_copyFrom_26 : decode cX3_copyFrom 26 = .ok (.iload_n 2, 1) := by decide +kernel
theorem dX3_copyFrom_27 : decode cX3_copyFrom 27 = .ok (.aaload, 1) := by decide +kernel
theorem dX3_copyFrom_28 : decode cX3_copyFrom 28 = .ok (.invokevirtual 28, 3) := by decide +kernel
theorem dX3_copyFrom_31 : decode cX3_copyFrom 31 = .ok (.iinc 2 1, 3) := by decide +kernel
theorem dX3_copyFrom_34 : decode cX3_copyFrom 34 = .ok (.goto (-24), 3) := by decide +kernel
theorem dX3_copyFrom_37 : decode cX3_copyFrom 37 = .ok (.return_, 1) := by decide +kernel
theorem dX4_init_0 : decode cX4_init 0 = .ok (.aload_n 0, 1) := by decide +kernel
theorem dX4_init_1 : decode cX4_init 1 = .ok (.invokespecial 5, 3) := by decide +kernel
theorem dX4_init_4 : decode cX4_init 4 = .ok (.aload_n 0, 1) := by decide +kernel
theorem dX4_init_5 : decode cX4_init 5 = .ok (.new 11, 3) := by decide +kernel
theorem dX4_init_8 : decode cX4_init 8 = .ok (.dup, 1) := by decide +kernel
theorem dX4_init_9 : decode cX4_init 9 = .ok (.invokespecial 13, 3) := by decide +kernel
theorem dX4_init_12 : decode cX4_init 12 = .ok (.putfield 14, 3) := by decide +kernel
theorem dX4_init_15 : decode cX4_init 15 = .ok (.aload_n 0, 1) := by decide +kernel
theorem dX4_init_16 : decode cX4_init 16 = .ok (.new 18, 3) := by decide +kernel
theorem dX4_init_19 : decode cX4_init 19 = .ok (.dup, 1) := by decide +kernel
theorem dX4_init_20 : decode cX4_init 20 = .ok (.invokespecial 20, 3) := by decide +kernel
theorem dX4_init_23 : decode cX4_init 23 = .ok (.putfield 21, 3) := by decide +kernel
theorem dX4_init_26 : decode cX4_init 26 = .ok (.aload_n 0, 1) := by decide +kernel
theorem dX4_init_27 : decode cX4_init 27 = .ok (.new 25, 3) := by decide +kernel
theorem dX4_init_30 : decode cX4_init 30 = .ok (.dup, 1) := by decide +kernel
theorem dX4_init_31 : decode cX4_init 31 = .ok (.invokespecial 27, 3) := by decide +kernel
theorem dX4_init_34 : decode cX4_init 34 = .ok (.putfield 28, 3) := by decide +kernel
theorem dX4_init_37 : decode cX4_init 37 = .ok (.aload_n 0, 1) := by decide +kernel
theorem dX4_init_38 : decode cX4_init 38 = .ok (.iconst 5, 1) := by decide +kernel
theorem dX4_init_39 : decode cX4_init 39 = .ok (.anewarray 32, 3) := by decide +kernel
theorem dX4_init_42 : decode cX4_init 42 = .ok (.putfield 34, 3) := by decide +kernel
theorem dX4_init_45 : decode cX4_init 45 = .ok (.aload_n 0, 1) := by decide +kernel
theorem dX4_init_46 : decode cX4_init 46 = .ok (.iconst 5, 1) := by decide +kernel
theorem dX4_init_47 : decode cX4_init 47 = .ok (.anewarray 32, 3) := by decide +kernel
theorem dX4_init_50 : decode cX4_init 50 = .ok (.putfield 38, 3) := by decide +kernel
theorem dX4_init_53 : decode cX4_init 53 = .ok (.aload_n 0, 1) := by decide +kernel
theorem dX4_init_54 : decode cX4_init 54 = .ok (.iconst 5, 1) := by decide +kernel
theorem dX4_init_55 : decode cX4_init 55 = .ok (.anewarray 32, 3) := by decide +kernel
theorem dX4_init_58 : decode cX4_init 58 = .ok (.putfield 41, 3) := by decide +kernel
theorem dX4_init_61 : decode cX4_init 61 = .ok (.aload_n 0, 1) := by decide +kernel
theorem dX4_init_62 : decode cX4_init 62 = .ok (.iconst 5, 1) := by decide +kernel
theorem dX4_init_63 : decode cX4_init 63 = .ok (.anewarray 32, 3) := by decide +kernel
theorem dX4_init_66 : decode cX4_init 66 = .ok (.putfield 44, 3) := by decide +kernel
theorem dX4_init_69 : decode cX4_init 69 = .ok (.iconst 0, 1) := by decide +kernel
theorem dX4_init_70 : decode cX4_init 70 = .ok (.istore_n 1, 1) := by decide +kernel
theorem dX4_init_71 : decode cX4_init 71 = .ok (.iload_n 1, 1) := by decide +kernel
theorem dX4_init_72 : decode cX4_init 72 = .ok (.iconst 5, 1) := by decide +kernel
theorem dX4_init_73 : decode cX4_init 73 = .ok (.if_icmp .ge 61, 3) := by decide +kernel
theorem dX4_init_76 : decode cX4_init 76 = .ok (.aload_n 0, 1) := by decide +kernel
theorem dX4_init_77 : decode cX4_init 77 = .ok (.getfield 34, 3) := by decide +kernel
theorem dX4_init_80 : decode cX4_init 80 = .ok (.iload_n 1, 1) := by decide +kernel
theorem dX4_init_81 : decode cX4_init 81 = .ok (.new 32, 3) := by decide +kernel
theorem dX4_init_84 : decode cX4_init 84 = .ok (.dup, 1) := by decide +kernel
theorem dX4_init_85 : decode cX4_init 85 = .ok (.invokespecial 47, 3) := by decide +kernel
theorem dX4_init_88 : decode cX4_init 88 = .ok (.aastore, 1) := by decide +kernel
theorem dX4_init_89 : decode cX4_init 89 = .ok (.aload_n 0, 1) := by decide +kernel
theorem dX4_init_90 : decode cX4_init 90 = .ok (.getfield 38, 3) := by decide +kernel
theorem dX4_init_93 : decode cX4_init 93 = .ok (.iload_n 1, 1) := by decide +kernel
theorem dX4_init_94 : decode cX4_init 94 = .ok (.new 32, 3) := by decide +kernel
theorem dX4_init_97 : decode cX4_init 97 = .ok (.dup, 1) := by decide +kernel
theorem dX4_init_98 : decode cX4_init 98 = .ok (.invokespecial 47, 3) := by decide +kernel
theorem dX4_init_101 : decode cX4_init 101 = .ok (.aastore, 1) := by decide +kernel
theorem dX4_init_102 : decode cX4_init 102 = .ok (.aload_n 0, 1) := by decide +kernel
theorem dX4_init_103 : decode cX4_init 103 = .ok (.getfield 41, 3) := by decide +kernel
theorem dX4_init_106 : decode cX4_init 106 = .ok (.iload_n 1, 1) := by decide +kernel
theorem dX4_init_107 : decode cX4_init 107 = .ok (.new 32, 3) := by decide +kernel
theorem dX4_init_110 : decode cX4_init 110 = .ok (.dup, 1) := by decide +kernel
theorem dX4_init_111 : decode cX4_init 111 = .ok (.invokespecial 47, 3) := by decide +kernel
theorem dX4_init_114 : decode cX4_init 114 = .ok (.aastore, 1) := by decide +kernel
theorem dX4_init_115 : decode cX4_init 115 = .ok (.aload_n 0, 1) := by decide +kernel
theorem dX4_init_116 : decode cX4_init 116 = .ok (.getfield 44, 3) := by decide +kernel
theorem dX4_init_119 : decode cX4_init 119 = .ok (.iload_n 1, 1) := by decide +kernel
theorem dX4_init_120 : decode cX4_init 120 = .ok (.new 32, 3) := by decide +kernel
theorem dX4_init_123 : decode cX4_init 123 = .ok (.dup, 1) := by decide +kernel
theorem dX4_init_124 : decode cX4_init 124 = .ok (.invokespecial 47, 3) := by decide +kernel
theorem dX4_init_127 : decode cX4_init 127 = .ok (.aastore, 1) := by decide +kernel
theorem dX4_init_128 : decode cX4_init 128 = .ok (.iinc 1 1, 3) := by decide +kernel
theorem dX4_init_131 : decode cX4_init 131 = .ok (.goto (-60), 3) := by decide +kernel
theorem dX4_init_134 : decode cX4_init 134 = .ok (.return_, 1) := by decide +kernel
theorem dX4_readSetup_0 : decode cX4_readSetup 0 = .ok (.aload_n 0, 1) := by decide +kernel
theorem dX4_readSetup_1 : decode cX4_readSetup 1 = .ok (.getfield 21, 3) := by decide +kernel
theorem dX4_readSetup_4 : decode cX4_readSetup 4 = .ok (.iconst 0, 1) := by decide +kernel
theorem dX4_readSetup_5 : decode cX4_readSetup 5 = .ok (.putfield 48, 3) := by decide +kernel
theorem dX4_readSetup_8 : decode cX4_readSetup 8 = .ok (.aload_n 0, 1) := by decide +kernel
theorem dX4_readSetup_9 : decode cX4_readSetup 9 = .ok (.getfield 14, 3) := by decide +kernel
theorem dX4_readSetup_12 : decode cX4_readSetup 12 = .ok (.iload_n 1, 1) := by decide +kernel
theorem dX4_readSetup_13 : decode cX4_readSetup 13 = .ok (.invokevirtual 52, 3) := by decide +kernel
theorem dX4_readSetup_16 : decode cX4_readSetup 16 = .ok (.aload_n 0, 1) := by decide +kernel
theorem dX4_readSetup_17 : decode cX4_readSetup 17 = .ok (.getfield 14, 3) := by decide +kernel
theorem dX4_readSetup_20 : decode cX4_readSetup 20 = .ok (.ldc 56, 2) := by decide +kernel
theorem dX4_readSetup_22 : decode cX4_readSetup 22 = .ok (.invokevirtual 58, 3) := by decide +kernel
theorem dX4_readSetup_25 : decode cX4_readSetup 25 = .ok (.ifCond .ne 10, 3) := by decide +kernel
theorem dX4_readSetup_28 : decode cX4_readSetup 28 = .ok (.aload_n 0, 1) := by decide +kernel
theorem dX4_readSetup_29 : decode cX4_readSetup 29 = .ok (.bipush (-2), 2) := by decide +kernel
theorem dX4_readSetup_31 : decode cX4_readSetup 31 = .ok (.invokevirtual 62, 3) := by decide +kernel
theorem dX4_readSetup_34 : decode cX4_readSetup 34 = .ok (.ireturn, 1) := by decide +kernel
theorem dX4_readSetup_35 : decode cX4_readSetup 35 = .ok (.aload_n 0, 1) := by decide +kernel
theorem dX4_readSetup_36 : decode cX4_readSetup 36 = .ok (.getfield 14, 3) := by decide +kernel
theorem dX4_readSetup_39 : decode cX4_readSetup 39 = .ok (.invokevirtual 66, 3) := by decide +kernel
theorem dX4_readSetup_42 : decode cX4_readSetup 42 = .ok (.aload_n 0, 1) := by decide +kernel
theorem dX4_readSetup_43 : decode cX4_readSetup 43 = .ok (.bipush 59, 2) := by decide +kernel
theorem dX4_readSetup_45 : decode cX4_readSetup 45 = .ok (.invokevirtual 69, 3) := by decide +kernel
theorem dX4_readSetup_48 : decode cX4_readSetup 48 = .ok (.ifCond .ne 5, 3) := by decide +kernel
theorem dX4_readSetup_51 : decode cX4_readSetup 51 = .ok (.iconst 0, 1) := by decide +kernel
theorem dX4_readSetup_52 : decode cX4_readSetup 52 = .ok (.ireturn, 1) := by decide +kernel
theorem dX4_readSetup_53 : decode cX4_readSetup 53 = .ok (.iconst 0, 1) := by decide +kernel
theorem dX4_readSetup_54 : decode cX4_readSetup 54 = .ok (.istore_n 2, 1) := by decide +kernel
theorem dX4_readSetup_55 : decode cX4_readSetup 55 = .ok (.iload_n 2, 1) := by decide +kernel
theorem dX4_readSetup_56 : decode cX4_readSetup 56 = .ok (.sipush 700, 3) := by decide +kernel
theorem dX4_readSetup_59 : decode cX4_readSetup 59 = .ok (.if_icmp .ge 94, 3) := by decide +kernel
theorem dX4_readSetup_62 : decode cX4_readSetup 62 = .ok (.aload_n 0, 1) := by decide +kernel
theorem dX4_readSetup_63 : decode cX4_readSetup 63 = .ok (.getfield 14, 3) := by decide +kernel
theorem dX4_readSetup_66 : decode cX4_readSetup 66 = .ok (.getfield 72, 3) := by decide +kernel
theorem dX4_readSetup_69 : decode cX4_readSetup 69 = .ok (.ifCond .lt 84, 3) := by decide +kernel
theorem dX4_readSetup_72 : decode cX4_readSetup 72 = .ok (.aload_n 0, 1) := by decide +kernel
theorem dX4_readSetup_73 : decode cX4_readSetup 73 = .ok (.getfield 14, 3) := by decide +kernel
theorem dX4_readSetup_76 : decode cX4_readSetup 76 = .ok (.invokevirtual 75, 3) := by decide +kernel
theorem dX4_readSetup_79 : decode cX4_readSetup 79 = .ok (.istore_n 3, 1) := by decide +kernel
theorem dX4_readSetup_80 : decode cX4_readSetup 80 = .ok (.iload_n 3, 1) := by decide +kernel
theorem dX4_readSetup_81 : decode cX4_readSetup 81 = .ok (.ifCond .ge 10, 3) := by decide +kernel
theorem dX4_readSetup_84 : decode cX4_readSetup 84 = .ok (.aload_n 0, 1) := by decide +kernel
theorem dX4_readSetup_85 : decode cX4_readSetup 85 = .ok (.bipush (-2), 2) := by decide +kernel
theorem dX4_readSetup_87 : decode cX4_readSetup 87 = .ok (.invokevirtual 62, 3) := by decide +kernel
theorem dX4_readSetup_90 : decode cX4_readSetup 90 = .ok (.ireturn, 1) := by decide +kernel
theorem dX4_readSetup_91 : decode cX4_readSetup 91 = .ok (.aload_n 0, 1) := by decide +kernel
theorem dX4_readSetup_92 : decode cX4_readSetup 92 = .ok (.getfield 14, 3) := by decide +kernel
theorem dX4_readSetup_95 : decode cX4_readSetup 95 = .ok (.invokevirtual 66, 3) := by decide +kernel
theorem dX4_readSetup_98 : decode cX4_readSetup 98 = .ok (.aload_n 0, 1) := by decide +kernel
theorem dX4_readSetup_99 : decode cX4_readSetup 99 = .ok (.bipush 61, 2) := by decide +kernel
theorem dX4_readSetup_101 : decode cX4_readSetup 101 = .ok (.invokevirtual 69, 3) := by decide +kernel
theorem dX4_readSetup_104 : decode cX4_readSetup 104 = .ok (.ifCond .eq 27, 3) := by decide +kernel
theorem dX4_readSetup_107 : decode cX4_readSetup 107 = .ok (.aload_n 0, 1) := by decide +kernel
theorem dX4_readSetup_108 : decode cX4_readSetup 108 = .ok (.iconst 0, 1) := by decide +kernel
theorem dX4_readSetup_109 : decode cX4_readSetup 109 = .ok (.invokevirtual 79, 3) := by decide +kernel
theorem dX4_readSetup_112 : decode cX4_readSetup 112 = .ok (.ifCond .eq 19, 3) := by decide +kernel
theorem dX4_readSetup_115 : decode cX4_readSetup 115 = .ok (.aload_n 0, 1) := by decide +kernel
theorem dX4_readSetup_116 : decode cX4_readSetup 116 = .ok (.invokevirtual 82, 3) := by decide +kernel
theorem dX4_readSetup_119 : decode cX4_readSetup 119 = .ok (.ifCond .eq 12, 3) := by decide +kernel
theorem dX4_readSetup_122 : decode cX4_readSetup 122 = .ok (.aload_n 0, 1) := by decide +kernel
theorem dX4_readSetup_123 : decode cX4_readSetup 123 = .ok (.bipush 59, 2) := by decide +kernel
theorem dX4_readSetup_125 : decode cX4_readSetup 125 = .ok (.invokevirtual 69, 3) := by decide +kernel
theorem dX4_readSetup_128 : decode cX4_readSetup 128 = .ok (.ifCond .ne 5, 3) := by decide +kernel
theorem dX4_readSetup_131 : decode cX4_readSetup 131 = .ok (.iconst 0, 1) := by decide +kernel
theorem dX4_readSetup_132 : decode cX4_readSetup 132 = .ok (.ireturn, 1) := by decide +kernel
theorem dX4_readSetup_133 : decode cX4_readSetup 133 = .ok (.aload_n 0, 1) := by decide +kernel
theorem dX4_readSetup_134 : decode cX4_readSetup 134 = .ok (.getfield 21, 3) := by decide +kernel
theorem dX4_readSetup_137 : decode cX4_readSetup 137 = .ok (.iload_n 3, 1) := by decide +kernel
theorem dX4_readSetup_138 : decode cX4_readSetup 138 = .ok (.aload_n 0, 1) := by decide +kernel
theorem dX4_readSetup_139 : decode cX4_readSetup 139 = .ok (.getfield 34, 3) := by decide +kernel
theorem dX4_readSetup_142 : decode cX4_readSetup 142 = .ok (.iconst 0, 1) := by decide +kernel
theorem dX4_readSetup_143 : decode cX4_readSetup 143 = .ok (.aaload, 1) := by decide +kernel
theorem dX4_readSetup_144 : decode cX4_readSetup 144 = .ok (.invokevirtual 86, 3) := by decide +kernel
theorem dX4_readSetup_147 : decode cX4_readSetup 147 = .ok (.iinc 2 1, 3) := by decide +kernel
theorem dX4_readSetup_150 : decode cX4_readSetup 150 = .ok (.goto (-95), 3) := by decide +kernel
theorem dX4_readSetup_153 : decode cX4_readSetup 153 = .ok (.iconst 1, 1) := by decide +kernel
theorem dX4_readSetup_154 : decode cX4_readSetup 154 = .ok (.ireturn, 1) := by decide +kernel
theorem dX4_fail_0 : decode cX4_fail 0 = .ok (.aload_n 0, 1) := by decide +kernel
theorem dX4_fail_1 : decode cX4_fail 1 = .ok (.iload_n 1, 1) := by decide +kernel
theorem dX4_fail_2 : decode cX4_fail 2 = .ok (.putfield 90, 3) := by decide +kernel
theorem dX4_fail_5 : decode cX4_fail 5 = .ok (.iconst 0, 1) := by decide +kernel
theorem dX4_fail_6 : decode cX4_fail 6 = .ok (.ireturn, 1) := by decide +kernel
theorem dX4_take_0 : decode cX4_take 0 = .ok (.aload_n 0, 1) := by decide +kernel
theorem dX4_take_1 : decode cX4_take 1 = .ok (.getfield 14, 3) := by decide +kernel
theorem dX4_take_4 : decode cX4_take 4 = .ok (.getfield 72, 3) := by decide +kernel
theorem dX4_take_7 : decode cX4_take 7 = .ok (.iload_n 1, 1) := by decide +kernel
theorem dX4_take_8 : decode cX4_take 8 = .ok (.if_icmp .eq 10, 3) := by decide +kernel
theorem dX4_take_11 : decode cX4_take 11 = .ok (.aload_n 0, 1) := by decide +kernel
theorem dX4_take_12 : decode cX4_take 12 = .ok (.bipush (-2), 2) := by decide +kernel
theorem dX4_take_14 : decode cX4_take 14 = .ok (.invokevirtual 62, 3) := by decide +kernel
theorem dX4_take_17 : decode cX4_take 17 = .ok (.ireturn, 1) := by decide +kernel
theorem dX4_take_18 : decode cX4_take 18 = .ok (.aload_n 0, 1) := by decide +kernel
theorem dX4_take_19 : decode cX4_take 19 = .ok (.getfield 14, 3) := by decide +kernel
theorem dX4_take_22 : decode cX4_take 22 = .ok (.invokevirtual 66, 3) := by decide +kernel
theorem dX4_take_25 : decode cX4_take 25 = .ok (.iconst 1, 1) := by decide +kernel
theorem dX4_take_26 : decode cX4_take 26 = .ok (.ireturn, 1) := by decide +kernel
theorem dX4_open_0 : decode cX4_open 0 = .ok (.aload_n 0, 1) := by decide +kernel
theorem dX4_open_1 : decode cX4_open 1 = .ok (.getfield 14, 3) := by decide +kernel
theorem dX4_open_4 : decode cX4_open 4 = .ok (.getfield 72, 3) := by decide +kernel
theorem dX4_open_7 : decode cX4_open 7 = .ok (.iload_n 1, 1) := by decide +kernel
theorem dX4_open_8 : decode cX4_open 8 = .ok (.if_icmp .eq 10, 3) := by decide +kernel
theorem dX4_open_11 : decode cX4_open 11 = .ok (.aload_n 0, 1) := by decide +kernel
theorem dX4_open_12 : decode cX4_open 12 = .ok (.bipush (-2), 2) := by decide +kernel
theorem dX4_open_14 : decode cX4_open 14 = .ok (.invokevirtual 62, 3) := by decide +kernel
theorem dX4_open_17 : decode cX4_open 17 = .ok (.ireturn, 1) := by decide +kernel
theorem dX4_open_18 : decode cX4_open 18 = .ok (.iload_n 2, 1) := by decide +kernel
theorem dX4_open_19 : decode cX4_open 19 = .ok (.iconst 4, 1) := by decide +kernel
theorem dX4_open_20 : decode cX4_open 20 = .ok (.if_icmp .lt 10, 3) := by decide +kernel
theorem dX4_open_23 : decode cX4_open 23 = .ok (.aload_n 0, 1) := by decide +kernel
theorem dX4_open_24 : decode cX4_open 24 = .ok (.bipush (-6), 2) := by decide +kernel
theorem dX4_open_26 : decode cX4_open 26 = .ok (.invokevirtual 62, 3) := by decide +kernel
theorem dX4_open_29 : decode cX4_open 29 = .ok (.ireturn, 1) := by decide +kernel
theorem dX4_open_30 : decode cX4_open 30 = .ok (.aload_n 0, 1) := by decide +kernel
theorem dX4_open_31 : decode cX4_open 31 = .ok (.getfield 14, 3) := by decide +kernel
theorem dX4_open_34 : decode cX4_open 34 = .ok (.invokevirtual 66, 3) := by decide +kernel
theorem dX4_open_37 : decode cX4_open 37 = .ok (.iconst 1, 1) := by decide +kernel
theorem dX4_open_38 : decode cX4_open 38 = .ok (.ireturn, 1) := by decide +kernel
theorem dX4_readUncertainty_0 : decode cX4_readUncertainty 0 = .ok (.aload_n 0, 1) := by decide +kernel
theorem dX4_readUncertainty_1 : decode cX4_readUncertainty 1 = .ok (.getfield 14, 3) := by decide +kernel
theorem dX4_readUncertainty_4 : decode cX4_readUncertainty 4 = .ok (.getfield 72, 3) := by decide +kernel
theorem dX4_readUncertainty_7 : decode cX4_readUncertainty 7 = .ok (.bipush 35, 2) := by decide +kernel
theorem dX4_readUncertainty_9 : decode cX4_readUncertainty 9 = .ok (.if_icmp .eq 5, 3) := by decide +kernel
theorem dX4_readUncertainty_12 : decode cX4_readUncertainty 12 = .ok (.iconst 1, 1) := by decide +kernel
theorem dX4_readUncertainty_13 : decode cX4_readUncertainty 13 = .ok (.ireturn, 1) := by decide +kernel
theorem dX4_readUncertainty_14 : decode cX4_readUncertainty 14 = .ok (.aload_n 0, 1) := by decide +kernel
theorem dX4_readUncertainty_15 : decode cX4_readUncertainty 15 = .ok (.getfield 14, 3) := by decide +kernel
theorem dX4_readUncertainty_18 : decode cX4_readUncertainty 18 = .ok (.invokevirtual 66, 3) := by decide +kernel
theorem dX4_readUncertainty_21 : decode cX4_readUncertainty 21 = .ok (.aload_n 0, 1) := by decide +kernel
theorem dX4_readUncertainty_22 : decode cX4_readUncertainty 22 = .ok (.invokevirtual 93, 3) := by decide +kernel
theorem dX4_readUncertainty_25 : decode cX4_readUncertainty 25 = .ok (.ifCond .ne 5, 3) := by decide +kernel
theorem dX4_readUncertainty_28 : decode cX4_readUncertainty 28 = .ok (.iconst 0, 1) := by decide +kernel
theorem dX4_readUncertainty_29 : decode cX4_readUncertainty 29 = .ok (.ireturn, 1) := by decide +kernel
theorem dX4_readUncertainty_30 : decode cX4_readUncertainty 30 = .ok (.aload_n 0, 1) := by decide +kernel
theorem dX4_readUncertainty_31 : decode cX4_readUncertainty 31 = .ok (.getfield 34, 3) := by decide +kernel
theorem dX4_readUncertainty_34 : decode cX4_readUncertainty 34 = .ok (.iconst 0, 1) := by decide +kernel
theorem dX4_readUncertainty_35 : decode cX4_readUncertainty 35 = .ok (.aaload, 1) := by decide +kernel
theorem dX4_readUncertainty_36 : decode cX4_readUncertainty 36 = .ok (.aload_n 0, 1) := by decide +kernel
theorem dX4_readUncertainty_37 : decode cX4_readUncertainty 37 = .ok (.getfield 14, 3) := by decide +kernel
theorem dX4_readUncertainty_40 : decode cX4_readUncertainty 40 = .ok (.invokevirtual 96, 3) := by decide +kernel
theorem dX4_readUncertainty_43 : decode cX4_readUncertainty 43 = .ok (.i2l, 1) := by decide +kernel
theorem dX4_readUncertainty_44 : decode cX4_readUncertainty 44 = .ok (.invokevirtual 99, 3) := by decide +kernel
theorem dX4_readUncertainty_47 : decode cX4_readUncertainty 47 = .ok (.aload_n 0, 1) := by decide +kernel
theorem dX4_readUncertainty_48 : decode cX4_readUncertainty 48 = .ok (.getfield 14, 3) := by decide +kernel
theorem dX4_readUncertainty_51 : decode cX4_readUncertainty 51 = .ok (.invokevirtual 66, 3) := by decide +kernel
theorem dX4_readUncertainty_54 : decode cX4_readUncertainty 54 = .ok (.aload_n 0, 1) := by decide +kernel
theorem dX4_readUncertainty_55 : decode cX4_readUncertainty 55 = .ok (.getfield 34, 3) := by decide +kernel
theorem dX4_readUncertainty_58 : decode cX4_readUncertainty 58 = .ok (.iconst 0, 1) := by decide +kernel
theorem dX4_readUncertainty_59 : decode cX4_readUncertainty 59 = .ok (.aaload, 1) := by decide +kernel
theorem dX4_readUncertainty_60 : decode cX4_readUncertainty 60 = .ok (.invokevirtual 103, 3) := by decide +kernel
theorem dX4_readUncertainty_63 : decode cX4_readUncertainty 63 = .ok (.ifCond .ne 12, 3) := by decide +kernel
theorem dX4_readUncertainty_66 : decode cX4_readUncertainty 66 = .ok (.aload_n 0, 1) := by decide +kernel
theorem dX4_readUncertainty_67 : decode cX4_readUncertainty 67 = .ok (.bipush (-5), 2) := by decide +kernel
theorem dX4_readUncertainty_69 : decode cX4_readUncertainty 69 = .ok (.invokevirtual 62, 3) := by decide +kernel
theorem dX4_readUncertainty_72 : decode cX4_readUncertainty 72 = .ok (.ifCond .eq 7, 3) := by decide +kernel
theorem dX4_readUncertainty_75 : decode cX4_readUncertainty 75 = .ok (.iconst 1, 1) := by decide +kernel
theorem dX4_readUncertainty_76 : decode cX4_readUncertainty 76 = .ok (.goto 4, 3) := by decide +kernel
theorem dX4_readUncertainty_79 : decode cX4_readUncertainty 79 = .ok (.iconst 0, 1) := by decide +kernel
theorem dX4_readUncertainty_80 : decode cX4_readUncertainty 80 = .ok (.ireturn, 1) := by decide +kernel
theorem dX4_checkNumber_0 : decode cX4_checkNumber 0 = .ok (.aload_n 0, 1) := by decide +kernel
theorem dX4_checkNumber_1 : decode cX4_checkNumber 1 = .ok (.getfield 14, 3) := by decide +kernel
theorem dX4_checkNumber_4 : decode cX4_checkNumber 4 = .ok (.invokevirtual 106, 3) := by decide +kernel
theorem dX4_checkNumber_7 : decode cX4_checkNumber 7 = .ok (.ifCond .ne 10, 3) := by decide +kernel
theorem dX4_checkNumber_10 : decode cX4_checkNumber 10 = .ok (.aload_n 0, 1) := by decide +kernel
theorem dX4_checkNumber_11 : decode cX4_checkNumber 11 = .ok (.bipush (-2), 2) := by decide +kernel
theorem dX4_checkNumber_13 : decode cX4_checkNumber 13 = .ok (.invokevirtual 62, 3) := by decide +kernel
theorem dX4_checkNumber_16 : decode cX4_checkNumber 16 = .ok (.ireturn, 1) := by decide +kernel
theorem dX4_checkNumber_17 : decode cX4_checkNumber 17 = .ok (.aload_n 0, 1) := by decide +kernel
theorem dX4_checkNumber_18 : decode cX4_checkNumber 18 = .ok (.getfield 14, 3) := by decide +kernel
theorem dX4_checkNumber_21 : decode cX4_checkNumber 21 = .ok (.invokevirtual 96, 3) := by decide +kernel
theorem dX4_checkNumber_24 : decode cX4_checkNumber 24 = .ok (.ldc 109, 2) := by decide +kernel
theorem dX4_checkNumber_26 : decode cX4_checkNumber 26 = .ok (.if_icmp .le 12, 3) := by decide +kernel
theorem dX4_checkNumber_29 : decode cX4_checkNumber 29 = .ok (.aload_n 0, 1) := by decide +kernel
theorem dX4_checkNumber_30 : decode cX4_checkNumber 30 = .ok (.bipush (-3), 2) := by decide +kernel
theorem dX4_checkNumber_32 : decode cX4_checkNumber 32 = .ok (.invokevirtual 62, 3) := by decide +kernel
theorem dX4_checkNumber_35 : decode cX4_checkNumber 35 = .ok (.ifCond .eq 7, 3) := by decide +kernel
theorem dX4_checkNumber_38 : decode cX4_checkNumber 38 = .ok (.iconst 1, 1) := by decide +kernel
theorem dX4_checkNumber_39 : decode cX4_checkNumber 39 = .ok (.goto 4, 3) := by decide +kernel
theorem dX4_checkNumber_42 : decode cX4_checkNumber 42 = .ok (.iconst 0, 1) := by decide +kernel
theorem dX4_checkNumber_43 : decode cX4_checkNumber 43 = .ok (.ireturn, 1) := by decide +kernel
theorem dX4_readSum_0 : decode cX4_readSum 0 = .ok (.iload_n 1, 1) := by decide +kernel
theorem dX4_readSum_1 : decode cX4_readSum 1 = .ok (.ifCond .lt 8, 3) := by decide +kernel
theorem dX4_readSum_4 : decode cX4_readSum 4 = .ok (.iload_n 1, 1) := by decide +kernel
theorem dX4_readSum_5 : decode cX4_readSum 5 = .ok (.iconst 5, 1) := by decide +kernel
theorem dX4_readSum_6 : decode cX4_readSum 6 = .ok (.if_icmp .lt 10, 3) := by decide +kernel
theorem dX4_readSum_9 : decode cX4_readSum 9 = .ok (.aload_n 0, 1) := by decide +kernel
theorem dX4_readSum_10 : decode cX4_readSum 10 = .ok (.bipush (-6), 2) := by decide +kernel
theorem dX4_readSum_12 : decode cX4_readSum 12 = .ok (.invokevirtual 62, 3) := by decide +kernel
theorem dX4_readSum_15 : decode cX4_readSum 15 = .ok (.ireturn, 1) := by decide +kernel
theorem dX4_readSum_16 : decode cX4_readSum 16 = .ok (.aload_n 0, 1) := by decide +kernel
theorem dX4_readSum_17 : decode cX4_readSum 17 = .ok (.iload_n 1, 1) := by decide +kernel
theorem dX4_readSum_18 : decode cX4_readSum 18 = .ok (.invokevirtual 110, 3) := by decide +kernel
theorem dX4_readSum_21 : decode cX4_readSum 21 = .ok (.ifCond .ne 5, 3) := by decide +kernel
theorem dX4_readSum_24 : decode cX4_readSum 24 = .ok (.iconst 0, 1) := by decide +kernel
theorem dX4_readSum_25 : decode cX4_readSum 25 = .ok (.ireturn, 1) := by decide +kernel
theorem dX4_readSum_26 : decode cX4_readSum 26 = .ok (.aload_n 0, 1) := by decide +kernel
theorem dX4_readSum_27 : decode cX4_readSum 27 = .ok (.getfield 34, 3) := by decide +kernel
theorem dX4_readSum_30 : decode cX4_readSum 30 = .ok (.iload_n 1, 1) := by decide +kernel
theorem dX4_readSum_31 : decode cX4_readSum 31 = .ok (.aaload, 1) := by decide +kernel
theorem dX4_readSum_32 : decode cX4_readSum 32 = .ok (.astore_n 2, 1) := by decide +kernel
theorem dX4_readSum_33 : decode cX4_readSum 33 = .ok (.aload_n 2, 1) := by decide +kernel
theorem dX4_readSum_34 : decode cX4_readSum 34 = .ok (.aload_n 0, 1) := by decide +kernel
theorem dX4_readSum_35 : decode cX4_readSum 35 = .ok (.getfield 38, 3) := by decide +kernel
theorem dX4_readSum_38 : decode cX4_readSum 38 = .ok (.iload_n 1, 1) := by decide +kernel
theorem dX4_readSum_39 : decode cX4_readSum 39 = .ok (.aaload, 1) := by decide +kernel
theorem dX4_readSum_40 : decode cX4_readSum 40 = .ok (.invokevirtual 113, 3) := by decide +kernel
theorem dX4_readSum_43 : decode cX4_readSum 43 = .ok (.iconst 0, 1) := by decide +kernel
theorem dX4_readSum_44 : decode cX4_readSum 44 = .ok (.istore_n 3, 1) := by decide +kernel
theorem dX4_readSum_45 : decode cX4_readSum 45 = .ok (.iload_n 3, 1) := by decide +kernel
theorem dX4_readSum_46 : decode cX4_readSum 46 = .ok (.sipush 700, 3) := by decide +kernel
theorem dX4_readSum_49 : decode cX4_readSum 49 = .ok (.if_icmp .ge 121, 3) := by decide +kernel
theorem dX4_readSum_52 : decode cX4_readSum 52 = .ok (.aload_n 0, 1) := by decide +kernel
theorem dX4_readSum_53 : decode cX4_readSum 53 = .ok (.getfield 14, 3) := by decide +kernel
theorem dX4_readSum_56 : decode cX4_readSum 56 = .ok (.getfield 72, 3) := by decide +kernel
theorem dX4_readSum_59 : decode cX4_readSum 59 = .ok (.bipush 43, 2) := by decide +kernel
theorem dX4_readSum_61 : decode cX4_readSum 61 = .ok (.if_icmp .eq 15, 3) := by decide +kernel
theorem dX4_readSum_64 : decode cX4_readSum 64 = .ok (.aload_n 0, 1) := by decide +kernel
theorem dX4_readSum_65 : decode cX4_readSum 65 = .ok (.getfield 14, 3) := by decide +kernel
theorem dX4_readSum_68 : decode cX4_readSum 68 = .ok (.getfield 72, 3) := by decide +kernel
theorem dX4_readSum_71 : decode cX4_readSum 71 = .ok (.bipush 45, 2) := by decide +kernel
theorem dX4_readSum_73 : decode cX4_readSum 73 = .ok (.if_icmp .ne 97, 3) := by decide +kernel
theorem dX4_readSum_76 : decode cX4_readSum 76 = .ok (.aload_n 0, 1) := by decide +kernel
theorem dX4_readSum_77 : decode cX4_readSum 77 = .ok (.getfield 14, 3) := by decide +kernel
theorem dX4_readSum_80 : decode cX4_readSum 80 = .ok (.getfield 72, 3) := by decide +kernel
theorem dX4_readSum_83 : decode cX4_readSum 83 = .ok (.bipush 43, 2) := by decide +kernel
theorem dX4_readSum_85 : decode cX4_readSum 85 = .ok (.if_icmp .ne 7, 3) := by decide +kernel
theorem dX4_readSum_88 : decode cX4_readSum 88 = .ok (.iconst 1, 1) := by decide +kernel
theorem dX4_readSum_89 : decode cX4_readSum 89 = .ok (.goto 4, 3) := by decide +kernel
theorem dX4_readSum_92 : decode cX4_readSum 92 = .ok (.iconst 0, 1) := by decide +kernel
theorem dX4_readSum_93 : decode cX4_readSum 93 = .ok (.istore 4, 2) := by decide +kernel
theorem dX4_readSum_95 : decode cX4_readSum 95 = .ok (.aload_n 0, 1) := by decide +kernel
theorem dX4_readSum_96 : decode cX4_readSum 96 = .ok (.getfield 14, 3) := by decide +kernel
theorem dX4_readSum_99 : decode cX4_readSum 99 = .ok (.invokevirtual 66, 3) := by decide +kernel
theorem dX4_readSum_102 : decode cX4_readSum 102 = .ok (.aload_n 0, 1) := by decide +kernel
theorem dX4_readSum_103 : decode cX4_readSum 103 = .ok (.iload_n 1, 1) := by decide +kernel
theorem dX4_readSum_104 : decode cX4_readSum 104 = .ok (.invokevirtual 110, 3) := by decide +kernel
theorem dX4_readSum_107 : decode cX4_readSum 107 = .ok (.ifCond .ne 5, 3) := by decide +kernel
theorem dX4_readSum_110 : decode cX4_readSum 110 = .ok (.iconst 0, 1) := by decide +kernel
theorem dX4_readSum_111 : decode cX4_readSum 111 = .ok (.ireturn, 1) := by decide +kernel
theorem dX4_readSum_112 : decode cX4_readSum 112 = .ok (.iload 4, 2) := by decide +kernel
theorem dX4_readSum_114 : decode cX4_readSum 114 = .ok (.ifCond .eq 21, 3) := by decide +kernel
theorem dX4_readSum_117 : decode cX4_readSum 117 = .ok (.aload_n 0, 1) := by decide +kernel
theorem dX4_readSum_118 : decode cX4_readSum 118 = .ok (.getfield 28, 3) := by decide +kernel
theorem dX4_readSum_121 : decode cX4_readSum 121 = .ok (.aload_n 2, 1) := by decide +kernel
theorem dX4_readSum_122 : decode cX4_readSum 122 = .ok (.aload_n 2, 1) := by decide +kernel
theorem dX4_readSum_123 : decode cX4_readSum 123 = .ok (.aload_n 0, 1) := by decide +kernel
theorem dX4_readSum_124 : decode cX4_readSum 124 = .ok (.getfield 38, 3) := by decide +kernel
theorem dX4_readSum_127 : decode cX4_readSum 127 = .ok (.iload_n 1, 1) := by decide +kernel
theorem dX4_readSum_128 : decode cX4_readSum 128 = .ok (.aaload, 1) := by decide +kernel
theorem dX4_readSum_129 : decode cX4_readSum 129 = .ok (.invokevirtual 117, 3) := by decide +kernel
theorem dX4_readSum_132 : decode cX4_readSum 132 = .ok (.goto 18, 3) := by decide +kernel
theorem dX4_readSum_135 : decode cX4_readSum 135 = .ok (.aload_n 0, 1) := by decide +kernel
theorem dX4_readSum_136 : decode cX4_readSum 136 = .ok (.getfield 28, 3) := by decide +kernel
theorem dX4_readSum_139 : decode cX4_readSum 139 = .ok (.aload_n 2, 1) := by decide +kernel
theorem dX4_readSum_140 : decode cX4_readSum 140 = .ok (.aload_n 2, 1) := by decide +kernel
theorem dX4_readSum_141 : decode cX4_readSum 141 = .ok (.aload_n 0, 1) := by decide +kernel
theorem dX4_readSum_142 : decode cX4_readSum 142 = .ok (.getfield 38, 3) := by decide +kernel
theorem dX4_readSum_145 : decode cX4_readSum 145 = .ok (.iload_n 1, 1) := by decide +kernel
theorem dX4_readSum_146 : decode cX4_readSum 146 = .ok (.aaload, 1) := by decide +kernel
theorem dX4_readSum_147 : decode cX4_readSum 147 = .ok (.invokevirtual 121, 3) := by decide +kernel
theorem dX4_readSum_150 : decode cX4_readSum 150 = .ok (.istore 5, 2) := by decide +kernel
theorem dX4_readSum_152 : decode cX4_readSum 152 = .ok (.iload 5, 2) := by decide +kernel
theorem dX4_readSum_154 : decode cX4_readSum 154 = .ok (.ifCond .ne 10, 3) := by decide +kernel
theorem dX4_readSum_157 : decode cX4_readSum 157 = .ok (.aload_n 0, 1) := by decide +kernel
theorem dX4_readSum_158 : decode cX4_readSum 158 = .ok (.bipush (-5), 2) := by decide +kernel
theorem dX4_readSum_160 : decode cX4_readSum 160 = .ok (.invokevirtual 62, 3) := by decide +kernel
theorem dX4_readSum_163 : decode cX4_readSum 163 = .ok (.ireturn, 1) := by decide +kernel
theorem dX4_readSum_164 : decode cX4_readSum 164 = .ok (.iinc 3 1, 3) := by decide +kernel
theorem dX4_readSum_167 : decode cX4_readSum 167 = .ok (.goto (-122), 3) := by decide +kernel
theorem dX4_readSum_170 : decode cX4_readSum 170 = .ok (.iconst 1, 1) := by decide +kernel
theorem dX4_readSum_171 : decode cX4_readSum 171 = .ok (.ireturn, 1) := by decide +kernel
theorem dX4_readTerm_0 : decode cX4_readTerm 0 = .ok (.iload_n 1, 1) := by decide +kernel
theorem dX4_readTerm_1 : decode cX4_readTerm 1 = .ok (.ifCond .lt 8, 3) := by decide +kernel
theorem dX4_readTerm_4 : decode cX4_readTerm 4 = .ok (.iload_n 1, 1) := by decide +kernel
theorem dX4_readTerm_5 : decode cX4_readTerm 5 = .ok (.iconst 5, 1) := by decide +kernel
theorem dX4_readTerm_6 : decode cX4_readTerm 6 = .ok (.if_icmp .lt 10, 3) := by decide +kernel
theorem dX4_readTerm_9 : decode cX4_readTerm 9 = .ok (.aload_n 0, 1) := by decide +kernel
theorem dX4_readTerm_10 : decode cX4_readTerm 10 = .ok (.bipush (-6), 2) := by decide +kernel
theorem dX4_readTerm_12 : decode cX4_readTerm 12 = .ok (.invokevirtual 62, 3) := by decide +kernel
theorem dX4_readTerm_15 : decode cX4_readTerm 15 = .ok (.ireturn, 1) := by decide +kernel
theorem dX4_readTerm_16 : decode cX4_readTerm 16 = .ok (.aload_n 0, 1) := by decide +kernel
theorem dX4_readTerm_17 : decode cX4_readTerm 17 = .ok (.iload_n 1, 1) := by decide +kernel
theorem dX4_readTerm_18 : decode cX4_readTerm 18 = .ok (.invokevirtual 124, 3) := by decide +kernel
theorem dX4_readTerm_21 : decode cX4_readTerm 21 = .ok (.ifCond .ne 5, 3) := by decide +kernel
theorem dX4_readTerm_24 : decode cX4_readTerm 24 = .ok (.iconst 0, 1) := by decide +kernel
theorem dX4_readTerm_25 : decode cX4_readTerm 25 = .ok (.ireturn, 1) := by decide +kernel
theorem dX4_readTerm_26 : decode cX4_readTerm 26 = .ok (.aload_n 0, 1) := by decide +kernel
theorem dX4_readTerm_27 : decode cX4_readTerm 27 = .ok (.getfield 38, 3) := by decide +kernel
theorem dX4_readTerm_30 : decode cX4_readTerm 30 = .ok (.iload_n 1, 1) := by decide +kernel
theorem dX4_readTerm_31 : decode cX4_readTerm 31 = .ok (.aaload, 1) := by decide +kernel
theorem dX4_readTerm_32 : decode cX4_readTerm 32 = .ok (.astore_n 2, 1) := by decide +kernel
theorem dX4_readTerm_33 : decode cX4_readTerm 33 = .ok (.aload_n 2, 1) := by decide +kernel
theorem dX4_readTerm_34 : decode cX4_readTerm 34 = .ok (.aload_n 0, 1) := by decide +kernel
theorem dX4_readTerm_35 : decode cX4_readTerm 35 = .ok (.getfield 41, 3) := by decide +kernel
theorem dX4_readTerm_38 : decode cX4_readTerm 38 = .ok (.iload_n 1, 1) := by decide +kernel
theorem dX4_readTerm_39 : decode cX4_readTerm 39 = .ok (.aaload, 1) := by decide +kernel
theorem dX4_readTerm_40 : decode cX4_readTerm 40 = .ok (.invokevirtual 113, 3) := by decide +kernel
theorem dX4_readTerm_43 : decode cX4_readTerm 43 = .ok (.iconst 0, 1) := by decide +kernel
theorem dX4_readTerm_44 : decode cX4_readTerm 44 = .ok (.istore_n 3, 1) := by decide +kernel
theorem dX4_readTerm_45 : decode cX4_readTerm 45 = .ok (.iload_n 3, 1) := by decide +kernel
theorem dX4_readTerm_46 : decode cX4_readTerm 46 = .ok (.sipush 700, 3) := by decide +kernel
theorem dX4_readTerm_49 : decode cX4_readTerm 49 = .ok (.if_icmp .ge 63, 3) := by decide +kernel
theorem dX4_readTerm_52 : decode cX4_readTerm 52 = .ok (.aload_n 0, 1) := by decide +kernel
theorem dX4_readTerm_53 : decode cX4_readTerm 53 = .ok (.getfield 14, 3) := by decide +kernel
theorem dX4_readTerm_56 : decode cX4_readTerm 56 = .ok (.getfield 72, 3) := by decide +kernel
theorem dX4_readTerm_59 : decode cX4_readTerm 59 = .ok (.bipush 42, 2) := by decide +kernel
theorem dX4_readTerm_61 : decode cX4_readTerm 61 = .ok (.if_icmp .ne 51, 3) := by decide +kernel
theorem dX4_readTerm_64 : decode cX4_readTerm 64 = .ok (.aload_n 0, 1) := by decide +kernel
theorem dX4_readTerm_65 : decode cX4_readTerm 65 = .ok (.getfield 14, 3) := by decide +kernel
theorem dX4_readTerm_68 : decode cX4_readTerm 68 = .ok (.invokevirtual 66, 3) := by decide +kernel
theorem dX4_readTerm_71 : decode cX4_readTerm 71 = .ok (.aload_n 0, 1) := by decide +kernel
theorem dX4_readTerm_72 : decode cX4_readTerm 72 = .ok (.iload_n 1, 1) := by decide +kernel
theorem dX4_readTerm_73 : decode cX4_readTerm 73 = .ok (.invokevirtual 124, 3) := by decide +kernel
theorem dX4_readTerm_76 : decode cX4_readTerm 76 = .ok (.ifCond .ne 5, 3) := by decide +kernel
theorem dX4_readTerm_79 : decode cX4_readTerm 79 = .ok (.iconst 0, 1) := by decide +kernel
theorem dX4_readTerm_80 : decode cX4_readTerm 80 = .ok (.ireturn, 1) := by decide +kernel
theorem dX4_readTerm_81 : decode cX4_readTerm 81 = .ok (.aload_n 0, 1) := by decide +kernel
theorem dX4_readTerm_82 : decode cX4_readTerm 82 = .ok (.getfield 28, 3) := by decide +kernel
theorem dX4_readTerm_85 : decode cX4_readTerm 85 = .ok (.aload_n 2, 1) := by decide +kernel
theorem dX4_readTerm_86 : decode cX4_readTerm 86 = .ok (.aload_n 2, 1) := by decide +kernel
theorem dX4_readTerm_87 : decode cX4_readTerm 87 = .ok (.aload_n 0, 1) := by decide +kernel
theorem dX4_readTerm_88 : decode cX4_readTerm 88 = .ok (.getfield 41, 3) := by decide +kernel
theorem dX4_readTerm_91 : decode cX4_readTerm 91 = .ok (.iload_n 1, 1) := by decide +kernel
theorem dX4_readTerm_92 : decode cX4_readTerm 92 = .ok (.aaload, 1) := by decide +kernel
theorem dX4_readTerm_93 : decode cX4_readTerm 93 = .ok (.invokevirtual 127, 3) := by decide +kernel
theorem dX4_readTerm_96 : decode cX4_readTerm 96 = .ok (.ifCond .ne 10, 3) := by decide +kernel
theorem dX4_readTerm_99 : decode cX4_readTerm 99 = .ok (.aload_n 0, 1) := by decide +kernel
theorem dX4_readTerm_100 : decode cX4_readTerm 100 = .ok (.bipush (-5), 2) := by decide +kernel
theorem dX4_readTerm_102 : decode cX4_readTerm 102 = .ok (.invokevirtual 62, 3) := by decide +kernel
theorem dX4_readTerm_105 : decode cX4_readTerm 105 = .ok (.ireturn, 1) := by decide +kernel
theorem dX4_readTerm_106 : decode cX4_readTerm 106 = .ok (.iinc 3 1, 3) := by decide +kernel
theorem dX4_readTerm_109 : decode cX4_readTerm 109 = .ok (.goto (-64), 3) := by decide +kernel
theorem dX4_readTerm_112 : decode cX4_readTerm 112 = .ok (.iconst 1, 1) := by decide +kernel
theorem dX4_readTerm_113 : decode cX4_readTerm 113 = .ok (.ireturn, 1) := by decide +kernel
theorem dX4_readFactor_0 : decode cX4_readFactor 0 = .ok (.iload_n 1, 1) := by decide +kernel
theorem dX4_readFactor_1 : decode cX4_readFactor 1 = .ok (.ifCond .lt 8, 3) := by decide +kernel
theorem dX4_readFactor_4 : decode cX4_readFactor 4 = .ok (.iload_n 1, 1) := by decide +kernel
theorem dX4_readFactor_5 : decode cX4_readFactor 5 = .ok (.iconst 5, 1) := by decide +kernel
theorem dX4_readFactor_6 : decode cX4_readFactor 6 = .ok (.if_icmp .lt 10, 3) := by decide +kernel
theorem dX4_readFactor_9 : decode cX4_readFactor 9 = .ok (.aload_n 0, 1) := by decide +kernel
theorem dX4_readFactor_10 : decode cX4_readFactor 10 = .ok (.bipush (-6), 2) := by decide +kernel
theorem dX4_readFactor_12 : decode cX4_readFactor 12 = .ok (.invokevirtual 62, 3) := by decide +kernel
theorem dX4_readFactor_15 : decode cX4_readFactor 15 = .ok (.ireturn, 1) := by decide +kernel
theorem dX4_readFactor_16 : decode cX4_readFactor 16 = .ok (.aload_n 0, 1) := by decide +kernel
theorem dX4_readFactor_17 : decode cX4_readFactor 17 = .ok (.getfield 41, 3) := by decide +kernel
theorem dX4_readFactor_20 : decode cX4_readFactor 20 = .ok (.iload_n 1, 1) := by decide +kernel
theorem dX4_readFactor_21 : decode cX4_readFactor 21 = .ok (.aaload, 1) := by decide +kernel
theorem dX4_readFactor_22 : decode cX4_readFactor 22 = .ok (.astore_n 2, 1) := by decide +kernel
theorem dX4_readFactor_23 : decode cX4_readFactor 23 = .ok (.aload_n 0, 1) := by decide +kernel
theorem dX4_readFactor_24 : decode cX4_readFactor 24 = .ok (.getfield 14, 3) := by decide +kernel
theorem dX4_readFactor_27 : decode cX4_readFactor 27 = .ok (.ldc 130, 2) := by decide +kernel
theorem dX4_readFactor_29 : decode cX4_readFactor 29 = .ok (.invokevirtual 58, 3) := by decide +kernel
theorem dX4_readFactor_32 : decode cX4_readFactor 32 = .ok (.ifCond .ne 15, 3) := by decide +kernel
theorem dX4_readFactor_35 : decode cX4_readFactor 35 = .ok (.aload_n 0, 1) := by decide +kernel
theorem dX4_readFactor_36 : decode cX4_readFactor 36 = .ok (.getfield 14, 3) := by decide +kernel
theorem dX4_readFactor_39 : decode cX4_readFactor 39 = .ok (.ldc 132, 2) := by decide +kernel
theorem dX4_readFactor_41 : decode cX4_readFactor 41 = .ok (.invokevirtual 58, 3) := by decide +kernel
theorem dX4_readFactor_44 : decode cX4_readFactor 44 = .ok (.ifCond .eq 33, 3) := by decide +kernel
theorem dX4_readFactor_47 : decode cX4_readFactor 47 = .ok (.aload_n 2, 1) := by decide +kernel
theorem dX4_readFactor_48 : decode cX4_readFactor 48 = .ok (.aload_n 0, 1) := by decide +kernel
theorem dX4_readFactor_49 : decode cX4_readFactor 49 = .ok (.getfield 14, 3) := by decide +kernel
theorem dX4_readFactor_52 : decode cX4_readFactor 52 = .ok (.ldc 130, 2) := by decide +kernel
theorem dX4_readFactor_54 : decode cX4_readFactor 54 = .ok (.invokevirtual 58, 3) := by decide +kernel
theorem dX4_readFactor_57 : decode cX4_readFactor 57 = .ok (.ifCond .eq 7, 3) := by decide +kernel
theorem dX4_readFactor_60 : decode cX4_readFactor 60 = .ok (.iconst 4, 1) := by decide +kernel
theorem dX4_readFactor_61 : decode cX4_readFactor 61 = .ok (.goto 4, 3) := by decide +kernel
theorem dX4_readFactor_64 : decode cX4_readFactor 64 = .ok (.iconst 1, 1) := by decide +kernel
theorem dX4_readFactor_65 : decode cX4_readFactor 65 = .ok (.invokevirtual 134, 3) := by decide +kernel
theorem dX4_readFactor_68 : decode cX4_readFactor 68 = .ok (.aload_n 0, 1) := by decide +kernel
theorem dX4_readFactor_69 : decode cX4_readFactor 69 = .ok (.getfield 14, 3) := by decide +kernel
theorem dX4_readFactor_72 : decode cX4_readFactor 72 = .ok (.invokevirtual 66, 3) := by decide +kernel
theorem dX4_readFactor_75 : decode cX4_readFactor 75 = .ok (.iconst 1, 1) := by decide +kernel
theorem dX4_readFactor_76 : decode cX4_readFactor 76 = .ok (.ireturn, 1) := by decide +kernel
theorem dX4_readFactor_77 : decode cX4_readFactor 77 = .ok (.aload_n 0, 1) := by decide +kernel
theorem dX4_readFactor_78 : decode cX4_readFactor 78 = .ok (.getfield 14, 3) := by decide +kernel
theorem dX4_readFactor_81 : decode cX4_readFactor 81 = .ok (.ldc 137, 2) := by decide +kernel
theorem dX4_readFactor_83 : decode cX4_readFactor 83 = .ok (.invokevirtual 58, 3) := by decide +kernel
theorem dX4_readFactor_86 : decode cX4_readFactor 86 = .ok (.ifCond .ne 15, 3) := by decide +kernel
theorem dX4_readFactor_89 : decode cX4_readFactor 89 = .ok (.aload_n 0, 1) := by decide +kernel
theorem dX4_readFactor_90 : decode cX4_readFactor 90 = .ok (.getfield 14, 3) := by decide +kernel
theorem dX4_readFactor_93 : decode cX4_readFactor 93 = .ok (.ldc 139, 2) := by decide +kernel
theorem dX4_readFactor_95 : decode cX4_readFactor 95 = .ok (.invokevirtual 58, 3) := by decide +kernel
theorem dX4_readFactor_98 : decode cX4_readFactor 98 = .ok (.ifCond .eq 71, 3) := by decide +kernel
theorem dX4_readFactor_101 : decode cX4_readFactor 101 = .ok (.aload_n 0, 1) := by decide +kernel
theorem dX4_readFactor_102 : decode cX4_readFactor 102 = .ok (.getfield 14, 3) := by decide +kernel
theorem dX4_readFactor_105 : decode cX4_readFactor 105 = .ok (.ldc 137, 2) := by decide +kernel
theorem dX4_readFactor_107 : decode cX4_readFactor 107 = .ok (.invokevirtual 58, 3) := by decide +kernel
theorem dX4_readFactor_110 : decode cX4_readFactor 110 = .ok (.ifCond .eq 7, 3) := by decide +kernel
theorem dX4_readFactor_113 : decode cX4_readFactor 113 = .ok (.iconst 0, 1) := by decide +kernel
theorem dX4_readFactor_114 : decode cX4_readFactor 114 = .ok (.goto 4, 3) := by decide +kernel
theorem dX4_readFactor_117 : decode cX4_readFactor 117 = .ok (.iconst 1, 1) := by decide +kernel
theorem dX4_readFactor_118 : decode cX4_readFactor 118 = .ok (.istore_n 3, 1) := by decide +kernel
theorem dX4_readFactor_119 : decode cX4_readFactor 119 = .ok (.aload_n 0, 1) := by decide +kernel
theorem dX4_readFactor_120 : decode cX4_readFactor 120 = .ok (.getfield 14, 3) := by decide +kernel
theorem dX4_readFactor_123 : decode cX4_readFactor 123 = .ok (.invokevirtual 66, 3) := by decide +kernel
theorem dX4_readFactor_126 : decode cX4_readFactor 126 = .ok (.aload_n 0, 1) := by decide +kernel
theorem dX4_readFactor_127 : decode cX4_readFactor 127 = .ok (.iload_n 1, 1) := by decide +kernel
theorem dX4_readFactor_128 : decode cX4_readFactor 128 = .ok (.invokevirtual 141, 3) := by decide +kernel
theorem dX4_readFactor_131 : decode cX4_readFactor 131 = .ok (.ifCond .ne 5, 3) := by decide +kernel
theorem dX4_readFactor_134 : decode cX4_readFactor 134 = .ok (.iconst 0, 1) := by decide +kernel
theorem dX4_readFactor_135 : decode cX4_readFactor 135 = .ok (.ireturn, 1) := by decide +kernel
theorem dX4_readFactor_136 : decode cX4_readFactor 136 = .ok (.aload_n 0, 1) := by decide +kernel
theorem dX4_readFactor_137 : decode cX4_readFactor 137 = .ok (.getfield 28, 3) := by decide +kernel
theorem dX4_readFactor_140 : decode cX4_readFactor 140 = .ok (.aload_n 2, 1) := by decide +kernel
theorem dX4_readFactor_141 : decode cX4_readFactor 141 = .ok (.aload_n 0, 1) := by decide +kernel
theorem dX4_readFactor_142 : decode cX4_readFactor 142 = .ok (.getfield 44, 3) := by decide +kernel
theorem dX4_readFactor_145 : decode cX4_readFactor 145 = .ok (.iload_n 1, 1) := by decide +kernel
theorem dX4_readFactor_146 : decode cX4_readFactor 146 = .ok (.aaload, 1) := by decide +kernel
theorem dX4_readFactor_147 : decode cX4_readFactor 147 = .ok (.iload_n 3, 1) := by decide +kernel
theorem dX4_readFactor_148 : decode cX4_readFactor 148 = .ok (.invokevirtual 144, 3) := by decide +kernel
theorem dX4_readFactor_151 : decode cX4_readFactor 151 = .ok (.ifCond .ne 12, 3) := by decide +kernel
theorem dX4_readFactor_154 : decode cX4_readFactor 154 = .ok (.aload_n 0, 1) := by decide +kernel
theorem dX4_readFactor_155 : decode cX4_readFactor 155 = .ok (.bipush (-5), 2) := by decide +kernel
theorem dX4_readFactor_157 : decode cX4_readFactor 157 = .ok (.invokevirtual 62, 3) := by decide +kernel
theorem dX4_readFactor_160 : decode cX4_readFactor 160 = .ok (.ifCond .eq 7, 3) := by decide +kernel
theorem dX4_readFactor_163 : decode cX4_readFactor 163 = .ok (.iconst 1, 1) := by decide +kernel
theorem dX4_readFactor_164 : decode cX4_readFactor 164 = .ok (.goto 4, 3) := by decide +kernel
theorem dX4_readFactor_167 : decode cX4_readFactor 167 = .ok (.iconst 0, 1) := by decide +kernel
theorem dX4_readFactor_168 : decode cX4_readFactor 168 = .ok (.ireturn, 1) := by decide +kernel
theorem dX4_readFactor_169 : decode cX4_readFactor 169 = .ok (.aload_n 0, 1) := by decide +kernel
theorem dX4_readFactor_170 : decode cX4_readFactor 170 = .ok (.getfield 14, 3) := by decide +kernel
theorem dX4_readFactor_173 : decode cX4_readFactor 173 = .ok (.getfield 72, 3) := by decide +kernel
theorem dX4_readFactor_176 : decode cX4_readFactor 176 = .ok (.bipush 40, 2) := by decide +kernel
theorem dX4_readFactor_178 : decode cX4_readFactor 178 = .ok (.if_icmp .ne 21, 3) := by decide +kernel
theorem dX4_readFactor_181 : decode cX4_readFactor 181 = .ok (.aload_n 0, 1) := by decide +kernel
theorem dX4_readFactor_182 : decode cX4_readFactor 182 = .ok (.iload_n 1, 1) := by decide +kernel
theorem dX4_readFactor_183 : decode cX4_readFactor 183 = .ok (.invokevirtual 141, 3) := by decide +kernel
theorem dX4_readFactor_186 : decode cX4_readFactor 186 = .ok (.istore_n 3, 1) := by decide +kernel
theorem dX4_readFactor_187 : decode cX4_readFactor 187 = .ok (.aload_n 2, 1) := by decide +kernel
theorem dX4_readFactor_188 : decode cX4_readFactor 188 = .ok (.aload_n 0, 1) := by decide +kernel
theorem dX4_readFactor_189 : decode cX4_readFactor 189 = .ok (.getfield 44, 3) := by decide +kernel
theorem dX4_readFactor_192 : decode cX4_readFactor 192 = .ok (.iload_n 1, 1) := by decide +kernel
theorem dX4_readFactor_193 : decode cX4_readFactor 193 = .ok (.aaload, 1) := by decide +kernel
theorem dX4_readFactor_194 : decode cX4_readFactor 194 = .ok (.invokevirtual 113, 3) := by decide +kernel
theorem dX4_readFactor_197 : decode cX4_readFactor 197 = .ok (.iload_n 3, 1) := by decide +kernel
theorem dX4_readFactor_198 : decode cX4_readFactor 198 = .ok (.ireturn, 1) := by decide +kernel
theorem dX4_readFactor_199 : decode cX4_readFactor 199 = .ok (.aload_n 0, 1) := by decide +kernel
theorem dX4_readFactor_200 : decode cX4_readFactor 200 = .ok (.getfield 14, 3) := by decide +kernel
theorem dX4_readFactor_203 : decode cX4_readFactor 203 = .ok (.invokevirtual 75, 3) := by decide +kernel
theorem dX4_readFactor_206 : decode cX4_readFactor 206 = .ok (.istore_n 3, 1) := by decide +kernel
theorem dX4_readFactor_207 : decode cX4_readFactor 207 = .ok (.iload_n 3, 1) := by decide +kernel
theorem dX4_readFactor_208 : decode cX4_readFactor 208 = .ok (.ifCond .ge 9, 3) := by decide +kernel
theorem dX4_readFactor_211 : decode cX4_readFactor 211 = .ok (.aload_n 0, 1) := by decide +kernel
theorem dX4_readFactor_212 : decode cX4_readFactor 212 = .ok (.aload_n 2, 1) := by decide +kernel
theorem dX4_readFactor_213 : decode cX4_readFactor 213 = .ok (.invokevirtual 148, 3) := by decide +kernel
theorem dX4_readFactor_216 : decode cX4_readFactor 216 = .ok (.ireturn, 1) := by decide +kernel
theorem dX4_readFactor_217 : decode cX4_readFactor 217 = .ok (.aload_n 0, 1) := by decide +kernel
theorem dX4_readFactor_218 : decode cX4_readFactor 218 = .ok (.getfield 21, 3) := by decide +kernel
theorem dX4_readFactor_221 : decode cX4_readFactor 221 = .ok (.iload_n 3, 1) := by decide +kernel
theorem dX4_readFactor_222 : decode cX4_readFactor 222 = .ok (.invokevirtual 152, 3) := by decide +kernel
theorem dX4_readFactor_225 : decode cX4_readFactor 225 = .ok (.ifCond .ne 10, 3) := by decide +kernel
theorem dX4_readFactor_228 : decode cX4_readFactor 228 = .ok (.aload_n 0, 1) := by decide +kernel
theorem dX4_readFactor_229 : decode cX4_readFactor 229 = .ok (.bipush (-4), 2) := by decide +kernel
theorem dX4_readFactor_231 : decode cX4_readFactor 231 = .ok (.invokevirtual 62, 3) := by decide +kernel
theorem dX4_readFactor_234 : decode cX4_readFactor 234 = .ok (.ireturn, 1) := by decide +kernel
theorem dX4_readFactor_235 : decode cX4_readFactor 235 = .ok (.aload_n 0, 1) := by decide +kernel
theorem dX4_readFactor_236 : decode cX4_readFactor 236 = .ok (.getfield 14, 3) := by decide +kernel
theorem dX4_readFactor_239 : decode cX4_readFactor 239 = .ok (.invokevirtual 66, 3) := by decide +kernel
theorem dX4_readFactor_242 : decode cX4_readFactor 242 = .ok (.aload_n 2, 1) := by decide +kernel
theorem dX4_readFactor_243 : decode cX4_readFactor 243 = .ok (.aload_n 0, 1) := by decide +kernel
theorem dX4_readFactor_244 : decode cX4_readFactor 244 = .ok (.getfield 21, 3) := by decide +kernel
theorem dX4_readFactor_247 : decode cX4_readFactor 247 = .ok (.getfield 155, 3) := by decide +kernel
theorem dX4_readFactor_250 : decode cX4_readFactor 250 = .ok (.iload_n 3, 1) := by decide +kernel
theorem dX4_readFactor_251 : decode cX4_readFactor 251 = .ok (.aaload, 1) := by decide +kernel
theorem dX4_readFactor_252 : decode cX4_readFactor 252 = .ok (.invokevirtual 113, 3) := by decide +kernel
theorem dX4_readFactor_255 : decode cX4_readFactor 255 = .ok (.aload_n 0, 1) := by decide +kernel
theorem dX4_readFactor_256 : decode cX4_readFactor 256 = .ok (.getfield 14, 3) := by decide +kernel
theorem dX4_readFactor_259 : decode cX4_readFactor 259 = .ok (.getfield 72, 3) := by decide +kernel
theorem dX4_readFactor_262 : decode cX4_readFactor 262 = .ok (.bipush 91, 2) := by decide +kernel
theorem dX4_readFactor_264 : decode cX4_readFactor 264 = .ok (.if_icmp .eq 5, 3) := by decide +kernel
theorem dX4_readFactor_267 : decode cX4_readFactor 267 = .ok (.iconst 1, 1) := by decide +kernel
theorem dX4_readFactor_268 : decode cX4_readFactor 268 = .ok (.ireturn, 1) := by decide +kernel
theorem dX4_readFactor_269 : decode cX4_readFactor 269 = .ok (.aload_n 0, 1) := by decide +kernel
theorem dX4_readFactor_270 : decode cX4_readFactor 270 = .ok (.iload_n 1, 1) := by decide +kernel
theorem dX4_readFactor_271 : decode cX4_readFactor 271 = .ok (.invokevirtual 158, 3) := by decide +kernel
theorem dX4_readFactor_274 : decode cX4_readFactor 274 = .ok (.ifCond .eq 42, 3) := by decide +kernel
theorem dX4_readFactor_277 : decode cX4_readFactor 277 = .ok (.aload_n 0, 1) := by decide +kernel
theorem dX4_readFactor_278 : decode cX4_readFactor 278 = .ok (.getfield 28, 3) := by decide +kernel
theorem dX4_readFactor_281 : decode cX4_readFactor 281 = .ok (.aload_n 2, 1) := by decide +kernel
theorem dX4_readFactor_282 : decode cX4_readFactor 282 = .ok (.aload_n 2, 1) := by decide +kernel
theorem dX4_readFactor_283 : decode cX4_readFactor 283 = .ok (.aload_n 0, 1) := by decide +kernel
theorem dX4_readFactor_284 : decode cX4_readFactor 284 = .ok (.getfield 44, 3) := by decide +kernel
theorem dX4_readFactor_287 : decode cX4_readFactor 287 = .ok (.iload_n 1, 1) := by decide +kernel
theorem dX4_readFactor_288 : decode cX4_readFactor 288 = .ok (.aaload, 1) := by decide +kernel
theorem dX4_readFactor_289 : decode cX4_readFactor 289 = .ok (.aload_n 0, 1) := by decide +kernel
theorem dX4_readFactor_290 : decode cX4_readFactor 290 = .ok (.getfield 34, 3) := by decide +kernel
theorem dX4_readFactor_293 : decode cX4_readFactor 293 = .ok (.iload_n 1, 1) := by decide +kernel
theorem dX4_readFactor_294 : decode cX4_readFactor 294 = .ok (.iconst 1, 1) := by decide +kernel
theorem dX4_readFactor_295 : decode cX4_readFactor 295 = .ok (.iadd, 1) := by decide +kernel
theorem dX4_readFactor_296 : decode cX4_readFactor 296 = .ok (.aaload, 1) := by decide +kernel
theorem dX4_readFactor_297 : decode cX4_readFactor 297 = .ok (.invokevirtual 161, 3) := by decide +kernel
theorem dX4_readFactor_300 : decode cX4_readFactor 300 = .ok (.ifCond .ne 12, 3) := by decide +kernel
theorem dX4_readFactor_303 : decode cX4_readFactor 303 = .ok (.aload_n 0, 1) := by decide +kernel
theorem dX4_readFactor_304 : decode cX4_readFactor 304 = .ok (.bipush (-5), 2) := by decide +kernel
theorem dX4_readFactor_306 : decode cX4_readFactor 306 = .ok (.invokevirtual 62, 3) := by decide +kernel
theorem dX4_readFactor_309 : decode cX4_readFactor 309 = .ok (.ifCond .eq 7, 3) := by decide +kernel
theorem dX4_readFactor_312 : decode cX4_readFactor 312 = .ok (.iconst 1, 1) := by decide +kernel
theorem dX4_readFactor_313 : decode cX4_readFactor 313 = .ok (.goto 4, 3) := by decide +kernel
theorem dX4_readFactor_316 : decode cX4_readFactor 316 = .ok (.iconst 0, 1) := by decide +kernel
theorem dX4_readFactor_317 : decode cX4_readFactor 317 = .ok (.ireturn, 1) := by decide +kernel
theorem dX4_readConstant_0 : decode cX4_readConstant 0 = .ok (.aload_n 0, 1) := by decide +kernel
theorem dX4_readConstant_1 : decode cX4_readConstant 1 = .ok (.invokevirtual 93, 3) := by decide +kernel
theorem dX4_readConstant_4 : decode cX4_readConstant 4 = .ok (.ifCond .ne 5, 3) := by decide +kernel
theorem dX4_readConstant_7 : decode cX4_readConstant 7 = .ok (.iconst 0, 1) := by decide +kernel
theorem dX4_readConstant_8 : decode cX4_readConstant 8 = .ok (.ireturn, 1) := by decide +kernel
theorem dX4_readConstant_9 : decode cX4_readConstant 9 = .ok (.aload_n 1, 1) := by decide +kernel
theorem dX4_readConstant_10 : decode cX4_readConstant 10 = .ok (.aload_n 0, 1) := by decide +kernel
theorem dX4_readConstant_11 : decode cX4_readConstant 11 = .ok (.getfield 14, 3) := by decide +kernel
theorem dX4_readConstant_14 : decode cX4_readConstant 14 = .ok (.invokevirtual 96, 3) := by decide +kernel
theorem dX4_readConstant_17 : decode cX4_readConstant 17 = .ok (.i2l, 1) := by decide +kernel
theorem dX4_readConstant_18 : decode cX4_readConstant 18 = .ok (.invokevirtual 165, 3) := by decide +kernel
theorem dX4_readConstant_21 : decode cX4_readConstant 21 = .ok (.aload_n 0, 1) := by decide +kernel
theorem dX4_readConstant_22 : decode cX4_readConstant 22 = .ok (.getfield 14, 3) := by decide +kernel
theorem dX4_readConstant_25 : decode cX4_readConstant 25 = .ok (.invokevirtual 66, 3) := by decide +kernel
theorem dX4_readConstant_28 : decode cX4_readConstant 28 = .ok (.iconst 1, 1) := by decide +kernel
theorem dX4_readConstant_29 : decode cX4_readConstant 29 = .ok (.ireturn, 1) := by decide +kernel
theorem dX4_readParenthesis_0 : decode cX4_readParenthesis 0 = .ok (.aload_n 0, 1) := by decide +kernel
theorem dX4_readParenthesis_1 : decode cX4_readParenthesis 1 = .ok (.bipush 40, 2) := by decide +kernel
theorem dX4_readParenthesis_3 : decode cX4_readParenthesis 3 = .ok (.iload_n 1, 1) := by decide +kernel
theorem dX4_readParenthesis_4 : decode cX4_readParenthesis 4 = .ok (.invokevirtual 168, 3) := by decide +kernel
theorem dX4_readParenthesis_7 : decode cX4_readParenthesis 7 = .ok (.ifCond .eq 22, 3) := by decide +kernel
theorem dX4_readParenthesis_10 : decode cX4_readParenthesis 10 = .ok (.aload_n 0, 1) := by decide +kernel
theorem dX4_readParenthesis_11 : decode cX4_readParenthesis 11 = .ok (.iload_n 1, 1) := by decide +kernel
theorem dX4_readParenthesis_12 : decode cX4_readParenthesis 12 = .ok (.iconst 1, 1) := by decide +kernel
theorem dX4_readParenthesis_13 : decode cX4_readParenthesis 13 = .ok (.iadd, 1) := by decide +kernel
theorem dX4_readParenthesis_14 : decode cX4_readParenthesis 14 = .ok (.invokevirtual 79, 3) := by decide +kernel
theorem dX4_readParenthesis_17 : decode cX4_readParenthesis 17 = .ok (.ifCond .eq 12, 3) := by decide +kernel
theorem dX4_readParenthesis_20 : decode cX4_readParenthesis 20 = .ok (.aload_n 0, 1) := by decide +kernel
theorem dX4_readParenthesis_21 : decode cX4_readParenthesis 21 = .ok (.bipush 41, 2) := by decide +kernel
theorem dX4_readParenthesis_23 : decode cX4_readParenthesis 23 = .ok (.invokevirtual 69, 3) := by decide +kernel
theorem dX4_readParenthesis_26 : decode cX4_readParenthesis 26 = .ok (.ifCond .ne 5, 3) := by decide +kernel
theorem dX4_readParenthesis_29 : decode cX4_readParenthesis 29 = .ok (.iconst 0, 1) := by decide +kernel
theorem dX4_readParenthesis_30 : decode cX4_readParenthesis 30 = .ok (.ireturn, 1) := by decide +kernel
theorem dX4_readParenthesis_31 : decode cX4_readParenthesis 31 = .ok (.aload_n 0, 1) := by decide +kernel
theorem dX4_readParenthesis_32 : decode cX4_readParenthesis 32 = .ok (.getfield 44, 3) := by decide +kernel
theorem dX4_readParenthesis_35 : decode cX4_readParenthesis 35 = .ok (.iload_n 1, 1) := by decide +kernel
theorem dX4_readParenthesis_36 : decode cX4_readParenthesis 36 = .ok (.aaload, 1) := by decide +kernel
theorem dX4_readParenthesis_37 : decode cX4_readParenthesis 37 = .ok (.aload_n 0, 1) := by decide +kernel
theorem dX4_readParenthesis_38 : decode cX4_readParenthesis 38 = .ok (.getfield 34, 3) := by decide +kernel
theorem dX4_readParenthesis_41 : decode cX4_readParenthesis 41 = .ok (.iload_n 1, 1) := by decide +kernel
theorem dX4_readParenthesis_42 : decode cX4_readParenthesis 42 = .ok (.iconst 1, 1) := by decide +kernel
theorem dX4_readParenthesis_43 : decode cX4_readParenthesis 43 = .ok (.iadd, 1) := by decide +kernel
theorem dX4_readParenthesis_44 : decode cX4_readParenthesis 44 = .ok (.aaload, 1) := by decide +kernel
theorem dX4_readParenthesis_45 : decode cX4_readParenthesis 45 = .ok (.invokevirtual 113, 3) := by decide +kernel
theorem dX4_readParenthesis_48 : decode cX4_readParenthesis 48 = .ok (.iconst 1, 1) := by decide +kernel
theorem dX4_readParenthesis_49 : decode cX4_readParenthesis 49 = .ok (.ireturn, 1) := by decide +kernel
theorem dX4_readBrackets_0 : decode cX4_readBrackets 0 = .ok (.aload_n 0, 1) := by decide +kernel
theorem dX4_readBrackets_1 : decode cX4_readBrackets 1 = .ok (.bipush 91, 2) := by decide +kernel
theorem dX4_readBrackets_3 : decode cX4_readBrackets 3 = .ok (.iload_n 1, 1) := by decide +kernel
theorem dX4_readBrackets_4 : decode cX4_readBrackets 4 = .ok (.invokevirtual 168, 3) := by decide +kernel
theorem dX4_readBrackets_7 : decode cX4_readBrackets 7 = .ok (.ifCond .eq 22, 3) := by decide +kernel
theorem dX4_readBrackets_10 : decode cX4_readBrackets 10 = .ok (.aload_n 0, 1) := by decide +kernel
theorem dX4_readBrackets_11 : decode cX4_readBrackets 11 = .ok (.iload_n 1, 1) := by decide +kernel
theorem dX4_readBrackets_12 : decode cX4_readBrackets 12 = .ok (.iconst 1, 1) := by decide +kernel
theorem dX4_readBrackets_13 : decode cX4_readBrackets 13 = .ok (.iadd, 1) := by decide +kernel
theorem dX4_readBrackets_14 : decode cX4_readBrackets 14 = .ok (.invokevirtual 79, 3) := by decide +kernel
theorem dX4_readBrackets_17 : decode cX4_readBrackets 17 = .ok (.ifCond .eq 12, 3) := by decide +kernel
theorem dX4_readBrackets_20 : decode cX4_readBrackets 20 = .ok (.aload_n 0, 1) := by decide +kernel
theorem dX4_readBrackets_21 : decode cX4_readBrackets 21 = .ok (.bipush 44, 2) := by decide +kernel
theorem dX4_readBrackets_23 : decode cX4_readBrackets 23 = .ok (.invokevirtual 69, 3) := by decide +kernel
theorem dX4_readBrackets_26 : decode cX4_readBrackets 26 = .ok (.ifCond .ne 5, 3) := by decide +kernel
theorem dX4_readBrackets_29 : decode cX4_readBrackets 29 = .ok (.iconst 0, 1) := by decide +kernel
theorem dX4_readBrackets_30 : decode cX4_readBrackets 30 = .ok (.ireturn, 1) := by decide +kernel
theorem dX4_readBrackets_31 : decode cX4_readBrackets 31 = .ok (.aload_n 0, 1) := by decide +kernel
theorem dX4_readBrackets_32 : decode cX4_readBrackets 32 = .ok (.getfield 44, 3) := by decide +kernel
theorem dX4_readBrackets_35 : decode cX4_readBrackets 35 = .ok (.iload_n 1, 1) := by decide +kernel
theorem dX4_readBrackets_36 : decode cX4_readBrackets 36 = .ok (.aaload, 1) := by decide +kernel
theorem dX4_readBrackets_37 : decode cX4_readBrackets 37 = .ok (.aload_n 0, 1) := by decide +kernel
theorem dX4_readBrackets_38 : decode cX4_readBrackets 38 = .ok (.getfield 34, 3) := by decide +kernel
theorem dX4_readBrackets_41 : decode cX4_readBrackets 41 = .ok (.iload_n 1, 1) := by decide +kernel
theorem dX4_readBrackets_42 : decode cX4_readBrackets 42 = .ok (.iconst 1, 1) := by decide +kernel
theorem dX4_readBrackets_43 : decode cX4_readBrackets 43 = .ok (.iadd, 1) := by decide +kernel
theorem dX4_readBrackets_44 : decode cX4_readBrackets 44 = .ok (.aaload, 1) := by decide +kernel
theorem dX4_readBrackets_45 : decode cX4_readBrackets 45 = .ok (.invokevirtual 113, 3) := by decide +kernel
theorem dX4_readBrackets_48 : decode cX4_readBrackets 48 = .ok (.aload_n 0, 1) := by decide +kernel
theorem dX4_readBrackets_49 : decode cX4_readBrackets 49 = .ok (.iload_n 1, 1) := by decide +kernel
theorem dX4_readBrackets_50 : decode cX4_readBrackets 50 = .ok (.iconst 1, 1) := by decide +kernel
theorem dX4_readBrackets_51 : decode cX4_readBrackets 51 = .ok (.iadd, 1) := by decide +kernel
theorem dX4_readBrackets_52 : decode cX4_readBrackets 52 = .ok (.invokevirtual 79, 3) := by decide +kernel
theorem dX4_readBrackets_55 : decode cX4_readBrackets 55 = .ok (.ifCond .eq 16, 3) := by decide +kernel
theorem dX4_readBrackets_58 : decode cX4_readBrackets 58 = .ok (.aload_n 0, 1) := by decide +kernel
theorem dX4_readBrackets_59 : decode cX4_readBrackets 59 = .ok (.bipush 93, 2) := by decide +kernel
theorem dX4_readBrackets_61 : decode cX4_readBrackets 61 = .ok (.invokevirtual 69, 3) := by decide +kernel
theorem dX4_readBrackets_64 : decode cX4_readBrackets 64 = .ok (.ifCond .eq 7, 3) := by decide +kernel
theorem dX4_readBrackets_67 : decode cX4_readBrackets 67 = .ok (.iconst 1, 1) := by decide +kernel
theorem dX4_readBrackets_68 : decode cX4_readBrackets 68 = .ok (.goto 4, 3) := by decide +kernel
theorem dX4_readBrackets_71 : decode cX4_readBrackets 71 = .ok (.iconst 0, 1) := by decide +kernel
theorem dX4_readBrackets_72 : decode cX4_readBrackets 72 = .ok (.ireturn, 1) := by decide +kernel
theorem dX5_init_0 : decode cX5_init 0 = .ok (.aload_n 0, 1) := by decide +kernel
theorem dX5_init_1 : decode cX5_init 1 = .ok (.invokespecial 3, 3) := by decide +kernel
theorem dX5_init_4 : decode cX5_init 4 = .ok (.aload_n 0, 1) := by decide +kernel
theorem dX5_init_5 : decode cX5_init 5 = .ok (.sipush 700, 3) := by decide +kernel
theorem dX5_init_8 : decode cX5_init 8 = .ok (.newarray .int, 2) := by decide +kernel
theorem dX5_init_10 : decode cX5_init 10 = .ok (.putfield 9, 3) := by decide +kernel
theorem dX5_init_13 : decode cX5_init 13 = .ok (.aload_n 0, 1) := by decide +kernel
theorem dX5_init_14 : decode cX5_init 14 = .ok (.sipush 701, 3) := by decide +kernel
theorem dX5_init_17 : decode cX5_init 17 = .ok (.newarray .int, 2) := by decide +kernel
theorem dX5_init_19 : decode cX5_init 19 = .ok (.putfield 15, 3) := by decide +kernel
theorem dX5_init_22 : decode cX5_init 22 = .ok (.aload_n 0, 1) := by decide +kernel
theorem dX5_init_23 : decode cX5_init 23 = .ok (.sipush 701, 3) := by decide +kernel
theorem dX5_init_26 : decode cX5_init 26 = .ok (.newarray .int, 2) := by decide +kernel
theorem dX5_init_28 : decode cX5_init 28 = .ok (.putfield 18, 3) := by decide +kernel
theorem dX5_init_31 : decode cX5_init 31 = .ok (.return_, 1) := by decide +kernel
theorem dX5_putWord_0 : decode cX5_putWord 0 = .ok (.bipush 24, 2) := by decide +kernel
theorem dX5_putWord_2 : decode cX5_putWord 2 = .ok (.istore_n 2, 1) := by decide +kernel
theorem dX5_putWord_3 : decode cX5_putWord 3 = .ok (.iload_n 2, 1) := by decide +kernel
theorem dX5_putWord_4 : decode cX5_putWord 4 = .ok (.ifCond .lt 52, 3) := by decide +kernel
theorem dX5_putWord_7 : decode cX5_putWord 7 = .ok (.aload_n 0, 1) := by decide +kernel
theorem dX5_putWord_8 : decode cX5_putWord 8 = .ok (.getfield 21, 3) := by decide +kernel
theorem dX5_putWord_11 : decode cX5_putWord 11 = .ok (.ifCond .lt 39, 3) := by decide +kernel
theorem dX5_putWord_14 : decode cX5_putWord 14 = .ok (.aload_n 0, 1) := by decide +kernel
theorem dX5_putWord_15 : decode cX5_putWord 15 = .ok (.getfield 21, 3) := by decide +kernel
theorem dX5_putWord_18 : decode cX5_putWord 18 = .ok (.sipush 700, 3) := by decide +kernel
theorem dX5_putWord_21 : decode cX5_putWord 21 = .ok (.if_icmp .ge 29, 3) := by decide +kernel
theorem dX5_putWord_24 : decode cX5_putWord 24 = .ok (.aload_n 0, 1) := by decide +kernel
theorem dX5_putWord_25 : decode cX5_putWord 25 = .ok (.getfield 9, 3) := by decide +kernel
theorem dX5_putWord_28 : decode cX5_putWord 28 = .ok (.aload_n 0, 1) := by decide +kernel
theorem dX5_putWord_29 : decode cX5_putWord 29 = .ok (.getfield 21, 3) := by decide +kernel
theorem dX5_putWord_32 : decode cX5_putWord 32 = .ok (.iload_n 1, 1) := by decide +kernel
theorem dX5_putWord_33 : decode cX5_putWord 33 = .ok (.iload_n 2, 1) := by decide +kernel
theorem dX5_putWord_34 : decode cX5_putWord 34 = .ok (.iushr, 1) := by decide +kernel
theorem dX5_putWord_35 : decode cX5_putWord 35 = .ok (.sipush 255, 3) := by decide +kernel
theorem dX5_putWord_38 : decode cX5_putWord 38 = .ok (.iand, 1) := by decide +kernel
theorem dX5_putWord_39 : decode cX5_putWord 39 = .ok (.iastore, 1) := by decide +kernel
theorem dX5_putWord_40 : decode cX5_putWord 40 = .ok (.aload_n 0, 1) := by decide +kernel
theorem dX5_putWord_41 : decode cX5_putWord 41 = .ok (.dup, 1) := by decide +kernel
theorem dX5_putWord_42 : decode cX5_putWord 42 = .ok (.getfield 21, 3) := by decide +kernel
theorem dX5_putWord_45 : decode cX5_putWord 45 = .ok (.iconst 1, 1) := by decide +kernel
theorem dX5_putWord_46 : decode cX5_putWord 46 = .ok (.iadd, 1) := by decide +kernel
theorem dX5_putWord_47 : decode cX5_putWord 47 = .ok (.putfield 21, 3) := by decide +kernel
theorem dX5_putWord_50 : decode cX5_putWord 50 = .ok (.iinc 2 (-8), 3) := by decide +kernel
theorem dX5_putWord_53 : decode cX5_putWord 53 = .ok (.goto (-50), 3) := by decide +kernel
theorem dX5_putWord_56 : decode cX5_putWord 56 = .ok (.return_, 1) := by decide +kernel
theorem dX5_split_0 : decode cX5_split 0 = .ok (.iconst 0, 1) := by decide +kernel
theorem dX5_split_1 : decode cX5_split 1 = .ok (.istore_n 2, 1) := by decide +kernel
theorem dX5_split_2 : decode cX5_split 2 = .ok (.iconst 0, 1) := by decide +kernel
theorem dX5_split_3 : decode cX5_split 3 = .ok (.istore_n 3, 1) := by decide +kernel
theorem dX5_split_4 : decode cX5_split 4 = .ok (.iconst 0, 1) := by decide +kernel
theorem dX5_split_5 : decode cX5_split 5 = .ok (.istore 4, 2) := by decide +kernel
theorem dX5_split_7 : decode cX5_split 7 = .ok (.iload 4, 2) := by decide +kernel
theorem dX5_split_9 : decode cX5_split 9 = .ok (.iload_n 1, 1) := by decide +kernel
theorem dX5_split_10 : decode cX5_split 10 = .ok (.if_icmp .ge 102, 3) := by decide +kernel
theorem dX5_split_13 : decode cX5_split 13 = .ok (.iload 4, 2) := by decide +kernel
theorem dX5_split_15 : decode cX5_split 15 = .ok (.sipush 700, 3) := by decide +kernel
theorem dX5_split_18 : decode cX5_split 18 = .ok (.if_icmp .ge 94, 3) := by decide +kernel
theorem dX5_split_21 : decode cX5_split 21 = .ok (.aload_n 0, 1) := by decide +kernel
theorem dX5_split_22 : decode cX5_split 22 = .ok (.getfield 9, 3) := by decide +kernel
theorem dX5_split_25 : decode cX5_split 25 = .ok (.iload 4, 2) := by decide +kernel
theorem dX5_split_27 : decode cX5_split 27 = .ok (.iaload, 1) := by decide +kernel
theorem dX5_split_28 : decode cX5_split 28 = .ok (.invokestatic 25, 3) := by decide +kernel
theorem dX5_split_31 : decode cX5_split 31 = .ok (.istore 5, 2) := by decide +kernel
theorem dX5_split_33 : decode cX5_split 33 = .ok (.iload_n 2, 1) := by decide +kernel
theorem dX5_split_34 : decode cX5_split 34 = .ok (.ifCond .le 36, 3) := by decide +kernel
theorem dX5_split_37 : decode cX5_split 37 = .ok (.iload 5, 2) := by decide +kernel
theorem dX5_split_39 : decode cX5_split 39 = .ok (.iload_n 3, 1) := by decide +kernel
theorem dX5_split_40 : decode cX5_split 40 = .ok (.if_icmp .ne 30, 3) := by decide +kernel
theorem dX5_split_43 : decode cX5_split 43 = .ok (.iload 5, 2) := by decide +kernel
theorem dX5_split_45 : decode cX5_split 45 = .ok (.iconst 1, 1) := by decide +kernel
theorem dX5_split_46 : decode cX5_split 46 = .ok (.if_icmp .eq 9, 3) := by decide +kernel
theorem dX5_split_49 : decode cX5_split 49 = .ok (.iload 5, 2) := by decide +kernel
theorem dX5_split_51 : decode cX5_split 51 = .ok (.iconst 2, 1) := by decide +kernel
theorem dX5_split_52 : decode cX5_split 52 = .ok (.if_icmp .ne 18, 3) := by decide +kernel
theorem dX5_split_55 : decode cX5_split 55 = .ok (.aload_n 0, 1) := by decide +kernel
theorem dX5_split_56 : decode cX5_split 56 = .ok (.getfield 18, 3) := by decide +kernel
theorem dX5_split_59 : decode cX5_split 59 = .ok (.iload_n 2, 1) := by decide +kernel
theorem dX5_split_60 : decode cX5_split 60 = .ok (.iconst 1, 1) := by decide +kernel
theorem dX5_split_61 : decode cX5_split 61 = .ok (.isub, 1) := by decide +kernel
theorem dX5_split_62 : decode cX5_split 62 = .ok (.iload 4, 2) := by decide +kernel
theorem dX5_split_64 : decode cX5_split 64 = .ok (.iconst 1, 1) := by decide +kernel
theorem dX5_split_65 : decode cX5_split 65 = .ok (.iadd, 1) := by decide +kernel
theorem dX5_split_66 : decode cX5_split 66 = .ok (.iastore, 1) := by decide +kernel
theorem dX5_split_67 : decode cX5_split 67 = .ok (.goto 36, 3) := by decide +kernel
theorem dX5_split_70 : decode cX5_split 70 = .ok (.iload 5, 2) := by decide +kernel
theorem dX5_split_72 : decode cX5_split 72 = .ok (.ifCond .eq 31, 3) := by decide +kernel
theorem dX5_split_75 : decode cX5_split 75 = .ok (.iload_n 2, 1) := by decide +kernel
theorem dX5_split_76 : decode cX5_split 76 = .ok (.sipush 700, 3) := by decide +kernel
theorem dX5_split_79 : decode cX5_split 79 = .ok (.if_icmp .ge 24, 3) := by decide +kernel
theorem dX5_split_82 : decode cX5_split 82 = .ok (.aload_n 0, 1) := by decide +kernel
theorem dX5_split_83 : decode cX5_split 83 = .ok (.getfield 15, 3) := by decide +kernel
theorem dX5_split_86 : decode cX5_split 86 = .ok (.iload_n 2, 1) := by decide +kernel
theorem dX5_split_87 : decode cX5_split 87 = .ok (.iload 4, 2) := by decide +kernel
theorem dX5_split_89 : decode cX5_split 89 = .ok (.iastore, 1) := by decide +kernel
theorem dX5_split_90 : decode cX5_split 90 = .ok (.aload_n 0, 1) := by decide +kernel
theorem dX5_split_91 : decode cX5_split 91 = .ok (.getfield 18, 3) := by decide +kernel
theorem dX5_split_94 : decode cX5_split 94 = .ok (.iload_n 2, 1) := by decide +kernel
theorem dX5_split_95 : decode cX5_split 95 = .ok (.iload 4, 2) := by decide +kernel
theorem dX5_split_97 : decode cX5_split 97 = .ok (.iconst 1, 1) := by decide +kernel
theorem dX5_split_98 : decode cX5_split 98 = .ok (.iadd, 1) := by decide +kernel
theorem dX5_split_99 : decode cX5_split 99 = .ok (.iastore, 1) := by decide +kernel
theorem dX5_split_100 : decode cX5_split 100 = .ok (.iinc 2 1, 3) := by decide +kernel
theorem dX5_split_103 : decode cX5_split 103 = .ok (.iload 5, 2) := by decide +kernel
theorem dX5_split_105 : decode cX5_split 105 = .ok (.istore_n 3, 1) := by decide +kernel
theorem dX5_split_106 : decode cX5_split 106 = .ok (.iinc 4 1, 3) := by decide +kernel
theorem dX5_split_109 : decode cX5_split 109 = .ok (.goto (-102), 3) := by decide +kernel
theorem dX5_split_112 : decode cX5_split 112 = .ok (.aload_n 0, 1) := by decide +kernel
theorem dX5_split_113 : decode cX5_split 113 = .ok (.getfield 15, 3) := by decide +kernel
theorem dX5_split_116 : decode cX5_split 116 = .ok (.iload_n 2, 1) := by decide +kernel
theorem dX5_split_117 : decode cX5_split 117 = .ok (.iload_n 1, 1) := by decide +kernel
theorem dX5_split_118 : decode cX5_split 118 = .ok (.iastore, 1) := by decide +kernel
theorem dX5_split_119 : decode cX5_split 119 = .ok (.aload_n 0, 1) := by decide +kernel
theorem dX5_split_120 : decode cX5_split 120 = .ok (.getfield 18, 3) := by decide +kernel
theorem dX5_split_123 : decode cX5_split 123 = .ok (.iload_n 2, 1) := by decide +kernel
theorem dX5_split_124 : decode cX5_split 124 = .ok (.iload_n 1, 1) := by decide +kernel
theorem dX5_split_125 : decode cX5_split 125 = .ok (.iastore, 1) := by decide +kernel
theorem dX5_split_126 : decode cX5_split 126 = .ok (.aload_n 0, 1) := by decide +kernel
theorem dX5_split_127 : decode cX5_split 127 = .ok (.iload_n 2, 1) := by decide +kernel
theorem dX5_split_128 : decode cX5_split 128 = .ok (.putfield 29, 3) := by decide +kernel
theorem dX5_split_131 : decode cX5_split 131 = .ok (.aload_n 0, 1) := by decide +kernel
theorem dX5_split_132 : decode cX5_split 132 = .ok (.iconst (-1), 1) := by decide +kernel
theorem dX5_split_133 : decode cX5_split 133 = .ok (.putfield 32, 3) := by decide +kernel
theorem dX5_split_136 : decode cX5_split 136 = .ok (.aload_n 0, 1) := by decide +kernel
theorem dX5_split_137 : decode cX5_split 137 = .ok (.invokevirtual 35, 3) := by decide +kernel
theorem dX5_split_140 : decode cX5_split 140 = .ok (.return_, 1) := by decide +kernel
theorem dX5_kindOf_0 : decode cX5_kindOf 0 = .ok (.iload_n 0, 1) := by decide +kernel
theorem dX5_kindOf_1 : decode cX5_kindOf 1 = .ok (.bipush 32, 2) := by decide +kernel
theorem dX5_kindOf_3 : decode cX5_kindOf 3 = .ok (.if_icmp .ne 5, 3) := by decide +kernel
theorem dX5_kindOf_6 : decode cX5_kindOf 6 = .ok (.iconst 0, 1) := by decide +kernel
theorem dX5_kindOf_7 : decode cX5_kindOf 7 = .ok (.ireturn, 1) := by decide +kernel
theorem dX5_kindOf_8 : decode cX5_kindOf 8 = .ok (.iload_n 0, 1) := by decide +kernel
theorem dX5_kindOf_9 : decode cX5_kindOf 9 = .ok (.bipush 48, 2) := by decide +kernel
theorem dX5_kindOf_11 : decode cX5_kindOf 11 = .ok (.if_icmp .lt 11, 3) := by decide +kernel
theorem dX5_kindOf_14 : decode cX5_kindOf 14 = .ok (.iload_n 0, 1) := by decide +kernel
theorem dX5_kindOf_15 : decode cX5_kindOf 15 = .ok (.bipush 57, 2) := by decide +kernel
theorem dX5_kindOf_17 : decode cX5_kindOf 17 = .ok (.if_icmp .gt 5, 3) := by decide +kernel
theorem dX5_kindOf_20 : decode cX5_kindOf 20 = .ok (.iconst 1, 1) := by decide +kernel
theorem dX5_kindOf_21 : decode cX5_kindOf 21 = .ok (.ireturn, 1) := by decide +kernel
theorem dX5_kindOf_22 : decode cX5_kindOf 22 = .ok (.iload_n 0, 1) := by decide +kernel
theorem dX5_kindOf_23 : decode cX5_kindOf 23 = .ok (.bipush 97, 2) := by decide +kernel
theorem dX5_kindOf_25 : decode cX5_kindOf 25 = .ok (.if_icmp .lt 13, 3) := by decide +kernel
theorem dX5_kindOf_28 : decode cX5_kindOf 28 = .ok (.iload_n 0, 1) := by decide +kernel
theorem dX5_kindOf_29 : decode cX5_kindOf 29 = .ok (.bipush 122, 2) := by decide +kernel
theorem dX5_kindOf_31 : decode cX5_kindOf 31 = .ok (.if_icmp .gt 7, 3) := by decide +kernel
theorem dX5_kindOf_34 : decode cX5_kindOf 34 = .ok (.iconst 2, 1) := by decide +kernel
theorem dX5_kindOf_35 : decode cX5_kindOf 35 = .ok (.goto 4, 3) := by decide +kernel
theorem dX5_kindOf_38 : decode cX5_kindOf 38 = .ok (.iconst 3, 1) := by decide +kernel
theorem dX5_kindOf_39 : decode cX5_kindOf 39 = .ok (.ireturn, 1) := by decide +kernel
theorem dX5_advance_0 : decode cX5_advance 0 = .ok (.aload_n 0, 1) := by decide +kernel
theorem dX5_advance_1 : decode cX5_advance 1 = .ok (.getfield 32, 3) := by decide +kernel
theorem dX5_advance_4 : decode cX5_advance 4 = .ok (.aload_n 0, 1) := by decide +kernel
theorem dX5_advance_5 : decode cX5_advance 5 = .ok (.getfield 29, 3) := by decide +kernel
theorem dX5_advance_8 : decode cX5_advance 8 = .ok (.if_icmp .ge 13, 3) := by decide +kernel
theorem dX5_advance_11 : decode cX5_advance 11 = .ok (.aload_n 0, 1) := by decide +kernel
theorem dX5_advance_12 : decode cX5_advance 12 = .ok (.dup, 1) := by decide +kernel
theorem dX5_advance_13 : decode cX5_advance 13 = .ok (.getfield 32, 3) := by decide +kernel
theorem dX5_advance_16 : decode cX5_advance 16 = .ok (.iconst 1, 1) := by decide +kernel
theorem dX5_advance_17 : decode cX5_advance 17 = .ok (.iadd, 1) := by decide +kernel
theorem dX5_advance_18 : decode cX5_advance 18 = .ok (.putfield 32, 3) := by decide +kernel
theorem dX5_advance_21 : decode cX5_advance 21 = .ok (.aload_n 0, 1) := by decide +kernel
theorem dX5_advance_22 : decode cX5_advance 22 = .ok (.getfield 32, 3) := by decide +kernel
theorem dX5_advance_25 : decode cX5_advance 25 = .ok (.ifCond .lt 39, 3) := by decide +kernel
theorem dX5_advance_28 : decode cX5_advance 28 = .ok (.aload_n 0, 1) := by decide +kernel
theorem dX5_advance_29 : decode cX5_advance 29 = .ok (.getfield 32, 3) := by decide +kernel
theorem dX5_advance_32 : decode cX5_advance 32 = .ok (.sipush 700, 3) := by decide +kernel
theorem dX5_advance_35 : decode cX5_advance 35 = .ok (.if_icmp .gt 29, 3) := by decide +kernel
theorem dX5_advance_38 : decode cX5_advance 38 = .ok (.aload_n 0, 1) := by decide +kernel
theorem dX5_advance_39 : decode cX5_advance 39 = .ok (.aload_n 0, 1) := by decide +kernel
theorem dX5_advance_40 : decode cX5_advance 40 = .ok (.getfield 15, 3) := by decide +kernel
theorem dX5_advance_43 : decode cX5_advance 43 = .ok (.aload_n 0, 1) := by decide +kernel
theorem dX5_advance_44 : decode cX5_advance 44 = .ok (.getfield 32, 3) := by decide +kernel
theorem dX5_advance_47 : decode cX5_advance 47 = .ok (.iaload, 1) := by decide +kernel
theorem dX5_advance_48 : decode cX5_advance 48 = .ok (.putfield 38, 3) := by decide +kernel
theorem dX5_advance_51 : decode cX5_advance 51 = .ok (.aload_n 0, 1) := by decide +kernel
theorem dX5_advance_52 : decode cX5_advance 52 = .ok (.aload_n 0, 1) := by decide +kernel
theorem dX5_advance_53 : decode cX5_advance 53 = .ok (.getfield 18, 3) := by decide +kernel
theorem dX5_advance_56 : decode cX5_advance 56 = .ok (.aload_n 0, 1) := by decide +kernel
theorem dX5_advance_57 : decode cX5_advance 57 = .ok (.getfield 32, 3) := by decide +kernel
theorem dX5_advance_60 : decode cX5_advance 60 = .ok (.iaload, 1) := by decide +kernel
theorem dX5_advance_61 : decode cX5_advance 61 = .ok (.putfield 41, 3) := by decide +kernel
theorem dX5_advance_64 : decode cX5_advance 64 = .ok (.aload_n 0, 1) := by decide +kernel
theorem dX5_advance_65 : decode cX5_advance 65 = .ok (.aload_n 0, 1) := by decide +kernel
theorem dX5_advance_66 : decode cX5_advance 66 = .ok (.getfield 32, 3) := by decide +kernel
theorem dX5_advance_69 : decode cX5_advance 69 = .ok (.aload_n 0, 1) := by decide +kernel
theorem dX5_advance_70 : decode cX5_advance 70 = .ok (.getfield 29, 3) := by decide +kernel
theorem dX5_advance_73 : decode cX5_advance 73 = .ok (.if_icmp .ge 32, 3) := by decide +kernel
theorem dX5_advance_76 : decode cX5_advance 76 = .ok (.aload_n 0, 1) := by decide +kernel
theorem dX5_advance_77 : decode cX5_advance 77 = .ok (.getfield 38, 3) := by decide +kernel
theorem dX5_advance_80 : decode cX5_advance 80 = .ok (.ifCond .lt 25, 3) := by decide +kernel
theorem dX5_advance_83 : decode cX5_advance 83 = .ok (.aload_n 0, 1) := by decide +kernel
theorem dX5_advance_84 : decode cX5_advance 84 = .ok (.getfield 38, 3) := by decide +kernel
theorem dX5_advance_87 : decode cX5_advance 87 = .ok (.sipush 700, 3) := by decide +kernel
theorem dX5_advance_90 : decode cX5_advance 90 = .ok (.if_icmp .ge 15, 3) := by decide +kernel
theorem dX5_advance_93 : decode cX5_advance 93 = .ok (.aload_n 0, 1) := by decide +kernel
theorem dX5_advance_94 : decode cX5_advance 94 = .ok (.getfield 9, 3) := by decide +kernel
theorem dX5_advance_97 : decode cX5_advance 97 = .ok (.aload_n 0, 1) := by decide +kernel
theorem dX5_advance_98 : decode cX5_advance 98 = .ok (.getfield 38, 3) := by decide +kernel
theorem dX5_advance_101 : decode cX5_advance 101 = .ok (.iaload, 1) := by decide +kernel
theorem dX5_advance_102 : decode cX5_advance 102 = .ok (.goto 4, 3) := by decide +kernel
theorem dX5_advance_105 : decode cX5_advance 105 = .ok (.iconst (-1), 1) := by decide +kernel
theorem dX5_advance_106 : decode cX5_advance 106 = .ok (.putfield 44, 3) := by decide +kernel
theorem dX5_advance_109 : decode cX5_advance 109 = .ok (.return_, 1) := by decide +kernel
theorem dX5_isWord_0 : decode cX5_isWord 0 = .ok (.aload_n 0, 1) := by decide +kernel
theorem dX5_isWord_1 : decode cX5_isWord 1 = .ok (.getfield 41, 3) := by decide +kernel
theorem dX5_isWord_4 : decode cX5_isWord 4 = .ok (.aload_n 0, 1) := by decide +kernel
theorem dX5_isWord_5 : decode cX5_isWord 5 = .ok (.getfield 38, 3) := by decide +kernel
theorem dX5_isWord_8 : decode cX5_isWord 8 = .ok (.isub, 1) := by decide +kernel
theorem dX5_isWord_9 : decode cX5_isWord 9 = .ok (.aload_n 1, 1) := by decide +kernel
theorem dX5_isWord_10 : decode cX5_isWord 10 = .ok (.invokevirtual 47, 3) := by decide +kernel
theorem dX5_isWord_13 : decode cX5_isWord 13 = .ok (.if_icmp .eq 5, 3) := by decide +kernel
theorem dX5_isWord_16 : decode cX5_isWord 16 = .ok (.iconst 0, 1) := by decide +kernel
theorem dX5_isWord_17 : decode cX5_isWord 17 = .ok (.ireturn, 1) := by decide +kernel
theorem dX5_isWord_18 : decode cX5_isWord 18 = .ok (.iconst 0, 1) := by decide +kernel
theorem dX5_isWord_19 : decode cX5_isWord 19 = .ok (.istore_n 2, 1) := by decide +kernel
theorem dX5_isWord_20 : decode cX5_isWord 20 = .ok (.iload_n 2, 1) := by decide +kernel
theorem dX5_isWord_21 : decode cX5_isWord 21 = .ok (.aload_n 1, 1) := by decide +kernel
theorem dX5_isWord_22 : decode cX5_isWord 22 = .ok (.invokevirtual 47, 3) := by decide +kernel
theorem dX5_isWord_25 : decode cX5_isWord 25 = .ok (.if_icmp .ge 51, 3) := by decide +kernel
theorem dX5_isWord_28 : decode cX5_isWord 28 = .ok (.aload_n 0, 1) := by decide +kernel
theorem dX5_isWord_29 : decode cX5_isWord 29 = .ok (.getfield 38, 3) := by decide +kernel
theorem dX5_isWord_32 : decode cX5_isWord 32 = .ok (.iload_n 2, 1) := by decide +kernel
theorem dX5_isWord_33 : decode cX5_isWord 33 = .ok (.iadd, 1) := by decide +kernel
theorem dX5_isWord_34 : decode cX5_isWord 34 = .ok (.ifCond .lt 34, 3) := by decide +kernel
theorem dX5_isWord_37 : decode cX5_isWord 37 = .ok (.aload_n 0, 1) := by decide +kernel
theorem dX5_isWord_38 : decode cX5_isWord 38 = .ok (.getfield 38, 3) := by decide +kernel
theorem dX5_isWord_41 : decode cX5_isWord 41 = .ok (.iload_n 2, 1) := by decide +kernel
theorem dX5_isWord_42 : decode cX5_isWord 42 = .ok (.iadd, 1) := by decide +kernel
theorem dX5_isWord_43 : decode cX5_isWord 43 = .ok (.sipush 700, 3) := by decide +kernel
theorem dX5_isWord_46 : decode cX5_isWord 46 = .ok (.if_icmp .ge 22, 3) := by decide +kernel
theorem dX5_isWord_49 : decode cX5_isWord 49 = .ok (.aload_n 0, 1) := by decide +kernel
theorem dX5_isWord_50 : decode cX5_isWord 50 = .ok (.getfield 9, 3) := by decide +kernel
theorem dX5_isWord_53 : decode cX5_isWord 53 = .ok (.aload_n 0, 1) := by decide +kernel
theorem dX5_isWord_54 : decode cX5_isWord 54 = .ok (.getfield 38, 3) := by decide +kernel
theorem dX5_isWord_57 : decode cX5_isWord 57 = .ok (.iload_n 2, 1) := by decide +kernel
theorem dX5_isWord_58 : decode cX5_isWord 58 = .ok (.iadd, 1) := by decide +kernel
theorem dX5_isWord_59 : decode cX5_isWord 59 = .ok (.iaload, 1) := by decide +kernel
theorem dX5_isWord_60 : decode cX5_isWord 60 = .ok (.aload_n 1, 1) := by decide +kernel
theorem dX5_isWord_61 : decode cX5_isWord 61 = .ok (.iload_n 2, 1) := by decide +kernel
theorem dX5_isWord_62 : decode cX5_isWord 62 = .ok (.invokevirtual 53, 3) := by decide +kernel
theorem dX5_isWord_65 : decode cX5_isWord 65 = .ok (.if_icmp .eq 5, 3) := by decide +kernel
theorem dX5_isWord_68 : decode cX5_isWord 68 = .ok (.iconst 0, 1) := by decide +kernel
theorem dX5_isWord_69 : decode cX5_isWord 69 = .ok (.ireturn, 1) := by decide +kernel
theorem dX5_isWord_70 : decode cX5_isWord 70 = .ok (.iinc 2 1, 3) := by decide +kernel
theorem dX5_isWord_73 : decode cX5_isWord 73 = .ok (.goto (-53), 3) := by decide +kernel
theorem dX5_isWord_76 : decode cX5_isWord 76 = .ok (.iconst 1, 1) := by decide +kernel
theorem dX5_isWord_77 : decode cX5_isWord 77 = .ok (.ireturn, 1) := by decide +kernel
theorem dX5_name_0 : decode cX5_name 0 = .ok (.aload_n 0, 1) := by decide +kernel
theorem dX5_name_1 : decode cX5_name 1 = .ok (.getfield 41, 3) := by decide +kernel
theorem dX5_name_4 : decode cX5_name 4 = .ok (.aload_n 0, 1) := by decide +kernel
theorem dX5_name_5 : decode cX5_name 5 = .ok (.getfield 38, 3) := by decide +kernel
theorem dX5_name_8 : decode cX5_name 8 = .ok (.isub, 1) := by decide +kernel
theorem dX5_name_9 : decode cX5_name 9 = .ok (.iconst 1, 1) := by decide +kernel
theorem dX5_name_10 : decode cX5_name 10 = .ok (.if_icmp .ne 25, 3) := by decide +kernel
theorem dX5_name_13 : decode cX5_name 13 = .ok (.aload_n 0, 1) := by decide +kernel
theorem dX5_name_14 : decode cX5_name 14 = .ok (.getfield 44, 3) := by decide +kernel
theorem dX5_name_17 : decode cX5_name 17 = .ok (.bipush 97, 2) := by decide +kernel
theorem dX5_name_19 : decode cX5_name 19 = .ok (.if_icmp .lt 16, 3) := by decide +kernel
theorem dX5_name_22 : decode cX5_name 22 = .ok (.aload_n 0, 1) := by decide +kernel
theorem dX5_name_23 : decode cX5_name 23 = .ok (.getfield 44, 3) := by decide +kernel
theorem dX5_name_26 : decode cX5_name 26 = .ok (.bipush 105, 2) := by decide +kernel
theorem dX5_name_28 : decode cX5_name 28 = .ok (.if_icmp .ge 7, 3) := by decide +kernel
theorem dX5_name_31 : decode cX5_name 31 = .ok (.iconst 1, 1) := by decide +kernel
theorem dX5_name_32 : decode cX5_name 32 = .ok (.goto 4, 3) := by decide +kernel
theorem dX5_name_35 : decode cX5_name 35 = .ok (.iconst 0, 1) := by decide +kernel
theorem dX5_name_36 : decode cX5_name 36 = .ok (.istore_n 1, 1) := by decide +kernel
theorem dX5_name_37 : decode cX5_name 37 = .ok (.iload_n 1, 1) := by decide +kernel
theorem dX5_name_38 : decode cX5_name 38 = .ok (.ifCond .eq 13, 3) := by decide +kernel
theorem dX5_name_41 : decode cX5_name 41 = .ok (.aload_n 0, 1) := by decide +kernel
theorem dX5_name_42 : decode cX5_name 42 = .ok (.getfield 44, 3) := by decide +kernel
theorem dX5_name_45 : decode cX5_name 45 = .ok (.bipush 97, 2) := by decide +kernel
theorem dX5_name_47 : decode cX5_name 47 = .ok (.isub, 1) := by decide +kernel
theorem dX5_name_48 : decode cX5_name 48 = .ok (.goto 4, 3) := by decide +kernel
theorem dX5_name_51 : decode cX5_name 51 = .ok (.iconst (-1), 1) := by decide +kernel
theorem dX5_name_52 : decode cX5_name 52 = .ok (.ireturn, 1) := by decide +kernel
theorem dX5_isNumber_0 : decode cX5_isNumber 0 = .ok (.aload_n 0, 1) := by decide +kernel
theorem dX5_isNumber_1 : decode cX5_isNumber 1 = .ok (.getfield 44, 3) := by decide +kernel
theorem dX5_isNumber_4 : decode cX5_isNumber 4 = .ok (.bipush 48, 2) := by decide +kernel
theorem dX5_isNumber_6 : decode cX5_isNumber 6 = .ok (.if_icmp .lt 16, 3) := by decide +kernel
theorem dX5_isNumber_9 : decode cX5_isNumber 9 = .ok (.aload_n 0, 1) := by decide +kernel
theorem dX5_isNumber_10 : decode cX5_isNumber 10 = .ok (.getfield 44, 3) := by decide +kernel
theorem dX5_isNumber_13 : decode cX5_isNumber 13 = .ok (.bipush 57, 2) := by decide +kernel
theorem dX5_isNumber_15 : decode cX5_isNumber 15 = .ok (.if_icmp .gt 7, 3) := by decide +kernel
theorem dX5_isNumber_18 : decode cX5_isNumber 18 = .ok (.iconst 1, 1) := by decide +kernel
theorem dX5_isNumber_19 : decode cX5_isNumber 19 = .ok (.goto 4, 3) := by decide +kernel
theorem dX5_isNumber_22 : decode cX5_isNumber 22 = .ok (.iconst 0, 1) := by decide +kernel
theorem dX5_isNumber_23 : decode cX5_isNumber 23 = .ok (.ireturn, 1) := by decide +kernel
theorem dX5_number_0 : decode cX5_number 0 = .ok (.iconst 0, 1) := by decide +kernel
theorem dX5_number_1 : decode cX5_number 1 = .ok (.istore_n 1, 1) := by decide +kernel
theorem dX5_number_2 : decode cX5_number 2 = .ok (.aload_n 0, 1) := by decide +kernel
theorem dX5_number_3 : decode cX5_number 3 = .ok (.getfield 38, 3) := by decide +kernel
theorem dX5_number_6 : decode cX5_number 6 = .ok (.istore_n 2, 1) := by decide +kernel
theorem dX5_number_7 : decode cX5_number 7 = .ok (.iload_n 2, 1) := by decide +kernel
theorem dX5_number_8 : decode cX5_number 8 = .ok (.aload_n 0, 1) := by decide +kernel
theorem dX5_number_9 : decode cX5_number 9 = .ok (.getfield 41, 3) := by decide +kernel
theorem dX5_number_12 : decode cX5_number 12 = .ok (.if_icmp .ge 40, 3) := by decide +kernel
theorem dX5_number_15 : decode cX5_number 15 = .ok (.iload_n 2, 1) := by decide +kernel
theorem dX5_number_16 : decode cX5_number 16 = .ok (.ifCond .lt 36, 3) := by decide +kernel
theorem dX5_number_19 : decode cX5_number 19 = .ok (.iload_n 2, 1) := by decide +kernel
theorem dX5_number_20 : decode cX5_number 20 = .ok (.sipush 700, 3) := by decide +kernel
theorem dX5_number_23 : decode cX5_number 23 = .ok (.if_icmp .ge 29, 3) := by decide +kernel
theorem dX5_number_26 : decode cX5_number 26 = .ok (.bipush 10, 2) := by decide +kernel
theorem dX5_number_28 : decode cX5_number 28 = .ok (.iload_n 1, 1) := by decide +kernel
theorem dX5_number_29 : decode cX5_number 29 = .ok (.imul, 1) := by decide +kernel
theorem dX5_number_30 : decode cX5_number 30 = .ok (.aload_n 0, 1) := by decide +kernel
theorem dX5_number_31 : decode cX5_number 31 = .ok (.getfield 9, 3) := by decide +kernel
theorem dX5_number_34 : decode cX5_number 34 = .ok (.iload_n 2, 1) := by decide +kernel
theorem dX5_number_35 : decode cX5_number 35 = .ok (.iaload, 1) := by decide +kernel
theorem dX5_number_36 : decode cX5_number 36 = .ok (.iadd, 1) := by decide +kernel
theorem dX5_number_37 : decode cX5_number 37 = .ok (.bipush 48, 2) := by decide +kernel
theorem dX5_number_39 : decode cX5_number 39 = .ok (.isub, 1) := by decide +kernel
theorem dX5_number_40 : decode cX5_number 40 = .ok (.ldc 57, 2) := by decide +kernel
theorem dX5_number_42 : decode cX5_number 42 = .ok (.invokestatic 58, 3) := by decide +kernel
theorem dX5_number_45 : decode cX5_number 45 = .ok (.istore_n 1, 1) := by decide +kernel
theorem dX5_number_46 : decode cX5_number 46 = .ok (.iinc 2 1, 3) := by decide +kernel
theorem dX5_number_49 : decode cX5_number 49 = .ok (.goto (-42), 3) := by decide +kernel
theorem dX5_number_52 : decode cX5_number 52 = .ok (.iload_n 1, 1) := by decide +kernel
theorem dX5_number_53 : decode cX5_number 53 = .ok (.ireturn, 1) := by decide +kernel
theorem dX6_init_0 : decode cX6_init 0 = .ok (.aload_n 0, 1) := by decide +kernel
theorem dX6_init_1 : decode cX6_init 1 = .ok (.invokespecial 1, 3) := by decide +kernel
theorem dX6_init_4 : decode cX6_init 4 = .ok (.aload_n 0, 1) := by decide +kernel
theorem dX6_init_5 : decode cX6_init 5 = .ok (.new 7, 3) := by decide +kernel
theorem dX6_init_8 : decode cX6_init 8 = .ok (.dup, 1) := by decide +kernel
theorem dX6_init_9 : decode cX6_init 9 = .ok (.invokespecial 9, 3) := by decide +kernel
theorem dX6_init_12 : decode cX6_init 12 = .ok (.putfield 10, 3) := by decide +kernel
theorem dX6_init_15 : decode cX6_init 15 = .ok (.aload_n 0, 1) := by decide +kernel
theorem dX6_init_16 : decode cX6_init 16 = .ok (.new 16, 3) := by decide +kernel
theorem dX6_init_19 : decode cX6_init 19 = .ok (.dup, 1) := by decide +kernel
theorem dX6_init_20 : decode cX6_init 20 = .ok (.invokespecial 18, 3) := by decide +kernel
theorem dX6_init_23 : decode cX6_init 23 = .ok (.putfield 19, 3) := by decide +kernel
theorem dX6_init_26 : decode cX6_init 26 = .ok (.aload_n 0, 1) := by decide +kernel
theorem dX6_init_27 : decode cX6_init 27 = .ok (.new 23, 3) := by decide +kernel
theorem dX6_init_30 : decode cX6_init 30 = .ok (.dup, 1) := by decide +kernel
theorem dX6_init_31 : decode cX6_init 31 = .ok (.invokespecial 25, 3) := by decide +kernel
theorem dX6_init_34 : decode cX6_init 34 = .ok (.putfield 26, 3) := by decide +kernel
theorem dX6_init_37 : decode cX6_init 37 = .ok (.aload_n 0, 1) := by decide +kernel
theorem dX6_init_38 : decode cX6_init 38 = .ok (.new 30, 3) := by decide +kernel
theorem dX6_init_41 : decode cX6_init 41 = .ok (.dup, 1) := by decide +kernel
theorem dX6_init_42 : decode cX6_init 42 = .ok (.invokespecial 32, 3) := by decide +kernel
theorem dX6_init_45 : decode cX6_init 45 = .ok (.putfield 33, 3) := by decide +kernel
theorem dX6_init_48 : decode cX6_init 48 = .ok (.aload_n 0, 1) := by decide +kernel
theorem dX6_init_49 : decode cX6_init 49 = .ok (.new 37, 3) := by decide +kernel
theorem dX6_init_52 : decode cX6_init 52 = .ok (.dup, 1) := by decide +kernel
theorem dX6_init_53 : decode cX6_init 53 = .ok (.invokespecial 39, 3) := by decide +kernel
theorem dX6_init_56 : decode cX6_init 56 = .ok (.putfield 40, 3) := by decide +kernel
theorem dX6_init_59 : decode cX6_init 59 = .ok (.aload_n 0, 1) := by decide +kernel
theorem dX6_init_60 : decode cX6_init 60 = .ok (.iconst (-1), 1) := by decide +kernel
theorem dX6_init_61 : decode cX6_init 61 = .ok (.putfield 44, 3) := by decide +kernel
theorem dX6_init_64 : decode cX6_init 64 = .ok (.return_, 1) := by decide +kernel
theorem dX6_append_0 : decode cX6_append 0 = .ok (.aload_n 0, 1) := by decide +kernel
theorem dX6_append_1 : decode cX6_append 1 = .ok (.getfield 33, 3) := by decide +kernel
theorem dX6_append_4 : decode cX6_append 4 = .ok (.getfield 48, 3) := by decide +kernel
theorem dX6_append_7 : decode cX6_append 7 = .ok (.astore 6, 2) := by decide +kernel
theorem dX6_append_9 : decode cX6_append 9 = .ok (.aload 6, 2) := by decide +kernel
theorem dX6_append_11 : decode cX6_append 11 = .ok (.getfield 52, 3) := by decide +kernel
theorem dX6_append_14 : decode cX6_append 14 = .ok (.sipush 680, 3) := by decide +kernel
theorem dX6_append_17 : decode cX6_append 17 = .ok (.if_icmp .le 5, 3) := by decide +kernel
theorem dX6_append_20 : decode cX6_append 20 = .ok (.iconst (-1), 1) := by decide +kernel
theorem dX6_append_21 : decode cX6_append 21 = .ok (.ireturn, 1) := by decide +kernel
theorem dX6_append_22 : decode cX6_append 22 = .ok (.aload 6, 2) := by decide +kernel
theorem dX6_append_24 : decode cX6_append 24 = .ok (.iload_n 1, 1) := by decide +kernel
theorem dX6_append_25 : decode cX6_append 25 = .ok (.invokevirtual 57, 3) := by decide +kernel
theorem dX6_append_28 : decode cX6_append 28 = .ok (.aload 6, 2) := by decide +kernel
theorem dX6_append_30 : decode cX6_append 30 = .ok (.iload_n 2, 1) := by decide +kernel
theorem dX6_append_31 : decode cX6_append 31 = .ok (.invokevirtual 57, 3) := by decide +kernel
theorem dX6_append_34 : decode cX6_append 34 = .ok (.aload 6, 2) := by decide +kernel
theorem dX6_append_36 : decode cX6_append 36 = .ok (.iload_n 3, 1) := by decide +kernel
theorem dX6_append_37 : decode cX6_append 37 = .ok (.invokevirtual 57, 3) := by decide +kernel
theorem dX6_append_40 : decode cX6_append 40 = .ok (.aload 6, 2) := by decide +kernel
theorem dX6_append_42 : decode cX6_append 42 = .ok (.iload 4, 2) := by decide +kernel
theorem dX6_append_44 : decode cX6_append 44 = .ok (.invokevirtual 57, 3) := by decide +kernel
theorem dX6_append_47 : decode cX6_append 47 = .ok (.aload 6, 2) := by decide +kernel
theorem dX6_append_49 : decode cX6_append 49 = .ok (.iload 5, 2) := by decide +kernel
theorem dX6_append_51 : decode cX6_append 51 = .ok (.invokevirtual 57, 3) := by decide +kernel
theorem dX6_append_54 : decode cX6_append 54 = .ok (.aload 6, 2) := by decide +kernel
theorem dX6_append_56 : decode cX6_append 56 = .ok (.getfield 52, 3) := by decide +kernel
theorem dX6_append_59 : decode cX6_append 59 = .ok (.ireturn, 1) := by decide +kernel
theorem dX6_load_0 : decode cX6_load 0 = .ok (.iload_n 1, 1) := by decide +kernel
theorem dX6_load_1 : decode cX6_load 1 = .ok (.ifCond .lt 17, 3) := by decide +kernel
theorem dX6_load_4 : decode cX6_load 4 = .ok (.iload_n 1, 1) := by decide +kernel
theorem dX6_load_5 : decode cX6_load 5 = .ok (.aload_n 0, 1) := by decide +kernel
theorem dX6_load_6 : decode cX6_load 6 = .ok (.getfield 33, 3) := by decide +kernel
theorem dX6_load_9 : decode cX6_load 9 = .ok (.getfield 48, 3) := by decide +kernel
theorem dX6_load_12 : decode cX6_load 12 = .ok (.getfield 52, 3) := by decide +kernel
theorem dX6_load_15 : decode cX6_load 15 = .ok (.if_icmp .le 13, 3) := by decide +kernel
theorem dX6_load_18 : decode cX6_load 18 = .ok (.new 61, 3) := by decide +kernel
theorem dX6_load_21 : decode cX6_load 21 = .ok (.dup, 1) := by decide +kernel
theorem dX6_load_22 : decode cX6_load 22 = .ok (.ldc 63, 2) := by decide +kernel
theorem dX6_load_24 : decode cX6_load 24 = .ok (.invokespecial 65, 3) := by decide +kernel
theorem dX6_load_27 : decode cX6_load 27 = .ok (.athrow, 1) := by decide +kernel
theorem dX6_load_28 : decode cX6_load 28 = .ok (.aload_n 0, 1) := by decide +kernel
theorem dX6_load_29 : decode cX6_load 29 = .ok (.getfield 33, 3) := by decide +kernel
theorem dX6_load_32 : decode cX6_load 32 = .ok (.iload_n 1, 1) := by decide +kernel
theorem dX6_load_33 : decode cX6_load 33 = .ok (.invokevirtual 68, 3) := by decide +kernel
theorem dX6_load_36 : decode cX6_load 36 = .ok (.istore_n 2, 1) := by decide +kernel
theorem dX6_load_37 : decode cX6_load 37 = .ok (.aload_n 0, 1) := by decide +kernel
theorem dX6_load_38 : decode cX6_load 38 = .ok (.getfield 33, 3) := by decide +kernel
theorem dX6_load_41 : decode cX6_load 41 = .ok (.getfield 48, 3) := by decide +kernel
theorem dX6_load_44 : decode cX6_load 44 = .ok (.iconst 0, 1) := by decide +kernel
theorem dX6_load_45 : decode cX6_load 45 = .ok (.putfield 52, 3) := by decide +kernel
theorem dX6_load_48 : decode cX6_load 48 = .ok (.iload_n 2, 1) := by decide +kernel
theorem dX6_load_49 : decode cX6_load 49 = .ok (.ifCond .ne 25, 3) := by decide +kernel
theorem dX6_load_52 : decode cX6_load 52 = .ok (.aload_n 0, 1) := by decide +kernel
theorem dX6_load_53 : decode cX6_load 53 = .ok (.aload_n 0, 1) := by decide +kernel
theorem dX6_load_54 : decode cX6_load 54 = .ok (.getfield 33, 3) := by decide +kernel
theorem dX6_load_57 : decode cX6_load 57 = .ok (.getfield 48, 3) := by decide +kernel
theorem dX6_load_60 : decode cX6_load 60 = .ok (.getfield 72, 3) := by decide +kernel
theorem dX6_load_63 : decode cX6_load 63 = .ok (.putfield 44, 3) := by decide +kernel
theorem dX6_load_66 : decode cX6_load 66 = .ok (.aload_n 0, 1) := by decide +kernel
theorem dX6_load_67 : decode cX6_load 67 = .ok (.getfield 33, 3) := by decide +kernel
theorem dX6_load_70 : decode cX6_load 70 = .ok (.getfield 75, 3) := by decide +kernel
theorem dX6_load_73 : decode cX6_load 73 = .ok (.ireturn, 1) := by decide +kernel
theorem dX6_load_74 : decode cX6_load 74 = .ok (.aload_n 0, 1) := by decide +kernel
theorem dX6_load_75 : decode cX6_load 75 = .ok (.iconst (-1), 1) := by decide +kernel
theorem dX6_load_76 : decode cX6_load 76 = .ok (.putfield 44, 3) := by decide +kernel
theorem dX6_load_79 : decode cX6_load 79 = .ok (.aload_n 0, 1) := by decide +kernel
theorem dX6_load_80 : decode cX6_load 80 = .ok (.getfield 19, 3) := by decide +kernel
theorem dX6_load_83 : decode cX6_load 83 = .ok (.aload_n 0, 1) := by decide +kernel
theorem dX6_load_84 : decode cX6_load 84 = .ok (.getfield 10, 3) := by decide +kernel
theorem dX6_load_87 : decode cX6_load 87 = .ok (.invokevirtual 78, 3) := by decide +kernel
theorem dX6_load_90 : decode cX6_load 90 = .ok (.aload_n 0, 1) := by decide +kernel
theorem dX6_load_91 : decode cX6_load 91 = .ok (.getfield 10, 3) := by decide +kernel
theorem dX6_load_94 : decode cX6_load 94 = .ok (.aload_n 0, 1) := by decide +kernel
theorem dX6_load_95 : decode cX6_load 95 = .ok (.getfield 33, 3) := by decide +kernel
theorem dX6_load_98 : decode cX6_load 98 = .ok (.getfield 82, 3) := by decide +kernel
theorem dX6_load_101 : decode cX6_load 101 = .ok (.invokevirtual 85, 3) := by decide +kernel
theorem dX6_load_104 : decode cX6_load 104 = .ok (.aload_n 0, 1) := by decide +kernel
theorem dX6_load_105 : decode cX6_load 105 = .ok (.getfield 10, 3) := by decide +kernel
theorem dX6_load_108 : decode cX6_load 108 = .ok (.invokevirtual 88, 3) := by decide +kernel
theorem dX6_load_111 : decode cX6_load 111 = .ok (.ireturn, 1) := by decide +kernel
theorem dX6_errorOffset_0 : decode cX6_errorOffset 0 = .ok (.aload_n 0, 1) := by decide +kernel
theorem dX6_errorOffset_1 : decode cX6_errorOffset 1 = .ok (.getfield 44, 3) := by decide +kernel
theorem dX6_errorOffset_4 : decode cX6_errorOffset 4 = .ok (.ireturn, 1) := by decide +kernel
theorem dX6_defined_0 : decode cX6_defined 0 = .ok (.aload_n 0, 1) := by decide +kernel
theorem dX6_defined_1 : decode cX6_defined 1 = .ok (.getfield 10, 3) := by decide +kernel
theorem dX6_defined_4 : decode cX6_defined 4 = .ok (.getfield 92, 3) := by decide +kernel
theorem dX6_defined_7 : decode cX6_defined 7 = .ok (.ireturn, 1) := by decide +kernel
theorem dX6_coefficient_0 : decode cX6_coefficient 0 = .ok (.iload_n 1, 1) := by decide +kernel
theorem dX6_coefficient_1 : decode cX6_coefficient 1 = .ok (.invokestatic 95, 3) := by decide +kernel
theorem dX6_coefficient_4 : decode cX6_coefficient 4 = .ok (.aload_n 0, 1) := by decide +kernel
theorem dX6_coefficient_5 : decode cX6_coefficient 5 = .ok (.iload_n 1, 1) := by decide +kernel
theorem dX6_coefficient_6 : decode cX6_coefficient 6 = .ok (.invokevirtual 98, 3) := by decide +kernel
theorem dX6_coefficient_9 : decode cX6_coefficient 9 = .ok (.astore 4, 2) := by decide +kernel
theorem dX6_coefficient_11 : decode cX6_coefficient 11 = .ok (.aload 4, 2) := by decide +kernel
theorem dX6_coefficient_13 : decode cX6_coefficient 13 = .ok (.iload_n 2, 1) := by decide +kernel
theorem dX6_coefficient_14 : decode cX6_coefficient 14 = .ok (.iload_n 3, 1) := by decide +kernel
theorem dX6_coefficient_15 : decode cX6_coefficient 15 = .ok (.invokestatic 102, 3) := by decide +kernel
theorem dX6_coefficient_18 : decode cX6_coefficient 18 = .ok (.invokevirtual 106, 3) := by decide +kernel
theorem dX6_coefficient_21 : decode cX6_coefficient 21 = .ok (.l2i, 1) := by decide +kernel
theorem dX6_coefficient_22 : decode cX6_coefficient 22 = .ok (.ireturn, 1) := by decide +kernel
theorem dX6_remainder_0 : decode cX6_remainder 0 = .ok (.iload_n 1, 1) := by decide +kernel
theorem dX6_remainder_1 : decode cX6_remainder 1 = .ok (.invokestatic 95, 3) := by decide +kernel
theorem dX6_remainder_4 : decode cX6_remainder 4 = .ok (.aload_n 0, 1) := by decide +kernel
theorem dX6_remainder_5 : decode cX6_remainder 5 = .ok (.iload_n 1, 1) := by decide +kernel
theorem dX6_remainder_6 : decode cX6_remainder 6 = .ok (.invokevirtual 98, 3) := by decide +kernel
theorem dX6_remainder_9 : decode cX6_remainder 9 = .ok (.astore_n 3, 1) := by decide +kernel
theorem dX6_remainder_10 : decode cX6_remainder 10 = .ok (.iload_n 2, 1) := by decide +kernel
theorem dX6_remainder_11 : decode cX6_remainder 11 = .ok (.invokestatic 110, 3) := by decide +kernel
theorem dX6_remainder_14 : decode cX6_remainder 14 = .ok (.iload_n 2, 1) := by decide +kernel
theorem dX6_remainder_15 : decode cX6_remainder 15 = .ok (.ifCond .ne 10, 3) := by decide +kernel
theorem dX6_remainder_18 : decode cX6_remainder 18 = .ok (.aload_n 3, 1) := by decide +kernel
theorem dX6_remainder_19 : decode cX6_remainder 19 = .ok (.getfield 113, 3) := by decide +kernel
theorem dX6_remainder_22 : decode cX6_remainder 22 = .ok (.goto 7, 3) := by decide +kernel
theorem dX6_remainder_25 : decode cX6_remainder 25 = .ok (.aload_n 3, 1) := by decide +kernel
theorem dX6_remainder_26 : decode cX6_remainder 26 = .ok (.getfield 117, 3) := by decide +kernel
theorem dX6_remainder_29 : decode cX6_remainder 29 = .ok (.l2i, 1) := by decide +kernel
theorem dX6_remainder_30 : decode cX6_remainder 30 = .ok (.ireturn, 1) := by decide +kernel
theorem dX6_bound_0 : decode cX6_bound 0 = .ok (.iload_n 1, 1) := by decide +kernel
theorem dX6_bound_1 : decode cX6_bound 1 = .ok (.invokestatic 95, 3) := by decide +kernel
theorem dX6_bound_4 : decode cX6_bound 4 = .ok (.aload_n 0, 1) := by decide +kernel
theorem dX6_bound_5 : decode cX6_bound 5 = .ok (.iload_n 1, 1) := by decide +kernel
theorem dX6_bound_6 : decode cX6_bound 6 = .ok (.invokevirtual 98, 3) := by decide +kernel
theorem dX6_bound_9 : decode cX6_bound 9 = .ok (.astore_n 3, 1) := by decide +kernel
theorem dX6_bound_10 : decode cX6_bound 10 = .ok (.iload_n 2, 1) := by decide +kernel
theorem dX6_bound_11 : decode cX6_bound 11 = .ok (.invokestatic 110, 3) := by decide +kernel
theorem dX6_bound_14 : decode cX6_bound 14 = .ok (.iload_n 2, 1) := by decide +kernel
theorem dX6_bound_15 : decode cX6_bound 15 = .ok (.ifCond .ne 10, 3) := by decide +kernel
theorem dX6_bound_18 : decode cX6_bound 18 = .ok (.aload_n 3, 1) := by decide +kernel
theorem dX6_bound_19 : decode cX6_bound 19 = .ok (.invokevirtual 120, 3) := by decide +kernel
theorem dX6_bound_22 : decode cX6_bound 22 = .ok (.goto 7, 3) := by decide +kernel
theorem dX6_bound_25 : decode cX6_bound 25 = .ok (.aload_n 3, 1) := by decide +kernel
theorem dX6_bound_26 : decode cX6_bound 26 = .ok (.invokevirtual 124, 3) := by decide +kernel
theorem dX6_bound_29 : decode cX6_bound 29 = .ok (.l2i, 1) := by decide +kernel
theorem dX6_bound_30 : decode cX6_bound 30 = .ok (.ireturn, 1) := by decide +kernel
theorem dX6_value_0 : decode cX6_value 0 = .ok (.iload_n 1, 1) := by decide +kernel
theorem dX6_value_1 : decode cX6_value 1 = .ok (.invokestatic 95, 3) := by decide +kernel
theorem dX6_value_4 : decode cX6_value 4 = .ok (.aload_n 0, 1) := by decide +kernel
theorem dX6_value_5 : decode cX6_value 5 = .ok (.iload_n 1, 1) := by decide +kernel
theorem dX6_value_6 : decode cX6_value 6 = .ok (.invokevirtual 98, 3) := by decide +kernel
theorem dX6_value_9 : decode cX6_value 9 = .ok (.astore 5, 2) := by decide +kernel
theorem dX6_value_11 : decode cX6_value 11 = .ok (.iload_n 2, 1) := by decide +kernel
theorem dX6_value_12 : decode cX6_value 12 = .ok (.i2l, 1) := by decide +kernel
theorem dX6_value_13 : decode cX6_value 13 = .ok (.ldc2_w 127, 3) := by decide +kernel
theorem dX6_value_16 : decode cX6_value 16 = .ok (.ldc2_w 129, 3) := by decide +kernel
theorem dX6_value_19 : decode cX6_value 19 = .ok (.invokestatic 131, 3) := by decide +kernel
theorem dX6_value_22 : decode cX6_value 22 = .ok (.iload_n 3, 1) := by decide +kernel
theorem dX6_value_23 : decode cX6_value 23 = .ok (.i2l, 1) := by decide +kernel
theorem dX6_value_24 : decode cX6_value 24 = .ok (.ldc2_w 127, 3) := by decide +kernel
theorem dX6_value_27 : decode cX6_value 27 = .ok (.ldc2_w 129, 3) := by decide +kernel
theorem dX6_value_30 : decode cX6_value 30 = .ok (.invokestatic 131, 3) := by decide +kernel
theorem dX6_value_33 : decode cX6_value 33 = .ok (.iload 4, 2) := by decide +kernel
theorem dX6_value_35 : decode cX6_value 35 = .ok (.invokestatic 110, 3) := by decide +kernel
theorem dX6_value_38 : decode cX6_value 38 = .ok (.aload 5, 2) := by decide +kernel
theorem dX6_value_40 : decode cX6_value 40 = .ok (.iload_n 2, 1) := by decide +kernel
theorem dX6_value_41 : decode cX6_value 41 = .ok (.i2l, 1) := by decide +kernel
theorem dX6_value_42 : decode cX6_value 42 = .ok (.iload_n 3, 1) := by decide +kernel
theorem dX6_value_43 : decode cX6_value 43 = .ok (.i2l, 1) := by decide +kernel
theorem dX6_value_44 : decode cX6_value 44 = .ok (.invokevirtual 135, 3) := by decide +kernel
theorem dX6_value_47 : decode cX6_value 47 = .ok (.lstore 6, 2) := by decide +kernel
theorem dX6_value_49 : decode cX6_value 49 = .ok (.iload 4, 2) := by decide +kernel
theorem dX6_value_51 : decode cX6_value 51 = .ok (.ifCond .ne 20, 3) := by decide +kernel
theorem dX6_value_54 : decode cX6_value 54 = .ok (.aload 5, 2) := by decide +kernel
theorem dX6_value_56 : decode cX6_value 56 = .ok (.getfield 113, 3) := by decide +kernel
theorem dX6_value_59 : decode cX6_value 59 = .ok (.lload 6, 2) := by decide +kernel
theorem dX6_value_61 : decode cX6_value 61 = .ok (.ldc2_w 139, 3) := by decide +kernel
theorem dX6_value_64 : decode cX6_value 64 = .ok (.invokestatic 141, 3) := by decide +kernel
theorem dX6_value_67 : decode cX6_value 67 = .ok (.ladd, 1) := by decide +kernel
theorem dX6_value_68 : decode cX6_value 68 = .ok (.goto 18, 3) := by decide +kernel
theorem dX6_value_71 : decode cX6_value 71 = .ok (.aload 5, 2) := by decide +kernel
theorem dX6_value_73 : decode cX6_value 73 = .ok (.getfield 117, 3) := by decide +kernel
theorem dX6_value_76 : decode cX6_value 76 = .ok (.lload 6, 2) := by decide +kernel
theorem dX6_value_78 : decode cX6_value 78 = .ok (.lneg, 1) := by decide +kernel
theorem dX6_value_79 : decode cX6_value 79 = .ok (.ldc2_w 139, 3) := by decide +kernel
theorem dX6_value_82 : decode cX6_value 82 = .ok (.invokestatic 141, 3) := by decide +kernel
theorem dX6_value_85 : decode cX6_value 85 = .ok (.lsub, 1) := by decide +kernel
theorem dX6_value_86 : decode cX6_value 86 = .ok (.l2i, 1) := by decide +kernel
theorem dX6_value_87 : decode cX6_value 87 = .ok (.ireturn, 1) := by decide +kernel
theorem dX6_degree_0 : decode cX6_degree 0 = .ok (.iload_n 1, 1) := by decide +kernel
theorem dX6_degree_1 : decode cX6_degree 1 = .ok (.invokestatic 95, 3) := by decide +kernel
theorem dX6_degree_4 : decode cX6_degree 4 = .ok (.aload_n 0, 1) := by decide +kernel
theorem dX6_degree_5 : decode cX6_degree 5 = .ok (.iload_n 1, 1) := by decide +kernel
theorem dX6_degree_6 : decode cX6_degree 6 = .ok (.invokevirtual 98, 3) := by decide +kernel
theorem dX6_degree_9 : decode cX6_degree 9 = .ok (.invokevirtual 146, 3) := by decide +kernel
theorem dX6_degree_12 : decode cX6_degree 12 = .ok (.ireturn, 1) := by decide +kernel
theorem dX6_covers_0 : decode cX6_covers 0 = .ok (.iload_n 1, 1) := by decide +kernel
theorem dX6_covers_1 : decode cX6_covers 1 = .ok (.invokestatic 95, 3) := by decide +kernel
theorem dX6_covers_4 : decode cX6_covers 4 = .ok (.iload_n 2, 1) := by decide +kernel
theorem dX6_covers_5 : decode cX6_covers 5 = .ok (.invokestatic 95, 3) := by decide +kernel
theorem dX6_covers_8 : decode cX6_covers 8 = .ok (.aload_n 0, 1) := by decide +kernel
theorem dX6_covers_9 : decode cX6_covers 9 = .ok (.iload_n 1, 1) := by decide +kernel
theorem dX6_covers_10 : decode cX6_covers 10 = .ok (.invokevirtual 98, 3) := by decide +kernel
theorem dX6_covers_13 : decode cX6_covers 13 = .ok (.astore_n 3, 1) := by decide +kernel
theorem dX6_covers_14 : decode cX6_covers 14 = .ok (.aload_n 0, 1) := by decide +kernel
theorem dX6_covers_15 : decode cX6_covers 15 = .ok (.iload_n 2, 1) := by decide +kernel
theorem dX6_covers_16 : decode cX6_covers 16 = .ok (.invokevirtual 98, 3) := by decide +kernel
theorem dX6_covers_19 : decode cX6_covers 19 = .ok (.astore 4, 2) := by decide +kernel
theorem dX6_covers_21 : decode cX6_covers 21 = .ok (.aload_n 3, 1) := by decide +kernel
theorem dX6_covers_22 : decode cX6_covers 22 = .ok (.aload 4, 2) := by decide +kernel
theorem dX6_covers_24 : decode cX6_covers 24 = .ok (.invokevirtual 149, 3) := by decide +kernel
theorem dX6_covers_27 : decode cX6_covers 27 = .ok (.ireturn, 1) := by decide +kernel
theorem dX6_reason_0 : decode cX6_reason 0 = .ok (.iload_n 1, 1) := by decide +kernel
theorem dX6_reason_1 : decode cX6_reason 1 = .ok (.invokestatic 95, 3) := by decide +kernel
theorem dX6_reason_4 : decode cX6_reason 4 = .ok (.iload_n 2, 1) := by decide +kernel
theorem dX6_reason_5 : decode cX6_reason 5 = .ok (.invokestatic 95, 3) := by decide +kernel
theorem dX6_reason_8 : decode cX6_reason 8 = .ok (.iload_n 3, 1) := by decide +kernel
theorem dX6_reason_9 : decode cX6_reason 9 = .ok (.invokestatic 95, 3) := by decide +kernel
theorem dX6_reason_12 : decode cX6_reason 12 = .ok (.aload_n 0, 1) := by decide +kernel
theorem dX6_reason_13 : decode cX6_reason 13 = .ok (.iload_n 1, 1) := by decide +kernel
theorem dX6_reason_14 : decode cX6_reason 14 = .ok (.invokevirtual 98, 3) := by decide +kernel
theorem dX6_reason_17 : decode cX6_reason 17 = .ok (.astore 4, 2) := by decide +kernel
theorem dX6_reason_19 : decode cX6_reason 19 = .ok (.aload_n 0, 1) := by decide +kernel
theorem dX6_reason_20 : decode cX6_reason 20 = .ok (.iload_n 2, 1) := by decide +kernel
theorem dX6_reason_21 : decode cX6_reason 21 = .ok (.invokevirtual 98, 3) := by decide +kernel
theorem dX6_reason_24 : decode cX6_reason 24 = .ok (.astore 5, 2) := by decide +kernel
theorem dX6_reason_26 : decode cX6_reason 26 = .ok (.aload_n 0, 1) := by decide +kernel
theorem dX6_reason_27 : decode cX6_reason 27 = .ok (.iload_n 3, 1) := by decide +kernel
theorem dX6_reason_28 : decode cX6_reason 28 = .ok (.invokevirtual 98, 3) := by decide +kernel
theorem dX6_reason_31 : decode cX6_reason 31 = .ok (.astore 6, 2) := by decide +kernel
theorem dX6_reason_33 : decode cX6_reason 33 = .ok (.aload 5, 2) := by decide +kernel
theorem dX6_reason_35 : decode cX6_reason 35 = .ok (.invokevirtual 153, 3) := by decide +kernel
theorem dX6_reason_38 : decode cX6_reason 38 = .ok (.ifCond .ne 5, 3) := by decide +kernel
theorem dX6_reason_41 : decode cX6_reason 41 = .ok (.iconst 1, 1) := by decide +kernel
theorem dX6_reason_42 : decode cX6_reason 42 = .ok (.ireturn, 1) := by decide +kernel
theorem dX6_reason_43 : decode cX6_reason 43 = .ok (.aload 6, 2) := by decide +kernel
theorem dX6_reason_45 : decode cX6_reason 45 = .ok (.invokevirtual 153, 3) := by decide +kernel
theorem dX6_reason_48 : decode cX6_reason 48 = .ok (.ifCond .ne 5, 3) := by decide +kernel
theorem dX6_reason_51 : decode cX6_reason 51 = .ok (.iconst 2, 1) := by decide +kernel
theorem dX6_reason_52 : decode cX6_reason 52 = .ok (.ireturn, 1) := by decide +kernel
theorem dX6_reason_53 : decode cX6_reason 53 = .ok (.aload_n 0, 1) := by decide +kernel
theorem dX6_reason_54 : decode cX6_reason 54 = .ok (.getfield 26, 3) := by decide +kernel
theorem dX6_reason_57 : decode cX6_reason 57 = .ok (.aload_n 0, 1) := by decide +kernel
theorem dX6_reason_58 : decode cX6_reason 58 = .ok (.getfield 40, 3) := by decide +kernel
theorem dX6_reason_61 : decode cX6_reason 61 = .ok (.aload 4, 2) := by decide +kernel
theorem dX6_reason_63 : decode cX6_reason 63 = .ok (.aload 5, 2) := by decide +kernel
theorem dX6_reason_65 : decode cX6_reason 65 = .ok (.aload 6, 2) := by decide +kernel
theorem dX6_reason_67 : decode cX6_reason 67 = .ok (.invokevirtual 157, 3) := by decide +kernel
theorem dX6_reason_70 : decode cX6_reason 70 = .ok (.ifCond .eq 7, 3) := by decide +kernel
theorem dX6_reason_73 : decode cX6_reason 73 = .ok (.iconst 0, 1) := by decide +kernel
theorem dX6_reason_74 : decode cX6_reason 74 = .ok (.goto 4, 3) := by decide +kernel
theorem dX6_reason_77 : decode cX6_reason 77 = .ok (.iconst 3, 1) := by decide +kernel
theorem dX6_reason_78 : decode cX6_reason 78 = .ok (.ireturn, 1) := by decide +kernel
theorem dX6_add_0 : decode cX6_add 0 = .ok (.iload_n 1, 1) := by decide +kernel
theorem dX6_add_1 : decode cX6_add 1 = .ok (.invokestatic 95, 3) := by decide +kernel
theorem dX6_add_4 : decode cX6_add 4 = .ok (.iload_n 2, 1) := by decide +kernel
theorem dX6_add_5 : decode cX6_add 5 = .ok (.invokestatic 95, 3) := by decide +kernel
theorem dX6_add_8 : decode cX6_add 8 = .ok (.iload_n 3, 1) := by decide +kernel
theorem dX6_add_9 : decode cX6_add 9 = .ok (.invokestatic 95, 3) := by decide +kernel
theorem dX6_add_12 : decode cX6_add 12 = .ok (.aload_n 0, 1) := by decide +kernel
theorem dX6_add_13 : decode cX6_add 13 = .ok (.iload_n 2, 1) := by decide +kernel
theorem dX6_add_14 : decode cX6_add 14 = .ok (.invokevirtual 98, 3) := by decide +kernel
theorem dX6_add_17 : decode cX6_add 17 = .ok (.astore 4, 2) := by decide +kernel
theorem dX6_add_19 : decode cX6_add 19 = .ok (.aload_n 0, 1) := by decide +kernel
theorem dX6_add_20 : decode cX6_add 20 = .ok (.iload_n 3, 1) := by decide +kernel
theorem dX6_add_21 : decode cX6_add 21 = .ok (.invokevirtual 98, 3) := by decide +kernel
theorem dX6_add_24 : decode cX6_add 24 = .ok (.astore 5, 2) := by decide +kernel
theorem dX6_add_26 : decode cX6_add 26 = .ok (.aload_n 0, 1) := by decide +kernel
theorem dX6_add_27 : decode cX6_add 27 = .ok (.iload_n 1, 1) := by decide +kernel
theorem dX6_add_28 : decode cX6_add 28 = .ok (.aload_n 0, 1) := by decide +kernel
theorem dX6_add_29 : decode cX6_add 29 = .ok (.getfield 26, 3) := by decide +kernel
theorem dX6_add_32 : decode cX6_add 32 = .ok (.aload_n 0, 1) := by decide +kernel
theorem dX6_add_33 : decode cX6_add 33 = .ok (.getfield 40, 3) := by decide +kernel
theorem dX6_add_36 : decode cX6_add 36 = .ok (.aload 4, 2) := by decide +kernel
theorem dX6_add_38 : decode cX6_add 38 = .ok (.aload 5, 2) := by decide +kernel
theorem dX6_add_40 : decode cX6_add 40 = .ok (.invokevirtual 161, 3) := by decide +kernel
theorem dX6_add_43 : decode cX6_add 43 = .ok (.invokevirtual 165, 3) := by decide +kernel
theorem dX6_add_46 : decode cX6_add 46 = .ok (.ireturn, 1) := by decide +kernel
theorem dX6_subtract_0 : decode cX6_subtract 0 = .ok (.iload_n 1, 1) := by decide +kernel
theorem dX6_subtract_1 : decode cX6_subtract 1 = .ok (.invokestatic 95, 3) := by decide +kernel
theorem dX6_subtract_4 : decode cX6_subtract 4 = .ok (.iload_n 2, 1) := by decide +kernel
theorem dX6_subtract_5 : decode cX6_subtract 5 = .ok (.invokestatic 95, 3) := by decide +kernel
theorem dX6_subtract_8 : decode cX6_subtract 8 = .ok (.iload_n 3, 1) := by decide +kernel
theorem dX6_subtract_9 : decode cX6_subtract 9 = .ok (.invokestatic 95, 3) := by decide +kernel
theorem dX6_subtract_12 : decode cX6_subtract 12 = .ok (.aload_n 0, 1) := by decide +kernel
theorem dX6_subtract_13 : decode cX6_subtract 13 = .ok (.iload_n 2, 1) := by decide +kernel
theorem dX6_subtract_14 : decode cX6_subtract 14 = .ok (.invokevirtual 98, 3) := by decide +kernel
theorem dX6_subtract_17 : decode cX6_subtract 17 = .ok (.astore 4, 2) := by decide +kernel
theorem dX6_subtract_19 : decode cX6_subtract 19 = .ok (.aload_n 0, 1) := by decide +kernel
theorem dX6_subtract_20 : decode cX6_subtract 20 = .ok (.iload_n 3, 1) := by decide +kernel
theorem dX6_subtract_21 : decode cX6_subtract 21 = .ok (.invokevirtual 98, 3) := by decide +kernel
theorem dX6_subtract_24 : decode cX6_subtract 24 = .ok (.astore 5, 2) := by decide +kernel
theorem dX6_subtract_26 : decode cX6_subtract 26 = .ok (.aload_n 0, 1) := by decide +kernel
theorem dX6_subtract_27 : decode cX6_subtract 27 = .ok (.iload_n 1, 1) := by decide +kernel
theorem dX6_subtract_28 : decode cX6_subtract 28 = .ok (.aload_n 0, 1) := by decide +kernel
theorem dX6_subtract_29 : decode cX6_subtract 29 = .ok (.getfield 26, 3) := by decide +kernel
theorem dX6_subtract_32 : decode cX6_subtract 32 = .ok (.aload_n 0, 1) := by decide +kernel
theorem dX6_subtract_33 : decode cX6_subtract 33 = .ok (.getfield 40, 3) := by decide +kernel
theorem dX6_subtract_36 : decode cX6_subtract 36 = .ok (.aload 4, 2) := by decide +kernel
theorem dX6_subtract_38 : decode cX6_subtract 38 = .ok (.aload 5, 2) := by decide +kernel
theorem dX6_subtract_40 : decode cX6_subtract 40 = .ok (.invokevirtual 169, 3) := by decide +kernel
theorem dX6_subtract_43 : decode cX6_subtract 43 = .ok (.invokevirtual 165, 3) := by decide +kernel
theorem dX6_subtract_46 : decode cX6_subtract 46 = .ok (.ireturn, 1) := by decide +kernel
theorem dX6_multiply_0 : decode cX6_multiply 0 = .ok (.iload_n 1, 1) := by decide +kernel
theorem dX6_multiply_1 : decode cX6_multiply 1 = .ok (.invokestatic 95, 3) := by decide +kernel
theorem dX6_multiply_4 : decode cX6_multiply 4 = .ok (.iload_n 2, 1) := by decide +kernel
theorem dX6_multiply_5 : decode cX6_multiply 5 = .ok (.invokestatic 95, 3) := by decide +kernel
theorem dX6_multiply_8 : decode cX6_multiply 8 = .ok (.iload_n 3, 1) := by decide +kernel
theorem dX6_multiply_9 : decode cX6_multiply 9 = .ok (.invokestatic 95, 3) := by decide +kernel
theorem dX6_multiply_12 : decode cX6_multiply 12 = .ok (.aload_n 0, 1) := by decide +kernel
theorem dX6_multiply_13 : decode cX6_multiply 13 = .ok (.iload_n 2, 1) := by decide +kernel
theorem dX6_multiply_14 : decode cX6_multiply 14 = .ok (.invokevirtual 98, 3) := by decide +kernel
theorem dX6_multiply_17 : decode cX6_multiply 17 = .ok (.astore 4, 2) := by decide +kernel
theorem dX6_multiply_19 : decode cX6_multiply 19 = .ok (.aload_n 0, 1) := by decide +kernel
theorem dX6_multiply_20 : decode cX6_multiply 20 = .ok (.iload_n 3, 1) := by decide +kernel
theorem dX6_multiply_21 : decode cX6_multiply 21 = .ok (.invokevirtual 98, 3) := by decide +kernel
theorem dX6_multiply_24 : decode cX6_multiply 24 = .ok (.astore 5, 2) := by decide +kernel
theorem dX6_multiply_26 : decode cX6_multiply 26 = .ok (.aload_n 0, 1) := by decide +kernel
theorem dX6_multiply_27 : decode cX6_multiply 27 = .ok (.iload_n 1, 1) := by decide +kernel
theorem dX6_multiply_28 : decode cX6_multiply 28 = .ok (.aload_n 0, 1) := by decide +kernel
theorem dX6_multiply_29 : decode cX6_multiply 29 = .ok (.getfield 26, 3) := by decide +kernel
theorem dX6_multiply_32 : decode cX6_multiply 32 = .ok (.aload_n 0, 1) := by decide +kernel
theorem dX6_multiply_33 : decode cX6_multiply 33 = .ok (.getfield 40, 3) := by decide +kernel
theorem dX6_multiply_36 : decode cX6_multiply 36 = .ok (.aload 4, 2) := by decide +kernel
theorem dX6_multiply_38 : decode cX6_multiply 38 = .ok (.aload 5, 2) := by decide +kernel
theorem dX6_multiply_40 : decode cX6_multiply 40 = .ok (.invokevirtual 172, 3) := by decide +kernel
theorem dX6_multiply_43 : decode cX6_multiply 43 = .ok (.invokevirtual 165, 3) := by decide +kernel
theorem dX6_multiply_46 : decode cX6_multiply 46 = .ok (.ireturn, 1) := by decide +kernel
theorem dX6_compose_0 : decode cX6_compose 0 = .ok (.iload_n 1, 1) := by decide +kernel
theorem dX6_compose_1 : decode cX6_compose 1 = .ok (.invokestatic 95, 3) := by decide +kernel
theorem dX6_compose_4 : decode cX6_compose 4 = .ok (.iload_n 2, 1) := by decide +kernel
theorem dX6_compose_5 : decode cX6_compose 5 = .ok (.invokestatic 95, 3) := by decide +kernel
theorem dX6_compose_8 : decode cX6_compose 8 = .ok (.iload_n 3, 1) := by decide +kernel
theorem dX6_compose_9 : decode cX6_compose 9 = .ok (.invokestatic 95, 3) := by decide +kernel
theorem dX6_compose_12 : decode cX6_compose 12 = .ok (.iload 4, 2) := by decide +kernel
theorem dX6_compose_14 : decode cX6_compose 14 = .ok (.invokestatic 95, 3) := by decide +kernel
theorem dX6_compose_17 : decode cX6_compose 17 = .ok (.aload_n 0, 1) := by decide +kernel
theorem dX6_compose_18 : decode cX6_compose 18 = .ok (.iload_n 2, 1) := by decide +kernel
theorem dX6_compose_19 : decode cX6_compose 19 = .ok (.invokevirtual 98, 3) := by decide +kernel
theorem dX6_compose_22 : decode cX6_compose 22 = .ok (.astore 5, 2) := by decide +kernel
theorem dX6_compose_24 : decode cX6_compose 24 = .ok (.aload_n 0, 1) := by decide +kernel
theorem dX6_compose_25 : decode cX6_compose 25 = .ok (.iload_n 3, 1) := by decide +kernel
theorem dX6_compose_26 : decode cX6_compose 26 = .ok (.invokevirtual 98, 3) := by decide +kernel
theorem dX6_compose_29 : decode cX6_compose 29 = .ok (.astore 6, 2) := by decide +kernel
theorem dX6_compose_31 : decode cX6_compose 31 = .ok (.aload_n 0, 1) := by decide +kernel
theorem dX6_compose_32 : decode cX6_compose 32 = .ok (.iload 4, 2) := by decide +kernel
theorem dX6_compose_34 : decode cX6_compose 34 = .ok (.invokevirtual 98, 3) := by decide +kernel
theorem dX6_compose_37 : decode cX6_compose 37 = .ok (.astore 7, 2) := by decide +kernel
theorem dX6_compose_39 : decode cX6_compose 39 = .ok (.aload_n 0, 1) := by decide +kernel
theorem dX6_compose_40 : decode cX6_compose 40 = .ok (.iload_n 1, 1) := by decide +kernel
theorem dX6_compose_41 : decode cX6_compose 41 = .ok (.aload_n 0, 1) := by decide +kernel
theorem dX6_compose_42 : decode cX6_compose 42 = .ok (.getfield 26, 3) := by decide +kernel
theorem dX6_compose_45 : decode cX6_compose 45 = .ok (.aload_n 0, 1) := by decide +kernel
theorem dX6_compose_46 : decode cX6_compose 46 = .ok (.getfield 40, 3) := by decide +kernel
theorem dX6_compose_49 : decode cX6_compose 49 = .ok (.aload 5, 2) := by decide +kernel
theorem dX6_compose_51 : decode cX6_compose 51 = .ok (.aload 6, 2) := by decide +kernel
theorem dX6_compose_53 : decode cX6_compose 53 = .ok (.aload 7, 2) := by decide +kernel
theorem dX6_compose_55 : decode cX6_compose 55 = .ok (.invokevirtual 157, 3) := by decide +kernel
theorem dX6_compose_58 : decode cX6_compose 58 = .ok (.invokevirtual 165, 3) := by decide +kernel
theorem dX6_compose_61 : decode cX6_compose 61 = .ok (.ireturn, 1) := by decide +kernel
theorem dX6_integrate_0 : decode cX6_integrate 0 = .ok (.iload_n 1, 1) := by decide +kernel
theorem dX6_integrate_1 : decode cX6_integrate 1 = .ok (.invokestatic 95, 3) := by decide +kernel
theorem dX6_integrate_4 : decode cX6_integrate 4 = .ok (.iload_n 2, 1) := by decide +kernel
theorem dX6_integrate_5 : decode cX6_integrate 5 = .ok (.invokestatic 95, 3) := by decide +kernel
theorem dX6_integrate_8 : decode cX6_integrate 8 = .ok (.aload_n 0, 1) := by decide +kernel
theorem dX6_integrate_9 : decode cX6_integrate 9 = .ok (.iload_n 2, 1) := by decide +kernel
theorem dX6_integrate_10 : decode cX6_integrate 10 = .ok (.invokevirtual 98, 3) := by decide +kernel
theorem dX6_integrate_13 : decode cX6_integrate 13 = .ok (.astore 4, 2) := by decide +kernel
theorem dX6_integrate_15 : decode cX6_integrate 15 = .ok (.iload_n 3, 1) := by decide +kernel
theorem dX6_integrate_16 : decode cX6_integrate 16 = .ok (.invokestatic 110, 3) := by decide +kernel
theorem dX6_integrate_19 : decode cX6_integrate 19 = .ok (.aload_n 0, 1) := by decide +kernel
theorem dX6_integrate_20 : decode cX6_integrate 20 = .ok (.iload_n 1, 1) := by decide +kernel
theorem dX6_integrate_21 : decode cX6_integrate 21 = .ok (.aload_n 0, 1) := by decide +kernel
theorem dX6_integrate_22 : decode cX6_integrate 22 = .ok (.getfield 26, 3) := by decide +kernel
theorem dX6_integrate_25 : decode cX6_integrate 25 = .ok (.aload_n 0, 1) := by decide +kernel
theorem dX6_integrate_26 : decode cX6_integrate 26 = .ok (.getfield 40, 3) := by decide +kernel
theorem dX6_integrate_29 : decode cX6_integrate 29 = .ok (.aload 4, 2) := by decide +kernel
theorem dX6_integrate_31 : decode cX6_integrate 31 = .ok (.iload_n 3, 1) := by decide +kernel
theorem dX6_integrate_32 : decode cX6_integrate 32 = .ok (.invokevirtual 175, 3) := by decide +kernel
theorem dX6_integrate_35 : decode cX6_integrate 35 = .ok (.invokevirtual 165, 3) := by decide +kernel
theorem dX6_integrate_38 : decode cX6_integrate 38 = .ok (.ireturn, 1) := by decide +kernel
theorem dX6_step_0 : decode cX6_step 0 = .ok (.aload_n 0, 1) := by decide +kernel
theorem dX6_step_1 : decode cX6_step 1 = .ok (.iconst 0, 1) := by decide +kernel
theorem dX6_step_2 : decode cX6_step 2 = .ok (.invokevirtual 98, 3) := by decide +kernel
theorem dX6_step_5 : decode cX6_step 5 = .ok (.astore_n 3, 1) := by decide +kernel
theorem dX6_step_6 : decode cX6_step 6 = .ok (.aload_n 0, 1) := by decide +kernel
theorem dX6_step_7 : decode cX6_step 7 = .ok (.iconst 1, 1) := by decide +kernel
theorem dX6_step_8 : decode cX6_step 8 = .ok (.invokevirtual 98, 3) := by decide +kernel
theorem dX6_step_11 : decode cX6_step 11 = .ok (.astore 4, 2) := by decide +kernel
theorem dX6_step_13 : decode cX6_step 13 = .ok (.aload_n 0, 1) := by decide +kernel
theorem dX6_step_14 : decode cX6_step 14 = .ok (.iconst 2, 1) := by decide +kernel
theorem dX6_step_15 : decode cX6_step 15 = .ok (.invokevirtual 98, 3) := by decide +kernel
theorem dX6_step_18 : decode cX6_step 18 = .ok (.astore 5, 2) := by decide +kernel
theorem dX6_step_20 : decode cX6_step 20 = .ok (.aload_n 0, 1) := by decide +kernel
theorem dX6_step_21 : decode cX6_step 21 = .ok (.iconst 3, 1) := by decide +kernel
theorem dX6_step_22 : decode cX6_step 22 = .ok (.invokevirtual 98, 3) := by decide +kernel
theorem dX6_step_25 : decode cX6_step 25 = .ok (.astore 6, 2) := by decide +kernel
theorem dX6_step_27 : decode cX6_step 27 = .ok (.iload_n 1, 1) := by decide +kernel
theorem dX6_step_28 : decode cX6_step 28 = .ok (.i2l, 1) := by decide +kernel
theorem dX6_step_29 : decode cX6_step 29 = .ok (.ldc2_w 127, 3) := by decide +kernel
theorem dX6_step_32 : decode cX6_step 32 = .ok (.ldc2_w 129, 3) := by decide +kernel
theorem dX6_step_35 : decode cX6_step 35 = .ok (.invokestatic 131, 3) := by decide +kernel
theorem dX6_step_38 : decode cX6_step 38 = .ok (.iload_n 2, 1) := by decide +kernel
theorem dX6_step_39 : decode cX6_step 39 = .ok (.i2l, 1) := by decide +kernel
theorem dX6_step_40 : decode cX6_step 40 = .ok (.lconst 1, 1) := by decide +kernel
theorem dX6_step_41 : decode cX6_step 41 = .ok (.ldc2_w 179, 3) := by decide +kernel
theorem dX6_step_44 : decode cX6_step 44 = .ok (.invokestatic 131, 3) := by decide +kernel
theorem dX6_step_47 : decode cX6_step 47 = .ok (.aload_n 0, 1) := by decide +kernel
theorem dX6_step_48 : decode cX6_step 48 = .ok (.getfield 19, 3) := by decide +kernel
theorem dX6_step_51 : decode cX6_step 51 = .ok (.aload_n 0, 1) := by decide +kernel
theorem dX6_step_52 : decode cX6_step 52 = .ok (.getfield 10, 3) := by decide +kernel
theorem dX6_step_55 : decode cX6_step 55 = .ok (.invokevirtual 78, 3) := by decide +kernel
theorem dX6_step_58 : decode cX6_step 58 = .ok (.iconst 0, 1) := by decide +kernel
theorem dX6_step_59 : decode cX6_step 59 = .ok (.istore 7, 2) := by decide +kernel
theorem dX6_step_61 : decode cX6_step 61 = .ok (.iload 7, 2) := by decide +kernel
theorem dX6_step_63 : decode cX6_step 63 = .ok (.iload_n 2, 1) := by decide +kernel
theorem dX6_step_64 : decode cX6_step 64 = .ok (.if_icmp .ge 28, 3) := by decide +kernel
theorem dX6_step_67 : decode cX6_step 67 = .ok (.aload_n 0, 1) := by decide +kernel
theorem dX6_step_68 : decode cX6_step 68 = .ok (.getfield 26, 3) := by decide +kernel
theorem dX6_step_71 : decode cX6_step 71 = .ok (.aload_n 3, 1) := by decide +kernel
theorem dX6_step_72 : decode cX6_step 72 = .ok (.aload 4, 2) := by decide +kernel
theorem dX6_step_74 : decode cX6_step 74 = .ok (.aload 5, 2) := by decide +kernel
theorem dX6_step_76 : decode cX6_step 76 = .ok (.aload 6, 2) := by decide +kernel
theorem dX6_step_78 : decode cX6_step 78 = .ok (.iload_n 1, 1) := by decide +kernel
theorem dX6_step_79 : decode cX6_step 79 = .ok (.i2l, 1) := by decide +kernel
theorem dX6_step_80 : decode cX6_step 80 = .ok (.invokevirtual 181, 3) := by decide +kernel
theorem dX6_step_83 : decode cX6_step 83 = .ok (.ifCond .eq 9, 3) := by decide +kernel
theorem dX6_step_86 : decode cX6_step 86 = .ok (.iinc 7 1, 3) := by decide +kernel
theorem dX6_step_89 : decode cX6_step 89 = .ok (.goto (-28), 3) := by decide +kernel
theorem dX6_step_92 : decode cX6_step 92 = .ok (.iload 7, 2) := by decide +kernel
theorem dX6_step_94 : decode cX6_step 94 = .ok (.ireturn, 1) := by decide +kernel
theorem dX6_sweep_0 : decode cX6_sweep 0 = .ok (.iload_n 1, 1) := by decide +kernel
theorem dX6_sweep_1 : decode cX6_sweep 1 = .ok (.invokestatic 95, 3) := by decide +kernel
theorem dX6_sweep_4 : decode cX6_sweep 4 = .ok (.aload_n 0, 1) := by decide +kernel
theorem dX6_sweep_5 : decode cX6_sweep 5 = .ok (.getfield 40, 3) := by decide +kernel
theorem dX6_sweep_8 : decode cX6_sweep 8 = .ok (.aload_n 0, 1) := by decide +kernel
theorem dX6_sweep_9 : decode cX6_sweep 9 = .ok (.iload_n 1, 1) := by decide +kernel
theorem dX6_sweep_10 : decode cX6_sweep 10 = .ok (.invokevirtual 98, 3) := by decide +kernel
theorem dX6_sweep_13 : decode cX6_sweep 13 = .ok (.invokevirtual 185, 3) := by decide +kernel
theorem dX6_sweep_16 : decode cX6_sweep 16 = .ok (.iload_n 2, 1) := by decide +kernel
theorem dX6_sweep_17 : decode cX6_sweep 17 = .ok (.i2l, 1) := by decide +kernel
theorem dX6_sweep_18 : decode cX6_sweep 18 = .ok (.lconst 0, 1) := by decide +kernel
theorem dX6_sweep_19 : decode cX6_sweep 19 = .ok (.ldc2_w 188, 3) := by decide +kernel
theorem dX6_sweep_22 : decode cX6_sweep 22 = .ok (.invokestatic 131, 3) := by decide +kernel
theorem dX6_sweep_25 : decode cX6_sweep 25 = .ok (.aload_n 0, 1) := by decide +kernel
theorem dX6_sweep_26 : decode cX6_sweep 26 = .ok (.getfield 40, 3) := by decide +kernel
theorem dX6_sweep_29 : decode cX6_sweep 29 = .ok (.iload_n 2, 1) := by decide +kernel
theorem dX6_sweep_30 : decode cX6_sweep 30 = .ok (.i2l, 1) := by decide +kernel
theorem dX6_sweep_31 : decode cX6_sweep 31 = .ok (.invokevirtual 190, 3) := by decide +kernel
theorem dX6_sweep_34 : decode cX6_sweep 34 = .ok (.istore_n 3, 1) := by decide +kernel
theorem dX6_sweep_35 : decode cX6_sweep 35 = .ok (.aload_n 0, 1) := by decide +kernel
theorem dX6_sweep_36 : decode cX6_sweep 36 = .ok (.iload_n 1, 1) := by decide +kernel
theorem dX6_sweep_37 : decode cX6_sweep 37 = .ok (.aload_n 0, 1) := by decide +kernel
theorem dX6_sweep_38 : decode cX6_sweep 38 = .ok (.getfield 40, 3) := by decide +kernel
theorem dX6_sweep_41 : decode cX6_sweep 41 = .ok (.invokevirtual 194, 3) := by decide +kernel
theorem dX6_sweep_44 : decode cX6_sweep 44 = .ok (.invokevirtual 165, 3) := by decide +kernel
theorem dX6_sweep_47 : decode cX6_sweep 47 = .ok (.pop, 1) := by decide +kernel
theorem dX6_sweep_48 : decode cX6_sweep 48 = .ok (.iload_n 3, 1) := by decide +kernel
theorem dX6_sweep_49 : decode cX6_sweep 49 = .ok (.ireturn, 1) := by decide +kernel
theorem dX6_wrap_0 : decode cX6_wrap 0 = .ok (.iload_n 1, 1) := by decide +kernel
theorem dX6_wrap_1 : decode cX6_wrap 1 = .ok (.invokestatic 95, 3) := by decide +kernel
theorem dX6_wrap_4 : decode cX6_wrap 4 = .ok (.aload_n 0, 1) := by decide +kernel
theorem dX6_wrap_5 : decode cX6_wrap 5 = .ok (.iload_n 1, 1) := by decide +kernel
theorem dX6_wrap_6 : decode cX6_wrap 6 = .ok (.invokevirtual 98, 3) := by decide +kernel
theorem dX6_wrap_9 : decode cX6_wrap 9 = .ok (.astore_n 3, 1) := by decide +kernel
theorem dX6_wrap_10 : decode cX6_wrap 10 = .ok (.iload_n 2, 1) := by decide +kernel
theorem dX6_wrap_11 : decode cX6_wrap 11 = .ok (.invokestatic 110, 3) := by decide +kernel
theorem dX6_wrap_14 : decode cX6_wrap 14 = .ok (.aload_n 3, 1) := by decide +kernel
theorem dX6_wrap_15 : decode cX6_wrap 15 = .ok (.invokevirtual 124, 3) := by decide +kernel
theorem dX6_wrap_18 : decode cX6_wrap 18 = .ok (.lstore 4, 2) := by decide +kernel
theorem dX6_wrap_20 : decode cX6_wrap 20 = .ok (.aload_n 3, 1) := by decide +kernel
theorem dX6_wrap_21 : decode cX6_wrap 21 = .ok (.invokevirtual 120, 3) := by decide +kernel
theorem dX6_wrap_24 : decode cX6_wrap 24 = .ok (.lload 4, 2) := by decide +kernel
theorem dX6_wrap_26 : decode cX6_wrap 26 = .ok (.ladd, 1) := by decide +kernel
theorem dX6_wrap_27 : decode cX6_wrap 27 = .ok (.ldc2_w 197, 3) := by decide +kernel
theorem dX6_wrap_30 : decode cX6_wrap 30 = .ok (.invokestatic 141, 3) := by decide +kernel
theorem dX6_wrap_33 : decode cX6_wrap 33 = .ok (.lstore 6, 2) := by decide +kernel
theorem dX6_wrap_35 : decode cX6_wrap 35 = .ok (.aload_n 0, 1) := by decide +kernel
theorem dX6_wrap_36 : decode cX6_wrap 36 = .ok (.getfield 40, 3) := by decide +kernel
theorem dX6_wrap_39 : decode cX6_wrap 39 = .ok (.lload 6, 2) := by decide +kernel
theorem dX6_wrap_41 : decode cX6_wrap 41 = .ok (.invokevirtual 199, 3) := by decide +kernel
theorem dX6_wrap_44 : decode cX6_wrap 44 = .ok (.aload_n 0, 1) := by decide +kernel
theorem dX6_wrap_45 : decode cX6_wrap 45 = .ok (.getfield 40, 3) := by decide +kernel
theorem dX6_wrap_48 : decode cX6_wrap 48 = .ok (.iload_n 2, 1) := by decide +kernel
theorem dX6_wrap_49 : decode cX6_wrap 49 = .ok (.ifCond .ne 7, 3) := by decide +kernel
theorem dX6_wrap_52 : decode cX6_wrap 52 = .ok (.iconst 4, 1) := by decide +kernel
theorem dX6_wrap_53 : decode cX6_wrap 53 = .ok (.goto 4, 3) := by decide +kernel
theorem dX6_wrap_56 : decode cX6_wrap 56 = .ok (.iconst 1, 1) := by decide +kernel
theorem dX6_wrap_57 : decode cX6_wrap 57 = .ok (.lload 4, 2) := by decide +kernel
theorem dX6_wrap_59 : decode cX6_wrap 59 = .ok (.lload 6, 2) := by decide +kernel
theorem dX6_wrap_61 : decode cX6_wrap 61 = .ok (.lsub, 1) := by decide +kernel
theorem dX6_wrap_62 : decode cX6_wrap 62 = .ok (.invokevirtual 203, 3) := by decide +kernel
theorem dX6_wrap_65 : decode cX6_wrap 65 = .ok (.aload_n 0, 1) := by decide +kernel
theorem dX6_wrap_66 : decode cX6_wrap 66 = .ok (.iload_n 1, 1) := by decide +kernel
theorem dX6_wrap_67 : decode cX6_wrap 67 = .ok (.aload_n 0, 1) := by decide +kernel
theorem dX6_wrap_68 : decode cX6_wrap 68 = .ok (.getfield 40, 3) := by decide +kernel
theorem dX6_wrap_71 : decode cX6_wrap 71 = .ok (.invokevirtual 194, 3) := by decide +kernel
theorem dX6_wrap_74 : decode cX6_wrap 74 = .ok (.invokevirtual 165, 3) := by decide +kernel
theorem dX6_wrap_77 : decode cX6_wrap 77 = .ok (.pop, 1) := by decide +kernel
theorem dX6_wrap_78 : decode cX6_wrap 78 = .ok (.lload 4, 2) := by decide +kernel
end
section
theorem dX6_wrap_80 : decode cX6_wrap 80 = .ok (.lload 6, 2) := by decide +kernel
theorem dX6_wrap_82 : decode cX6_wrap 82 = .ok (.lsub, 1) := by decide +kernel
theorem dX6_wrap_83 : decode cX6_wrap 83 = .ok (.l2i, 1) := by decide +kernel
theorem dX6_wrap_84 : decode cX6_wrap 84 = .ok (.ireturn, 1) := by decide +kernel
theorem dX6_setCoefficient_0 : decode cX6_setCoefficient 0 = .ok (.iload_n 1, 1) := by decide +kernel
theorem dX6_setCoefficient_1 : decode cX6_setCoefficient 1 = .ok (.invokestatic 95, 3) := by decide +kernel
theorem dX6_setCoefficient_4 : decode cX6_setCoefficient 4 = .ok (.aload_n 0, 1) := by decide +kernel
theorem dX6_setCoefficient_5 : decode cX6_setCoefficient 5 = .ok (.iload_n 1, 1) := by decide +kernel
theorem dX6_setCoefficient_6 : decode cX6_setCoefficient 6 = .ok (.invokevirtual 98, 3) := by decide +kernel
theorem dX6_setCoefficient_9 : decode cX6_setCoefficient 9 = .ok (.astore 5, 2) := by decide +kernel
theorem dX6_setCoefficient_11 : decode cX6_setCoefficient 11 = .ok (.iload_n 2, 1) := by decide +kernel
theorem dX6_setCoefficient_12 : decode cX6_setCoefficient 12 = .ok (.iload_n 3, 1) := by decide +kernel
theorem dX6_setCoefficient_13 : decode cX6_setCoefficient 13 = .ok (.invokestatic 102, 3) := by decide +kernel
theorem dX6_setCoefficient_16 : decode cX6_setCoefficient 16 = .ok (.istore 6, 2) := by decide +kernel
theorem dX6_setCoefficient_18 : decode cX6_setCoefficient 18 = .ok (.iload 4, 2) := by decide +kernel
theorem dX6_setCoefficient_20 : decode cX6_setCoefficient 20 = .ok (.i2l, 1) := by decide +kernel
theorem dX6_setCoefficient_21 : decode cX6_setCoefficient 21 = .ok (.ldc2_w 207, 3) := by decide +kernel
theorem dX6_setCoefficient_24 : decode cX6_setCoefficient 24 = .ok (.ldc2_w 188, 3) := by decide +kernel
theorem dX6_setCoefficient_27 : decode cX6_setCoefficient 27 = .ok (.invokestatic 131, 3) := by decide +kernel
theorem dX6_setCoefficient_30 : decode cX6_setCoefficient 30 = .ok (.aload_n 0, 1) := by decide +kernel
theorem dX6_setCoefficient_31 : decode cX6_setCoefficient 31 = .ok (.getfield 19, 3) := by decide +kernel
theorem dX6_setCoefficient_34 : decode cX6_setCoefficient 34 = .ok (.aload_n 0, 1) := by decide +kernel
theorem dX6_setCoefficient_35 : decode cX6_setCoefficient 35 = .ok (.getfield 10, 3) := by decide +kernel
theorem dX6_setCoefficient_38 : decode cX6_setCoefficient 38 = .ok (.invokevirtual 78, 3) := by decide +kernel
theorem dX6_setCoefficient_41 : decode cX6_setCoefficient 41 = .ok (.aload 5, 2) := by decide +kernel
theorem dX6_setCoefficient_43 : decode cX6_setCoefficient 43 = .ok (.iload 6, 2) := by decide +kernel
theorem dX6_setCoefficient_45 : decode cX6_setCoefficient 45 = .ok (.invokevirtual 106, 3) := by decide +kernel
theorem dX6_setCoefficient_48 : decode cX6_setCoefficient 48 = .ok (.l2i, 1) := by decide +kernel
theorem dX6_setCoefficient_49 : decode cX6_setCoefficient 49 = .ok (.istore 7, 2) := by decide +kernel
theorem dX6_setCoefficient_51 : decode cX6_setCoefficient 51 = .ok (.aload 5, 2) := by decide +kernel
theorem dX6_setCoefficient_53 : decode cX6_setCoefficient 53 = .ok (.iload 6, 2) := by decide +kernel
theorem dX6_setCoefficient_55 : decode cX6_setCoefficient 55 = .ok (.iload 4, 2) := by decide +kernel
theorem dX6_setCoefficient_57 : decode cX6_setCoefficient 57 = .ok (.i2l, 1) := by decide +kernel
theorem dX6_setCoefficient_58 : decode cX6_setCoefficient 58 = .ok (.invokevirtual 203, 3) := by decide +kernel
theorem dX6_setCoefficient_61 : decode cX6_setCoefficient 61 = .ok (.iload 7, 2) := by decide +kernel
theorem dX6_setCoefficient_63 : decode cX6_setCoefficient 63 = .ok (.ireturn, 1) := by decide +kernel
theorem dX6_setRemainder_0 : decode cX6_setRemainder 0 = .ok (.iload_n 1, 1) := by decide +kernel
theorem dX6_setRemainder_1 : decode cX6_setRemainder 1 = .ok (.invokestatic 95, 3) := by decide +kernel
theorem dX6_setRemainder_4 : decode cX6_setRemainder 4 = .ok (.aload_n 0, 1) := by decide +kernel
theorem dX6_setRemainder_5 : decode cX6_setRemainder 5 = .ok (.iload_n 1, 1) := by decide +kernel
theorem dX6_setRemainder_6 : decode cX6_setRemainder 6 = .ok (.invokevirtual 98, 3) := by decide +kernel
theorem dX6_setRemainder_9 : decode cX6_setRemainder 9 = .ok (.astore 4, 2) := by decide +kernel
theorem dX6_setRemainder_11 : decode cX6_setRemainder 11 = .ok (.iload_n 2, 1) := by decide +kernel
theorem dX6_setRemainder_12 : decode cX6_setRemainder 12 = .ok (.i2l, 1) := by decide +kernel
theorem dX6_setRemainder_13 : decode cX6_setRemainder 13 = .ok (.ldc2_w 207, 3) := by decide +kernel
theorem dX6_setRemainder_16 : decode cX6_setRemainder 16 = .ok (.ldc2_w 188, 3) := by decide +kernel
theorem dX6_setRemainder_19 : decode cX6_setRemainder 19 = .ok (.invokestatic 131, 3) := by decide +kernel
theorem dX6_setRemainder_22 : decode cX6_setRemainder 22 = .ok (.iload_n 3, 1) := by decide +kernel
theorem dX6_setRemainder_23 : decode cX6_setRemainder 23 = .ok (.i2l, 1) := by decide +kernel
theorem dX6_setRemainder_24 : decode cX6_setRemainder 24 = .ok (.iload_n 2, 1) := by decide +kernel
theorem dX6_setRemainder_25 : decode cX6_setRemainder 25 = .ok (.i2l, 1) := by decide +kernel
theorem dX6_setRemainder_26 : decode cX6_setRemainder 26 = .ok (.ldc2_w 188, 3) := by decide +kernel
theorem dX6_setRemainder_29 : decode cX6_setRemainder 29 = .ok (.invokestatic 131, 3) := by decide +kernel
theorem dX6_setRemainder_32 : decode cX6_setRemainder 32 = .ok (.aload_n 0, 1) := by decide +kernel
theorem dX6_setRemainder_33 : decode cX6_setRemainder 33 = .ok (.getfield 19, 3) := by decide +kernel
theorem dX6_setRemainder_36 : decode cX6_setRemainder 36 = .ok (.aload_n 0, 1) := by decide +kernel
theorem dX6_setRemainder_37 : decode cX6_setRemainder 37 = .ok (.getfield 10, 3) := by decide +kernel
theorem dX6_setRemainder_40 : decode cX6_setRemainder 40 = .ok (.invokevirtual 78, 3) := by decide +kernel
theorem dX6_setRemainder_43 : decode cX6_setRemainder 43 = .ok (.aload 4, 2) := by decide +kernel
theorem dX6_setRemainder_45 : decode cX6_setRemainder 45 = .ok (.invokevirtual 209, 3) := by decide +kernel
theorem dX6_setRemainder_48 : decode cX6_setRemainder 48 = .ok (.istore 5, 2) := by decide +kernel
theorem dX6_setRemainder_50 : decode cX6_setRemainder 50 = .ok (.aload 4, 2) := by decide +kernel
theorem dX6_setRemainder_52 : decode cX6_setRemainder 52 = .ok (.iload_n 2, 1) := by decide +kernel
theorem dX6_setRemainder_53 : decode cX6_setRemainder 53 = .ok (.i2l, 1) := by decide +kernel
theorem dX6_setRemainder_54 : decode cX6_setRemainder 54 = .ok (.putfield 113, 3) := by decide +kernel
theorem dX6_setRemainder_57 : decode cX6_setRemainder 57 = .ok (.aload 4, 2) := by decide +kernel
theorem dX6_setRemainder_59 : decode cX6_setRemainder 59 = .ok (.iload_n 3, 1) := by decide +kernel
theorem dX6_setRemainder_60 : decode cX6_setRemainder 60 = .ok (.i2l, 1) := by decide +kernel
theorem dX6_setRemainder_61 : decode cX6_setRemainder 61 = .ok (.putfield 117, 3) := by decide +kernel
theorem dX6_setRemainder_64 : decode cX6_setRemainder 64 = .ok (.iload 5, 2) := by decide +kernel
theorem dX6_setRemainder_66 : decode cX6_setRemainder 66 = .ok (.ireturn, 1) := by decide +kernel
theorem dX6_clear_0 : decode cX6_clear 0 = .ok (.iload_n 1, 1) := by decide +kernel
theorem dX6_clear_1 : decode cX6_clear 1 = .ok (.invokestatic 95, 3) := by decide +kernel
theorem dX6_clear_4 : decode cX6_clear 4 = .ok (.aload_n 0, 1) := by decide +kernel
theorem dX6_clear_5 : decode cX6_clear 5 = .ok (.getfield 19, 3) := by decide +kernel
theorem dX6_clear_8 : decode cX6_clear 8 = .ok (.aload_n 0, 1) := by decide +kernel
theorem dX6_clear_9 : decode cX6_clear 9 = .ok (.getfield 10, 3) := by decide +kernel
theorem dX6_clear_12 : decode cX6_clear 12 = .ok (.invokevirtual 78, 3) := by decide +kernel
theorem dX6_clear_15 : decode cX6_clear 15 = .ok (.aload_n 0, 1) := by decide +kernel
theorem dX6_clear_16 : decode cX6_clear 16 = .ok (.getfield 10, 3) := by decide +kernel
theorem dX6_clear_19 : decode cX6_clear 19 = .ok (.iload_n 1, 1) := by decide +kernel
theorem dX6_clear_20 : decode cX6_clear 20 = .ok (.invokevirtual 212, 3) := by decide +kernel
theorem dX6_clear_23 : decode cX6_clear 23 = .ok (.istore_n 2, 1) := by decide +kernel
theorem dX6_clear_24 : decode cX6_clear 24 = .ok (.aload_n 0, 1) := by decide +kernel
theorem dX6_clear_25 : decode cX6_clear 25 = .ok (.getfield 10, 3) := by decide +kernel
theorem dX6_clear_28 : decode cX6_clear 28 = .ok (.iload_n 1, 1) := by decide +kernel
theorem dX6_clear_29 : decode cX6_clear 29 = .ok (.invokevirtual 215, 3) := by decide +kernel
theorem dX6_clear_32 : decode cX6_clear 32 = .ok (.iload_n 2, 1) := by decide +kernel
theorem dX6_clear_33 : decode cX6_clear 33 = .ok (.ireturn, 1) := by decide +kernel
theorem dX6_undo_0 : decode cX6_undo 0 = .ok (.aload_n 0, 1) := by decide +kernel
theorem dX6_undo_1 : decode cX6_undo 1 = .ok (.getfield 19, 3) := by decide +kernel
theorem dX6_undo_4 : decode cX6_undo 4 = .ok (.aload_n 0, 1) := by decide +kernel
theorem dX6_undo_5 : decode cX6_undo 5 = .ok (.getfield 10, 3) := by decide +kernel
theorem dX6_undo_8 : decode cX6_undo 8 = .ok (.invokevirtual 218, 3) := by decide +kernel
theorem dX6_undo_11 : decode cX6_undo 11 = .ok (.ifCond .eq 13, 3) := by decide +kernel
theorem dX6_undo_14 : decode cX6_undo 14 = .ok (.aload_n 0, 1) := by decide +kernel
theorem dX6_undo_15 : decode cX6_undo 15 = .ok (.getfield 19, 3) := by decide +kernel
theorem dX6_undo_18 : decode cX6_undo 18 = .ok (.getfield 222, 3) := by decide +kernel
theorem dX6_undo_21 : decode cX6_undo 21 = .ok (.goto 4, 3) := by decide +kernel
theorem dX6_undo_24 : decode cX6_undo 24 = .ok (.iconst (-1), 1) := by decide +kernel
theorem dX6_undo_25 : decode cX6_undo 25 = .ok (.ireturn, 1) := by decide +kernel
theorem dX6_checksum_0 : decode cX6_checksum 0 = .ok (.aload_n 0, 1) := by decide +kernel
theorem dX6_checksum_1 : decode cX6_checksum 1 = .ok (.getfield 10, 3) := by decide +kernel
theorem dX6_checksum_4 : decode cX6_checksum 4 = .ok (.getfield 92, 3) := by decide +kernel
theorem dX6_checksum_7 : decode cX6_checksum 7 = .ok (.i2l, 1) := by decide +kernel
theorem dX6_checksum_8 : decode cX6_checksum 8 = .ok (.lstore_n 1, 1) := by decide +kernel
theorem dX6_checksum_9 : decode cX6_checksum 9 = .ok (.iconst 0, 1) := by decide +kernel
theorem dX6_checksum_10 : decode cX6_checksum 10 = .ok (.istore_n 3, 1) := by decide +kernel
theorem dX6_checksum_11 : decode cX6_checksum 11 = .ok (.iload_n 3, 1) := by decide +kernel
theorem dX6_checksum_12 : decode cX6_checksum 12 = .ok (.bipush 8, 2) := by decide +kernel
theorem dX6_checksum_14 : decode cX6_checksum 14 = .ok (.if_icmp .ge 34, 3) := by decide +kernel
theorem dX6_checksum_17 : decode cX6_checksum 17 = .ok (.aload_n 0, 1) := by decide +kernel
theorem dX6_checksum_18 : decode cX6_checksum 18 = .ok (.getfield 10, 3) := by decide +kernel
theorem dX6_checksum_21 : decode cX6_checksum 21 = .ok (.iload_n 3, 1) := by decide +kernel
theorem dX6_checksum_22 : decode cX6_checksum 22 = .ok (.invokevirtual 212, 3) := by decide +kernel
theorem dX6_checksum_25 : decode cX6_checksum 25 = .ok (.ifCond .eq 17, 3) := by decide +kernel
theorem dX6_checksum_28 : decode cX6_checksum 28 = .ok (.aload_n 0, 1) := by decide +kernel
theorem dX6_checksum_29 : decode cX6_checksum 29 = .ok (.getfield 10, 3) := by decide +kernel
theorem dX6_checksum_32 : decode cX6_checksum 32 = .ok (.getfield 224, 3) := by decide +kernel
theorem dX6_checksum_35 : decode cX6_checksum 35 = .ok (.iload_n 3, 1) := by decide +kernel
theorem dX6_checksum_36 : decode cX6_checksum 36 = .ok (.aaload, 1) := by decide +kernel
theorem dX6_checksum_37 : decode cX6_checksum 37 = .ok (.lload_n 1, 1) := by decide +kernel
theorem dX6_checksum_38 : decode cX6_checksum 38 = .ok (.invokevirtual 228, 3) := by decide +kernel
theorem dX6_checksum_41 : decode cX6_checksum 41 = .ok (.lstore_n 1, 1) := by decide +kernel
theorem dX6_checksum_42 : decode cX6_checksum 42 = .ok (.iinc 3 1, 3) := by decide +kernel
theorem dX6_checksum_45 : decode cX6_checksum 45 = .ok (.goto (-34), 3) := by decide +kernel
theorem dX6_checksum_48 : decode cX6_checksum 48 = .ok (.lload_n 1, 1) := by decide +kernel
theorem dX6_checksum_49 : decode cX6_checksum 49 = .ok (.lreturn, 1) := by decide +kernel
theorem dX6_requireIndex_0 : decode cX6_requireIndex 0 = .ok (.iload_n 0, 1) := by decide +kernel
theorem dX6_requireIndex_1 : decode cX6_requireIndex 1 = .ok (.ifCond .lt 9, 3) := by decide +kernel
theorem dX6_requireIndex_4 : decode cX6_requireIndex 4 = .ok (.iload_n 0, 1) := by decide +kernel
theorem dX6_requireIndex_5 : decode cX6_requireIndex 5 = .ok (.bipush 8, 2) := by decide +kernel
theorem dX6_requireIndex_7 : decode cX6_requireIndex 7 = .ok (.if_icmp .lt 13, 3) := by decide +kernel
theorem dX6_requireIndex_10 : decode cX6_requireIndex 10 = .ok (.new 232, 3) := by decide +kernel
theorem dX6_requireIndex_13 : decode cX6_requireIndex 13 = .ok (.dup, 1) := by decide +kernel
theorem dX6_requireIndex_14 : decode cX6_requireIndex 14 = .ok (.ldc 234, 2) := by decide +kernel
theorem dX6_requireIndex_16 : decode cX6_requireIndex 16 = .ok (.invokespecial 236, 3) := by decide +kernel
theorem dX6_requireIndex_19 : decode cX6_requireIndex 19 = .ok (.athrow, 1) := by decide +kernel
theorem dX6_requireIndex_20 : decode cX6_requireIndex 20 = .ok (.return_, 1) := by decide +kernel
theorem dX6_requireDefined_0 : decode cX6_requireDefined 0 = .ok (.aload_n 0, 1) := by decide +kernel
theorem dX6_requireDefined_1 : decode cX6_requireDefined 1 = .ok (.getfield 10, 3) := by decide +kernel
theorem dX6_requireDefined_4 : decode cX6_requireDefined 4 = .ok (.iload_n 1, 1) := by decide +kernel
theorem dX6_requireDefined_5 : decode cX6_requireDefined 5 = .ok (.invokevirtual 212, 3) := by decide +kernel
theorem dX6_requireDefined_8 : decode cX6_requireDefined 8 = .ok (.ifCond .ne 13, 3) := by decide +kernel
theorem dX6_requireDefined_11 : decode cX6_requireDefined 11 = .ok (.new 237, 3) := by decide +kernel
theorem dX6_requireDefined_14 : decode cX6_requireDefined 14 = .ok (.dup, 1) := by decide +kernel
theorem dX6_requireDefined_15 : decode cX6_requireDefined 15 = .ok (.ldc 239, 2) := by decide +kernel
theorem dX6_requireDefined_17 : decode cX6_requireDefined 17 = .ok (.invokespecial 241, 3) := by decide +kernel
theorem dX6_requireDefined_20 : decode cX6_requireDefined 20 = .ok (.athrow, 1) := by decide +kernel
theorem dX6_requireDefined_21 : decode cX6_requireDefined 21 = .ok (.aload_n 0, 1) := by decide +kernel
theorem dX6_requireDefined_22 : decode cX6_requireDefined 22 = .ok (.getfield 10, 3) := by decide +kernel
theorem dX6_requireDefined_25 : decode cX6_requireDefined 25 = .ok (.getfield 224, 3) := by decide +kernel
theorem dX6_requireDefined_28 : decode cX6_requireDefined 28 = .ok (.iload_n 1, 1) := by decide +kernel
theorem dX6_requireDefined_29 : decode cX6_requireDefined 29 = .ok (.aaload, 1) := by decide +kernel
theorem dX6_requireDefined_30 : decode cX6_requireDefined 30 = .ok (.areturn, 1) := by decide +kernel
theorem dX6_requireSlot_0 : decode cX6_requireSlot 0 = .ok (.iload_n 0, 1) := by decide +kernel
theorem dX6_requireSlot_1 : decode cX6_requireSlot 1 = .ok (.iload_n 1, 1) := by decide +kernel
theorem dX6_requireSlot_2 : decode cX6_requireSlot 2 = .ok (.invokestatic 242, 3) := by decide +kernel
theorem dX6_requireSlot_5 : decode cX6_requireSlot 5 = .ok (.istore_n 2, 1) := by decide +kernel
theorem dX6_requireSlot_6 : decode cX6_requireSlot 6 = .ok (.iload_n 2, 1) := by decide +kernel
theorem dX6_requireSlot_7 : decode cX6_requireSlot 7 = .ok (.ifCond .ge 13, 3) := by decide +kernel
theorem dX6_requireSlot_10 : decode cX6_requireSlot 10 = .ok (.new 61, 3) := by decide +kernel
theorem dX6_requireSlot_13 : decode cX6_requireSlot 13 = .ok (.dup, 1) := by decide +kernel
theorem dX6_requireSlot_14 : decode cX6_requireSlot 14 = .ok (.ldc 245, 2) := by decide +kernel
theorem dX6_requireSlot_16 : decode cX6_requireSlot 16 = .ok (.invokespecial 65, 3) := by decide +kernel
theorem dX6_requireSlot_19 : decode cX6_requireSlot 19 = .ok (.athrow, 1) := by decide +kernel
theorem dX6_requireSlot_20 : decode cX6_requireSlot 20 = .ok (.iload_n 2, 1) := by decide +kernel
theorem dX6_requireSlot_21 : decode cX6_requireSlot 21 = .ok (.ireturn, 1) := by decide +kernel
theorem dX6_requireZeroOrOne_0 : decode cX6_requireZeroOrOne 0 = .ok (.iload_n 0, 1) := by decide +kernel
theorem dX6_requireZeroOrOne_1 : decode cX6_requireZeroOrOne 1 = .ok (.ifCond .eq 18, 3) := by decide +kernel
theorem dX6_requireZeroOrOne_4 : decode cX6_requireZeroOrOne 4 = .ok (.iload_n 0, 1) := by decide +kernel
theorem dX6_requireZeroOrOne_5 : decode cX6_requireZeroOrOne 5 = .ok (.iconst 1, 1) := by decide +kernel
theorem dX6_requireZeroOrOne_6 : decode cX6_requireZeroOrOne 6 = .ok (.if_icmp .eq 13, 3) := by decide +kernel
theorem dX6_requireZeroOrOne_9 : decode cX6_requireZeroOrOne 9 = .ok (.new 61, 3) := by decide +kernel
theorem dX6_requireZeroOrOne_12 : decode cX6_requireZeroOrOne 12 = .ok (.dup, 1) := by decide +kernel
theorem dX6_requireZeroOrOne_13 : decode cX6_requireZeroOrOne 13 = .ok (.ldc 247, 2) := by decide +kernel
theorem dX6_requireZeroOrOne_15 : decode cX6_requireZeroOrOne 15 = .ok (.invokespecial 65, 3) := by decide +kernel
theorem dX6_requireZeroOrOne_18 : decode cX6_requireZeroOrOne 18 = .ok (.athrow, 1) := by decide +kernel
theorem dX6_requireZeroOrOne_19 : decode cX6_requireZeroOrOne 19 = .ok (.return_, 1) := by decide +kernel
theorem dX6_requireBetween_0 : decode cX6_requireBetween 0 = .ok (.lload_n 0, 1) := by decide +kernel
theorem dX6_requireBetween_1 : decode cX6_requireBetween 1 = .ok (.lload_n 2, 1) := by decide +kernel
theorem dX6_requireBetween_2 : decode cX6_requireBetween 2 = .ok (.lcmp, 1) := by decide +kernel
theorem dX6_requireBetween_3 : decode cX6_requireBetween 3 = .ok (.ifCond .lt 10, 3) := by decide +kernel
theorem dX6_requireBetween_6 : decode cX6_requireBetween 6 = .ok (.lload_n 0, 1) := by decide +kernel
theorem dX6_requireBetween_7 : decode cX6_requireBetween 7 = .ok (.lload 4, 2) := by decide +kernel
theorem dX6_requireBetween_9 : decode cX6_requireBetween 9 = .ok (.lcmp, 1) := by decide +kernel
theorem dX6_requireBetween_10 : decode cX6_requireBetween 10 = .ok (.ifCond .le 13, 3) := by decide +kernel
theorem dX6_requireBetween_13 : decode cX6_requireBetween 13 = .ok (.new 61, 3) := by decide +kernel
theorem dX6_requireBetween_16 : decode cX6_requireBetween 16 = .ok (.dup, 1) := by decide +kernel
theorem dX6_requireBetween_17 : decode cX6_requireBetween 17 = .ok (.ldc 249, 2) := by decide +kernel
theorem dX6_requireBetween_19 : decode cX6_requireBetween 19 = .ok (.invokespecial 65, 3) := by decide +kernel
theorem dX6_requireBetween_22 : decode cX6_requireBetween 22 = .ok (.athrow, 1) := by decide +kernel
theorem dX6_requireBetween_23 : decode cX6_requireBetween 23 = .ok (.return_, 1) := by decide +kernel
theorem dX6_settle_0 : decode cX6_settle 0 = .ok (.iload_n 2, 1) := by decide +kernel
theorem dX6_settle_1 : decode cX6_settle 1 = .ok (.ifCond .ne 13, 3) := by decide +kernel
theorem dX6_settle_4 : decode cX6_settle 4 = .ok (.new 251, 3) := by decide +kernel
theorem dX6_settle_7 : decode cX6_settle 7 = .ok (.dup, 1) := by decide +kernel
theorem dX6_settle_8 : decode cX6_settle 8 = .ok (.ldc 253, 2) := by decide +kernel
theorem dX6_settle_10 : decode cX6_settle 10 = .ok (.invokespecial 255, 3) := by decide +kernel
theorem dX6_settle_13 : decode cX6_settle 13 = .ok (.athrow, 1) := by decide +kernel
theorem dX6_settle_14 : decode cX6_settle 14 = .ok (.aload_n 0, 1) := by decide +kernel
theorem dX6_settle_15 : decode cX6_settle 15 = .ok (.getfield 19, 3) := by decide +kernel
theorem dX6_settle_18 : decode cX6_settle 18 = .ok (.aload_n 0, 1) := by decide +kernel
theorem dX6_settle_19 : decode cX6_settle 19 = .ok (.getfield 10, 3) := by decide +kernel
theorem dX6_settle_22 : decode cX6_settle 22 = .ok (.invokevirtual 78, 3) := by decide +kernel
theorem dX6_settle_25 : decode cX6_settle 25 = .ok (.aload_n 0, 1) := by decide +kernel
theorem dX6_settle_26 : decode cX6_settle 26 = .ok (.getfield 10, 3) := by decide +kernel
theorem dX6_settle_29 : decode cX6_settle 29 = .ok (.iload_n 1, 1) := by decide +kernel
theorem dX6_settle_30 : decode cX6_settle 30 = .ok (.aload_n 0, 1) := by decide +kernel
theorem dX6_settle_31 : decode cX6_settle 31 = .ok (.getfield 40, 3) := by decide +kernel
theorem dX6_settle_34 : decode cX6_settle 34 = .ok (.invokevirtual 256, 3) := by decide +kernel
theorem dX6_settle_37 : decode cX6_settle 37 = .ok (.aload_n 0, 1) := by decide +kernel
theorem dX6_settle_38 : decode cX6_settle 38 = .ok (.getfield 40, 3) := by decide +kernel
theorem dX6_settle_41 : decode cX6_settle 41 = .ok (.invokevirtual 209, 3) := by decide +kernel
theorem dX6_settle_44 : decode cX6_settle 44 = .ok (.ireturn, 1) := by decide +kernel
theorem dX6_slotOf_0 : decode cX6_slotOf 0 = .ok (.iload_n 0, 1) := by decide +kernel
theorem dX6_slotOf_1 : decode cX6_slotOf 1 = .ok (.ifCond .lt 19, 3) := by decide +kernel
theorem dX6_slotOf_4 : decode cX6_slotOf 4 = .ok (.iload_n 1, 1) := by decide +kernel
theorem dX6_slotOf_5 : decode cX6_slotOf 5 = .ok (.ifCond .lt 15, 3) := by decide +kernel
theorem dX6_slotOf_8 : decode cX6_slotOf 8 = .ok (.iload_n 0, 1) := by decide +kernel
theorem dX6_slotOf_9 : decode cX6_slotOf 9 = .ok (.iconst 3, 1) := by decide +kernel
theorem dX6_slotOf_10 : decode cX6_slotOf 10 = .ok (.if_icmp .gt 10, 3) := by decide +kernel
theorem dX6_slotOf_13 : decode cX6_slotOf 13 = .ok (.iload_n 1, 1) := by decide +kernel
theorem dX6_slotOf_14 : decode cX6_slotOf 14 = .ok (.iconst 3, 1) := by decide +kernel
theorem dX6_slotOf_15 : decode cX6_slotOf 15 = .ok (.iload_n 0, 1) := by decide +kernel
theorem dX6_slotOf_16 : decode cX6_slotOf 16 = .ok (.isub, 1) := by decide +kernel
theorem dX6_slotOf_17 : decode cX6_slotOf 17 = .ok (.if_icmp .le 5, 3) := by decide +kernel
theorem dX6_slotOf_20 : decode cX6_slotOf 20 = .ok (.iconst (-1), 1) := by decide +kernel
theorem dX6_slotOf_21 : decode cX6_slotOf 21 = .ok (.ireturn, 1) := by decide +kernel
theorem dX6_slotOf_22 : decode cX6_slotOf 22 = .ok (.getstatic 260, 3) := by decide +kernel
theorem dX6_slotOf_25 : decode cX6_slotOf 25 = .ok (.iload_n 0, 1) := by decide +kernel
theorem dX6_slotOf_26 : decode cX6_slotOf 26 = .ok (.iaload, 1) := by decide +kernel
theorem dX6_slotOf_27 : decode cX6_slotOf 27 = .ok (.iload_n 1, 1) := by decide +kernel
theorem dX6_slotOf_28 : decode cX6_slotOf 28 = .ok (.iadd, 1) := by decide +kernel
theorem dX6_slotOf_29 : decode cX6_slotOf 29 = .ok (.ireturn, 1) := by decide +kernel
theorem dX6_lowestOf_0 : decode cX6_lowestOf 0 = .ok (.iload_n 0, 1) := by decide +kernel
theorem dX6_lowestOf_1 : decode cX6_lowestOf 1 = .ok (.ifCond .ne 9, 3) := by decide +kernel
theorem dX6_lowestOf_4 : decode cX6_lowestOf 4 = .ok (.iload_n 1, 1) := by decide +kernel
theorem dX6_lowestOf_5 : decode cX6_lowestOf 5 = .ok (.ifCond .ne 5, 3) := by decide +kernel
theorem dX6_lowestOf_8 : decode cX6_lowestOf 8 = .ok (.iconst 1, 1) := by decide +kernel
theorem dX6_lowestOf_9 : decode cX6_lowestOf 9 = .ok (.ireturn, 1) := by decide +kernel
theorem dX6_lowestOf_10 : decode cX6_lowestOf 10 = .ok (.iload_n 0, 1) := by decide +kernel
theorem dX6_lowestOf_11 : decode cX6_lowestOf 11 = .ok (.iconst 1, 1) := by decide +kernel
theorem dX6_lowestOf_12 : decode cX6_lowestOf 12 = .ok (.iand, 1) := by decide +kernel
theorem dX6_lowestOf_13 : decode cX6_lowestOf 13 = .ok (.ifCond .ne 13, 3) := by decide +kernel
theorem dX6_lowestOf_16 : decode cX6_lowestOf 16 = .ok (.iload_n 1, 1) := by decide +kernel
theorem dX6_lowestOf_17 : decode cX6_lowestOf 17 = .ok (.iconst 1, 1) := by decide +kernel
theorem dX6_lowestOf_18 : decode cX6_lowestOf 18 = .ok (.iand, 1) := by decide +kernel
theorem dX6_lowestOf_19 : decode cX6_lowestOf 19 = .ok (.ifCond .ne 7, 3) := by decide +kernel
theorem dX6_lowestOf_22 : decode cX6_lowestOf 22 = .ok (.iconst 0, 1) := by decide +kernel
theorem dX6_lowestOf_23 : decode cX6_lowestOf 23 = .ok (.goto 4, 3) := by decide +kernel
theorem dX6_lowestOf_26 : decode cX6_lowestOf 26 = .ok (.iconst (-1), 1) := by decide +kernel
theorem dX6_lowestOf_27 : decode cX6_lowestOf 27 = .ok (.ireturn, 1) := by decide +kernel
theorem dX6_rangeLow_0 : decode cX6_rangeLow 0 = .ok (.lload_n 0, 1) := by decide +kernel
theorem dX6_rangeLow_1 : decode cX6_rangeLow 1 = .ok (.iload_n 2, 1) := by decide +kernel
theorem dX6_rangeLow_2 : decode cX6_rangeLow 2 = .ok (.i2l, 1) := by decide +kernel
theorem dX6_rangeLow_3 : decode cX6_rangeLow 3 = .ok (.lmul, 1) := by decide +kernel
theorem dX6_rangeLow_4 : decode cX6_rangeLow 4 = .ok (.lload_n 0, 1) := by decide +kernel
theorem dX6_rangeLow_5 : decode cX6_rangeLow 5 = .ok (.invokestatic 264, 3) := by decide +kernel
theorem dX6_rangeLow_8 : decode cX6_rangeLow 8 = .ok (.lreturn, 1) := by decide +kernel
theorem dX6_rangeHigh_0 : decode cX6_rangeHigh 0 = .ok (.lload_n 0, 1) := by decide +kernel
theorem dX6_rangeHigh_1 : decode cX6_rangeHigh 1 = .ok (.iload_n 2, 1) := by decide +kernel
theorem dX6_rangeHigh_2 : decode cX6_rangeHigh 2 = .ok (.i2l, 1) := by decide +kernel
theorem dX6_rangeHigh_3 : decode cX6_rangeHigh 3 = .ok (.lmul, 1) := by decide +kernel
theorem dX6_rangeHigh_4 : decode cX6_rangeHigh 4 = .ok (.lload_n 0, 1) := by decide +kernel
theorem dX6_rangeHigh_5 : decode cX6_rangeHigh 5 = .ok (.invokestatic 267, 3) := by decide +kernel
theorem dX6_rangeHigh_8 : decode cX6_rangeHigh 8 = .ok (.lreturn, 1) := by decide +kernel
theorem dX7_init_0 : decode cX7_init 0 = .ok (.aload_n 0, 1) := by decide +kernel
theorem dX7_init_1 : decode cX7_init 1 = .ok (.invokespecial 3, 3) := by decide +kernel
theorem dX7_init_4 : decode cX7_init 4 = .ok (.aload_n 0, 1) := by decide +kernel
theorem dX7_init_5 : decode cX7_init 5 = .ok (.sipush 700, 3) := by decide +kernel
theorem dX7_init_8 : decode cX7_init 8 = .ok (.newarray .int, 2) := by decide +kernel
theorem dX7_init_10 : decode cX7_init 10 = .ok (.putfield 9, 3) := by decide +kernel
theorem dX7_init_13 : decode cX7_init 13 = .ok (.aload_n 0, 1) := by decide +kernel
theorem dX7_init_14 : decode cX7_init 14 = .ok (.iconst (-1), 1) := by decide +kernel
theorem dX7_init_15 : decode cX7_init 15 = .ok (.putfield 13, 3) := by decide +kernel
theorem dX7_init_18 : decode cX7_init 18 = .ok (.aload_n 0, 1) := by decide +kernel
theorem dX7_init_19 : decode cX7_init 19 = .ok (.bipush 97, 2) := by decide +kernel
theorem dX7_init_21 : decode cX7_init 21 = .ok (.newarray .int, 2) := by decide +kernel
theorem dX7_init_23 : decode cX7_init 23 = .ok (.putfield 17, 3) := by decide +kernel
theorem dX7_init_26 : decode cX7_init 26 = .ok (.aload_n 0, 1) := by decide +kernel
theorem dX7_init_27 : decode cX7_init 27 = .ok (.bipush 97, 2) := by decide +kernel
theorem dX7_init_29 : decode cX7_init 29 = .ok (.newarray .int, 2) := by decide +kernel
theorem dX7_init_31 : decode cX7_init 31 = .ok (.putfield 20, 3) := by decide +kernel
theorem dX7_init_34 : decode cX7_init 34 = .ok (.aload_n 0, 1) := by decide +kernel
theorem dX7_init_35 : decode cX7_init 35 = .ok (.bipush 8, 2) := by decide +kernel
theorem dX7_init_37 : decode cX7_init 37 = .ok (.bipush 97, 2) := by decide +kernel
theorem dX7_init_39 : decode cX7_init 39 = .ok (.multianewarray 23 2, 4) := by decide +kernel
theorem dX7_init_43 : decode cX7_init 43 = .ok (.putfield 25, 3) := by decide +kernel
theorem dX7_init_46 : decode cX7_init 46 = .ok (.aload_n 0, 1) := by decide +kernel
theorem dX7_init_47 : decode cX7_init 47 = .ok (.bipush 49, 2) := by decide +kernel
theorem dX7_init_49 : decode cX7_init 49 = .ok (.newarray .long, 2) := by decide +kernel
theorem dX7_init_51 : decode cX7_init 51 = .ok (.putfield 28, 3) := by decide +kernel
theorem dX7_init_54 : decode cX7_init 54 = .ok (.aload_n 0, 1) := by decide +kernel
theorem dX7_init_55 : decode cX7_init 55 = .ok (.bipush 12, 2) := by decide +kernel
theorem dX7_init_57 : decode cX7_init 57 = .ok (.newarray .long, 2) := by decide +kernel
theorem dX7_init_59 : decode cX7_init 59 = .ok (.putfield 32, 3) := by decide +kernel
theorem dX7_init_62 : decode cX7_init 62 = .ok (.aload_n 0, 1) := by decide +kernel
theorem dX7_init_63 : decode cX7_init 63 = .ok (.bipush 12, 2) := by decide +kernel
theorem dX7_init_65 : decode cX7_init 65 = .ok (.newarray .long, 2) := by decide +kernel
theorem dX7_init_67 : decode cX7_init 67 = .ok (.putfield 35, 3) := by decide +kernel
theorem dX7_init_70 : decode cX7_init 70 = .ok (.aload_n 0, 1) := by decide +kernel
theorem dX7_init_71 : decode cX7_init 71 = .ok (.bipush 12, 2) := by decide +kernel
theorem dX7_init_73 : decode cX7_init 73 = .ok (.newarray .long, 2) := by decide +kernel
theorem dX7_init_75 : decode cX7_init 75 = .ok (.putfield 38, 3) := by decide +kernel
theorem dX7_init_78 : decode cX7_init 78 = .ok (.aload_n 0, 1) := by decide +kernel
theorem dX7_init_79 : decode cX7_init 79 = .ok (.bipush 12, 2) := by decide +kernel
theorem dX7_init_81 : decode cX7_init 81 = .ok (.newarray .long, 2) := by decide +kernel
theorem dX7_init_83 : decode cX7_init 83 = .ok (.putfield 41, 3) := by decide +kernel
theorem dX7_init_86 : decode cX7_init 86 = .ok (.aload_n 0, 1) := by decide +kernel
theorem dX7_init_87 : decode cX7_init 87 = .ok (.bipush 6, 2) := by decide +kernel
theorem dX7_init_89 : decode cX7_init 89 = .ok (.bipush 12, 2) := by decide +kernel
theorem dX7_init_91 : decode cX7_init 91 = .ok (.multianewarray 44 2, 4) := by decide +kernel
theorem dX7_init_95 : decode cX7_init 95 = .ok (.putfield 46, 3) := by decide +kernel
theorem dX7_init_98 : decode cX7_init 98 = .ok (.aload_n 0, 1) := by decide +kernel
theorem dX7_init_99 : decode cX7_init 99 = .ok (.bipush 6, 2) := by decide +kernel
theorem dX7_init_101 : decode cX7_init 101 = .ok (.bipush 12, 2) := by decide +kernel
theorem dX7_init_103 : decode cX7_init 103 = .ok (.multianewarray 44 2, 4) := by decide +kernel
theorem dX7_init_107 : decode cX7_init 107 = .ok (.putfield 49, 3) := by decide +kernel
theorem dX7_init_110 : decode cX7_init 110 = .ok (.aload_n 0, 1) := by decide +kernel
theorem dX7_init_111 : decode cX7_init 111 = .ok (.bipush 6, 2) := by decide +kernel
theorem dX7_init_113 : decode cX7_init 113 = .ok (.bipush 12, 2) := by decide +kernel
theorem dX7_init_115 : decode cX7_init 115 = .ok (.multianewarray 44 2, 4) := by decide +kernel
theorem dX7_init_119 : decode cX7_init 119 = .ok (.putfield 52, 3) := by decide +kernel
theorem dX7_init_122 : decode cX7_init 122 = .ok (.aload_n 0, 1) := by decide +kernel
theorem dX7_init_123 : decode cX7_init 123 = .ok (.bipush 6, 2) := by decide +kernel
theorem dX7_init_125 : decode cX7_init 125 = .ok (.bipush 12, 2) := by decide +kernel
theorem dX7_init_127 : decode cX7_init 127 = .ok (.multianewarray 44 2, 4) := by decide +kernel
theorem dX7_init_131 : decode cX7_init 131 = .ok (.putfield 55, 3) := by decide +kernel
theorem dX7_init_134 : decode cX7_init 134 = .ok (.aload_n 0, 1) := by decide +kernel
theorem dX7_init_135 : decode cX7_init 135 = .ok (.bipush 12, 2) := by decide +kernel
theorem dX7_init_137 : decode cX7_init 137 = .ok (.newarray .long, 2) := by decide +kernel
theorem dX7_init_139 : decode cX7_init 139 = .ok (.putfield 58, 3) := by decide +kernel
theorem dX7_init_142 : decode cX7_init 142 = .ok (.aload_n 0, 1) := by decide +kernel
theorem dX7_init_143 : decode cX7_init 143 = .ok (.bipush 12, 2) := by decide +kernel
theorem dX7_init_145 : decode cX7_init 145 = .ok (.newarray .long, 2) := by decide +kernel
theorem dX7_init_147 : decode cX7_init 147 = .ok (.putfield 61, 3) := by decide +kernel
theorem dX7_init_150 : decode cX7_init 150 = .ok (.aload_n 0, 1) := by decide +kernel
theorem dX7_init_151 : decode cX7_init 151 = .ok (.bipush 12, 2) := by decide +kernel
theorem dX7_init_153 : decode cX7_init 153 = .ok (.newarray .long, 2) := by decide +kernel
theorem dX7_init_155 : decode cX7_init 155 = .ok (.putfield 64, 3) := by decide +kernel
theorem dX7_init_158 : decode cX7_init 158 = .ok (.aload_n 0, 1) := by decide +kernel
theorem dX7_init_159 : decode cX7_init 159 = .ok (.bipush 12, 2) := by decide +kernel
theorem dX7_init_161 : decode cX7_init 161 = .ok (.newarray .long, 2) := by decide +kernel
theorem dX7_init_163 : decode cX7_init 163 = .ok (.putfield 67, 3) := by decide +kernel
theorem dX7_init_166 : decode cX7_init 166 = .ok (.aload_n 0, 1) := by decide +kernel
theorem dX7_init_167 : decode cX7_init 167 = .ok (.bipush 12, 2) := by decide +kernel
theorem dX7_init_169 : decode cX7_init 169 = .ok (.newarray .long, 2) := by decide +kernel
theorem dX7_init_171 : decode cX7_init 171 = .ok (.putfield 70, 3) := by decide +kernel
theorem dX7_init_174 : decode cX7_init 174 = .ok (.aload_n 0, 1) := by decide +kernel
theorem dX7_init_175 : decode cX7_init 175 = .ok (.bipush 12, 2) := by decide +kernel
theorem dX7_init_177 : decode cX7_init 177 = .ok (.newarray .long, 2) := by decide +kernel
theorem dX7_init_179 : decode cX7_init 179 = .ok (.putfield 73, 3) := by decide +kernel
theorem dX7_init_182 : decode cX7_init 182 = .ok (.aload_n 0, 1) := by decide +kernel
theorem dX7_init_183 : decode cX7_init 183 = .ok (.bipush 12, 2) := by decide +kernel
theorem dX7_init_185 : decode cX7_init 185 = .ok (.newarray .long, 2) := by decide +kernel
theorem dX7_init_187 : decode cX7_init 187 = .ok (.putfield 76, 3) := by decide +kernel
theorem dX7_init_190 : decode cX7_init 190 = .ok (.return_, 1) := by decide +kernel
theorem dX7_thrown_0 : decode cX7_thrown 0 = .ok (.aload_n 0, 1) := by decide +kernel
theorem dX7_thrown_1 : decode cX7_thrown 1 = .ok (.getfield 79, 3) := by decide +kernel
theorem dX7_thrown_4 : decode cX7_thrown 4 = .ok (.ireturn, 1) := by decide +kernel
theorem dX7_fails_0 : decode cX7_fails 0 = .ok (.iload_n 1, 1) := by decide +kernel
theorem dX7_fails_1 : decode cX7_fails 1 = .ok (.ifCond .eq 15, 3) := by decide +kernel
theorem dX7_fails_4 : decode cX7_fails 4 = .ok (.aload_n 0, 1) := by decide +kernel
theorem dX7_fails_5 : decode cX7_fails 5 = .ok (.getfield 79, 3) := by decide +kernel
theorem dX7_fails_8 : decode cX7_fails 8 = .ok (.ifCond .ne 8, 3) := by decide +kernel
theorem dX7_fails_11 : decode cX7_fails 11 = .ok (.aload_n 0, 1) := by decide +kernel
theorem dX7_fails_12 : decode cX7_fails 12 = .ok (.iload_n 2, 1) := by decide +kernel
theorem dX7_fails_13 : decode cX7_fails 13 = .ok (.putfield 79, 3) := by decide +kernel
theorem dX7_fails_16 : decode cX7_fails 16 = .ok (.aload_n 0, 1) := by decide +kernel
theorem dX7_fails_17 : decode cX7_fails 17 = .ok (.getfield 79, 3) := by decide +kernel
theorem dX7_fails_20 : decode cX7_fails 20 = .ok (.ifCond .eq 7, 3) := by decide +kernel
theorem dX7_fails_23 : decode cX7_fails 23 = .ok (.iconst 1, 1) := by decide +kernel
theorem dX7_fails_24 : decode cX7_fails 24 = .ok (.goto 4, 3) := by decide +kernel
theorem dX7_fails_27 : decode cX7_fails 27 = .ok (.iconst 0, 1) := by decide +kernel
theorem dX7_fails_28 : decode cX7_fails 28 = .ok (.ireturn, 1) := by decide +kernel
theorem dX7_in_0 : decode cX7_in 0 = .ok (.iload_n 0, 1) := by decide +kernel
theorem dX7_in_1 : decode cX7_in 1 = .ok (.iload_n 1, 1) := by decide +kernel
theorem dX7_in_2 : decode cX7_in 2 = .ok (.if_icmp .lt 12, 3) := by decide +kernel
theorem dX7_in_5 : decode cX7_in 5 = .ok (.iload_n 0, 1) := by decide +kernel
theorem dX7_in_6 : decode cX7_in 6 = .ok (.iload_n 2, 1) := by decide +kernel
theorem dX7_in_7 : decode cX7_in 7 = .ok (.if_icmp .gt 7, 3) := by decide +kernel
theorem dX7_in_10 : decode cX7_in 10 = .ok (.iconst 1, 1) := by decide +kernel
theorem dX7_in_11 : decode cX7_in 11 = .ok (.goto 4, 3) := by decide +kernel
theorem dX7_in_14 : decode cX7_in 14 = .ok (.iconst 0, 1) := by decide +kernel
theorem dX7_in_15 : decode cX7_in 15 = .ok (.ireturn, 1) := by decide +kernel
theorem dX7_min_0 : decode cX7_min 0 = .ok (.iload_n 0, 1) := by decide +kernel
theorem dX7_min_1 : decode cX7_min 1 = .ok (.iload_n 1, 1) := by decide +kernel
theorem dX7_min_2 : decode cX7_min 2 = .ok (.if_icmp .ge 7, 3) := by decide +kernel
theorem dX7_min_5 : decode cX7_min 5 = .ok (.iload_n 0, 1) := by decide +kernel
theorem dX7_min_6 : decode cX7_min 6 = .ok (.goto 4, 3) := by decide +kernel
theorem dX7_min_9 : decode cX7_min 9 = .ok (.iload_n 1, 1) := by decide +kernel
theorem dX7_min_10 : decode cX7_min 10 = .ok (.ireturn, 1) := by decide +kernel
theorem dX7_copy_0 : decode cX7_copy 0 = .ok (.iconst 0, 1) := by decide +kernel
theorem dX7_copy_1 : decode cX7_copy 1 = .ok (.istore_n 2, 1) := by decide +kernel
theorem dX7_copy_2 : decode cX7_copy 2 = .ok (.iload_n 2, 1) := by decide +kernel
theorem dX7_copy_3 : decode cX7_copy 3 = .ok (.bipush 97, 2) := by decide +kernel
theorem dX7_copy_5 : decode cX7_copy 5 = .ok (.if_icmp .ge 15, 3) := by decide +kernel
theorem dX7_copy_8 : decode cX7_copy 8 = .ok (.aload_n 1, 1) := by decide +kernel
theorem dX7_copy_9 : decode cX7_copy 9 = .ok (.iload_n 2, 1) := by decide +kernel
theorem dX7_copy_10 : decode cX7_copy 10 = .ok (.aload_n 0, 1) := by decide +kernel
theorem dX7_copy_11 : decode cX7_copy 11 = .ok (.iload_n 2, 1) := by decide +kernel
theorem dX7_copy_12 : decode cX7_copy 12 = .ok (.iaload, 1) := by decide +kernel
theorem dX7_copy_13 : decode cX7_copy 13 = .ok (.iastore, 1) := by decide +kernel
theorem dX7_copy_14 : decode cX7_copy 14 = .ok (.iinc 2 1, 3) := by decide +kernel
theorem dX7_copy_17 : decode cX7_copy 17 = .ok (.goto (-15), 3) := by decide +kernel
theorem dX7_copy_20 : decode cX7_copy 20 = .ok (.return_, 1) := by decide +kernel
theorem dX7_clearRow_0 : decode cX7_clearRow 0 = .ok (.iconst 0, 1) := by decide +kernel
theorem dX7_clearRow_1 : decode cX7_clearRow 1 = .ok (.istore_n 1, 1) := by decide +kernel
theorem dX7_clearRow_2 : decode cX7_clearRow 2 = .ok (.iload_n 1, 1) := by decide +kernel
theorem dX7_clearRow_3 : decode cX7_clearRow 3 = .ok (.bipush 12, 2) := by decide +kernel
theorem dX7_clearRow_5 : decode cX7_clearRow 5 = .ok (.if_icmp .ge 13, 3) := by decide +kernel
theorem dX7_clearRow_8 : decode cX7_clearRow 8 = .ok (.aload_n 0, 1) := by decide +kernel
theorem dX7_clearRow_9 : decode cX7_clearRow 9 = .ok (.iload_n 1, 1) := by decide +kernel
theorem dX7_clearRow_10 : decode cX7_clearRow 10 = .ok (.lconst 0, 1) := by decide +kernel
theorem dX7_clearRow_11 : decode cX7_clearRow 11 = .ok (.lastore, 1) := by decide +kernel
theorem dX7_clearRow_12 : decode cX7_clearRow 12 = .ok (.iinc 1 1, 3) := by decide +kernel
theorem dX7_clearRow_15 : decode cX7_clearRow 15 = .ok (.goto (-13), 3) := by decide +kernel
theorem dX7_clearRow_18 : decode cX7_clearRow 18 = .ok (.return_, 1) := by decide +kernel
theorem dX7_copyRow_0 : decode cX7_copyRow 0 = .ok (.iconst 0, 1) := by decide +kernel
theorem dX7_copyRow_1 : decode cX7_copyRow 1 = .ok (.istore_n 2, 1) := by decide +kernel
theorem dX7_copyRow_2 : decode cX7_copyRow 2 = .ok (.iload_n 2, 1) := by decide +kernel
theorem dX7_copyRow_3 : decode cX7_copyRow 3 = .ok (.bipush 12, 2) := by decide +kernel
theorem dX7_copyRow_5 : decode cX7_copyRow 5 = .ok (.if_icmp .ge 15, 3) := by decide +kernel
theorem dX7_copyRow_8 : decode cX7_copyRow 8 = .ok (.aload_n 1, 1) := by decide +kernel
theorem dX7_copyRow_9 : decode cX7_copyRow 9 = .ok (.iload_n 2, 1) := by decide +kernel
theorem dX7_copyRow_10 : decode cX7_copyRow 10 = .ok (.aload_n 0, 1) := by decide +kernel
theorem dX7_copyRow_11 : decode cX7_copyRow 11 = .ok (.iload_n 2, 1) := by decide +kernel
theorem dX7_copyRow_12 : decode cX7_copyRow 12 = .ok (.laload, 1) := by decide +kernel
theorem dX7_copyRow_13 : decode cX7_copyRow 13 = .ok (.lastore, 1) := by decide +kernel
theorem dX7_copyRow_14 : decode cX7_copyRow 14 = .ok (.iinc 2 1, 3) := by decide +kernel
theorem dX7_copyRow_17 : decode cX7_copyRow 17 = .ok (.goto (-15), 3) := by decide +kernel
theorem dX7_copyRow_20 : decode cX7_copyRow 20 = .ok (.return_, 1) := by decide +kernel
theorem dX7_isDefined_0 : decode cX7_isDefined 0 = .ok (.aload_n 0, 1) := by decide +kernel
theorem dX7_isDefined_1 : decode cX7_isDefined 1 = .ok (.iconst 0, 1) := by decide +kernel
theorem dX7_isDefined_2 : decode cX7_isDefined 2 = .ok (.iaload, 1) := by decide +kernel
theorem dX7_isDefined_3 : decode cX7_isDefined 3 = .ok (.iload_n 1, 1) := by decide +kernel
theorem dX7_isDefined_4 : decode cX7_isDefined 4 = .ok (.ishr, 1) := by decide +kernel
theorem dX7_isDefined_5 : decode cX7_isDefined 5 = .ok (.iconst 1, 1) := by decide +kernel
theorem dX7_isDefined_6 : decode cX7_isDefined 6 = .ok (.iand, 1) := by decide +kernel
theorem dX7_isDefined_7 : decode cX7_isDefined 7 = .ok (.iconst 1, 1) := by decide +kernel
theorem dX7_isDefined_8 : decode cX7_isDefined 8 = .ok (.if_icmp .ne 7, 3) := by decide +kernel
theorem dX7_isDefined_11 : decode cX7_isDefined 11 = .ok (.iconst 1, 1) := by decide +kernel
theorem dX7_isDefined_12 : decode cX7_isDefined 12 = .ok (.goto 4, 3) := by decide +kernel
theorem dX7_isDefined_15 : decode cX7_isDefined 15 = .ok (.iconst 0, 1) := by decide +kernel
theorem dX7_isDefined_16 : decode cX7_isDefined 16 = .ok (.ireturn, 1) := by decide +kernel
theorem dX7_take_0 : decode cX7_take 0 = .ok (.iconst 0, 1) := by decide +kernel
theorem dX7_take_1 : decode cX7_take 1 = .ok (.istore_n 3, 1) := by decide +kernel
theorem dX7_take_2 : decode cX7_take 2 = .ok (.iload_n 3, 1) := by decide +kernel
theorem dX7_take_3 : decode cX7_take 3 = .ok (.bipush 12, 2) := by decide +kernel
theorem dX7_take_5 : decode cX7_take 5 = .ok (.if_icmp .ge 23, 3) := by decide +kernel
theorem dX7_take_8 : decode cX7_take 8 = .ok (.aload_n 2, 1) := by decide +kernel
theorem dX7_take_9 : decode cX7_take 9 = .ok (.iload_n 3, 1) := by decide +kernel
theorem dX7_take_10 : decode cX7_take 10 = .ok (.aload_n 0, 1) := by decide +kernel
theorem dX7_take_11 : decode cX7_take 11 = .ok (.iconst 1, 1) := by decide +kernel
theorem dX7_take_12 : decode cX7_take 12 = .ok (.bipush 12, 2) := by decide +kernel
theorem dX7_take_14 : decode cX7_take 14 = .ok (.iload_n 1, 1) := by decide +kernel
theorem dX7_take_15 : decode cX7_take 15 = .ok (.imul, 1) := by decide +kernel
theorem dX7_take_16 : decode cX7_take 16 = .ok (.iadd, 1) := by decide +kernel
theorem dX7_take_17 : decode cX7_take 17 = .ok (.iload_n 3, 1) := by decide +kernel
theorem dX7_take_18 : decode cX7_take 18 = .ok (.iadd, 1) := by decide +kernel
theorem dX7_take_19 : decode cX7_take 19 = .ok (.iaload, 1) := by decide +kernel
theorem dX7_take_20 : decode cX7_take 20 = .ok (.i2l, 1) := by decide +kernel
theorem dX7_take_21 : decode cX7_take 21 = .ok (.lastore, 1) := by decide +kernel
theorem dX7_take_22 : decode cX7_take 22 = .ok (.iinc 3 1, 3) := by decide +kernel
theorem dX7_take_25 : decode cX7_take 25 = .ok (.goto (-23), 3) := by decide +kernel
theorem dX7_take_28 : decode cX7_take 28 = .ok (.return_, 1) := by decide +kernel
theorem dX7_give_0 : decode cX7_give 0 = .ok (.iconst 0, 1) := by decide +kernel
theorem dX7_give_1 : decode cX7_give 1 = .ok (.istore_n 3, 1) := by decide +kernel
theorem dX7_give_2 : decode cX7_give 2 = .ok (.iload_n 3, 1) := by decide +kernel
theorem dX7_give_3 : decode cX7_give 3 = .ok (.bipush 12, 2) := by decide +kernel
theorem dX7_give_5 : decode cX7_give 5 = .ok (.if_icmp .ge 23, 3) := by decide +kernel
theorem dX7_give_8 : decode cX7_give 8 = .ok (.aload_n 1, 1) := by decide +kernel
theorem dX7_give_9 : decode cX7_give 9 = .ok (.iconst 1, 1) := by decide +kernel
theorem dX7_give_10 : decode cX7_give 10 = .ok (.bipush 12, 2) := by decide +kernel
theorem dX7_give_12 : decode cX7_give 12 = .ok (.iload_n 2, 1) := by decide +kernel
theorem dX7_give_13 : decode cX7_give 13 = .ok (.imul, 1) := by decide +kernel
theorem dX7_give_14 : decode cX7_give 14 = .ok (.iadd, 1) := by decide +kernel
theorem dX7_give_15 : decode cX7_give 15 = .ok (.iload_n 3, 1) := by decide +kernel
theorem dX7_give_16 : decode cX7_give 16 = .ok (.iadd, 1) := by decide +kernel
theorem dX7_give_17 : decode cX7_give 17 = .ok (.aload_n 0, 1) := by decide +kernel
theorem dX7_give_18 : decode cX7_give 18 = .ok (.iload_n 3, 1) := by decide +kernel
theorem dX7_give_19 : decode cX7_give 19 = .ok (.laload, 1) := by decide +kernel
theorem dX7_give_20 : decode cX7_give 20 = .ok (.l2i, 1) := by decide +kernel
theorem dX7_give_21 : decode cX7_give 21 = .ok (.iastore, 1) := by decide +kernel
theorem dX7_give_22 : decode cX7_give 22 = .ok (.iinc 3 1, 3) := by decide +kernel
theorem dX7_give_25 : decode cX7_give 25 = .ok (.goto (-23), 3) := by decide +kernel
theorem dX7_give_28 : decode cX7_give 28 = .ok (.aload_n 1, 1) := by decide +kernel
theorem dX7_give_29 : decode cX7_give 29 = .ok (.iconst 0, 1) := by decide +kernel
theorem dX7_give_30 : decode cX7_give 30 = .ok (.dup2, 1) := by decide +kernel
theorem dX7_give_31 : decode cX7_give 31 = .ok (.iaload, 1) := by decide +kernel
theorem dX7_give_32 : decode cX7_give 32 = .ok (.iconst 1, 1) := by decide +kernel
theorem dX7_give_33 : decode cX7_give 33 = .ok (.iload_n 2, 1) := by decide +kernel
theorem dX7_give_34 : decode cX7_give 34 = .ok (.ishl, 1) := by decide +kernel
theorem dX7_give_35 : decode cX7_give 35 = .ok (.ior, 1) := by decide +kernel
theorem dX7_give_36 : decode cX7_give 36 = .ok (.iastore, 1) := by decide +kernel
theorem dX7_give_37 : decode cX7_give 37 = .ok (.return_, 1) := by decide +kernel
theorem dX7_place_0 : decode cX7_place 0 = .ok (.iload_n 0, 1) := by decide +kernel
theorem dX7_place_1 : decode cX7_place 1 = .ok (.ifCond .ne 7, 3) := by decide +kernel
theorem dX7_place_4 : decode cX7_place 4 = .ok (.iload_n 1, 1) := by decide +kernel
theorem dX7_place_5 : decode cX7_place 5 = .ok (.goto 28, 3) := by decide +kernel
theorem dX7_place_8 : decode cX7_place 8 = .ok (.iload_n 0, 1) := by decide +kernel
theorem dX7_place_9 : decode cX7_place 9 = .ok (.iconst 1, 1) := by decide +kernel
theorem dX7_place_10 : decode cX7_place 10 = .ok (.if_icmp .ne 9, 3) := by decide +kernel
theorem dX7_place_13 : decode cX7_place 13 = .ok (.iconst 4, 1) := by decide +kernel
theorem dX7_place_14 : decode cX7_place 14 = .ok (.iload_n 1, 1) := by decide +kernel
theorem dX7_place_15 : decode cX7_place 15 = .ok (.iadd, 1) := by decide +kernel
theorem dX7_place_16 : decode cX7_place 16 = .ok (.goto 17, 3) := by decide +kernel
theorem dX7_place_19 : decode cX7_place 19 = .ok (.iload_n 0, 1) := by decide +kernel
theorem dX7_place_20 : decode cX7_place 20 = .ok (.iconst 2, 1) := by decide +kernel
theorem dX7_place_21 : decode cX7_place 21 = .ok (.if_icmp .ne 10, 3) := by decide +kernel
theorem dX7_place_24 : decode cX7_place 24 = .ok (.bipush 7, 2) := by decide +kernel
theorem dX7_place_26 : decode cX7_place 26 = .ok (.iload_n 1, 1) := by decide +kernel
theorem dX7_place_27 : decode cX7_place 27 = .ok (.iadd, 1) := by decide +kernel
theorem dX7_place_28 : decode cX7_place 28 = .ok (.goto 5, 3) := by decide +kernel
theorem dX7_place_31 : decode cX7_place 31 = .ok (.bipush 9, 2) := by decide +kernel
theorem dX7_place_33 : decode cX7_place 33 = .ok (.ireturn, 1) := by decide +kernel
theorem dX7_iOf_0 : decode cX7_iOf 0 = .ok (.iload_n 0, 1) := by decide +kernel
theorem dX7_iOf_1 : decode cX7_iOf 1 = .ok (.iconst 4, 1) := by decide +kernel
theorem dX7_iOf_2 : decode cX7_iOf 2 = .ok (.if_icmp .ge 7, 3) := by decide +kernel
theorem dX7_iOf_5 : decode cX7_iOf 5 = .ok (.iconst 0, 1) := by decide +kernel
theorem dX7_iOf_6 : decode cX7_iOf 6 = .ok (.goto 24, 3) := by decide +kernel
theorem dX7_iOf_9 : decode cX7_iOf 9 = .ok (.iload_n 0, 1) := by decide +kernel
theorem dX7_iOf_10 : decode cX7_iOf 10 = .ok (.bipush 7, 2) := by decide +kernel
theorem dX7_iOf_12 : decode cX7_iOf 12 = .ok (.if_icmp .ge 7, 3) := by decide +kernel
theorem dX7_iOf_15 : decode cX7_iOf 15 = .ok (.iconst 1, 1) := by decide +kernel
theorem dX7_iOf_16 : decode cX7_iOf 16 = .ok (.goto 14, 3) := by decide +kernel
theorem dX7_iOf_19 : decode cX7_iOf 19 = .ok (.iload_n 0, 1) := by decide +kernel
theorem dX7_iOf_20 : decode cX7_iOf 20 = .ok (.bipush 9, 2) := by decide +kernel
theorem dX7_iOf_22 : decode cX7_iOf 22 = .ok (.if_icmp .ge 7, 3) := by decide +kernel
theorem dX7_iOf_25 : decode cX7_iOf 25 = .ok (.iconst 2, 1) := by decide +kernel
theorem dX7_iOf_26 : decode cX7_iOf 26 = .ok (.goto 4, 3) := by decide +kernel
theorem dX7_iOf_29 : decode cX7_iOf 29 = .ok (.iconst 3, 1) := by decide +kernel
theorem dX7_iOf_30 : decode cX7_iOf 30 = .ok (.ireturn, 1) := by decide +kernel
theorem dX7_jOf_0 : decode cX7_jOf 0 = .ok (.iload_n 0, 1) := by decide +kernel
theorem dX7_jOf_1 : decode cX7_jOf 1 = .ok (.iconst 4, 1) := by decide +kernel
theorem dX7_jOf_2 : decode cX7_jOf 2 = .ok (.if_icmp .ge 7, 3) := by decide +kernel
theorem dX7_jOf_5 : decode cX7_jOf 5 = .ok (.iload_n 0, 1) := by decide +kernel
theorem dX7_jOf_6 : decode cX7_jOf 6 = .ok (.goto 29, 3) := by decide +kernel
theorem dX7_jOf_9 : decode cX7_jOf 9 = .ok (.iload_n 0, 1) := by decide +kernel
theorem dX7_jOf_10 : decode cX7_jOf 10 = .ok (.bipush 7, 2) := by decide +kernel
theorem dX7_jOf_12 : decode cX7_jOf 12 = .ok (.if_icmp .ge 9, 3) := by decide +kernel
theorem dX7_jOf_15 : decode cX7_jOf 15 = .ok (.iload_n 0, 1) := by decide +kernel
theorem dX7_jOf_16 : decode cX7_jOf 16 = .ok (.iconst 4, 1) := by decide +kernel
theorem dX7_jOf_17 : decode cX7_jOf 17 = .ok (.isub, 1) := by decide +kernel
theorem dX7_jOf_18 : decode cX7_jOf 18 = .ok (.goto 17, 3) := by decide +kernel
theorem dX7_jOf_21 : decode cX7_jOf 21 = .ok (.iload_n 0, 1) := by decide +kernel
theorem dX7_jOf_22 : decode cX7_jOf 22 = .ok (.bipush 9, 2) := by decide +kernel
theorem dX7_jOf_24 : decode cX7_jOf 24 = .ok (.if_icmp .ge 10, 3) := by decide +kernel
theorem dX7_jOf_27 : decode cX7_jOf 27 = .ok (.iload_n 0, 1) := by decide +kernel
theorem dX7_jOf_28 : decode cX7_jOf 28 = .ok (.bipush 7, 2) := by decide +kernel
theorem dX7_jOf_30 : decode cX7_jOf 30 = .ok (.isub, 1) := by decide +kernel
theorem dX7_jOf_31 : decode cX7_jOf 31 = .ok (.goto 4, 3) := by decide +kernel
theorem dX7_jOf_34 : decode cX7_jOf 34 = .ok (.iconst 0, 1) := by decide +kernel
theorem dX7_jOf_35 : decode cX7_jOf 35 = .ok (.ireturn, 1) := by decide +kernel
theorem dX7_smaller_0 : decode cX7_smaller 0 = .ok (.lload_n 0, 1) := by decide +kernel
theorem dX7_smaller_1 : decode cX7_smaller 1 = .ok (.lload_n 2, 1) := by decide +kernel
theorem dX7_smaller_2 : decode cX7_smaller 2 = .ok (.lcmp, 1) := by decide +kernel
theorem dX7_smaller_3 : decode cX7_smaller 3 = .ok (.ifCond .ge 7, 3) := by decide +kernel
theorem dX7_smaller_6 : decode cX7_smaller 6 = .ok (.lload_n 0, 1) := by decide +kernel
theorem dX7_smaller_7 : decode cX7_smaller 7 = .ok (.goto 4, 3) := by decide +kernel
theorem dX7_smaller_10 : decode cX7_smaller 10 = .ok (.lload_n 2, 1) := by decide +kernel
theorem dX7_smaller_11 : decode cX7_smaller 11 = .ok (.lreturn, 1) := by decide +kernel
theorem dX7_greater_0 : decode cX7_greater 0 = .ok (.lload_n 0, 1) := by decide +kernel
theorem dX7_greater_1 : decode cX7_greater 1 = .ok (.lload_n 2, 1) := by decide +kernel
theorem dX7_greater_2 : decode cX7_greater 2 = .ok (.lcmp, 1) := by decide +kernel
theorem dX7_greater_3 : decode cX7_greater 3 = .ok (.ifCond .le 7, 3) := by decide +kernel
theorem dX7_greater_6 : decode cX7_greater 6 = .ok (.lload_n 0, 1) := by decide +kernel
theorem dX7_greater_7 : decode cX7_greater 7 = .ok (.goto 4, 3) := by decide +kernel
theorem dX7_greater_10 : decode cX7_greater 10 = .ok (.lload_n 2, 1) := by decide +kernel
theorem dX7_greater_11 : decode cX7_greater 11 = .ok (.lreturn, 1) := by decide +kernel
theorem dX7_down_0 : decode cX7_down 0 = .ok (.lload_n 0, 1) := by decide +kernel
theorem dX7_down_1 : decode cX7_down 1 = .ok (.lconst 0, 1) := by decide +kernel
theorem dX7_down_2 : decode cX7_down 2 = .ok (.lcmp, 1) := by decide +kernel
theorem dX7_down_3 : decode cX7_down 3 = .ok (.ifCond .lt 9, 3) := by decide +kernel
theorem dX7_down_6 : decode cX7_down 6 = .ok (.lload_n 0, 1) := by decide +kernel
theorem dX7_down_7 : decode cX7_down 7 = .ok (.lload_n 2, 1) := by decide +kernel
theorem dX7_down_8 : decode cX7_down 8 = .ok (.ldiv, 1) := by decide +kernel
theorem dX7_down_9 : decode cX7_down 9 = .ok (.goto 11, 3) := by decide +kernel
theorem dX7_down_12 : decode cX7_down 12 = .ok (.lload_n 2, 1) := by decide +kernel
theorem dX7_down_13 : decode cX7_down 13 = .ok (.lconst 1, 1) := by decide +kernel
theorem dX7_down_14 : decode cX7_down 14 = .ok (.lsub, 1) := by decide +kernel
theorem dX7_down_15 : decode cX7_down 15 = .ok (.lload_n 0, 1) := by decide +kernel
theorem dX7_down_16 : decode cX7_down 16 = .ok (.lsub, 1) := by decide +kernel
theorem dX7_down_17 : decode cX7_down 17 = .ok (.lload_n 2, 1) := by decide +kernel
theorem dX7_down_18 : decode cX7_down 18 = .ok (.ldiv, 1) := by decide +kernel
theorem dX7_down_19 : decode cX7_down 19 = .ok (.lneg, 1) := by decide +kernel
theorem dX7_down_20 : decode cX7_down 20 = .ok (.lreturn, 1) := by decide +kernel
theorem dX7_up_0 : decode cX7_up 0 = .ok (.lload_n 0, 1) := by decide +kernel
theorem dX7_up_1 : decode cX7_up 1 = .ok (.lneg, 1) := by decide +kernel
theorem dX7_up_2 : decode cX7_up 2 = .ok (.lload_n 2, 1) := by decide +kernel
theorem dX7_up_3 : decode cX7_up 3 = .ok (.invokestatic 82, 3) := by decide +kernel
theorem dX7_up_6 : decode cX7_up 6 = .ok (.lneg, 1) := by decide +kernel
theorem dX7_up_7 : decode cX7_up 7 = .ok (.lreturn, 1) := by decide +kernel
theorem dX7_low_0 : decode cX7_low 0 = .ok (.iload_n 2, 1) := by decide +kernel
theorem dX7_low_1 : decode cX7_low 1 = .ok (.ifCond .ne 11, 3) := by decide +kernel
theorem dX7_low_4 : decode cX7_low 4 = .ok (.iload_n 3, 1) := by decide +kernel
theorem dX7_low_5 : decode cX7_low 5 = .ok (.ifCond .ne 7, 3) := by decide +kernel
theorem dX7_low_8 : decode cX7_low 8 = .ok (.lload_n 0, 1) := by decide +kernel
theorem dX7_low_9 : decode cX7_low 9 = .ok (.goto 29, 3) := by decide +kernel
theorem dX7_low_12 : decode cX7_low 12 = .ok (.iload_n 2, 1) := by decide +kernel
theorem dX7_low_13 : decode cX7_low 13 = .ok (.iconst 2, 1) := by decide +kernel
theorem dX7_low_14 : decode cX7_low 14 = .ok (.irem, 1) := by decide +kernel
theorem dX7_low_15 : decode cX7_low 15 = .ok (.ifCond .ne 17, 3) := by decide +kernel
theorem dX7_low_18 : decode cX7_low 18 = .ok (.iload_n 3, 1) := by decide +kernel
theorem dX7_low_19 : decode cX7_low 19 = .ok (.iconst 2, 1) := by decide +kernel
theorem dX7_low_20 : decode cX7_low 20 = .ok (.irem, 1) := by decide +kernel
theorem dX7_low_21 : decode cX7_low 21 = .ok (.ifCond .ne 11, 3) := by decide +kernel
theorem dX7_low_24 : decode cX7_low 24 = .ok (.lload_n 0, 1) := by decide +kernel
theorem dX7_low_25 : decode cX7_low 25 = .ok (.lconst 0, 1) := by decide +kernel
theorem dX7_low_26 : decode cX7_low 26 = .ok (.invokestatic 86, 3) := by decide +kernel
theorem dX7_low_29 : decode cX7_low 29 = .ok (.goto 9, 3) := by decide +kernel
theorem dX7_low_32 : decode cX7_low 32 = .ok (.lload_n 0, 1) := by decide +kernel
theorem dX7_low_33 : decode cX7_low 33 = .ok (.lload_n 0, 1) := by decide +kernel
theorem dX7_low_34 : decode cX7_low 34 = .ok (.lneg, 1) := by decide +kernel
theorem dX7_low_35 : decode cX7_low 35 = .ok (.invokestatic 86, 3) := by decide +kernel
theorem dX7_low_38 : decode cX7_low 38 = .ok (.lreturn, 1) := by decide +kernel
theorem dX7_high_0 : decode cX7_high 0 = .ok (.lload_n 0, 1) := by decide +kernel
theorem dX7_high_1 : decode cX7_high 1 = .ok (.lneg, 1) := by decide +kernel
theorem dX7_high_2 : decode cX7_high 2 = .ok (.iload_n 2, 1) := by decide +kernel
theorem dX7_high_3 : decode cX7_high 3 = .ok (.iload_n 3, 1) := by decide +kernel
theorem dX7_high_4 : decode cX7_high 4 = .ok (.invokestatic 89, 3) := by decide +kernel
theorem dX7_high_7 : decode cX7_high 7 = .ok (.lneg, 1) := by decide +kernel
theorem dX7_high_8 : decode cX7_high 8 = .ok (.lreturn, 1) := by decide +kernel
theorem dX7_spreadLow_0 : decode cX7_spreadLow 0 = .ok (.lconst 0, 1) := by decide +kernel
theorem dX7_spreadLow_1 : decode cX7_spreadLow 1 = .ok (.lstore_n 1, 1) := by decide +kernel
theorem dX7_spreadLow_2 : decode cX7_spreadLow 2 = .ok (.iconst 0, 1) := by decide +kernel
theorem dX7_spreadLow_3 : decode cX7_spreadLow 3 = .ok (.istore_n 3, 1) := by decide +kernel
theorem dX7_spreadLow_4 : decode cX7_spreadLow 4 = .ok (.iload_n 3, 1) := by decide +kernel
theorem dX7_spreadLow_5 : decode cX7_spreadLow 5 = .ok (.bipush 10, 2) := by decide +kernel
theorem dX7_spreadLow_7 : decode cX7_spreadLow 7 = .ok (.if_icmp .ge 26, 3) := by decide +kernel
theorem dX7_spreadLow_10 : decode cX7_spreadLow 10 = .ok (.lload_n 1, 1) := by decide +kernel
theorem dX7_spreadLow_11 : decode cX7_spreadLow 11 = .ok (.aload_n 0, 1) := by decide +kernel
theorem dX7_spreadLow_12 : decode cX7_spreadLow 12 = .ok (.iload_n 3, 1) := by decide +kernel
theorem dX7_spreadLow_13 : decode cX7_spreadLow 13 = .ok (.laload, 1) := by decide +kernel
theorem dX7_spreadLow_14 : decode cX7_spreadLow 14 = .ok (.iload_n 3, 1) := by decide +kernel
theorem dX7_spreadLow_15 : decode cX7_spreadLow 15 = .ok (.invokestatic 93, 3) := by decide +kernel
theorem dX7_spreadLow_18 : decode cX7_spreadLow 18 = .ok (.iload_n 3, 1) := by decide +kernel
theorem dX7_spreadLow_19 : decode cX7_spreadLow 19 = .ok (.invokestatic 97, 3) := by decide +kernel
theorem dX7_spreadLow_22 : decode cX7_spreadLow 22 = .ok (.invokestatic 89, 3) := by decide +kernel
theorem dX7_spreadLow_25 : decode cX7_spreadLow 25 = .ok (.ladd, 1) := by decide +kernel
theorem dX7_spreadLow_26 : decode cX7_spreadLow 26 = .ok (.lstore_n 1, 1) := by decide +kernel
theorem dX7_spreadLow_27 : decode cX7_spreadLow 27 = .ok (.iinc 3 1, 3) := by decide +kernel
theorem dX7_spreadLow_30 : decode cX7_spreadLow 30 = .ok (.goto (-26), 3) := by decide +kernel
theorem dX7_spreadLow_33 : decode cX7_spreadLow 33 = .ok (.lload_n 1, 1) := by decide +kernel
theorem dX7_spreadLow_34 : decode cX7_spreadLow 34 = .ok (.lreturn, 1) := by decide +kernel
theorem dX7_spreadHigh_0 : decode cX7_spreadHigh 0 = .ok (.lconst 0, 1) := by decide +kernel
theorem dX7_spreadHigh_1 : decode cX7_spreadHigh 1 = .ok (.lstore_n 1, 1) := by decide +kernel
theorem dX7_spreadHigh_2 : decode cX7_spreadHigh 2 = .ok (.iconst 0, 1) := by decide +kernel
theorem dX7_spreadHigh_3 : decode cX7_spreadHigh 3 = .ok (.istore_n 3, 1) := by decide +kernel
theorem dX7_spreadHigh_4 : decode cX7_spreadHigh 4 = .ok (.iload_n 3, 1) := by decide +kernel
theorem dX7_spreadHigh_5 : decode cX7_spreadHigh 5 = .ok (.bipush 10, 2) := by decide +kernel
theorem dX7_spreadHigh_7 : decode cX7_spreadHigh 7 = .ok (.if_icmp .ge 26, 3) := by decide +kernel
theorem dX7_spreadHigh_10 : decode cX7_spreadHigh 10 = .ok (.lload_n 1, 1) := by decide +kernel
theorem dX7_spreadHigh_11 : decode cX7_spreadHigh 11 = .ok (.aload_n 0, 1) := by decide +kernel
theorem dX7_spreadHigh_12 : decode cX7_spreadHigh 12 = .ok (.iload_n 3, 1) := by decide +kernel
theorem dX7_spreadHigh_13 : decode cX7_spreadHigh 13 = .ok (.laload, 1) := by decide +kernel
theorem dX7_spreadHigh_14 : decode cX7_spreadHigh 14 = .ok (.iload_n 3, 1) := by decide +kernel
theorem dX7_spreadHigh_15 : decode cX7_spreadHigh 15 = .ok (.invokestatic 93, 3) := by decide +kernel
theorem dX7_spreadHigh_18 : decode cX7_spreadHigh 18 = .ok (.iload_n 3, 1) := by decide +kernel
theorem dX7_spreadHigh_19 : decode cX7_spreadHigh 19 = .ok (.invokestatic 97, 3) := by decide +kernel
theorem dX7_spreadHigh_22 : decode cX7_spreadHigh 22 = .ok (.invokestatic 100, 3) := by decide +kernel
theorem dX7_spreadHigh_25 : decode cX7_spreadHigh 25 = .ok (.ladd, 1) := by decide +kernel
theorem dX7_spreadHigh_26 : decode cX7_spreadHigh 26 = .ok (.lstore_n 1, 1) := by decide +kernel
theorem dX7_spreadHigh_27 : decode cX7_spreadHigh 27 = .ok (.iinc 3 1, 3) := by decide +kernel
theorem dX7_spreadHigh_30 : decode cX7_spreadHigh 30 = .ok (.goto (-26), 3) := by decide +kernel
theorem dX7_spreadHigh_33 : decode cX7_spreadHigh 33 = .ok (.lload_n 1, 1) := by decide +kernel
theorem dX7_spreadHigh_34 : decode cX7_spreadHigh 34 = .ok (.lreturn, 1) := by decide +kernel
theorem dX7_isSmall_0 : decode cX7_isSmall 0 = .ok (.iconst 1, 1) := by decide +kernel
theorem dX7_isSmall_1 : decode cX7_isSmall 1 = .ok (.istore_n 1, 1) := by decide +kernel
theorem dX7_isSmall_2 : decode cX7_isSmall 2 = .ok (.iconst 0, 1) := by decide +kernel
theorem dX7_isSmall_3 : decode cX7_isSmall 3 = .ok (.istore_n 2, 1) := by decide +kernel
theorem dX7_isSmall_4 : decode cX7_isSmall 4 = .ok (.iload_n 2, 1) := by decide +kernel
theorem dX7_isSmall_5 : decode cX7_isSmall 5 = .ok (.bipush 12, 2) := by decide +kernel
theorem dX7_isSmall_7 : decode cX7_isSmall 7 = .ok (.if_icmp .ge 37, 3) := by decide +kernel
theorem dX7_isSmall_10 : decode cX7_isSmall 10 = .ok (.iload_n 1, 1) := by decide +kernel
theorem dX7_isSmall_11 : decode cX7_isSmall 11 = .ok (.aload_n 0, 1) := by decide +kernel
theorem dX7_isSmall_12 : decode cX7_isSmall 12 = .ok (.iload_n 2, 1) := by decide +kernel
theorem dX7_isSmall_13 : decode cX7_isSmall 13 = .ok (.laload, 1) := by decide +kernel
theorem dX7_isSmall_14 : decode cX7_isSmall 14 = .ok (.ldc2_w 103, 3) := by decide +kernel
theorem dX7_isSmall_17 : decode cX7_isSmall 17 = .ok (.lcmp, 1) := by decide +kernel
theorem dX7_isSmall_18 : decode cX7_isSmall 18 = .ok (.ifCond .lt 17, 3) := by decide +kernel
theorem dX7_isSmall_21 : decode cX7_isSmall 21 = .ok (.aload_n 0, 1) := by decide +kernel
theorem dX7_isSmall_22 : decode cX7_isSmall 22 = .ok (.iload_n 2, 1) := by decide +kernel
theorem dX7_isSmall_23 : decode cX7_isSmall 23 = .ok (.laload, 1) := by decide +kernel
theorem dX7_isSmall_24 : decode cX7_isSmall 24 = .ok (.ldc2_w 105, 3) := by decide +kernel
theorem dX7_isSmall_27 : decode cX7_isSmall 27 = .ok (.lcmp, 1) := by decide +kernel
theorem dX7_isSmall_28 : decode cX7_isSmall 28 = .ok (.ifCond .gt 7, 3) := by decide +kernel
theorem dX7_isSmall_31 : decode cX7_isSmall 31 = .ok (.iconst 1, 1) := by decide +kernel
theorem dX7_isSmall_32 : decode cX7_isSmall 32 = .ok (.goto 4, 3) := by decide +kernel
theorem dX7_isSmall_35 : decode cX7_isSmall 35 = .ok (.iconst 0, 1) := by decide +kernel
theorem dX7_isSmall_36 : decode cX7_isSmall 36 = .ok (.iand, 1) := by decide +kernel
theorem dX7_isSmall_37 : decode cX7_isSmall 37 = .ok (.istore_n 1, 1) := by decide +kernel
theorem dX7_isSmall_38 : decode cX7_isSmall 38 = .ok (.iinc 2 1, 3) := by decide +kernel
theorem dX7_isSmall_41 : decode cX7_isSmall 41 = .ok (.goto (-37), 3) := by decide +kernel
theorem dX7_isSmall_44 : decode cX7_isSmall 44 = .ok (.iload_n 1, 1) := by decide +kernel
theorem dX7_isSmall_45 : decode cX7_isSmall 45 = .ok (.ireturn, 1) := by decide +kernel
theorem dX7_isWithin_0 : decode cX7_isWithin 0 = .ok (.aload_n 0, 1) := by decide +kernel
theorem dX7_isWithin_1 : decode cX7_isWithin 1 = .ok (.invokestatic 107, 3) := by decide +kernel
theorem dX7_isWithin_4 : decode cX7_isWithin 4 = .ok (.aload_n 0, 1) := by decide +kernel
theorem dX7_isWithin_5 : decode cX7_isWithin 5 = .ok (.bipush 10, 2) := by decide +kernel
theorem dX7_isWithin_7 : decode cX7_isWithin 7 = .ok (.laload, 1) := by decide +kernel
theorem dX7_isWithin_8 : decode cX7_isWithin 8 = .ok (.ladd, 1) := by decide +kernel
theorem dX7_isWithin_9 : decode cX7_isWithin 9 = .ok (.ldc2_w 111, 3) := by decide +kernel
theorem dX7_isWithin_12 : decode cX7_isWithin 12 = .ok (.lcmp, 1) := by decide +kernel
theorem dX7_isWithin_13 : decode cX7_isWithin 13 = .ok (.ifCond .lt 23, 3) := by decide +kernel
theorem dX7_isWithin_16 : decode cX7_isWithin 16 = .ok (.aload_n 0, 1) := by decide +kernel
theorem dX7_isWithin_17 : decode cX7_isWithin 17 = .ok (.invokestatic 113, 3) := by decide +kernel
theorem dX7_isWithin_20 : decode cX7_isWithin 20 = .ok (.aload_n 0, 1) := by decide +kernel
theorem dX7_isWithin_21 : decode cX7_isWithin 21 = .ok (.bipush 11, 2) := by decide +kernel
theorem dX7_isWithin_23 : decode cX7_isWithin 23 = .ok (.laload, 1) := by decide +kernel
theorem dX7_isWithin_24 : decode cX7_isWithin 24 = .ok (.ladd, 1) := by decide +kernel
theorem dX7_isWithin_25 : decode cX7_isWithin 25 = .ok (.ldc2_w 116, 3) := by decide +kernel
theorem dX7_isWithin_28 : decode cX7_isWithin 28 = .ok (.lcmp, 1) := by decide +kernel
theorem dX7_isWithin_29 : decode cX7_isWithin 29 = .ok (.ifCond .gt 7, 3) := by decide +kernel
theorem dX7_isWithin_32 : decode cX7_isWithin 32 = .ok (.iconst 1, 1) := by decide +kernel
theorem dX7_isWithin_33 : decode cX7_isWithin 33 = .ok (.goto 4, 3) := by decide +kernel
theorem dX7_isWithin_36 : decode cX7_isWithin 36 = .ok (.iconst 0, 1) := by decide +kernel
theorem dX7_isWithin_37 : decode cX7_isWithin 37 = .ok (.ireturn, 1) := by decide +kernel
theorem dX7_sumOf_0 : decode cX7_sumOf 0 = .ok (.aload_n 0, 1) := by decide +kernel
theorem dX7_sumOf_1 : decode cX7_sumOf 1 = .ok (.bipush 10, 2) := by decide +kernel
theorem dX7_sumOf_3 : decode cX7_sumOf 3 = .ok (.laload, 1) := by decide +kernel
theorem dX7_sumOf_4 : decode cX7_sumOf 4 = .ok (.iload_n 2, 1) := by decide +kernel
theorem dX7_sumOf_5 : decode cX7_sumOf 5 = .ok (.ifCond .le 10, 3) := by decide +kernel
theorem dX7_sumOf_8 : decode cX7_sumOf 8 = .ok (.aload_n 1, 1) := by decide +kernel
theorem dX7_sumOf_9 : decode cX7_sumOf 9 = .ok (.bipush 10, 2) := by decide +kernel
theorem dX7_sumOf_11 : decode cX7_sumOf 11 = .ok (.laload, 1) := by decide +kernel
theorem dX7_sumOf_12 : decode cX7_sumOf 12 = .ok (.goto 8, 3) := by decide +kernel
theorem dX7_sumOf_15 : decode cX7_sumOf 15 = .ok (.aload_n 1, 1) := by decide +kernel
theorem dX7_sumOf_16 : decode cX7_sumOf 16 = .ok (.bipush 11, 2) := by decide +kernel
theorem dX7_sumOf_18 : decode cX7_sumOf 18 = .ok (.laload, 1) := by decide +kernel
theorem dX7_sumOf_19 : decode cX7_sumOf 19 = .ok (.lneg, 1) := by decide +kernel
theorem dX7_sumOf_20 : decode cX7_sumOf 20 = .ok (.ladd, 1) := by decide +kernel
theorem dX7_sumOf_21 : decode cX7_sumOf 21 = .ok (.lstore 4, 2) := by decide +kernel
theorem dX7_sumOf_23 : decode cX7_sumOf 23 = .ok (.aload_n 0, 1) := by decide +kernel
theorem dX7_sumOf_24 : decode cX7_sumOf 24 = .ok (.bipush 11, 2) := by decide +kernel
theorem dX7_sumOf_26 : decode cX7_sumOf 26 = .ok (.laload, 1) := by decide +kernel
theorem dX7_sumOf_27 : decode cX7_sumOf 27 = .ok (.iload_n 2, 1) := by decide +kernel
theorem dX7_sumOf_28 : decode cX7_sumOf 28 = .ok (.ifCond .le 10, 3) := by decide +kernel
theorem dX7_sumOf_31 : decode cX7_sumOf 31 = .ok (.aload_n 1, 1) := by decide +kernel
theorem dX7_sumOf_32 : decode cX7_sumOf 32 = .ok (.bipush 11, 2) := by decide +kernel
theorem dX7_sumOf_34 : decode cX7_sumOf 34 = .ok (.laload, 1) := by decide +kernel
theorem dX7_sumOf_35 : decode cX7_sumOf 35 = .ok (.goto 8, 3) := by decide +kernel
theorem dX7_sumOf_38 : decode cX7_sumOf 38 = .ok (.aload_n 1, 1) := by decide +kernel
theorem dX7_sumOf_39 : decode cX7_sumOf 39 = .ok (.bipush 10, 2) := by decide +kernel
theorem dX7_sumOf_41 : decode cX7_sumOf 41 = .ok (.laload, 1) := by decide +kernel
theorem dX7_sumOf_42 : decode cX7_sumOf 42 = .ok (.lneg, 1) := by decide +kernel
theorem dX7_sumOf_43 : decode cX7_sumOf 43 = .ok (.ladd, 1) := by decide +kernel
theorem dX7_sumOf_44 : decode cX7_sumOf 44 = .ok (.lstore 6, 2) := by decide +kernel
theorem dX7_sumOf_46 : decode cX7_sumOf 46 = .ok (.iconst 0, 1) := by decide +kernel
theorem dX7_sumOf_47 : decode cX7_sumOf 47 = .ok (.istore 8, 2) := by decide +kernel
theorem dX7_sumOf_49 : decode cX7_sumOf 49 = .ok (.iload 8, 2) := by decide +kernel
theorem dX7_sumOf_51 : decode cX7_sumOf 51 = .ok (.bipush 10, 2) := by decide +kernel
theorem dX7_sumOf_53 : decode cX7_sumOf 53 = .ok (.if_icmp .ge 25, 3) := by decide +kernel
theorem dX7_sumOf_56 : decode cX7_sumOf 56 = .ok (.aload_n 3, 1) := by decide +kernel
theorem dX7_sumOf_57 : decode cX7_sumOf 57 = .ok (.iload 8, 2) := by decide +kernel
theorem dX7_sumOf_59 : decode cX7_sumOf 59 = .ok (.aload_n 0, 1) := by decide +kernel
theorem dX7_sumOf_60 : decode cX7_sumOf 60 = .ok (.iload 8, 2) := by decide +kernel
theorem dX7_sumOf_62 : decode cX7_sumOf 62 = .ok (.laload, 1) := by decide +kernel
theorem dX7_sumOf_63 : decode cX7_sumOf 63 = .ok (.iload_n 2, 1) := by decide +kernel
theorem dX7_sumOf_64 : decode cX7_sumOf 64 = .ok (.i2l, 1) := by decide +kernel
theorem dX7_sumOf_65 : decode cX7_sumOf 65 = .ok (.aload_n 1, 1) := by decide +kernel
theorem dX7_sumOf_66 : decode cX7_sumOf 66 = .ok (.iload 8, 2) := by decide +kernel
theorem dX7_sumOf_68 : decode cX7_sumOf 68 = .ok (.laload, 1) := by decide +kernel
theorem dX7_sumOf_69 : decode cX7_sumOf 69 = .ok (.lmul, 1) := by decide +kernel
theorem dX7_sumOf_70 : decode cX7_sumOf 70 = .ok (.ladd, 1) := by decide +kernel
theorem dX7_sumOf_71 : decode cX7_sumOf 71 = .ok (.lastore, 1) := by decide +kernel
theorem dX7_sumOf_72 : decode cX7_sumOf 72 = .ok (.iinc 8 1, 3) := by decide +kernel
theorem dX7_sumOf_75 : decode cX7_sumOf 75 = .ok (.goto (-26), 3) := by decide +kernel
theorem dX7_sumOf_78 : decode cX7_sumOf 78 = .ok (.aload_n 3, 1) := by decide +kernel
theorem dX7_sumOf_79 : decode cX7_sumOf 79 = .ok (.bipush 10, 2) := by decide +kernel
theorem dX7_sumOf_81 : decode cX7_sumOf 81 = .ok (.lload 4, 2) := by decide +kernel
theorem dX7_sumOf_83 : decode cX7_sumOf 83 = .ok (.lastore, 1) := by decide +kernel
theorem dX7_sumOf_84 : decode cX7_sumOf 84 = .ok (.aload_n 3, 1) := by decide +kernel
theorem dX7_sumOf_85 : decode cX7_sumOf 85 = .ok (.bipush 11, 2) := by decide +kernel
theorem dX7_sumOf_87 : decode cX7_sumOf 87 = .ok (.lload 6, 2) := by decide +kernel
theorem dX7_sumOf_89 : decode cX7_sumOf 89 = .ok (.lastore, 1) := by decide +kernel
theorem dX7_sumOf_90 : decode cX7_sumOf 90 = .ok (.aload_n 3, 1) := by decide +kernel
theorem dX7_sumOf_91 : decode cX7_sumOf 91 = .ok (.invokestatic 118, 3) := by decide +kernel
theorem dX7_sumOf_94 : decode cX7_sumOf 94 = .ok (.ireturn, 1) := by decide +kernel
theorem dX7_leastProduct_0 : decode cX7_leastProduct 0 = .ok (.lload_n 0, 1) := by decide +kernel
theorem dX7_leastProduct_1 : decode cX7_leastProduct 1 = .ok (.lload 4, 2) := by decide +kernel
theorem dX7_leastProduct_3 : decode cX7_leastProduct 3 = .ok (.lmul, 1) := by decide +kernel
theorem dX7_leastProduct_4 : decode cX7_leastProduct 4 = .ok (.lload_n 0, 1) := by decide +kernel
theorem dX7_leastProduct_5 : decode cX7_leastProduct 5 = .ok (.lload 6, 2) := by decide +kernel
theorem dX7_leastProduct_7 : decode cX7_leastProduct 7 = .ok (.lmul, 1) := by decide +kernel
theorem dX7_leastProduct_8 : decode cX7_leastProduct 8 = .ok (.invokestatic 86, 3) := by decide +kernel
theorem dX7_leastProduct_11 : decode cX7_leastProduct 11 = .ok (.lload_n 2, 1) := by decide +kernel
theorem dX7_leastProduct_12 : decode cX7_leastProduct 12 = .ok (.lload 4, 2) := by decide +kernel
theorem dX7_leastProduct_14 : decode cX7_leastProduct 14 = .ok (.lmul, 1) := by decide +kernel
theorem dX7_leastProduct_15 : decode cX7_leastProduct 15 = .ok (.lload_n 2, 1) := by decide +kernel
theorem dX7_leastProduct_16 : decode cX7_leastProduct 16 = .ok (.lload 6, 2) := by decide +kernel
theorem dX7_leastProduct_18 : decode cX7_leastProduct 18 = .ok (.lmul, 1) := by decide +kernel
theorem dX7_leastProduct_19 : decode cX7_leastProduct 19 = .ok (.invokestatic 86, 3) := by decide +kernel
theorem dX7_leastProduct_22 : decode cX7_leastProduct 22 = .ok (.invokestatic 86, 3) := by decide +kernel
theorem dX7_leastProduct_25 : decode cX7_leastProduct 25 = .ok (.lreturn, 1) := by decide +kernel
theorem dX7_greatestProduct_0 : decode cX7_greatestProduct 0 = .ok (.lload_n 0, 1) := by decide +kernel
theorem dX7_greatestProduct_1 : decode cX7_greatestProduct 1 = .ok (.lload 4, 2) := by decide +kernel
theorem dX7_greatestProduct_3 : decode cX7_greatestProduct 3 = .ok (.lmul, 1) := by decide +kernel
theorem dX7_greatestProduct_4 : decode cX7_greatestProduct 4 = .ok (.lload_n 0, 1) := by decide +kernel
theorem dX7_greatestProduct_5 : decode cX7_greatestProduct 5 = .ok (.lload 6, 2) := by decide +kernel
theorem dX7_greatestProduct_7 : decode cX7_greatestProduct 7 = .ok (.lmul, 1) := by decide +kernel
theorem dX7_greatestProduct_8 : decode cX7_greatestProduct 8 = .ok (.invokestatic 122, 3) := by decide +kernel
theorem dX7_greatestProduct_11 : decode cX7_greatestProduct 11 = .ok (.lload_n 2, 1) := by decide +kernel
theorem dX7_greatestProduct_12 : decode cX7_greatestProduct 12 = .ok (.lload 4, 2) := by decide +kernel
theorem dX7_greatestProduct_14 : decode cX7_greatestProduct 14 = .ok (.lmul, 1) := by decide +kernel
theorem dX7_greatestProduct_15 : decode cX7_greatestProduct 15 = .ok (.lload_n 2, 1) := by decide +kernel
theorem dX7_greatestProduct_16 : decode cX7_greatestProduct 16 = .ok (.lload 6, 2) := by decide +kernel
theorem dX7_greatestProduct_18 : decode cX7_greatestProduct 18 = .ok (.lmul, 1) := by decide +kernel
theorem dX7_greatestProduct_19 : decode cX7_greatestProduct 19 = .ok (.invokestatic 122, 3) := by decide +kernel
theorem dX7_greatestProduct_22 : decode cX7_greatestProduct 22 = .ok (.invokestatic 122, 3) := by decide +kernel
theorem dX7_greatestProduct_25 : decode cX7_greatestProduct 25 = .ok (.lreturn, 1) := by decide +kernel
theorem dX7_layProducts_0 : decode cX7_layProducts 0 = .ok (.iconst 0, 1) := by decide +kernel
theorem dX7_layProducts_1 : decode cX7_layProducts 1 = .ok (.istore_n 3, 1) := by decide +kernel
theorem dX7_layProducts_2 : decode cX7_layProducts 2 = .ok (.iload_n 3, 1) := by decide +kernel
theorem dX7_layProducts_3 : decode cX7_layProducts 3 = .ok (.bipush 49, 2) := by decide +kernel
theorem dX7_layProducts_5 : decode cX7_layProducts 5 = .ok (.if_icmp .ge 16, 3) := by decide +kernel
theorem dX7_layProducts_8 : decode cX7_layProducts 8 = .ok (.aload_n 0, 1) := by decide +kernel
theorem dX7_layProducts_9 : decode cX7_layProducts 9 = .ok (.getfield 28, 3) := by decide +kernel
theorem dX7_layProducts_12 : decode cX7_layProducts 12 = .ok (.iload_n 3, 1) := by decide +kernel
theorem dX7_layProducts_13 : decode cX7_layProducts 13 = .ok (.lconst 0, 1) := by decide +kernel
theorem dX7_layProducts_14 : decode cX7_layProducts 14 = .ok (.lastore, 1) := by decide +kernel
theorem dX7_layProducts_15 : decode cX7_layProducts 15 = .ok (.iinc 3 1, 3) := by decide +kernel
theorem dX7_layProducts_18 : decode cX7_layProducts 18 = .ok (.goto (-16), 3) := by decide +kernel
theorem dX7_layProducts_21 : decode cX7_layProducts 21 = .ok (.iconst 0, 1) := by decide +kernel
theorem dX7_layProducts_22 : decode cX7_layProducts 22 = .ok (.istore_n 3, 1) := by decide +kernel
theorem dX7_layProducts_23 : decode cX7_layProducts 23 = .ok (.iload_n 3, 1) := by decide +kernel
theorem dX7_layProducts_24 : decode cX7_layProducts 24 = .ok (.bipush 10, 2) := by decide +kernel
theorem dX7_layProducts_26 : decode cX7_layProducts 26 = .ok (.if_icmp .ge 65, 3) := by decide +kernel
theorem dX7_layProducts_29 : decode cX7_layProducts 29 = .ok (.iconst 0, 1) := by decide +kernel
theorem dX7_layProducts_30 : decode cX7_layProducts 30 = .ok (.istore 4, 2) := by decide +kernel
theorem dX7_layProducts_32 : decode cX7_layProducts 32 = .ok (.iload 4, 2) := by decide +kernel
theorem dX7_layProducts_34 : decode cX7_layProducts 34 = .ok (.bipush 10, 2) := by decide +kernel
theorem dX7_layProducts_36 : decode cX7_layProducts 36 = .ok (.if_icmp .ge 49, 3) := by decide +kernel
theorem dX7_layProducts_39 : decode cX7_layProducts 39 = .ok (.aload_n 0, 1) := by decide +kernel
theorem dX7_layProducts_40 : decode cX7_layProducts 40 = .ok (.getfield 28, 3) := by decide +kernel
theorem dX7_layProducts_43 : decode cX7_layProducts 43 = .ok (.bipush 7, 2) := by decide +kernel
theorem dX7_layProducts_45 : decode cX7_layProducts 45 = .ok (.iload_n 3, 1) := by decide +kernel
theorem dX7_layProducts_46 : decode cX7_layProducts 46 = .ok (.invokestatic 93, 3) := by decide +kernel
theorem dX7_layProducts_49 : decode cX7_layProducts 49 = .ok (.iload 4, 2) := by decide +kernel
theorem dX7_layProducts_51 : decode cX7_layProducts 51 = .ok (.invokestatic 93, 3) := by decide +kernel
theorem dX7_layProducts_54 : decode cX7_layProducts 54 = .ok (.iadd, 1) := by decide +kernel
theorem dX7_layProducts_55 : decode cX7_layProducts 55 = .ok (.imul, 1) := by decide +kernel
theorem dX7_layProducts_56 : decode cX7_layProducts 56 = .ok (.iload_n 3, 1) := by decide +kernel
theorem dX7_layProducts_57 : decode cX7_layProducts 57 = .ok (.invokestatic 97, 3) := by decide +kernel
theorem dX7_layProducts_60 : decode cX7_layProducts 60 = .ok (.iadd, 1) := by decide +kernel
theorem dX7_layProducts_61 : decode cX7_layProducts 61 = .ok (.iload 4, 2) := by decide +kernel
theorem dX7_layProducts_63 : decode cX7_layProducts 63 = .ok (.invokestatic 97, 3) := by decide +kernel
theorem dX7_layProducts_66 : decode cX7_layProducts 66 = .ok (.iadd, 1) := by decide +kernel
theorem dX7_layProducts_67 : decode cX7_layProducts 67 = .ok (.dup2, 1) := by decide +kernel
theorem dX7_layProducts_68 : decode cX7_layProducts 68 = .ok (.laload, 1) := by decide +kernel
theorem dX7_layProducts_69 : decode cX7_layProducts 69 = .ok (.aload_n 1, 1) := by decide +kernel
theorem dX7_layProducts_70 : decode cX7_layProducts 70 = .ok (.iload_n 3, 1) := by decide +kernel
theorem dX7_layProducts_71 : decode cX7_layProducts 71 = .ok (.laload, 1) := by decide +kernel
theorem dX7_layProducts_72 : decode cX7_layProducts 72 = .ok (.aload_n 2, 1) := by decide +kernel
theorem dX7_layProducts_73 : decode cX7_layProducts 73 = .ok (.iload 4, 2) := by decide +kernel
theorem dX7_layProducts_75 : decode cX7_layProducts 75 = .ok (.laload, 1) := by decide +kernel
theorem dX7_layProducts_76 : decode cX7_layProducts 76 = .ok (.lmul, 1) := by decide +kernel
theorem dX7_layProducts_77 : decode cX7_layProducts 77 = .ok (.ladd, 1) := by decide +kernel
theorem dX7_layProducts_78 : decode cX7_layProducts 78 = .ok (.lastore, 1) := by decide +kernel
theorem dX7_layProducts_79 : decode cX7_layProducts 79 = .ok (.iinc 4 1, 3) := by decide +kernel
theorem dX7_layProducts_82 : decode cX7_layProducts 82 = .ok (.goto (-50), 3) := by decide +kernel
theorem dX7_layProducts_85 : decode cX7_layProducts 85 = .ok (.iinc 3 1, 3) := by decide +kernel
theorem dX7_layProducts_88 : decode cX7_layProducts 88 = .ok (.goto (-65), 3) := by decide +kernel
theorem dX7_layProducts_91 : decode cX7_layProducts 91 = .ok (.return_, 1) := by decide +kernel
theorem dX7_productOf_0 : decode cX7_productOf 0 = .ok (.aload_n 0, 1) := by decide +kernel
theorem dX7_productOf_1 : decode cX7_productOf 1 = .ok (.aload_n 1, 1) := by decide +kernel
theorem dX7_productOf_2 : decode cX7_productOf 2 = .ok (.aload_n 2, 1) := by decide +kernel
theorem dX7_productOf_3 : decode cX7_productOf 3 = .ok (.invokevirtual 125, 3) := by decide +kernel
theorem dX7_productOf_6 : decode cX7_productOf 6 = .ok (.aload_n 1, 1) := by decide +kernel
theorem dX7_productOf_7 : decode cX7_productOf 7 = .ok (.invokestatic 107, 3) := by decide +kernel
theorem dX7_productOf_10 : decode cX7_productOf 10 = .ok (.lstore 4, 2) := by decide +kernel
theorem dX7_productOf_12 : decode cX7_productOf 12 = .ok (.aload_n 1, 1) := by decide +kernel
theorem dX7_productOf_13 : decode cX7_productOf 13 = .ok (.invokestatic 113, 3) := by decide +kernel
theorem dX7_productOf_16 : decode cX7_productOf 16 = .ok (.lstore 6, 2) := by decide +kernel
theorem dX7_productOf_18 : decode cX7_productOf 18 = .ok (.aload_n 2, 1) := by decide +kernel
theorem dX7_productOf_19 : decode cX7_productOf 19 = .ok (.invokestatic 107, 3) := by decide +kernel
theorem dX7_productOf_22 : decode cX7_productOf 22 = .ok (.lstore 8, 2) := by decide +kernel
theorem dX7_productOf_24 : decode cX7_productOf 24 = .ok (.aload_n 2, 1) := by decide +kernel
theorem dX7_productOf_25 : decode cX7_productOf 25 = .ok (.invokestatic 113, 3) := by decide +kernel
theorem dX7_productOf_28 : decode cX7_productOf 28 = .ok (.lstore 10, 2) := by decide +kernel
theorem dX7_productOf_30 : decode cX7_productOf 30 = .ok (.lconst 0, 1) := by decide +kernel
theorem dX7_productOf_31 : decode cX7_productOf 31 = .ok (.lstore 12, 2) := by decide +kernel
theorem dX7_productOf_33 : decode cX7_productOf 33 = .ok (.lconst 0, 1) := by decide +kernel
theorem dX7_productOf_34 : decode cX7_productOf 34 = .ok (.lstore 14, 2) := by decide +kernel
theorem dX7_productOf_36 : decode cX7_productOf 36 = .ok (.aload_n 0, 1) := by decide +kernel
theorem dX7_productOf_37 : decode cX7_productOf 37 = .ok (.getfield 32, 3) := by decide +kernel
theorem dX7_productOf_40 : decode cX7_productOf 40 = .ok (.invokestatic 129, 3) := by decide +kernel
theorem dX7_productOf_43 : decode cX7_productOf 43 = .ok (.iconst 0, 1) := by decide +kernel
theorem dX7_productOf_44 : decode cX7_productOf 44 = .ok (.istore 16, 2) := by decide +kernel
theorem dX7_productOf_46 : decode cX7_productOf 46 = .ok (.iload 16, 2) := by decide +kernel
theorem dX7_productOf_48 : decode cX7_productOf 48 = .ok (.bipush 7, 2) := by decide +kernel
theorem dX7_productOf_50 : decode cX7_productOf 50 = .ok (.if_icmp .ge 160, 3) := by decide +kernel
theorem dX7_productOf_53 : decode cX7_productOf 53 = .ok (.iconst 0, 1) := by decide +kernel
theorem dX7_productOf_54 : decode cX7_productOf 54 = .ok (.istore 17, 2) := by decide +kernel
theorem dX7_productOf_56 : decode cX7_productOf 56 = .ok (.iload 16, 2) := by decide +kernel
theorem dX7_productOf_58 : decode cX7_productOf 58 = .ok (.iload 17, 2) := by decide +kernel
theorem dX7_productOf_60 : decode cX7_productOf 60 = .ok (.iadd, 1) := by decide +kernel
theorem dX7_productOf_61 : decode cX7_productOf 61 = .ok (.bipush 7, 2) := by decide +kernel
theorem dX7_productOf_63 : decode cX7_productOf 63 = .ok (.if_icmp .ge 141, 3) := by decide +kernel
theorem dX7_productOf_66 : decode cX7_productOf 66 = .ok (.aload_n 0, 1) := by decide +kernel
theorem dX7_productOf_67 : decode cX7_productOf 67 = .ok (.getfield 28, 3) := by decide +kernel
theorem dX7_productOf_70 : decode cX7_productOf 70 = .ok (.bipush 7, 2) := by decide +kernel
theorem dX7_productOf_72 : decode cX7_productOf 72 = .ok (.iload 16, 2) := by decide +kernel
theorem dX7_productOf_74 : decode cX7_productOf 74 = .ok (.imul, 1) := by decide +kernel
theorem dX7_productOf_75 : decode cX7_productOf 75 = .ok (.iload 17, 2) := by decide +kernel
theorem dX7_productOf_77 : decode cX7_productOf 77 = .ok (.iadd, 1) := by decide +kernel
theorem dX7_productOf_78 : decode cX7_productOf 78 = .ok (.laload, 1) := by decide +kernel
theorem dX7_productOf_79 : decode cX7_productOf 79 = .ok (.lstore 18, 2) := by decide +kernel
theorem dX7_productOf_81 : decode cX7_productOf 81 = .ok (.iload 16, 2) := by decide +kernel
theorem dX7_productOf_83 : decode cX7_productOf 83 = .ok (.iload 17, 2) := by decide +kernel
theorem dX7_productOf_85 : decode cX7_productOf 85 = .ok (.iadd, 1) := by decide +kernel
theorem dX7_productOf_86 : decode cX7_productOf 86 = .ok (.iconst 3, 1) := by decide +kernel
theorem dX7_productOf_87 : decode cX7_productOf 87 = .ok (.if_icmp .le 34, 3) := by decide +kernel
theorem dX7_productOf_90 : decode cX7_productOf 90 = .ok (.lload 12, 2) := by decide +kernel
theorem dX7_productOf_92 : decode cX7_productOf 92 = .ok (.lload 18, 2) := by decide +kernel
theorem dX7_productOf_94 : decode cX7_productOf 94 = .ok (.iload 16, 2) := by decide +kernel
theorem dX7_productOf_96 : decode cX7_productOf 96 = .ok (.iload 17, 2) := by decide +kernel
theorem dX7_productOf_98 : decode cX7_productOf 98 = .ok (.invokestatic 89, 3) := by decide +kernel
theorem dX7_productOf_101 : decode cX7_productOf 101 = .ok (.ladd, 1) := by decide +kernel
theorem dX7_productOf_102 : decode cX7_productOf 102 = .ok (.lstore 12, 2) := by decide +kernel
theorem dX7_productOf_104 : decode cX7_productOf 104 = .ok (.lload 14, 2) := by decide +kernel
theorem dX7_productOf_106 : decode cX7_productOf 106 = .ok (.lload 18, 2) := by decide +kernel
theorem dX7_productOf_108 : decode cX7_productOf 108 = .ok (.iload 16, 2) := by decide +kernel
theorem dX7_productOf_110 : decode cX7_productOf 110 = .ok (.iload 17, 2) := by decide +kernel
theorem dX7_productOf_112 : decode cX7_productOf 112 = .ok (.invokestatic 100, 3) := by decide +kernel
theorem dX7_productOf_115 : decode cX7_productOf 115 = .ok (.ladd, 1) := by decide +kernel
theorem dX7_productOf_116 : decode cX7_productOf 116 = .ok (.lstore 14, 2) := by decide +kernel
theorem dX7_productOf_118 : decode cX7_productOf 118 = .ok (.goto 80, 3) := by decide +kernel
theorem dX7_productOf_121 : decode cX7_productOf 121 = .ok (.aload_n 0, 1) := by decide +kernel
theorem dX7_productOf_122 : decode cX7_productOf 122 = .ok (.getfield 32, 3) := by decide +kernel
theorem dX7_productOf_125 : decode cX7_productOf 125 = .ok (.iload 16, 2) := by decide +kernel
theorem dX7_productOf_127 : decode cX7_productOf 127 = .ok (.iload 17, 2) := by decide +kernel
theorem dX7_productOf_129 : decode cX7_productOf 129 = .ok (.invokestatic 133, 3) := by decide +kernel
theorem dX7_productOf_132 : decode cX7_productOf 132 = .ok (.lload 18, 2) := by decide +kernel
theorem dX7_productOf_134 : decode cX7_productOf 134 = .ok (.ldc2_w 116, 3) := by decide +kernel
theorem dX7_productOf_137 : decode cX7_productOf 137 = .ok (.invokestatic 82, 3) := by decide +kernel
theorem dX7_productOf_140 : decode cX7_productOf 140 = .ok (.lastore, 1) := by decide +kernel
theorem dX7_productOf_141 : decode cX7_productOf 141 = .ok (.lload 18, 2) := by decide +kernel
theorem dX7_productOf_143 : decode cX7_productOf 143 = .ok (.ldc2_w 116, 3) := by decide +kernel
theorem dX7_productOf_146 : decode cX7_productOf 146 = .ok (.lrem, 1) := by decide +kernel
theorem dX7_productOf_147 : decode cX7_productOf 147 = .ok (.lconst 0, 1) := by decide +kernel
theorem dX7_productOf_148 : decode cX7_productOf 148 = .ok (.lcmp, 1) := by decide +kernel
theorem dX7_productOf_149 : decode cX7_productOf 149 = .ok (.ifCond .ne 6, 3) := by decide +kernel
theorem dX7_productOf_152 : decode cX7_productOf 152 = .ok (.goto 46, 3) := by decide +kernel
theorem dX7_productOf_155 : decode cX7_productOf 155 = .ok (.aload_n 0, 1) := by decide +kernel
theorem dX7_productOf_156 : decode cX7_productOf 156 = .ok (.getfield 32, 3) := by decide +kernel
theorem dX7_productOf_159 : decode cX7_productOf 159 = .ok (.bipush 10, 2) := by decide +kernel
theorem dX7_productOf_161 : decode cX7_productOf 161 = .ok (.dup2, 1) := by decide +kernel
theorem dX7_productOf_162 : decode cX7_productOf 162 = .ok (.laload, 1) := by decide +kernel
theorem dX7_productOf_163 : decode cX7_productOf 163 = .ok (.iload 16, 2) := by decide +kernel
theorem dX7_productOf_165 : decode cX7_productOf 165 = .ok (.ifCond .ne 12, 3) := by decide +kernel
theorem dX7_productOf_168 : decode cX7_productOf 168 = .ok (.iload 17, 2) := by decide +kernel
theorem dX7_productOf_170 : decode cX7_productOf 170 = .ok (.ifCond .ne 7, 3) := by decide +kernel
theorem dX7_productOf_173 : decode cX7_productOf 173 = .ok (.lconst 0, 1) := by decide +kernel
theorem dX7_productOf_174 : decode cX7_productOf 174 = .ok (.goto 11, 3) := by decide +kernel
theorem dX7_productOf_177 : decode cX7_productOf 177 = .ok (.lconst 1, 1) := by decide +kernel
theorem dX7_productOf_178 : decode cX7_productOf 178 = .ok (.iload 16, 2) := by decide +kernel
theorem dX7_productOf_180 : decode cX7_productOf 180 = .ok (.iload 17, 2) := by decide +kernel
theorem dX7_productOf_182 : decode cX7_productOf 182 = .ok (.invokestatic 89, 3) := by decide +kernel
theorem dX7_productOf_185 : decode cX7_productOf 185 = .ok (.ladd, 1) := by decide +kernel
theorem dX7_productOf_186 : decode cX7_productOf 186 = .ok (.lastore, 1) := by decide +kernel
theorem dX7_productOf_187 : decode cX7_productOf 187 = .ok (.aload_n 0, 1) := by decide +kernel
theorem dX7_productOf_188 : decode cX7_productOf 188 = .ok (.getfield 32, 3) := by decide +kernel
theorem dX7_productOf_191 : decode cX7_productOf 191 = .ok (.bipush 11, 2) := by decide +kernel
theorem dX7_productOf_193 : decode cX7_productOf 193 = .ok (.dup2, 1) := by decide +kernel
theorem dX7_productOf_194 : decode cX7_productOf 194 = .ok (.laload, 1) := by decide +kernel
theorem dX7_productOf_195 : decode cX7_productOf 195 = .ok (.lconst 1, 1) := by decide +kernel
theorem dX7_productOf_196 : decode cX7_productOf 196 = .ok (.ladd, 1) := by decide +kernel
theorem dX7_productOf_197 : decode cX7_productOf 197 = .ok (.lastore, 1) := by decide +kernel
theorem dX7_productOf_198 : decode cX7_productOf 198 = .ok (.iinc 17 1, 3) := by decide +kernel
theorem dX7_productOf_201 : decode cX7_productOf 201 = .ok (.goto (-145), 3) := by decide +kernel
theorem dX7_productOf_204 : decode cX7_productOf 204 = .ok (.iinc 16 1, 3) := by decide +kernel
theorem dX7_productOf_207 : decode cX7_productOf 207 = .ok (.goto (-161), 3) := by decide +kernel
theorem dX7_productOf_210 : decode cX7_productOf 210 = .ok (.lload 12, 2) := by decide +kernel
theorem dX7_productOf_212 : decode cX7_productOf 212 = .ok (.lload 4, 2) := by decide +kernel
theorem dX7_productOf_214 : decode cX7_productOf 214 = .ok (.lload 6, 2) := by decide +kernel
theorem dX7_productOf_216 : decode cX7_productOf 216 = .ok (.aload_n 2, 1) := by decide +kernel
theorem dX7_productOf_217 : decode cX7_productOf 217 = .ok (.bipush 10, 2) := by decide +kernel
theorem dX7_productOf_219 : decode cX7_productOf 219 = .ok (.laload, 1) := by decide +kernel
theorem dX7_productOf_220 : decode cX7_productOf 220 = .ok (.aload_n 2, 1) := by decide +kernel
theorem dX7_productOf_221 : decode cX7_productOf 221 = .ok (.bipush 11, 2) := by decide +kernel
theorem dX7_productOf_223 : decode cX7_productOf 223 = .ok (.laload, 1) := by decide +kernel
theorem dX7_productOf_224 : decode cX7_productOf 224 = .ok (.invokestatic 137, 3) := by decide +kernel
theorem dX7_productOf_227 : decode cX7_productOf 227 = .ok (.aload_n 1, 1) := by decide +kernel
theorem dX7_productOf_228 : decode cX7_productOf 228 = .ok (.bipush 10, 2) := by decide +kernel
theorem dX7_productOf_230 : decode cX7_productOf 230 = .ok (.laload, 1) := by decide +kernel
theorem dX7_productOf_231 : decode cX7_productOf 231 = .ok (.aload_n 1, 1) := by decide +kernel
theorem dX7_productOf_232 : decode cX7_productOf 232 = .ok (.bipush 11, 2) := by decide +kernel
theorem dX7_productOf_234 : decode cX7_productOf 234 = .ok (.laload, 1) := by decide +kernel
theorem dX7_productOf_235 : decode cX7_productOf 235 = .ok (.lload 8, 2) := by decide +kernel
theorem dX7_productOf_237 : decode cX7_productOf 237 = .ok (.lload 10, 2) := by decide +kernel
theorem dX7_productOf_239 : decode cX7_productOf 239 = .ok (.invokestatic 137, 3) := by decide +kernel
theorem dX7_productOf_242 : decode cX7_productOf 242 = .ok (.ladd, 1) := by decide +kernel
theorem dX7_productOf_243 : decode cX7_productOf 243 = .ok (.aload_n 1, 1) := by decide +kernel
theorem dX7_productOf_244 : decode cX7_productOf 244 = .ok (.bipush 10, 2) := by decide +kernel
theorem dX7_productOf_246 : decode cX7_productOf 246 = .ok (.laload, 1) := by decide +kernel
theorem dX7_productOf_247 : decode cX7_productOf 247 = .ok (.aload_n 1, 1) := by decide +kernel
theorem dX7_productOf_248 : decode cX7_productOf 248 = .ok (.bipush 11, 2) := by decide +kernel
theorem dX7_productOf_250 : decode cX7_productOf 250 = .ok (.laload, 1) := by decide +kernel
theorem dX7_productOf_251 : decode cX7_productOf 251 = .ok (.aload_n 2, 1) := by decide +kernel
theorem dX7_productOf_252 : decode cX7_productOf 252 = .ok (.bipush 10, 2) := by decide +kernel
theorem dX7_productOf_254 : decode cX7_productOf 254 = .ok (.laload, 1) := by decide +kernel
theorem dX7_productOf_255 : decode cX7_productOf 255 = .ok (.aload_n 2, 1) := by decide +kernel
theorem dX7_productOf_256 : decode cX7_productOf 256 = .ok (.bipush 11, 2) := by decide +kernel
theorem dX7_productOf_258 : decode cX7_productOf 258 = .ok (.laload, 1) := by decide +kernel
theorem dX7_productOf_259 : decode cX7_productOf 259 = .ok (.invokestatic 137, 3) := by decide +kernel
theorem dX7_productOf_262 : decode cX7_productOf 262 = .ok (.ladd, 1) := by decide +kernel
theorem dX7_productOf_263 : decode cX7_productOf 263 = .ok (.ladd, 1) := by decide +kernel
theorem dX7_productOf_264 : decode cX7_productOf 264 = .ok (.lstore 12, 2) := by decide +kernel
theorem dX7_productOf_266 : decode cX7_productOf 266 = .ok (.lload 14, 2) := by decide +kernel
theorem dX7_productOf_268 : decode cX7_productOf 268 = .ok (.lload 4, 2) := by decide +kernel
theorem dX7_productOf_270 : decode cX7_productOf 270 = .ok (.lload 6, 2) := by decide +kernel
theorem dX7_productOf_272 : decode cX7_productOf 272 = .ok (.aload_n 2, 1) := by decide +kernel
theorem dX7_productOf_273 : decode cX7_productOf 273 = .ok (.bipush 10, 2) := by decide +kernel
theorem dX7_productOf_275 : decode cX7_productOf 275 = .ok (.laload, 1) := by decide +kernel
theorem dX7_productOf_276 : decode cX7_productOf 276 = .ok (.aload_n 2, 1) := by decide +kernel
theorem dX7_productOf_277 : decode cX7_productOf 277 = .ok (.bipush 11, 2) := by decide +kernel
theorem dX7_productOf_279 : decode cX7_productOf 279 = .ok (.laload, 1) := by decide +kernel
theorem dX7_productOf_280 : decode cX7_productOf 280 = .ok (.invokestatic 141, 3) := by decide +kernel
theorem dX7_productOf_283 : decode cX7_productOf 283 = .ok (.aload_n 1, 1) := by decide +kernel
theorem dX7_productOf_284 : decode cX7_productOf 284 = .ok (.bipush 10, 2) := by decide +kernel
theorem dX7_productOf_286 : decode cX7_productOf 286 = .ok (.laload, 1) := by decide +kernel
theorem dX7_productOf_287 : decode cX7_productOf 287 = .ok (.aload_n 1, 1) := by decide +kernel
theorem dX7_productOf_288 : decode cX7_productOf 288 = .ok (.bipush 11, 2) := by decide +kernel
theorem dX7_productOf_290 : decode cX7_productOf 290 = .ok (.laload, 1) := by decide +kernel
theorem dX7_productOf_291 : decode cX7_productOf 291 = .ok (.lload 8, 2) := by decide +kernel
theorem dX7_productOf_293 : decode cX7_productOf 293 = .ok (.lload 10, 2) := by decide +kernel
theorem dX7_productOf_295 : decode cX7_productOf 295 = .ok (.invokestatic 141, 3) := by decide +kernel
theorem dX7_productOf_298 : decode cX7_productOf 298 = .ok (.ladd, 1) := by decide +kernel
theorem dX7_productOf_299 : decode cX7_productOf 299 = .ok (.aload_n 1, 1) := by decide +kernel
theorem dX7_productOf_300 : decode cX7_productOf 300 = .ok (.bipush 10, 2) := by decide +kernel
theorem dX7_productOf_302 : decode cX7_productOf 302 = .ok (.laload, 1) := by decide +kernel
theorem dX7_productOf_303 : decode cX7_productOf 303 = .ok (.aload_n 1, 1) := by decide +kernel
theorem dX7_productOf_304 : decode cX7_productOf 304 = .ok (.bipush 11, 2) := by decide +kernel
theorem dX7_productOf_306 : decode cX7_productOf 306 = .ok (.laload, 1) := by decide +kernel
theorem dX7_productOf_307 : decode cX7_productOf 307 = .ok (.aload_n 2, 1) := by decide +kernel
theorem dX7_productOf_308 : decode cX7_productOf 308 = .ok (.bipush 10, 2) := by decide +kernel
theorem dX7_productOf_310 : decode cX7_productOf 310 = .ok (.laload, 1) := by decide +kernel
theorem dX7_productOf_311 : decode cX7_productOf 311 = .ok (.aload_n 2, 1) := by decide +kernel
theorem dX7_productOf_312 : decode cX7_productOf 312 = .ok (.bipush 11, 2) := by decide +kernel
theorem dX7_productOf_314 : decode cX7_productOf 314 = .ok (.laload, 1) := by decide +kernel
theorem dX7_productOf_315 : decode cX7_productOf 315 = .ok (.invokestatic 141, 3) := by decide +kernel
theorem dX7_productOf_318 : decode cX7_productOf 318 = .ok (.ladd, 1) := by decide +kernel
theorem dX7_productOf_319 : decode cX7_productOf 319 = .ok (.ladd, 1) := by decide +kernel
theorem dX7_productOf_320 : decode cX7_productOf 320 = .ok (.lstore 14, 2) := by decide +kernel
theorem dX7_productOf_322 : decode cX7_productOf 322 = .ok (.aload_n 0, 1) := by decide +kernel
theorem dX7_productOf_323 : decode cX7_productOf 323 = .ok (.getfield 32, 3) := by decide +kernel
theorem dX7_productOf_326 : decode cX7_productOf 326 = .ok (.bipush 10, 2) := by decide +kernel
theorem dX7_productOf_328 : decode cX7_productOf 328 = .ok (.dup2, 1) := by decide +kernel
theorem dX7_productOf_329 : decode cX7_productOf 329 = .ok (.laload, 1) := by decide +kernel
theorem dX7_productOf_330 : decode cX7_productOf 330 = .ok (.lload 12, 2) := by decide +kernel
theorem dX7_productOf_332 : decode cX7_productOf 332 = .ok (.ldc2_w 116, 3) := by decide +kernel
theorem dX7_productOf_335 : decode cX7_productOf 335 = .ok (.invokestatic 82, 3) := by decide +kernel
theorem dX7_productOf_338 : decode cX7_productOf 338 = .ok (.ladd, 1) := by decide +kernel
theorem dX7_productOf_339 : decode cX7_productOf 339 = .ok (.lastore, 1) := by decide +kernel
theorem dX7_productOf_340 : decode cX7_productOf 340 = .ok (.aload_n 0, 1) := by decide +kernel
theorem dX7_productOf_341 : decode cX7_productOf 341 = .ok (.getfield 32, 3) := by decide +kernel
theorem dX7_productOf_344 : decode cX7_productOf 344 = .ok (.bipush 11, 2) := by decide +kernel
theorem dX7_productOf_346 : decode cX7_productOf 346 = .ok (.dup2, 1) := by decide +kernel
theorem dX7_productOf_347 : decode cX7_productOf 347 = .ok (.laload, 1) := by decide +kernel
theorem dX7_productOf_348 : decode cX7_productOf 348 = .ok (.lload 14, 2) := by decide +kernel
theorem dX7_productOf_350 : decode cX7_productOf 350 = .ok (.ldc2_w 116, 3) := by decide +kernel
theorem dX7_productOf_353 : decode cX7_productOf 353 = .ok (.invokestatic 144, 3) := by decide +kernel
theorem dX7_productOf_356 : decode cX7_productOf 356 = .ok (.ladd, 1) := by decide +kernel
theorem dX7_productOf_357 : decode cX7_productOf 357 = .ok (.lastore, 1) := by decide +kernel
theorem dX7_productOf_358 : decode cX7_productOf 358 = .ok (.aload_n 0, 1) := by decide +kernel
theorem dX7_productOf_359 : decode cX7_productOf 359 = .ok (.getfield 32, 3) := by decide +kernel
theorem dX7_productOf_362 : decode cX7_productOf 362 = .ok (.aload_n 3, 1) := by decide +kernel
theorem dX7_productOf_363 : decode cX7_productOf 363 = .ok (.invokestatic 147, 3) := by decide +kernel
theorem dX7_productOf_366 : decode cX7_productOf 366 = .ok (.aload_n 3, 1) := by decide +kernel
theorem dX7_productOf_367 : decode cX7_productOf 367 = .ok (.invokestatic 118, 3) := by decide +kernel
theorem dX7_productOf_370 : decode cX7_productOf 370 = .ok (.ireturn, 1) := by decide +kernel
theorem dX7_compositionOf_0 : decode cX7_compositionOf 0 = .ok (.aload_n 2, 1) := by decide +kernel
theorem dX7_compositionOf_1 : decode cX7_compositionOf 1 = .ok (.invokestatic 150, 3) := by decide +kernel
theorem dX7_compositionOf_4 : decode cX7_compositionOf 4 = .ok (.ifCond .ne 5, 3) := by decide +kernel
theorem dX7_compositionOf_7 : decode cX7_compositionOf 7 = .ok (.iconst 1, 1) := by decide +kernel
theorem dX7_compositionOf_8 : decode cX7_compositionOf 8 = .ok (.ireturn, 1) := by decide +kernel
theorem dX7_compositionOf_9 : decode cX7_compositionOf 9 = .ok (.aload_n 3, 1) := by decide +kernel
theorem dX7_compositionOf_10 : decode cX7_compositionOf 10 = .ok (.invokestatic 150, 3) := by decide +kernel
theorem dX7_compositionOf_13 : decode cX7_compositionOf 13 = .ok (.ifCond .ne 5, 3) := by decide +kernel
theorem dX7_compositionOf_16 : decode cX7_compositionOf 16 = .ok (.iconst 2, 1) := by decide +kernel
theorem dX7_compositionOf_17 : decode cX7_compositionOf 17 = .ok (.ireturn, 1) := by decide +kernel
theorem dX7_compositionOf_18 : decode cX7_compositionOf 18 = .ok (.iconst 1, 1) := by decide +kernel
theorem dX7_compositionOf_19 : decode cX7_compositionOf 19 = .ok (.istore 5, 2) := by decide +kernel
theorem dX7_compositionOf_21 : decode cX7_compositionOf 21 = .ok (.aload_n 0, 1) := by decide +kernel
theorem dX7_compositionOf_22 : decode cX7_compositionOf 22 = .ok (.getfield 35, 3) := by decide +kernel
theorem dX7_compositionOf_25 : decode cX7_compositionOf 25 = .ok (.invokestatic 129, 3) := by decide +kernel
theorem dX7_compositionOf_28 : decode cX7_compositionOf 28 = .ok (.iconst 0, 1) := by decide +kernel
theorem dX7_compositionOf_29 : decode cX7_compositionOf 29 = .ok (.istore 6, 2) := by decide +kernel
theorem dX7_compositionOf_31 : decode cX7_compositionOf 31 = .ok (.iload 6, 2) := by decide +kernel
theorem dX7_compositionOf_33 : decode cX7_compositionOf 33 = .ok (.bipush 10, 2) := by decide +kernel
theorem dX7_compositionOf_35 : decode cX7_compositionOf 35 = .ok (.if_icmp .ge 152, 3) := by decide +kernel
theorem dX7_compositionOf_38 : decode cX7_compositionOf 38 = .ok (.iload 5, 2) := by decide +kernel
theorem dX7_compositionOf_40 : decode cX7_compositionOf 40 = .ok (.ifCond .eq 147, 3) := by decide +kernel
theorem dX7_compositionOf_43 : decode cX7_compositionOf 43 = .ok (.aload_n 1, 1) := by decide +kernel
theorem dX7_compositionOf_44 : decode cX7_compositionOf 44 = .ok (.iload 6, 2) := by decide +kernel
theorem dX7_compositionOf_46 : decode cX7_compositionOf 46 = .ok (.laload, 1) := by decide +kernel
theorem dX7_compositionOf_47 : decode cX7_compositionOf 47 = .ok (.lconst 0, 1) := by decide +kernel
theorem dX7_compositionOf_48 : decode cX7_compositionOf 48 = .ok (.lcmp, 1) := by decide +kernel
theorem dX7_compositionOf_49 : decode cX7_compositionOf 49 = .ok (.ifCond .ne 6, 3) := by decide +kernel
theorem dX7_compositionOf_52 : decode cX7_compositionOf 52 = .ok (.goto 129, 3) := by decide +kernel
theorem dX7_compositionOf_55 : decode cX7_compositionOf 55 = .ok (.aload_n 0, 1) := by decide +kernel
theorem dX7_compositionOf_56 : decode cX7_compositionOf 56 = .ok (.getfield 38, 3) := by decide +kernel
theorem dX7_compositionOf_59 : decode cX7_compositionOf 59 = .ok (.invokestatic 129, 3) := by decide +kernel
theorem dX7_compositionOf_62 : decode cX7_compositionOf 62 = .ok (.aload_n 0, 1) := by decide +kernel
theorem dX7_compositionOf_63 : decode cX7_compositionOf 63 = .ok (.getfield 38, 3) := by decide +kernel
theorem dX7_compositionOf_66 : decode cX7_compositionOf 66 = .ok (.iconst 0, 1) := by decide +kernel
theorem dX7_compositionOf_67 : decode cX7_compositionOf 67 = .ok (.aload_n 1, 1) := by decide +kernel
theorem dX7_compositionOf_68 : decode cX7_compositionOf 68 = .ok (.iload 6, 2) := by decide +kernel
theorem dX7_compositionOf_70 : decode cX7_compositionOf 70 = .ok (.laload, 1) := by decide +kernel
theorem dX7_compositionOf_71 : decode cX7_compositionOf 71 = .ok (.lastore, 1) := by decide +kernel
theorem dX7_compositionOf_72 : decode cX7_compositionOf 72 = .ok (.iconst 0, 1) := by decide +kernel
theorem dX7_compositionOf_73 : decode cX7_compositionOf 73 = .ok (.istore 7, 2) := by decide +kernel
theorem dX7_compositionOf_75 : decode cX7_compositionOf 75 = .ok (.iload 7, 2) := by decide +kernel
theorem dX7_compositionOf_77 : decode cX7_compositionOf 77 = .ok (.iload 6, 2) := by decide +kernel
theorem dX7_compositionOf_79 : decode cX7_compositionOf 79 = .ok (.invokestatic 93, 3) := by decide +kernel
theorem dX7_compositionOf_82 : decode cX7_compositionOf 82 = .ok (.if_icmp .ge 29, 3) := by decide +kernel
theorem dX7_compositionOf_85 : decode cX7_compositionOf 85 = .ok (.iload 5, 2) := by decide +kernel
theorem dX7_compositionOf_87 : decode cX7_compositionOf 87 = .ok (.ifCond .eq 24, 3) := by decide +kernel
theorem dX7_compositionOf_90 : decode cX7_compositionOf 90 = .ok (.aload_n 0, 1) := by decide +kernel
theorem dX7_compositionOf_91 : decode cX7_compositionOf 91 = .ok (.aload_n 0, 1) := by decide +kernel
theorem dX7_compositionOf_92 : decode cX7_compositionOf 92 = .ok (.getfield 38, 3) := by decide +kernel
theorem dX7_compositionOf_95 : decode cX7_compositionOf 95 = .ok (.aload_n 2, 1) := by decide +kernel
theorem dX7_compositionOf_96 : decode cX7_compositionOf 96 = .ok (.aload_n 0, 1) := by decide +kernel
theorem dX7_compositionOf_97 : decode cX7_compositionOf 97 = .ok (.getfield 38, 3) := by decide +kernel
theorem dX7_compositionOf_100 : decode cX7_compositionOf 100 = .ok (.invokevirtual 153, 3) := by decide +kernel
theorem dX7_compositionOf_103 : decode cX7_compositionOf 103 = .ok (.istore 5, 2) := by decide +kernel
theorem dX7_compositionOf_105 : decode cX7_compositionOf 105 = .ok (.iinc 7 1, 3) := by decide +kernel
theorem dX7_compositionOf_108 : decode cX7_compositionOf 108 = .ok (.goto (-33), 3) := by decide +kernel
theorem dX7_compositionOf_111 : decode cX7_compositionOf 111 = .ok (.iconst 0, 1) := by decide +kernel
theorem dX7_compositionOf_112 : decode cX7_compositionOf 112 = .ok (.istore 7, 2) := by decide +kernel
theorem dX7_compositionOf_114 : decode cX7_compositionOf 114 = .ok (.iload 7, 2) := by decide +kernel
theorem dX7_compositionOf_116 : decode cX7_compositionOf 116 = .ok (.iload 6, 2) := by decide +kernel
theorem dX7_compositionOf_118 : decode cX7_compositionOf 118 = .ok (.invokestatic 97, 3) := by decide +kernel
theorem dX7_compositionOf_121 : decode cX7_compositionOf 121 = .ok (.if_icmp .ge 29, 3) := by decide +kernel
theorem dX7_compositionOf_124 : decode cX7_compositionOf 124 = .ok (.iload 5, 2) := by decide +kernel
theorem dX7_compositionOf_126 : decode cX7_compositionOf 126 = .ok (.ifCond .eq 24, 3) := by decide +kernel
theorem dX7_compositionOf_129 : decode cX7_compositionOf 129 = .ok (.aload_n 0, 1) := by decide +kernel
theorem dX7_compositionOf_130 : decode cX7_compositionOf 130 = .ok (.aload_n 0, 1) := by decide +kernel
theorem dX7_compositionOf_131 : decode cX7_compositionOf 131 = .ok (.getfield 38, 3) := by decide +kernel
theorem dX7_compositionOf_134 : decode cX7_compositionOf 134 = .ok (.aload_n 3, 1) := by decide +kernel
theorem dX7_compositionOf_135 : decode cX7_compositionOf 135 = .ok (.aload_n 0, 1) := by decide +kernel
theorem dX7_compositionOf_136 : decode cX7_compositionOf 136 = .ok (.getfield 38, 3) := by decide +kernel
theorem dX7_compositionOf_139 : decode cX7_compositionOf 139 = .ok (.invokevirtual 153, 3) := by decide +kernel
theorem dX7_compositionOf_142 : decode cX7_compositionOf 142 = .ok (.istore 5, 2) := by decide +kernel
theorem dX7_compositionOf_144 : decode cX7_compositionOf 144 = .ok (.iinc 7 1, 3) := by decide +kernel
theorem dX7_compositionOf_147 : decode cX7_compositionOf 147 = .ok (.goto (-33), 3) := by decide +kernel
theorem dX7_compositionOf_150 : decode cX7_compositionOf 150 = .ok (.iload 5, 2) := by decide +kernel
theorem dX7_compositionOf_152 : decode cX7_compositionOf 152 = .ok (.ifCond .eq 26, 3) := by decide +kernel
theorem dX7_compositionOf_155 : decode cX7_compositionOf 155 = .ok (.aload_n 0, 1) := by decide +kernel
theorem dX7_compositionOf_156 : decode cX7_compositionOf 156 = .ok (.getfield 35, 3) := by decide +kernel
theorem dX7_compositionOf_159 : decode cX7_compositionOf 159 = .ok (.aload_n 0, 1) := by decide +kernel
theorem dX7_compositionOf_160 : decode cX7_compositionOf 160 = .ok (.getfield 38, 3) := by decide +kernel
theorem dX7_compositionOf_163 : decode cX7_compositionOf 163 = .ok (.iconst 1, 1) := by decide +kernel
theorem dX7_compositionOf_164 : decode cX7_compositionOf 164 = .ok (.aload_n 0, 1) := by decide +kernel
theorem dX7_compositionOf_165 : decode cX7_compositionOf 165 = .ok (.getfield 35, 3) := by decide +kernel
theorem dX7_compositionOf_168 : decode cX7_compositionOf 168 = .ok (.invokestatic 157, 3) := by decide +kernel
theorem dX7_compositionOf_171 : decode cX7_compositionOf 171 = .ok (.ifCond .eq 7, 3) := by decide +kernel
theorem dX7_compositionOf_174 : decode cX7_compositionOf 174 = .ok (.iconst 1, 1) := by decide +kernel
theorem dX7_compositionOf_175 : decode cX7_compositionOf 175 = .ok (.goto 4, 3) := by decide +kernel
theorem dX7_compositionOf_178 : decode cX7_compositionOf 178 = .ok (.iconst 0, 1) := by decide +kernel
theorem dX7_compositionOf_179 : decode cX7_compositionOf 179 = .ok (.istore 5, 2) := by decide +kernel
theorem dX7_compositionOf_181 : decode cX7_compositionOf 181 = .ok (.iinc 6 1, 3) := by decide +kernel
theorem dX7_compositionOf_184 : decode cX7_compositionOf 184 = .ok (.goto (-153), 3) := by decide +kernel
theorem dX7_compositionOf_187 : decode cX7_compositionOf 187 = .ok (.aload_n 0, 1) := by decide +kernel
theorem dX7_compositionOf_188 : decode cX7_compositionOf 188 = .ok (.getfield 35, 3) := by decide +kernel
theorem dX7_compositionOf_191 : decode cX7_compositionOf 191 = .ok (.bipush 10, 2) := by decide +kernel
theorem dX7_compositionOf_193 : decode cX7_compositionOf 193 = .ok (.dup2, 1) := by decide +kernel
theorem dX7_compositionOf_194 : decode cX7_compositionOf 194 = .ok (.laload, 1) := by decide +kernel
theorem dX7_compositionOf_195 : decode cX7_compositionOf 195 = .ok (.aload_n 1, 1) := by decide +kernel
theorem dX7_compositionOf_196 : decode cX7_compositionOf 196 = .ok (.bipush 10, 2) := by decide +kernel
theorem dX7_compositionOf_198 : decode cX7_compositionOf 198 = .ok (.laload, 1) := by decide +kernel
theorem dX7_compositionOf_199 : decode cX7_compositionOf 199 = .ok (.ladd, 1) := by decide +kernel
theorem dX7_compositionOf_200 : decode cX7_compositionOf 200 = .ok (.lastore, 1) := by decide +kernel
theorem dX7_compositionOf_201 : decode cX7_compositionOf 201 = .ok (.aload_n 0, 1) := by decide +kernel
theorem dX7_compositionOf_202 : decode cX7_compositionOf 202 = .ok (.getfield 35, 3) := by decide +kernel
theorem dX7_compositionOf_205 : decode cX7_compositionOf 205 = .ok (.bipush 11, 2) := by decide +kernel
theorem dX7_compositionOf_207 : decode cX7_compositionOf 207 = .ok (.dup2, 1) := by decide +kernel
theorem dX7_compositionOf_208 : decode cX7_compositionOf 208 = .ok (.laload, 1) := by decide +kernel
theorem dX7_compositionOf_209 : decode cX7_compositionOf 209 = .ok (.aload_n 1, 1) := by decide +kernel
theorem dX7_compositionOf_210 : decode cX7_compositionOf 210 = .ok (.bipush 11, 2) := by decide +kernel
theorem dX7_compositionOf_212 : decode cX7_compositionOf 212 = .ok (.laload, 1) := by decide +kernel
theorem dX7_compositionOf_213 : decode cX7_compositionOf 213 = .ok (.ladd, 1) := by decide +kernel
theorem dX7_compositionOf_214 : decode cX7_compositionOf 214 = .ok (.lastore, 1) := by decide +kernel
theorem dX7_compositionOf_215 : decode cX7_compositionOf 215 = .ok (.iload 5, 2) := by decide +kernel
theorem dX7_compositionOf_217 : decode cX7_compositionOf 217 = .ok (.ifCond .eq 13, 3) := by decide +kernel
theorem dX7_compositionOf_220 : decode cX7_compositionOf 220 = .ok (.aload_n 0, 1) := by decide +kernel
theorem dX7_compositionOf_221 : decode cX7_compositionOf 221 = .ok (.getfield 35, 3) := by decide +kernel
theorem dX7_compositionOf_224 : decode cX7_compositionOf 224 = .ok (.invokestatic 118, 3) := by decide +kernel
theorem dX7_compositionOf_227 : decode cX7_compositionOf 227 = .ok (.ifCond .ne 5, 3) := by decide +kernel
theorem dX7_compositionOf_230 : decode cX7_compositionOf 230 = .ok (.iconst 3, 1) := by decide +kernel
theorem dX7_compositionOf_231 : decode cX7_compositionOf 231 = .ok (.ireturn, 1) := by decide +kernel
theorem dX7_compositionOf_232 : decode cX7_compositionOf 232 = .ok (.aload_n 0, 1) := by decide +kernel
theorem dX7_compositionOf_233 : decode cX7_compositionOf 233 = .ok (.getfield 35, 3) := by decide +kernel
theorem dX7_compositionOf_236 : decode cX7_compositionOf 236 = .ok (.aload 4, 2) := by decide +kernel
theorem dX7_compositionOf_238 : decode cX7_compositionOf 238 = .ok (.invokestatic 147, 3) := by decide +kernel
theorem dX7_compositionOf_241 : decode cX7_compositionOf 241 = .ok (.iconst 0, 1) := by decide +kernel
theorem dX7_compositionOf_242 : decode cX7_compositionOf 242 = .ok (.ireturn, 1) := by decide +kernel
theorem dX7_integralOf_0 : decode cX7_integralOf 0 = .ok (.aload_n 0, 1) := by decide +kernel
theorem dX7_integralOf_1 : decode cX7_integralOf 1 = .ok (.getfield 41, 3) := by decide +kernel
theorem dX7_integralOf_4 : decode cX7_integralOf 4 = .ok (.invokestatic 129, 3) := by decide +kernel
theorem dX7_integralOf_7 : decode cX7_integralOf 7 = .ok (.iconst 0, 1) := by decide +kernel
theorem dX7_integralOf_8 : decode cX7_integralOf 8 = .ok (.istore 4, 2) := by decide +kernel
theorem dX7_integralOf_10 : decode cX7_integralOf 10 = .ok (.iload 4, 2) := by decide +kernel
theorem dX7_integralOf_12 : decode cX7_integralOf 12 = .ok (.bipush 10, 2) := by decide +kernel
theorem dX7_integralOf_14 : decode cX7_integralOf 14 = .ok (.if_icmp .ge 182, 3) := by decide +kernel
theorem dX7_integralOf_17 : decode cX7_integralOf 17 = .ok (.iload 4, 2) := by decide +kernel
theorem dX7_integralOf_19 : decode cX7_integralOf 19 = .ok (.invokestatic 93, 3) := by decide +kernel
theorem dX7_integralOf_22 : decode cX7_integralOf 22 = .ok (.iconst 1, 1) := by decide +kernel
theorem dX7_integralOf_23 : decode cX7_integralOf 23 = .ok (.iadd, 1) := by decide +kernel
theorem dX7_integralOf_24 : decode cX7_integralOf 24 = .ok (.iload_n 2, 1) := by decide +kernel
theorem dX7_integralOf_25 : decode cX7_integralOf 25 = .ok (.isub, 1) := by decide +kernel
theorem dX7_integralOf_26 : decode cX7_integralOf 26 = .ok (.istore 5, 2) := by decide +kernel
theorem dX7_integralOf_28 : decode cX7_integralOf 28 = .ok (.iload 4, 2) := by decide +kernel
theorem dX7_integralOf_30 : decode cX7_integralOf 30 = .ok (.invokestatic 97, 3) := by decide +kernel
theorem dX7_integralOf_33 : decode cX7_integralOf 33 = .ok (.iload_n 2, 1) := by decide +kernel
theorem dX7_integralOf_34 : decode cX7_integralOf 34 = .ok (.iadd, 1) := by decide +kernel
theorem dX7_integralOf_35 : decode cX7_integralOf 35 = .ok (.istore 6, 2) := by decide +kernel
theorem dX7_integralOf_37 : decode cX7_integralOf 37 = .ok (.iload_n 2, 1) := by decide +kernel
theorem dX7_integralOf_38 : decode cX7_integralOf 38 = .ok (.ifCond .ne 8, 3) := by decide +kernel
theorem dX7_integralOf_41 : decode cX7_integralOf 41 = .ok (.iload 5, 2) := by decide +kernel
theorem dX7_integralOf_43 : decode cX7_integralOf 43 = .ok (.goto 5, 3) := by decide +kernel
theorem dX7_integralOf_46 : decode cX7_integralOf 46 = .ok (.iload 6, 2) := by decide +kernel
theorem dX7_integralOf_48 : decode cX7_integralOf 48 = .ok (.istore 7, 2) := by decide +kernel
theorem dX7_integralOf_50 : decode cX7_integralOf 50 = .ok (.iload 5, 2) := by decide +kernel
theorem dX7_integralOf_52 : decode cX7_integralOf 52 = .ok (.iload 6, 2) := by decide +kernel
theorem dX7_integralOf_54 : decode cX7_integralOf 54 = .ok (.iadd, 1) := by decide +kernel
theorem dX7_integralOf_55 : decode cX7_integralOf 55 = .ok (.iconst 3, 1) := by decide +kernel
theorem dX7_integralOf_56 : decode cX7_integralOf 56 = .ok (.if_icmp .le 60, 3) := by decide +kernel
theorem dX7_integralOf_59 : decode cX7_integralOf 59 = .ok (.aload_n 0, 1) := by decide +kernel
theorem dX7_integralOf_60 : decode cX7_integralOf 60 = .ok (.getfield 41, 3) := by decide +kernel
theorem dX7_integralOf_63 : decode cX7_integralOf 63 = .ok (.bipush 10, 2) := by decide +kernel
theorem dX7_integralOf_65 : decode cX7_integralOf 65 = .ok (.dup2, 1) := by decide +kernel
theorem dX7_integralOf_66 : decode cX7_integralOf 66 = .ok (.laload, 1) := by decide +kernel
theorem dX7_integralOf_67 : decode cX7_integralOf 67 = .ok (.aload_n 1, 1) := by decide +kernel
theorem dX7_integralOf_68 : decode cX7_integralOf 68 = .ok (.iload 4, 2) := by decide +kernel
theorem dX7_integralOf_70 : decode cX7_integralOf 70 = .ok (.laload, 1) := by decide +kernel
theorem dX7_integralOf_71 : decode cX7_integralOf 71 = .ok (.iload 5, 2) := by decide +kernel
theorem dX7_integralOf_73 : decode cX7_integralOf 73 = .ok (.iload 6, 2) := by decide +kernel
theorem dX7_integralOf_75 : decode cX7_integralOf 75 = .ok (.invokestatic 89, 3) := by decide +kernel
theorem dX7_integralOf_78 : decode cX7_integralOf 78 = .ok (.iload 7, 2) := by decide +kernel
theorem dX7_integralOf_80 : decode cX7_integralOf 80 = .ok (.i2l, 1) := by decide +kernel
theorem dX7_integralOf_81 : decode cX7_integralOf 81 = .ok (.invokestatic 82, 3) := by decide +kernel
theorem dX7_integralOf_84 : decode cX7_integralOf 84 = .ok (.ladd, 1) := by decide +kernel
theorem dX7_integralOf_85 : decode cX7_integralOf 85 = .ok (.lastore, 1) := by decide +kernel
theorem dX7_integralOf_86 : decode cX7_integralOf 86 = .ok (.aload_n 0, 1) := by decide +kernel
theorem dX7_integralOf_87 : decode cX7_integralOf 87 = .ok (.getfield 41, 3) := by decide +kernel
theorem dX7_integralOf_90 : decode cX7_integralOf 90 = .ok (.bipush 11, 2) := by decide +kernel
theorem dX7_integralOf_92 : decode cX7_integralOf 92 = .ok (.dup2, 1) := by decide +kernel
theorem dX7_integralOf_93 : decode cX7_integralOf 93 = .ok (.laload, 1) := by decide +kernel
theorem dX7_integralOf_94 : decode cX7_integralOf 94 = .ok (.aload_n 1, 1) := by decide +kernel
theorem dX7_integralOf_95 : decode cX7_integralOf 95 = .ok (.iload 4, 2) := by decide +kernel
theorem dX7_integralOf_97 : decode cX7_integralOf 97 = .ok (.laload, 1) := by decide +kernel
theorem dX7_integralOf_98 : decode cX7_integralOf 98 = .ok (.iload 5, 2) := by decide +kernel
theorem dX7_integralOf_100 : decode cX7_integralOf 100 = .ok (.iload 6, 2) := by decide +kernel
theorem dX7_integralOf_102 : decode cX7_integralOf 102 = .ok (.invokestatic 100, 3) := by decide +kernel
theorem dX7_integralOf_105 : decode cX7_integralOf 105 = .ok (.iload 7, 2) := by decide +kernel
theorem dX7_integralOf_107 : decode cX7_integralOf 107 = .ok (.i2l, 1) := by decide +kernel
theorem dX7_integralOf_108 : decode cX7_integralOf 108 = .ok (.invokestatic 144, 3) := by decide +kernel
theorem dX7_integralOf_111 : decode cX7_integralOf 111 = .ok (.ladd, 1) := by decide +kernel
theorem dX7_integralOf_112 : decode cX7_integralOf 112 = .ok (.lastore, 1) := by decide +kernel
theorem dX7_integralOf_113 : decode cX7_integralOf 113 = .ok (.goto 77, 3) := by decide +kernel
theorem dX7_integralOf_116 : decode cX7_integralOf 116 = .ok (.aload_n 0, 1) := by decide +kernel
theorem dX7_integralOf_117 : decode cX7_integralOf 117 = .ok (.getfield 41, 3) := by decide +kernel
theorem dX7_integralOf_120 : decode cX7_integralOf 120 = .ok (.iload 5, 2) := by decide +kernel
theorem dX7_integralOf_122 : decode cX7_integralOf 122 = .ok (.iload 6, 2) := by decide +kernel
theorem dX7_integralOf_124 : decode cX7_integralOf 124 = .ok (.invokestatic 133, 3) := by decide +kernel
theorem dX7_integralOf_127 : decode cX7_integralOf 127 = .ok (.aload_n 1, 1) := by decide +kernel
theorem dX7_integralOf_128 : decode cX7_integralOf 128 = .ok (.iload 4, 2) := by decide +kernel
theorem dX7_integralOf_130 : decode cX7_integralOf 130 = .ok (.laload, 1) := by decide +kernel
theorem dX7_integralOf_131 : decode cX7_integralOf 131 = .ok (.iload 7, 2) := by decide +kernel
theorem dX7_integralOf_133 : decode cX7_integralOf 133 = .ok (.i2l, 1) := by decide +kernel
theorem dX7_integralOf_134 : decode cX7_integralOf 134 = .ok (.invokestatic 82, 3) := by decide +kernel
theorem dX7_integralOf_137 : decode cX7_integralOf 137 = .ok (.lastore, 1) := by decide +kernel
theorem dX7_integralOf_138 : decode cX7_integralOf 138 = .ok (.aload_n 1, 1) := by decide +kernel
theorem dX7_integralOf_139 : decode cX7_integralOf 139 = .ok (.iload 4, 2) := by decide +kernel
theorem dX7_integralOf_141 : decode cX7_integralOf 141 = .ok (.laload, 1) := by decide +kernel
theorem dX7_integralOf_142 : decode cX7_integralOf 142 = .ok (.iload 7, 2) := by decide +kernel
theorem dX7_integralOf_144 : decode cX7_integralOf 144 = .ok (.i2l, 1) := by decide +kernel
theorem dX7_integralOf_145 : decode cX7_integralOf 145 = .ok (.lrem, 1) := by decide +kernel
theorem dX7_integralOf_146 : decode cX7_integralOf 146 = .ok (.lconst 0, 1) := by decide +kernel
theorem dX7_integralOf_147 : decode cX7_integralOf 147 = .ok (.lcmp, 1) := by decide +kernel
theorem dX7_integralOf_148 : decode cX7_integralOf 148 = .ok (.ifCond .ne 6, 3) := by decide +kernel
theorem dX7_integralOf_151 : decode cX7_integralOf 151 = .ok (.goto 39, 3) := by decide +kernel
theorem dX7_integralOf_154 : decode cX7_integralOf 154 = .ok (.aload_n 0, 1) := by decide +kernel
theorem dX7_integralOf_155 : decode cX7_integralOf 155 = .ok (.getfield 41, 3) := by decide +kernel
theorem dX7_integralOf_158 : decode cX7_integralOf 158 = .ok (.bipush 10, 2) := by decide +kernel
theorem dX7_integralOf_160 : decode cX7_integralOf 160 = .ok (.dup2, 1) := by decide +kernel
theorem dX7_integralOf_161 : decode cX7_integralOf 161 = .ok (.laload, 1) := by decide +kernel
theorem dX7_integralOf_162 : decode cX7_integralOf 162 = .ok (.lconst 1, 1) := by decide +kernel
theorem dX7_integralOf_163 : decode cX7_integralOf 163 = .ok (.iload 5, 2) := by decide +kernel
theorem dX7_integralOf_165 : decode cX7_integralOf 165 = .ok (.iload 6, 2) := by decide +kernel
theorem dX7_integralOf_167 : decode cX7_integralOf 167 = .ok (.invokestatic 89, 3) := by decide +kernel
theorem dX7_integralOf_170 : decode cX7_integralOf 170 = .ok (.ladd, 1) := by decide +kernel
theorem dX7_integralOf_171 : decode cX7_integralOf 171 = .ok (.lastore, 1) := by decide +kernel
theorem dX7_integralOf_172 : decode cX7_integralOf 172 = .ok (.aload_n 0, 1) := by decide +kernel
theorem dX7_integralOf_173 : decode cX7_integralOf 173 = .ok (.getfield 41, 3) := by decide +kernel
theorem dX7_integralOf_176 : decode cX7_integralOf 176 = .ok (.bipush 11, 2) := by decide +kernel
theorem dX7_integralOf_178 : decode cX7_integralOf 178 = .ok (.dup2, 1) := by decide +kernel
theorem dX7_integralOf_179 : decode cX7_integralOf 179 = .ok (.laload, 1) := by decide +kernel
theorem dX7_integralOf_180 : decode cX7_integralOf 180 = .ok (.lconst 1, 1) := by decide +kernel
theorem dX7_integralOf_181 : decode cX7_integralOf 181 = .ok (.iload 5, 2) := by decide +kernel
theorem dX7_integralOf_183 : decode cX7_integralOf 183 = .ok (.iload 6, 2) := by decide +kernel
theorem dX7_integralOf_185 : decode cX7_integralOf 185 = .ok (.invokestatic 100, 3) := by decide +kernel
theorem dX7_integralOf_188 : decode cX7_integralOf 188 = .ok (.ladd, 1) := by decide +kernel
theorem dX7_integralOf_189 : decode cX7_integralOf 189 = .ok (.lastore, 1) := by decide +kernel
theorem dX7_integralOf_190 : decode cX7_integralOf 190 = .ok (.iinc 4 1, 3) := by decide +kernel
theorem dX7_integralOf_193 : decode cX7_integralOf 193 = .ok (.goto (-183), 3) := by decide +kernel
theorem dX7_integralOf_196 : decode cX7_integralOf 196 = .ok (.aload_n 1, 1) := by decide +kernel
theorem dX7_integralOf_197 : decode cX7_integralOf 197 = .ok (.bipush 10, 2) := by decide +kernel
theorem dX7_integralOf_199 : decode cX7_integralOf 199 = .ok (.laload, 1) := by decide +kernel
theorem dX7_integralOf_200 : decode cX7_integralOf 200 = .ok (.aload_n 1, 1) := by decide +kernel
theorem dX7_integralOf_201 : decode cX7_integralOf 201 = .ok (.bipush 10, 2) := by decide +kernel
theorem dX7_integralOf_203 : decode cX7_integralOf 203 = .ok (.laload, 1) := by decide +kernel
theorem dX7_integralOf_204 : decode cX7_integralOf 204 = .ok (.lneg, 1) := by decide +kernel
theorem dX7_integralOf_205 : decode cX7_integralOf 205 = .ok (.invokestatic 122, 3) := by decide +kernel
theorem dX7_integralOf_208 : decode cX7_integralOf 208 = .ok (.aload_n 1, 1) := by decide +kernel
theorem dX7_integralOf_209 : decode cX7_integralOf 209 = .ok (.bipush 11, 2) := by decide +kernel
theorem dX7_integralOf_211 : decode cX7_integralOf 211 = .ok (.laload, 1) := by decide +kernel
theorem dX7_integralOf_212 : decode cX7_integralOf 212 = .ok (.aload_n 1, 1) := by decide +kernel
theorem dX7_integralOf_213 : decode cX7_integralOf 213 = .ok (.bipush 11, 2) := by decide +kernel
theorem dX7_integralOf_215 : decode cX7_integralOf 215 = .ok (.laload, 1) := by decide +kernel
theorem dX7_integralOf_216 : decode cX7_integralOf 216 = .ok (.lneg, 1) := by decide +kernel
theorem dX7_integralOf_217 : decode cX7_integralOf 217 = .ok (.invokestatic 122, 3) := by decide +kernel
theorem dX7_integralOf_220 : decode cX7_integralOf 220 = .ok (.invokestatic 122, 3) := by decide +kernel
theorem dX7_integralOf_223 : decode cX7_integralOf 223 = .ok (.lstore 4, 2) := by decide +kernel
theorem dX7_integralOf_225 : decode cX7_integralOf 225 = .ok (.aload_n 0, 1) := by decide +kernel
theorem dX7_integralOf_226 : decode cX7_integralOf 226 = .ok (.getfield 41, 3) := by decide +kernel
theorem dX7_integralOf_229 : decode cX7_integralOf 229 = .ok (.bipush 10, 2) := by decide +kernel
theorem dX7_integralOf_231 : decode cX7_integralOf 231 = .ok (.dup2, 1) := by decide +kernel
theorem dX7_integralOf_232 : decode cX7_integralOf 232 = .ok (.laload, 1) := by decide +kernel
theorem dX7_integralOf_233 : decode cX7_integralOf 233 = .ok (.lload 4, 2) := by decide +kernel
theorem dX7_integralOf_235 : decode cX7_integralOf 235 = .ok (.lsub, 1) := by decide +kernel
theorem dX7_integralOf_236 : decode cX7_integralOf 236 = .ok (.lastore, 1) := by decide +kernel
theorem dX7_integralOf_237 : decode cX7_integralOf 237 = .ok (.aload_n 0, 1) := by decide +kernel
theorem dX7_integralOf_238 : decode cX7_integralOf 238 = .ok (.getfield 41, 3) := by decide +kernel
theorem dX7_integralOf_241 : decode cX7_integralOf 241 = .ok (.bipush 11, 2) := by decide +kernel
theorem dX7_integralOf_243 : decode cX7_integralOf 243 = .ok (.dup2, 1) := by decide +kernel
theorem dX7_integralOf_244 : decode cX7_integralOf 244 = .ok (.laload, 1) := by decide +kernel
theorem dX7_integralOf_245 : decode cX7_integralOf 245 = .ok (.lload 4, 2) := by decide +kernel
theorem dX7_integralOf_247 : decode cX7_integralOf 247 = .ok (.ladd, 1) := by decide +kernel
theorem dX7_integralOf_248 : decode cX7_integralOf 248 = .ok (.lastore, 1) := by decide +kernel
theorem dX7_integralOf_249 : decode cX7_integralOf 249 = .ok (.aload_n 0, 1) := by decide +kernel
theorem dX7_integralOf_250 : decode cX7_integralOf 250 = .ok (.getfield 41, 3) := by decide +kernel
theorem dX7_integralOf_253 : decode cX7_integralOf 253 = .ok (.aload_n 3, 1) := by decide +kernel
theorem dX7_integralOf_254 : decode cX7_integralOf 254 = .ok (.invokestatic 147, 3) := by decide +kernel
theorem dX7_integralOf_257 : decode cX7_integralOf 257 = .ok (.aload_n 3, 1) := by decide +kernel
theorem dX7_integralOf_258 : decode cX7_integralOf 258 = .ok (.invokestatic 118, 3) := by decide +kernel
theorem dX7_integralOf_261 : decode cX7_integralOf 261 = .ok (.ireturn, 1) := by decide +kernel
theorem dX7_append_0 : decode cX7_append 0 = .ok (.aload_n 0, 1) := by decide +kernel
theorem dX7_append_1 : decode cX7_append 1 = .ok (.iconst 0, 1) := by decide +kernel
theorem dX7_append_2 : decode cX7_append 2 = .ok (.putfield 79, 3) := by decide +kernel
theorem dX7_append_5 : decode cX7_append 5 = .ok (.aload_n 0, 1) := by decide +kernel
theorem dX7_append_6 : decode cX7_append 6 = .ok (.getfield 161, 3) := by decide +kernel
theorem dX7_append_9 : decode cX7_append 9 = .ok (.bipush 20, 2) := by decide +kernel
theorem dX7_append_11 : decode cX7_append 11 = .ok (.iadd, 1) := by decide +kernel
theorem dX7_append_12 : decode cX7_append 12 = .ok (.sipush 700, 3) := by decide +kernel
theorem dX7_append_15 : decode cX7_append 15 = .ok (.if_icmp .le 5, 3) := by decide +kernel
theorem dX7_append_18 : decode cX7_append 18 = .ok (.iconst (-1), 1) := by decide +kernel
theorem dX7_append_19 : decode cX7_append 19 = .ok (.ireturn, 1) := by decide +kernel
theorem dX7_append_20 : decode cX7_append 20 = .ok (.iconst 0, 1) := by decide +kernel
theorem dX7_append_21 : decode cX7_append 21 = .ok (.istore 6, 2) := by decide +kernel
theorem dX7_append_23 : decode cX7_append 23 = .ok (.iload 6, 2) := by decide +kernel
theorem dX7_append_25 : decode cX7_append 25 = .ok (.bipush 20, 2) := by decide +kernel
theorem dX7_append_27 : decode cX7_append 27 = .ok (.if_icmp .ge 93, 3) := by decide +kernel
theorem dX7_append_30 : decode cX7_append 30 = .ok (.iload 6, 2) := by decide +kernel
theorem dX7_append_32 : decode cX7_append 32 = .ok (.iconst 4, 1) := by decide +kernel
theorem dX7_append_33 : decode cX7_append 33 = .ok (.if_icmp .ge 7, 3) := by decide +kernel
theorem dX7_append_36 : decode cX7_append 36 = .ok (.iload_n 1, 1) := by decide +kernel
theorem dX7_append_37 : decode cX7_append 37 = .ok (.goto 39, 3) := by decide +kernel
theorem dX7_append_40 : decode cX7_append 40 = .ok (.iload 6, 2) := by decide +kernel
theorem dX7_append_42 : decode cX7_append 42 = .ok (.bipush 8, 2) := by decide +kernel
theorem dX7_append_44 : decode cX7_append 44 = .ok (.if_icmp .ge 7, 3) := by decide +kernel
theorem dX7_append_47 : decode cX7_append 47 = .ok (.iload_n 2, 1) := by decide +kernel
theorem dX7_append_48 : decode cX7_append 48 = .ok (.goto 28, 3) := by decide +kernel
theorem dX7_append_51 : decode cX7_append 51 = .ok (.iload 6, 2) := by decide +kernel
theorem dX7_append_53 : decode cX7_append 53 = .ok (.bipush 12, 2) := by decide +kernel
theorem dX7_append_55 : decode cX7_append 55 = .ok (.if_icmp .ge 7, 3) := by decide +kernel
theorem dX7_append_58 : decode cX7_append 58 = .ok (.iload_n 3, 1) := by decide +kernel
theorem dX7_append_59 : decode cX7_append 59 = .ok (.goto 17, 3) := by decide +kernel
theorem dX7_append_62 : decode cX7_append 62 = .ok (.iload 6, 2) := by decide +kernel
theorem dX7_append_64 : decode cX7_append 64 = .ok (.bipush 16, 2) := by decide +kernel
theorem dX7_append_66 : decode cX7_append 66 = .ok (.if_icmp .ge 8, 3) := by decide +kernel
theorem dX7_append_69 : decode cX7_append 69 = .ok (.iload 4, 2) := by decide +kernel
theorem dX7_append_71 : decode cX7_append 71 = .ok (.goto 5, 3) := by decide +kernel
theorem dX7_append_74 : decode cX7_append 74 = .ok (.iload 5, 2) := by decide +kernel
theorem dX7_append_76 : decode cX7_append 76 = .ok (.istore 7, 2) := by decide +kernel
theorem dX7_append_78 : decode cX7_append 78 = .ok (.aload_n 0, 1) := by decide +kernel
theorem dX7_append_79 : decode cX7_append 79 = .ok (.getfield 9, 3) := by decide +kernel
theorem dX7_append_82 : decode cX7_append 82 = .ok (.aload_n 0, 1) := by decide +kernel
theorem dX7_append_83 : decode cX7_append 83 = .ok (.getfield 161, 3) := by decide +kernel
theorem dX7_append_86 : decode cX7_append 86 = .ok (.iload 7, 2) := by decide +kernel
theorem dX7_append_88 : decode cX7_append 88 = .ok (.bipush 24, 2) := by decide +kernel
theorem dX7_append_90 : decode cX7_append 90 = .ok (.bipush 8, 2) := by decide +kernel
theorem dX7_append_92 : decode cX7_append 92 = .ok (.iload 6, 2) := by decide +kernel
theorem dX7_append_94 : decode cX7_append 94 = .ok (.iconst 4, 1) := by decide +kernel
theorem dX7_append_95 : decode cX7_append 95 = .ok (.irem, 1) := by decide +kernel
theorem dX7_append_96 : decode cX7_append 96 = .ok (.imul, 1) := by decide +kernel
theorem dX7_append_97 : decode cX7_append 97 = .ok (.isub, 1) := by decide +kernel
theorem dX7_append_98 : decode cX7_append 98 = .ok (.ishr, 1) := by decide +kernel
theorem dX7_append_99 : decode cX7_append 99 = .ok (.sipush 255, 3) := by decide +kernel
theorem dX7_append_102 : decode cX7_append 102 = .ok (.iand, 1) := by decide +kernel
theorem dX7_append_103 : decode cX7_append 103 = .ok (.iastore, 1) := by decide +kernel
theorem dX7_append_104 : decode cX7_append 104 = .ok (.aload_n 0, 1) := by decide +kernel
theorem dX7_append_105 : decode cX7_append 105 = .ok (.dup, 1) := by decide +kernel
theorem dX7_append_106 : decode cX7_append 106 = .ok (.getfield 161, 3) := by decide +kernel
theorem dX7_append_109 : decode cX7_append 109 = .ok (.iconst 1, 1) := by decide +kernel
theorem dX7_append_110 : decode cX7_append 110 = .ok (.iadd, 1) := by decide +kernel
theorem dX7_append_111 : decode cX7_append 111 = .ok (.putfield 161, 3) := by decide +kernel
theorem dX7_append_114 : decode cX7_append 114 = .ok (.iinc 6 1, 3) := by decide +kernel
theorem dX7_append_117 : decode cX7_append 117 = .ok (.goto (-94), 3) := by decide +kernel
theorem dX7_append_120 : decode cX7_append 120 = .ok (.aload_n 0, 1) := by decide +kernel
theorem dX7_append_121 : decode cX7_append 121 = .ok (.getfield 161, 3) := by decide +kernel
theorem dX7_append_124 : decode cX7_append 124 = .ok (.ireturn, 1) := by decide +kernel
theorem dX7_byteAt_0 : decode cX7_byteAt 0 = .ok (.iload_n 1, 1) := by decide +kernel
theorem dX7_byteAt_1 : decode cX7_byteAt 1 = .ok (.aload_n 0, 1) := by decide +kernel
theorem dX7_byteAt_2 : decode cX7_byteAt 2 = .ok (.getfield 164, 3) := by decide +kernel
theorem dX7_byteAt_5 : decode cX7_byteAt 5 = .ok (.if_icmp .ge 12, 3) := by decide +kernel
theorem dX7_byteAt_8 : decode cX7_byteAt 8 = .ok (.aload_n 0, 1) := by decide +kernel
theorem dX7_byteAt_9 : decode cX7_byteAt 9 = .ok (.getfield 9, 3) := by decide +kernel
theorem dX7_byteAt_12 : decode cX7_byteAt 12 = .ok (.iload_n 1, 1) := by decide +kernel
theorem dX7_byteAt_13 : decode cX7_byteAt 13 = .ok (.iaload, 1) := by decide +kernel
theorem dX7_byteAt_14 : decode cX7_byteAt 14 = .ok (.goto 4, 3) := by decide +kernel
theorem dX7_byteAt_17 : decode cX7_byteAt 17 = .ok (.iconst (-1), 1) := by decide +kernel
theorem dX7_byteAt_18 : decode cX7_byteAt 18 = .ok (.ireturn, 1) := by decide +kernel
theorem dX7_next_0 : decode cX7_next 0 = .ok (.aload_n 0, 1) := by decide +kernel
theorem dX7_next_1 : decode cX7_next 1 = .ok (.aload_n 0, 1) := by decide +kernel
theorem dX7_next_2 : decode cX7_next 2 = .ok (.getfield 167, 3) := by decide +kernel
theorem dX7_next_5 : decode cX7_next 5 = .ok (.invokevirtual 170, 3) := by decide +kernel
theorem dX7_next_8 : decode cX7_next 8 = .ok (.bipush 32, 2) := by decide +kernel
theorem dX7_next_10 : decode cX7_next 10 = .ok (.if_icmp .ne 16, 3) := by decide +kernel
theorem dX7_next_13 : decode cX7_next 13 = .ok (.aload_n 0, 1) := by decide +kernel
theorem dX7_next_14 : decode cX7_next 14 = .ok (.dup, 1) := by decide +kernel
theorem dX7_next_15 : decode cX7_next 15 = .ok (.getfield 167, 3) := by decide +kernel
theorem dX7_next_18 : decode cX7_next 18 = .ok (.iconst 1, 1) := by decide +kernel
theorem dX7_next_19 : decode cX7_next 19 = .ok (.iadd, 1) := by decide +kernel
theorem dX7_next_20 : decode cX7_next 20 = .ok (.putfield 167, 3) := by decide +kernel
theorem dX7_next_23 : decode cX7_next 23 = .ok (.goto (-23), 3) := by decide +kernel
theorem dX7_next_26 : decode cX7_next 26 = .ok (.aload_n 0, 1) := by decide +kernel
theorem dX7_next_27 : decode cX7_next 27 = .ok (.aload_n 0, 1) := by decide +kernel
theorem dX7_next_28 : decode cX7_next 28 = .ok (.getfield 167, 3) := by decide +kernel
theorem dX7_next_31 : decode cX7_next 31 = .ok (.invokevirtual 170, 3) := by decide +kernel
theorem dX7_next_34 : decode cX7_next 34 = .ok (.ireturn, 1) := by decide +kernel
theorem dX7_isGood_0 : decode cX7_isGood 0 = .ok (.aload_n 0, 1) := by decide +kernel
theorem dX7_isGood_1 : decode cX7_isGood 1 = .ok (.getfield 173, 3) := by decide +kernel
theorem dX7_isGood_4 : decode cX7_isGood 4 = .ok (.ifCond .ne 7, 3) := by decide +kernel
theorem dX7_isGood_7 : decode cX7_isGood 7 = .ok (.iconst 1, 1) := by decide +kernel
theorem dX7_isGood_8 : decode cX7_isGood 8 = .ok (.goto 4, 3) := by decide +kernel
theorem dX7_isGood_11 : decode cX7_isGood 11 = .ok (.iconst 0, 1) := by decide +kernel
theorem dX7_isGood_12 : decode cX7_isGood 12 = .ok (.ireturn, 1) := by decide +kernel
theorem dX7_report_0 : decode cX7_report 0 = .ok (.aload_n 0, 1) := by decide +kernel
theorem dX7_report_1 : decode cX7_report 1 = .ok (.getfield 173, 3) := by decide +kernel
theorem dX7_report_4 : decode cX7_report 4 = .ok (.ifCond .eq 4, 3) := by decide +kernel
theorem dX7_report_7 : decode cX7_report 7 = .ok (.return_, 1) := by decide +kernel
theorem dX7_report_8 : decode cX7_report 8 = .ok (.aload_n 0, 1) := by decide +kernel
theorem dX7_report_9 : decode cX7_report 9 = .ok (.iload_n 1, 1) := by decide +kernel
theorem dX7_report_10 : decode cX7_report 10 = .ok (.putfield 173, 3) := by decide +kernel
theorem dX7_report_13 : decode cX7_report 13 = .ok (.aload_n 0, 1) := by decide +kernel
theorem dX7_report_14 : decode cX7_report 14 = .ok (.iload_n 2, 1) := by decide +kernel
theorem dX7_report_15 : decode cX7_report 15 = .ok (.putfield 176, 3) := by decide +kernel
theorem dX7_report_18 : decode cX7_report 18 = .ok (.return_, 1) := by decide +kernel
theorem dX7_isDigit_0 : decode cX7_isDigit 0 = .ok (.iload_n 0, 1) := by decide +kernel
theorem dX7_isDigit_1 : decode cX7_isDigit 1 = .ok (.bipush 48, 2) := by decide +kernel
theorem dX7_isDigit_3 : decode cX7_isDigit 3 = .ok (.bipush 57, 2) := by decide +kernel
theorem dX7_isDigit_5 : decode cX7_isDigit 5 = .ok (.invokestatic 179, 3) := by decide +kernel
theorem dX7_isDigit_8 : decode cX7_isDigit 8 = .ok (.ireturn, 1) := by decide +kernel
theorem dX7_takeWord_0 : decode cX7_takeWord 0 = .ok (.aload_n 0, 1) := by decide +kernel
theorem dX7_takeWord_1 : decode cX7_takeWord 1 = .ok (.invokevirtual 183, 3) := by decide +kernel
theorem dX7_takeWord_4 : decode cX7_takeWord 4 = .ok (.ifCond .ne 5, 3) := by decide +kernel
theorem dX7_takeWord_7 : decode cX7_takeWord 7 = .ok (.iconst 0, 1) := by decide +kernel
theorem dX7_takeWord_8 : decode cX7_takeWord 8 = .ok (.ireturn, 1) := by decide +kernel
theorem dX7_takeWord_9 : decode cX7_takeWord 9 = .ok (.aload_n 0, 1) := by decide +kernel
theorem dX7_takeWord_10 : decode cX7_takeWord 10 = .ok (.invokevirtual 187, 3) := by decide +kernel
theorem dX7_takeWord_13 : decode cX7_takeWord 13 = .ok (.pop, 1) := by decide +kernel
theorem dX7_takeWord_14 : decode cX7_takeWord 14 = .ok (.iconst 0, 1) := by decide +kernel
theorem dX7_takeWord_15 : decode cX7_takeWord 15 = .ok (.istore_n 2, 1) := by decide +kernel
theorem dX7_takeWord_16 : decode cX7_takeWord 16 = .ok (.iload_n 2, 1) := by decide +kernel
theorem dX7_takeWord_17 : decode cX7_takeWord 17 = .ok (.aload_n 1, 1) := by decide +kernel
theorem dX7_takeWord_18 : decode cX7_takeWord 18 = .ok (.invokevirtual 191, 3) := by decide +kernel
theorem dX7_takeWord_21 : decode cX7_takeWord 21 = .ok (.if_icmp .ge 27, 3) := by decide +kernel
theorem dX7_takeWord_24 : decode cX7_takeWord 24 = .ok (.aload_n 0, 1) := by decide +kernel
theorem dX7_takeWord_25 : decode cX7_takeWord 25 = .ok (.aload_n 0, 1) := by decide +kernel
theorem dX7_takeWord_26 : decode cX7_takeWord 26 = .ok (.getfield 167, 3) := by decide +kernel
theorem dX7_takeWord_29 : decode cX7_takeWord 29 = .ok (.iload_n 2, 1) := by decide +kernel
theorem dX7_takeWord_30 : decode cX7_takeWord 30 = .ok (.iadd, 1) := by decide +kernel
theorem dX7_takeWord_31 : decode cX7_takeWord 31 = .ok (.invokevirtual 170, 3) := by decide +kernel
theorem dX7_takeWord_34 : decode cX7_takeWord 34 = .ok (.aload_n 1, 1) := by decide +kernel
theorem dX7_takeWord_35 : decode cX7_takeWord 35 = .ok (.iload_n 2, 1) := by decide +kernel
theorem dX7_takeWord_36 : decode cX7_takeWord 36 = .ok (.invokevirtual 196, 3) := by decide +kernel
theorem dX7_takeWord_39 : decode cX7_takeWord 39 = .ok (.if_icmp .ne 9, 3) := by decide +kernel
theorem dX7_takeWord_42 : decode cX7_takeWord 42 = .ok (.iinc 2 1, 3) := by decide +kernel
theorem dX7_takeWord_45 : decode cX7_takeWord 45 = .ok (.goto (-29), 3) := by decide +kernel
theorem dX7_takeWord_48 : decode cX7_takeWord 48 = .ok (.iload_n 2, 1) := by decide +kernel
theorem dX7_takeWord_49 : decode cX7_takeWord 49 = .ok (.aload_n 1, 1) := by decide +kernel
theorem dX7_takeWord_50 : decode cX7_takeWord 50 = .ok (.invokevirtual 191, 3) := by decide +kernel
theorem dX7_takeWord_53 : decode cX7_takeWord 53 = .ok (.if_icmp .lt 23, 3) := by decide +kernel
theorem dX7_takeWord_56 : decode cX7_takeWord 56 = .ok (.aload_n 0, 1) := by decide +kernel
theorem dX7_takeWord_57 : decode cX7_takeWord 57 = .ok (.aload_n 0, 1) := by decide +kernel
theorem dX7_takeWord_58 : decode cX7_takeWord 58 = .ok (.getfield 167, 3) := by decide +kernel
theorem dX7_takeWord_61 : decode cX7_takeWord 61 = .ok (.iload_n 2, 1) := by decide +kernel
theorem dX7_takeWord_62 : decode cX7_takeWord 62 = .ok (.iadd, 1) := by decide +kernel
theorem dX7_takeWord_63 : decode cX7_takeWord 63 = .ok (.invokevirtual 170, 3) := by decide +kernel
theorem dX7_takeWord_66 : decode cX7_takeWord 66 = .ok (.bipush 97, 2) := by decide +kernel
theorem dX7_takeWord_68 : decode cX7_takeWord 68 = .ok (.bipush 122, 2) := by decide +kernel
theorem dX7_takeWord_70 : decode cX7_takeWord 70 = .ok (.invokestatic 179, 3) := by decide +kernel
theorem dX7_takeWord_73 : decode cX7_takeWord 73 = .ok (.ifCond .eq 5, 3) := by decide +kernel
theorem dX7_takeWord_76 : decode cX7_takeWord 76 = .ok (.iconst 0, 1) := by decide +kernel
theorem dX7_takeWord_77 : decode cX7_takeWord 77 = .ok (.ireturn, 1) := by decide +kernel
theorem dX7_takeWord_78 : decode cX7_takeWord 78 = .ok (.aload_n 0, 1) := by decide +kernel
theorem dX7_takeWord_79 : decode cX7_takeWord 79 = .ok (.dup, 1) := by decide +kernel
theorem dX7_takeWord_80 : decode cX7_takeWord 80 = .ok (.getfield 167, 3) := by decide +kernel
theorem dX7_takeWord_83 : decode cX7_takeWord 83 = .ok (.iload_n 2, 1) := by decide +kernel
theorem dX7_takeWord_84 : decode cX7_takeWord 84 = .ok (.iadd, 1) := by decide +kernel
theorem dX7_takeWord_85 : decode cX7_takeWord 85 = .ok (.putfield 167, 3) := by decide +kernel
theorem dX7_takeWord_88 : decode cX7_takeWord 88 = .ok (.iconst 1, 1) := by decide +kernel
theorem dX7_takeWord_89 : decode cX7_takeWord 89 = .ok (.ireturn, 1) := by decide +kernel
theorem dX7_expect_0 : decode cX7_expect 0 = .ok (.aload_n 0, 1) := by decide +kernel
theorem dX7_expect_1 : decode cX7_expect 1 = .ok (.invokevirtual 183, 3) := by decide +kernel
theorem dX7_expect_4 : decode cX7_expect 4 = .ok (.ifCond .ne 4, 3) := by decide +kernel
theorem dX7_expect_7 : decode cX7_expect 7 = .ok (.return_, 1) := by decide +kernel
theorem dX7_expect_8 : decode cX7_expect 8 = .ok (.aload_n 0, 1) := by decide +kernel
theorem dX7_expect_9 : decode cX7_expect 9 = .ok (.invokevirtual 187, 3) := by decide +kernel
theorem dX7_expect_12 : decode cX7_expect 12 = .ok (.iload_n 1, 1) := by decide +kernel
theorem dX7_expect_13 : decode cX7_expect 13 = .ok (.if_icmp .ne 16, 3) := by decide +kernel
theorem dX7_expect_16 : decode cX7_expect 16 = .ok (.aload_n 0, 1) := by decide +kernel
theorem dX7_expect_17 : decode cX7_expect 17 = .ok (.dup, 1) := by decide +kernel
theorem dX7_expect_18 : decode cX7_expect 18 = .ok (.getfield 167, 3) := by decide +kernel
theorem dX7_expect_21 : decode cX7_expect 21 = .ok (.iconst 1, 1) := by decide +kernel
theorem dX7_expect_22 : decode cX7_expect 22 = .ok (.iadd, 1) := by decide +kernel
theorem dX7_expect_23 : decode cX7_expect 23 = .ok (.putfield 167, 3) := by decide +kernel
theorem dX7_expect_26 : decode cX7_expect 26 = .ok (.goto 13, 3) := by decide +kernel
theorem dX7_expect_29 : decode cX7_expect 29 = .ok (.aload_n 0, 1) := by decide +kernel
theorem dX7_expect_30 : decode cX7_expect 30 = .ok (.bipush (-2), 2) := by decide +kernel
theorem dX7_expect_32 : decode cX7_expect 32 = .ok (.aload_n 0, 1) := by decide +kernel
theorem dX7_expect_33 : decode cX7_expect 33 = .ok (.getfield 167, 3) := by decide +kernel
theorem dX7_expect_36 : decode cX7_expect 36 = .ok (.invokevirtual 200, 3) := by decide +kernel
theorem dX7_expect_39 : decode cX7_expect 39 = .ok (.return_, 1) := by decide +kernel
theorem dX7_number_0 : decode cX7_number 0 = .ok (.aload_n 0, 1) := by decide +kernel
theorem dX7_number_1 : decode cX7_number 1 = .ok (.invokevirtual 183, 3) := by decide +kernel
theorem dX7_number_4 : decode cX7_number 4 = .ok (.ifCond .ne 5, 3) := by decide +kernel
theorem dX7_number_7 : decode cX7_number 7 = .ok (.iconst 0, 1) := by decide +kernel
theorem dX7_number_8 : decode cX7_number 8 = .ok (.ireturn, 1) := by decide +kernel
theorem dX7_number_9 : decode cX7_number 9 = .ok (.aload_n 0, 1) := by decide +kernel
theorem dX7_number_10 : decode cX7_number 10 = .ok (.invokevirtual 187, 3) := by decide +kernel
theorem dX7_number_13 : decode cX7_number 13 = .ok (.invokestatic 204, 3) := by decide +kernel
theorem dX7_number_16 : decode cX7_number 16 = .ok (.ifCond .ne 15, 3) := by decide +kernel
theorem dX7_number_19 : decode cX7_number 19 = .ok (.aload_n 0, 1) := by decide +kernel
theorem dX7_number_20 : decode cX7_number 20 = .ok (.bipush (-2), 2) := by decide +kernel
theorem dX7_number_22 : decode cX7_number 22 = .ok (.aload_n 0, 1) := by decide +kernel
theorem dX7_number_23 : decode cX7_number 23 = .ok (.getfield 167, 3) := by decide +kernel
theorem dX7_number_26 : decode cX7_number 26 = .ok (.invokevirtual 200, 3) := by decide +kernel
theorem dX7_number_29 : decode cX7_number 29 = .ok (.iconst 0, 1) := by decide +kernel
theorem dX7_number_30 : decode cX7_number 30 = .ok (.ireturn, 1) := by decide +kernel
theorem dX7_number_31 : decode cX7_number 31 = .ok (.aload_n 0, 1) := by decide +kernel
theorem dX7_number_32 : decode cX7_number 32 = .ok (.aload_n 0, 1) := by decide +kernel
theorem dX7_number_33 : decode cX7_number 33 = .ok (.getfield 167, 3) := by decide +kernel
theorem dX7_number_36 : decode cX7_number 36 = .ok (.putfield 208, 3) := by decide +kernel
theorem dX7_number_39 : decode cX7_number 39 = .ok (.iconst 0, 1) := by decide +kernel
theorem dX7_number_40 : decode cX7_number 40 = .ok (.istore_n 3, 1) := by decide +kernel
theorem dX7_number_41 : decode cX7_number 41 = .ok (.aload_n 0, 1) := by decide +kernel
theorem dX7_number_42 : decode cX7_number 42 = .ok (.aload_n 0, 1) := by decide +kernel
theorem dX7_number_43 : decode cX7_number 43 = .ok (.getfield 167, 3) := by decide +kernel
theorem dX7_number_46 : decode cX7_number 46 = .ok (.invokevirtual 170, 3) := by decide +kernel
theorem dX7_number_49 : decode cX7_number 49 = .ok (.invokestatic 204, 3) := by decide +kernel
theorem dX7_number_52 : decode cX7_number 52 = .ok (.ifCond .eq 38, 3) := by decide +kernel
theorem dX7_number_55 : decode cX7_number 55 = .ok (.ldc 211, 2) := by decide +kernel
theorem dX7_number_57 : decode cX7_number 57 = .ok (.bipush 10, 2) := by decide +kernel
theorem dX7_number_59 : decode cX7_number 59 = .ok (.iload_n 3, 1) := by decide +kernel
theorem dX7_number_60 : decode cX7_number 60 = .ok (.imul, 1) := by decide +kernel
theorem dX7_number_61 : decode cX7_number 61 = .ok (.aload_n 0, 1) := by decide +kernel
theorem dX7_number_62 : decode cX7_number 62 = .ok (.aload_n 0, 1) := by decide +kernel
theorem dX7_number_63 : decode cX7_number 63 = .ok (.getfield 167, 3) := by decide +kernel
theorem dX7_number_66 : decode cX7_number 66 = .ok (.invokevirtual 170, 3) := by decide +kernel
theorem dX7_number_69 : decode cX7_number 69 = .ok (.iadd, 1) := by decide +kernel
theorem dX7_number_70 : decode cX7_number 70 = .ok (.bipush 48, 2) := by decide +kernel
theorem dX7_number_72 : decode cX7_number 72 = .ok (.isub, 1) := by decide +kernel
theorem dX7_number_73 : decode cX7_number 73 = .ok (.invokestatic 212, 3) := by decide +kernel
theorem dX7_number_76 : decode cX7_number 76 = .ok (.istore_n 3, 1) := by decide +kernel
theorem dX7_number_77 : decode cX7_number 77 = .ok (.aload_n 0, 1) := by decide +kernel
theorem dX7_number_78 : decode cX7_number 78 = .ok (.dup, 1) := by decide +kernel
theorem dX7_number_79 : decode cX7_number 79 = .ok (.getfield 167, 3) := by decide +kernel
theorem dX7_number_82 : decode cX7_number 82 = .ok (.iconst 1, 1) := by decide +kernel
theorem dX7_number_83 : decode cX7_number 83 = .ok (.iadd, 1) := by decide +kernel
theorem dX7_number_84 : decode cX7_number 84 = .ok (.putfield 167, 3) := by decide +kernel
theorem dX7_number_87 : decode cX7_number 87 = .ok (.goto (-46), 3) := by decide +kernel
theorem dX7_number_90 : decode cX7_number 90 = .ok (.iload_n 3, 1) := by decide +kernel
theorem dX7_number_91 : decode cX7_number 91 = .ok (.iload_n 1, 1) := by decide +kernel
theorem dX7_number_92 : decode cX7_number 92 = .ok (.iload_n 2, 1) := by decide +kernel
theorem dX7_number_93 : decode cX7_number 93 = .ok (.invokestatic 179, 3) := by decide +kernel
theorem dX7_number_96 : decode cX7_number 96 = .ok (.ifCond .ne 13, 3) := by decide +kernel
theorem dX7_number_99 : decode cX7_number 99 = .ok (.aload_n 0, 1) := by decide +kernel
theorem dX7_number_100 : decode cX7_number 100 = .ok (.bipush (-3), 2) := by decide +kernel
theorem dX7_number_102 : decode cX7_number 102 = .ok (.aload_n 0, 1) := by decide +kernel
theorem dX7_number_103 : decode cX7_number 103 = .ok (.getfield 208, 3) := by decide +kernel
theorem dX7_number_106 : decode cX7_number 106 = .ok (.invokevirtual 200, 3) := by decide +kernel
theorem dX7_number_109 : decode cX7_number 109 = .ok (.iload_n 3, 1) := by decide +kernel
theorem dX7_number_110 : decode cX7_number 110 = .ok (.ireturn, 1) := by decide +kernel
theorem dX7_refuse_0 : decode cX7_refuse 0 = .ok (.aload_n 0, 1) := by decide +kernel
theorem dX7_refuse_1 : decode cX7_refuse 1 = .ok (.invokevirtual 183, 3) := by decide +kernel
theorem dX7_refuse_4 : decode cX7_refuse 4 = .ok (.ifCond .ne 4, 3) := by decide +kernel
theorem dX7_refuse_7 : decode cX7_refuse 7 = .ok (.return_, 1) := by decide +kernel
theorem dX7_refuse_8 : decode cX7_refuse 8 = .ok (.aload_n 0, 1) := by decide +kernel
theorem dX7_refuse_9 : decode cX7_refuse 9 = .ok (.invokevirtual 187, 3) := by decide +kernel
theorem dX7_refuse_12 : decode cX7_refuse 12 = .ok (.pop, 1) := by decide +kernel
theorem dX7_refuse_13 : decode cX7_refuse 13 = .ok (.iload_n 1, 1) := by decide +kernel
theorem dX7_refuse_14 : decode cX7_refuse 14 = .ok (.ifCond .ne 13, 3) := by decide +kernel
theorem dX7_refuse_17 : decode cX7_refuse 17 = .ok (.aload_n 0, 1) := by decide +kernel
theorem dX7_refuse_18 : decode cX7_refuse 18 = .ok (.bipush (-5), 2) := by decide +kernel
theorem dX7_refuse_20 : decode cX7_refuse 20 = .ok (.aload_n 0, 1) := by decide +kernel
theorem dX7_refuse_21 : decode cX7_refuse 21 = .ok (.getfield 167, 3) := by decide +kernel
theorem dX7_refuse_24 : decode cX7_refuse 24 = .ok (.invokevirtual 200, 3) := by decide +kernel
theorem dX7_refuse_27 : decode cX7_refuse 27 = .ok (.return_, 1) := by decide +kernel
theorem dX7_open_0 : decode cX7_open 0 = .ok (.aload_n 0, 1) := by decide +kernel
theorem dX7_open_1 : decode cX7_open 1 = .ok (.invokevirtual 183, 3) := by decide +kernel
theorem dX7_open_4 : decode cX7_open 4 = .ok (.ifCond .ne 4, 3) := by decide +kernel
theorem dX7_open_7 : decode cX7_open 7 = .ok (.return_, 1) := by decide +kernel
theorem dX7_open_8 : decode cX7_open 8 = .ok (.aload_n 0, 1) := by decide +kernel
theorem dX7_open_9 : decode cX7_open 9 = .ok (.invokevirtual 187, 3) := by decide +kernel
theorem dX7_open_12 : decode cX7_open 12 = .ok (.iload_n 1, 1) := by decide +kernel
theorem dX7_open_13 : decode cX7_open 13 = .ok (.if_icmp .eq 16, 3) := by decide +kernel
theorem dX7_open_16 : decode cX7_open 16 = .ok (.aload_n 0, 1) := by decide +kernel
theorem dX7_open_17 : decode cX7_open 17 = .ok (.bipush (-2), 2) := by decide +kernel
theorem dX7_open_19 : decode cX7_open 19 = .ok (.aload_n 0, 1) := by decide +kernel
theorem dX7_open_20 : decode cX7_open 20 = .ok (.getfield 167, 3) := by decide +kernel
theorem dX7_open_23 : decode cX7_open 23 = .ok (.invokevirtual 200, 3) := by decide +kernel
theorem dX7_open_26 : decode cX7_open 26 = .ok (.goto 21, 3) := by decide +kernel
theorem dX7_open_29 : decode cX7_open 29 = .ok (.aload_n 0, 1) := by decide +kernel
theorem dX7_open_30 : decode cX7_open 30 = .ok (.getfield 215, 3) := by decide +kernel
theorem dX7_open_33 : decode cX7_open 33 = .ok (.iconst 4, 1) := by decide +kernel
theorem dX7_open_34 : decode cX7_open 34 = .ok (.if_icmp .ne 13, 3) := by decide +kernel
theorem dX7_open_37 : decode cX7_open 37 = .ok (.aload_n 0, 1) := by decide +kernel
theorem dX7_open_38 : decode cX7_open 38 = .ok (.bipush (-6), 2) := by decide +kernel
theorem dX7_open_40 : decode cX7_open 40 = .ok (.aload_n 0, 1) := by decide +kernel
theorem dX7_open_41 : decode cX7_open 41 = .ok (.getfield 167, 3) := by decide +kernel
theorem dX7_open_44 : decode cX7_open 44 = .ok (.invokevirtual 200, 3) := by decide +kernel
theorem dX7_open_47 : decode cX7_open 47 = .ok (.aload_n 0, 1) := by decide +kernel
theorem dX7_open_48 : decode cX7_open 48 = .ok (.dup, 1) := by decide +kernel
theorem dX7_open_49 : decode cX7_open 49 = .ok (.getfield 167, 3) := by decide +kernel
theorem dX7_open_52 : decode cX7_open 52 = .ok (.iconst 1, 1) := by decide +kernel
theorem dX7_open_53 : decode cX7_open 53 = .ok (.iadd, 1) := by decide +kernel
theorem dX7_open_54 : decode cX7_open 54 = .ok (.putfield 167, 3) := by decide +kernel
theorem dX7_open_57 : decode cX7_open 57 = .ok (.aload_n 0, 1) := by decide +kernel
theorem dX7_open_58 : decode cX7_open 58 = .ok (.dup, 1) := by decide +kernel
theorem dX7_open_59 : decode cX7_open 59 = .ok (.getfield 215, 3) := by decide +kernel
theorem dX7_open_62 : decode cX7_open 62 = .ok (.iconst 1, 1) := by decide +kernel
theorem dX7_open_63 : decode cX7_open 63 = .ok (.iadd, 1) := by decide +kernel
theorem dX7_open_64 : decode cX7_open 64 = .ok (.putfield 215, 3) := by decide +kernel
theorem dX7_open_67 : decode cX7_open 67 = .ok (.return_, 1) := by decide +kernel
theorem dX7_close_0 : decode cX7_close 0 = .ok (.aload_n 0, 1) := by decide +kernel
theorem dX7_close_1 : decode cX7_close 1 = .ok (.iload_n 1, 1) := by decide +kernel
theorem dX7_close_2 : decode cX7_close 2 = .ok (.invokevirtual 218, 3) := by decide +kernel
theorem dX7_close_5 : decode cX7_close 5 = .ok (.aload_n 0, 1) := by decide +kernel
theorem dX7_close_6 : decode cX7_close 6 = .ok (.dup, 1) := by decide +kernel
theorem dX7_close_7 : decode cX7_close 7 = .ok (.getfield 215, 3) := by decide +kernel
theorem dX7_close_10 : decode cX7_close 10 = .ok (.iconst 1, 1) := by decide +kernel
theorem dX7_close_11 : decode cX7_close 11 = .ok (.isub, 1) := by decide +kernel
theorem dX7_close_12 : decode cX7_close 12 = .ok (.putfield 215, 3) := by decide +kernel
theorem dX7_close_15 : decode cX7_close 15 = .ok (.return_, 1) := by decide +kernel
theorem dX7_takeName_0 : decode cX7_takeName 0 = .ok (.aload_n 0, 1) := by decide +kernel
theorem dX7_takeName_1 : decode cX7_takeName 1 = .ok (.invokevirtual 187, 3) := by decide +kernel
theorem dX7_takeName_4 : decode cX7_takeName 4 = .ok (.istore_n 1, 1) := by decide +kernel
theorem dX7_takeName_5 : decode cX7_takeName 5 = .ok (.iload_n 1, 1) := by decide +kernel
theorem dX7_takeName_6 : decode cX7_takeName 6 = .ok (.bipush 97, 2) := by decide +kernel
theorem dX7_takeName_8 : decode cX7_takeName 8 = .ok (.bipush 104, 2) := by decide +kernel
theorem dX7_takeName_10 : decode cX7_takeName 10 = .ok (.invokestatic 179, 3) := by decide +kernel
theorem dX7_takeName_13 : decode cX7_takeName 13 = .ok (.ifCond .eq 23, 3) := by decide +kernel
theorem dX7_takeName_16 : decode cX7_takeName 16 = .ok (.aload_n 0, 1) := by decide +kernel
theorem dX7_takeName_17 : decode cX7_takeName 17 = .ok (.aload_n 0, 1) := by decide +kernel
theorem dX7_takeName_18 : decode cX7_takeName 18 = .ok (.getfield 167, 3) := by decide +kernel
theorem dX7_takeName_21 : decode cX7_takeName 21 = .ok (.iconst 1, 1) := by decide +kernel
theorem dX7_takeName_22 : decode cX7_takeName 22 = .ok (.iadd, 1) := by decide +kernel
theorem dX7_takeName_23 : decode cX7_takeName 23 = .ok (.invokevirtual 170, 3) := by decide +kernel
theorem dX7_takeName_26 : decode cX7_takeName 26 = .ok (.bipush 97, 2) := by decide +kernel
theorem dX7_takeName_28 : decode cX7_takeName 28 = .ok (.bipush 122, 2) := by decide +kernel
theorem dX7_takeName_30 : decode cX7_takeName 30 = .ok (.invokestatic 179, 3) := by decide +kernel
theorem dX7_takeName_33 : decode cX7_takeName 33 = .ok (.ifCond .eq 5, 3) := by decide +kernel
theorem dX7_takeName_36 : decode cX7_takeName 36 = .ok (.iconst (-1), 1) := by decide +kernel
theorem dX7_takeName_37 : decode cX7_takeName 37 = .ok (.ireturn, 1) := by decide +kernel
theorem dX7_takeName_38 : decode cX7_takeName 38 = .ok (.aload_n 0, 1) := by decide +kernel
theorem dX7_takeName_39 : decode cX7_takeName 39 = .ok (.dup, 1) := by decide +kernel
theorem dX7_takeName_40 : decode cX7_takeName 40 = .ok (.getfield 167, 3) := by decide +kernel
theorem dX7_takeName_43 : decode cX7_takeName 43 = .ok (.iconst 1, 1) := by decide +kernel
theorem dX7_takeName_44 : decode cX7_takeName 44 = .ok (.iadd, 1) := by decide +kernel
theorem dX7_takeName_45 : decode cX7_takeName 45 = .ok (.putfield 167, 3) := by decide +kernel
theorem dX7_takeName_48 : decode cX7_takeName 48 = .ok (.iload_n 1, 1) := by decide +kernel
theorem dX7_takeName_49 : decode cX7_takeName 49 = .ok (.bipush 97, 2) := by decide +kernel
theorem dX7_takeName_51 : decode cX7_takeName 51 = .ok (.isub, 1) := by decide +kernel
theorem dX7_takeName_52 : decode cX7_takeName 52 = .ok (.ireturn, 1) := by decide +kernel
theorem dX7_readNamed_0 : decode cX7_readNamed 0 = .ok (.aload_n 0, 1) := by decide +kernel
theorem dX7_readNamed_1 : decode cX7_readNamed 1 = .ok (.getfield 20, 3) := by decide +kernel
theorem dX7_readNamed_4 : decode cX7_readNamed 4 = .ok (.iload_n 3, 1) := by decide +kernel
theorem dX7_readNamed_5 : decode cX7_readNamed 5 = .ok (.invokestatic 222, 3) := by decide +kernel
theorem dX7_readNamed_8 : decode cX7_readNamed 8 = .ok (.ifCond .ne 10, 3) := by decide +kernel
theorem dX7_readNamed_11 : decode cX7_readNamed 11 = .ok (.aload_n 0, 1) := by decide +kernel
theorem dX7_readNamed_12 : decode cX7_readNamed 12 = .ok (.bipush (-4), 2) := by decide +kernel
theorem dX7_readNamed_14 : decode cX7_readNamed 14 = .ok (.iload_n 2, 1) := by decide +kernel
theorem dX7_readNamed_15 : decode cX7_readNamed 15 = .ok (.invokevirtual 200, 3) := by decide +kernel
theorem dX7_readNamed_18 : decode cX7_readNamed 18 = .ok (.aload_n 0, 1) := by decide +kernel
theorem dX7_readNamed_19 : decode cX7_readNamed 19 = .ok (.invokevirtual 183, 3) := by decide +kernel
theorem dX7_readNamed_22 : decode cX7_readNamed 22 = .ok (.ifCond .ne 4, 3) := by decide +kernel
theorem dX7_readNamed_25 : decode cX7_readNamed 25 = .ok (.return_, 1) := by decide +kernel
theorem dX7_readNamed_26 : decode cX7_readNamed 26 = .ok (.aload_n 0, 1) := by decide +kernel
theorem dX7_readNamed_27 : decode cX7_readNamed 27 = .ok (.invokevirtual 187, 3) := by decide +kernel
theorem dX7_readNamed_30 : decode cX7_readNamed 30 = .ok (.bipush 91, 2) := by decide +kernel
theorem dX7_readNamed_32 : decode cX7_readNamed 32 = .ok (.if_icmp .eq 18, 3) := by decide +kernel
theorem dX7_readNamed_35 : decode cX7_readNamed 35 = .ok (.aload_n 0, 1) := by decide +kernel
theorem dX7_readNamed_36 : decode cX7_readNamed 36 = .ok (.getfield 20, 3) := by decide +kernel
theorem dX7_readNamed_39 : decode cX7_readNamed 39 = .ok (.iload_n 3, 1) := by decide +kernel
theorem dX7_readNamed_40 : decode cX7_readNamed 40 = .ok (.aload_n 0, 1) := by decide +kernel
theorem dX7_readNamed_41 : decode cX7_readNamed 41 = .ok (.getfield 52, 3) := by decide +kernel
theorem dX7_readNamed_44 : decode cX7_readNamed 44 = .ok (.iload_n 1, 1) := by decide +kernel
theorem dX7_readNamed_45 : decode cX7_readNamed 45 = .ok (.aaload, 1) := by decide +kernel
theorem dX7_readNamed_46 : decode cX7_readNamed 46 = .ok (.invokestatic 226, 3) := by decide +kernel
theorem dX7_readNamed_49 : decode cX7_readNamed 49 = .ok (.return_, 1) := by decide +kernel
theorem dX7_readNamed_50 : decode cX7_readNamed 50 = .ok (.aload_n 0, 1) := by decide +kernel
theorem dX7_readNamed_51 : decode cX7_readNamed 51 = .ok (.bipush 91, 2) := by decide +kernel
theorem dX7_readNamed_53 : decode cX7_readNamed 53 = .ok (.invokevirtual 230, 3) := by decide +kernel
theorem dX7_readNamed_56 : decode cX7_readNamed 56 = .ok (.aload_n 0, 1) := by decide +kernel
theorem dX7_readNamed_57 : decode cX7_readNamed 57 = .ok (.iload_n 1, 1) := by decide +kernel
theorem dX7_readNamed_58 : decode cX7_readNamed 58 = .ok (.iconst 1, 1) := by decide +kernel
theorem dX7_readNamed_59 : decode cX7_readNamed 59 = .ok (.iadd, 1) := by decide +kernel
theorem dX7_readNamed_60 : decode cX7_readNamed 60 = .ok (.invokevirtual 233, 3) := by decide +kernel
theorem dX7_readNamed_63 : decode cX7_readNamed 63 = .ok (.aload_n 0, 1) := by decide +kernel
theorem dX7_readNamed_64 : decode cX7_readNamed 64 = .ok (.getfield 46, 3) := by decide +kernel
theorem dX7_readNamed_67 : decode cX7_readNamed 67 = .ok (.iload_n 1, 1) := by decide +kernel
theorem dX7_readNamed_68 : decode cX7_readNamed 68 = .ok (.iconst 1, 1) := by decide +kernel
theorem dX7_readNamed_69 : decode cX7_readNamed 69 = .ok (.iadd, 1) := by decide +kernel
theorem dX7_readNamed_70 : decode cX7_readNamed 70 = .ok (.aaload, 1) := by decide +kernel
theorem dX7_readNamed_71 : decode cX7_readNamed 71 = .ok (.aload_n 0, 1) := by decide +kernel
theorem dX7_readNamed_72 : decode cX7_readNamed 72 = .ok (.getfield 55, 3) := by decide +kernel
theorem dX7_readNamed_75 : decode cX7_readNamed 75 = .ok (.iload_n 1, 1) := by decide +kernel
theorem dX7_readNamed_76 : decode cX7_readNamed 76 = .ok (.aaload, 1) := by decide +kernel
theorem dX7_readNamed_77 : decode cX7_readNamed 77 = .ok (.invokestatic 147, 3) := by decide +kernel
theorem dX7_readNamed_80 : decode cX7_readNamed 80 = .ok (.aload_n 0, 1) := by decide +kernel
theorem dX7_readNamed_81 : decode cX7_readNamed 81 = .ok (.bipush 44, 2) := by decide +kernel
theorem dX7_readNamed_83 : decode cX7_readNamed 83 = .ok (.invokevirtual 218, 3) := by decide +kernel
theorem dX7_readNamed_86 : decode cX7_readNamed 86 = .ok (.aload_n 0, 1) := by decide +kernel
theorem dX7_readNamed_87 : decode cX7_readNamed 87 = .ok (.iload_n 1, 1) := by decide +kernel
theorem dX7_readNamed_88 : decode cX7_readNamed 88 = .ok (.iconst 1, 1) := by decide +kernel
theorem dX7_readNamed_89 : decode cX7_readNamed 89 = .ok (.iadd, 1) := by decide +kernel
theorem dX7_readNamed_90 : decode cX7_readNamed 90 = .ok (.invokevirtual 233, 3) := by decide +kernel
theorem dX7_readNamed_93 : decode cX7_readNamed 93 = .ok (.aload_n 0, 1) := by decide +kernel
theorem dX7_readNamed_94 : decode cX7_readNamed 94 = .ok (.bipush 93, 2) := by decide +kernel
theorem dX7_readNamed_96 : decode cX7_readNamed 96 = .ok (.invokevirtual 236, 3) := by decide +kernel
theorem dX7_readNamed_99 : decode cX7_readNamed 99 = .ok (.aload_n 0, 1) := by decide +kernel
theorem dX7_readNamed_100 : decode cX7_readNamed 100 = .ok (.invokevirtual 183, 3) := by decide +kernel
theorem dX7_readNamed_103 : decode cX7_readNamed 103 = .ok (.ifCond .ne 4, 3) := by decide +kernel
theorem dX7_readNamed_106 : decode cX7_readNamed 106 = .ok (.return_, 1) := by decide +kernel
theorem dX7_readNamed_107 : decode cX7_readNamed 107 = .ok (.aload_n 0, 1) := by decide +kernel
theorem dX7_readNamed_108 : decode cX7_readNamed 108 = .ok (.getfield 20, 3) := by decide +kernel
theorem dX7_readNamed_111 : decode cX7_readNamed 111 = .ok (.iload_n 3, 1) := by decide +kernel
theorem dX7_readNamed_112 : decode cX7_readNamed 112 = .ok (.aload_n 0, 1) := by decide +kernel
theorem dX7_readNamed_113 : decode cX7_readNamed 113 = .ok (.getfield 58, 3) := by decide +kernel
theorem dX7_readNamed_116 : decode cX7_readNamed 116 = .ok (.invokestatic 226, 3) := by decide +kernel
theorem dX7_readNamed_119 : decode cX7_readNamed 119 = .ok (.aload_n 0, 1) := by decide +kernel
theorem dX7_readNamed_120 : decode cX7_readNamed 120 = .ok (.aload_n 0, 1) := by decide +kernel
theorem dX7_readNamed_121 : decode cX7_readNamed 121 = .ok (.aload_n 0, 1) := by decide +kernel
theorem dX7_readNamed_122 : decode cX7_readNamed 122 = .ok (.getfield 58, 3) := by decide +kernel
theorem dX7_readNamed_125 : decode cX7_readNamed 125 = .ok (.aload_n 0, 1) := by decide +kernel
theorem dX7_readNamed_126 : decode cX7_readNamed 126 = .ok (.getfield 55, 3) := by decide +kernel
theorem dX7_readNamed_129 : decode cX7_readNamed 129 = .ok (.iload_n 1, 1) := by decide +kernel
theorem dX7_readNamed_130 : decode cX7_readNamed 130 = .ok (.aaload, 1) := by decide +kernel
theorem dX7_readNamed_131 : decode cX7_readNamed 131 = .ok (.aload_n 0, 1) := by decide +kernel
theorem dX7_readNamed_132 : decode cX7_readNamed 132 = .ok (.getfield 46, 3) := by decide +kernel
theorem dX7_readNamed_135 : decode cX7_readNamed 135 = .ok (.iload_n 1, 1) := by decide +kernel
theorem dX7_readNamed_136 : decode cX7_readNamed 136 = .ok (.iconst 1, 1) := by decide +kernel
theorem dX7_readNamed_137 : decode cX7_readNamed 137 = .ok (.iadd, 1) := by decide +kernel
theorem dX7_readNamed_138 : decode cX7_readNamed 138 = .ok (.aaload, 1) := by decide +kernel
theorem dX7_readNamed_139 : decode cX7_readNamed 139 = .ok (.aload_n 0, 1) := by decide +kernel
theorem dX7_readNamed_140 : decode cX7_readNamed 140 = .ok (.getfield 52, 3) := by decide +kernel
theorem dX7_readNamed_143 : decode cX7_readNamed 143 = .ok (.iload_n 1, 1) := by decide +kernel
theorem dX7_readNamed_144 : decode cX7_readNamed 144 = .ok (.aaload, 1) := by decide +kernel
theorem dX7_readNamed_145 : decode cX7_readNamed 145 = .ok (.invokevirtual 239, 3) := by decide +kernel
theorem dX7_readNamed_148 : decode cX7_readNamed 148 = .ok (.ifCond .ne 7, 3) := by decide +kernel
theorem dX7_readNamed_151 : decode cX7_readNamed 151 = .ok (.iconst 1, 1) := by decide +kernel
theorem dX7_readNamed_152 : decode cX7_readNamed 152 = .ok (.goto 4, 3) := by decide +kernel
theorem dX7_readNamed_155 : decode cX7_readNamed 155 = .ok (.iconst 0, 1) := by decide +kernel
theorem dX7_readNamed_156 : decode cX7_readNamed 156 = .ok (.invokevirtual 243, 3) := by decide +kernel
theorem dX7_readNamed_159 : decode cX7_readNamed 159 = .ok (.return_, 1) := by decide +kernel
theorem dX7_readIntegral_0 : decode cX7_readIntegral 0 = .ok (.aload_n 0, 1) := by decide +kernel
theorem dX7_readIntegral_1 : decode cX7_readIntegral 1 = .ok (.bipush 40, 2) := by decide +kernel
theorem dX7_readIntegral_3 : decode cX7_readIntegral 3 = .ok (.invokevirtual 230, 3) := by decide +kernel
theorem dX7_readIntegral_6 : decode cX7_readIntegral 6 = .ok (.aload_n 0, 1) := by decide +kernel
theorem dX7_readIntegral_7 : decode cX7_readIntegral 7 = .ok (.iload_n 1, 1) := by decide +kernel
theorem dX7_readIntegral_8 : decode cX7_readIntegral 8 = .ok (.iconst 1, 1) := by decide +kernel
theorem dX7_readIntegral_9 : decode cX7_readIntegral 9 = .ok (.iadd, 1) := by decide +kernel
theorem dX7_readIntegral_10 : decode cX7_readIntegral 10 = .ok (.invokevirtual 233, 3) := by decide +kernel
theorem dX7_readIntegral_13 : decode cX7_readIntegral 13 = .ok (.aload_n 0, 1) := by decide +kernel
theorem dX7_readIntegral_14 : decode cX7_readIntegral 14 = .ok (.bipush 41, 2) := by decide +kernel
theorem dX7_readIntegral_16 : decode cX7_readIntegral 16 = .ok (.invokevirtual 236, 3) := by decide +kernel
theorem dX7_readIntegral_19 : decode cX7_readIntegral 19 = .ok (.aload_n 0, 1) := by decide +kernel
theorem dX7_readIntegral_20 : decode cX7_readIntegral 20 = .ok (.invokevirtual 183, 3) := by decide +kernel
theorem dX7_readIntegral_23 : decode cX7_readIntegral 23 = .ok (.ifCond .eq 26, 3) := by decide +kernel
theorem dX7_readIntegral_26 : decode cX7_readIntegral 26 = .ok (.aload_n 0, 1) := by decide +kernel
theorem dX7_readIntegral_27 : decode cX7_readIntegral 27 = .ok (.aload_n 0, 1) := by decide +kernel
theorem dX7_readIntegral_28 : decode cX7_readIntegral 28 = .ok (.aload_n 0, 1) := by decide +kernel
theorem dX7_readIntegral_29 : decode cX7_readIntegral 29 = .ok (.getfield 46, 3) := by decide +kernel
theorem dX7_readIntegral_32 : decode cX7_readIntegral 32 = .ok (.iload_n 1, 1) := by decide +kernel
theorem dX7_readIntegral_33 : decode cX7_readIntegral 33 = .ok (.iconst 1, 1) := by decide +kernel
theorem dX7_readIntegral_34 : decode cX7_readIntegral 34 = .ok (.iadd, 1) := by decide +kernel
theorem dX7_readIntegral_35 : decode cX7_readIntegral 35 = .ok (.aaload, 1) := by decide +kernel
theorem dX7_readIntegral_36 : decode cX7_readIntegral 36 = .ok (.iload_n 2, 1) := by decide +kernel
theorem dX7_readIntegral_37 : decode cX7_readIntegral 37 = .ok (.aload_n 0, 1) := by decide +kernel
theorem dX7_readIntegral_38 : decode cX7_readIntegral 38 = .ok (.getfield 52, 3) := by decide +kernel
theorem dX7_readIntegral_41 : decode cX7_readIntegral 41 = .ok (.iload_n 1, 1) := by decide +kernel
theorem dX7_readIntegral_42 : decode cX7_readIntegral 42 = .ok (.aaload, 1) := by decide +kernel
theorem dX7_readIntegral_43 : decode cX7_readIntegral 43 = .ok (.invokevirtual 247, 3) := by decide +kernel
theorem dX7_readIntegral_46 : decode cX7_readIntegral 46 = .ok (.invokevirtual 243, 3) := by decide +kernel
theorem dX7_readIntegral_49 : decode cX7_readIntegral 49 = .ok (.return_, 1) := by decide +kernel
theorem dX7_factor_0 : decode cX7_factor 0 = .ok (.aload_n 0, 1) := by decide +kernel
theorem dX7_factor_1 : decode cX7_factor 1 = .ok (.invokevirtual 183, 3) := by decide +kernel
theorem dX7_factor_4 : decode cX7_factor 4 = .ok (.ifCond .ne 4, 3) := by decide +kernel
theorem dX7_factor_7 : decode cX7_factor 7 = .ok (.return_, 1) := by decide +kernel
theorem dX7_factor_8 : decode cX7_factor 8 = .ok (.aload_n 0, 1) := by decide +kernel
theorem dX7_factor_9 : decode cX7_factor 9 = .ok (.getfield 52, 3) := by decide +kernel
theorem dX7_factor_12 : decode cX7_factor 12 = .ok (.iload_n 1, 1) := by decide +kernel
theorem dX7_factor_13 : decode cX7_factor 13 = .ok (.aaload, 1) := by decide +kernel
theorem dX7_factor_14 : decode cX7_factor 14 = .ok (.invokestatic 129, 3) := by decide +kernel
theorem dX7_factor_17 : decode cX7_factor 17 = .ok (.aload_n 0, 1) := by decide +kernel
theorem dX7_factor_18 : decode cX7_factor 18 = .ok (.invokevirtual 187, 3) := by decide +kernel
theorem dX7_factor_21 : decode cX7_factor 21 = .ok (.istore_n 2, 1) := by decide +kernel
theorem dX7_factor_22 : decode cX7_factor 22 = .ok (.aload_n 0, 1) := by decide +kernel
theorem dX7_factor_23 : decode cX7_factor 23 = .ok (.getfield 167, 3) := by decide +kernel
theorem dX7_factor_26 : decode cX7_factor 26 = .ok (.istore_n 3, 1) := by decide +kernel
theorem dX7_factor_27 : decode cX7_factor 27 = .ok (.iload_n 2, 1) := by decide +kernel
theorem dX7_factor_28 : decode cX7_factor 28 = .ok (.invokestatic 204, 3) := by decide +kernel
theorem dX7_factor_31 : decode cX7_factor 31 = .ok (.ifCond .eq 22, 3) := by decide +kernel
theorem dX7_factor_34 : decode cX7_factor 34 = .ok (.aload_n 0, 1) := by decide +kernel
theorem dX7_factor_35 : decode cX7_factor 35 = .ok (.getfield 52, 3) := by decide +kernel
theorem dX7_factor_38 : decode cX7_factor 38 = .ok (.iload_n 1, 1) := by decide +kernel
theorem dX7_factor_39 : decode cX7_factor 39 = .ok (.aaload, 1) := by decide +kernel
theorem dX7_factor_40 : decode cX7_factor 40 = .ok (.iconst 0, 1) := by decide +kernel
theorem dX7_factor_41 : decode cX7_factor 41 = .ok (.aload_n 0, 1) := by decide +kernel
theorem dX7_factor_42 : decode cX7_factor 42 = .ok (.iconst 0, 1) := by decide +kernel
theorem dX7_factor_43 : decode cX7_factor 43 = .ok (.ldc 251, 2) := by decide +kernel
theorem dX7_factor_45 : decode cX7_factor 45 = .ok (.invokevirtual 252, 3) := by decide +kernel
theorem dX7_factor_48 : decode cX7_factor 48 = .ok (.i2l, 1) := by decide +kernel
theorem dX7_factor_49 : decode cX7_factor 49 = .ok (.lastore, 1) := by decide +kernel
theorem dX7_factor_50 : decode cX7_factor 50 = .ok (.goto 171, 3) := by decide +kernel
theorem dX7_factor_53 : decode cX7_factor 53 = .ok (.iload_n 2, 1) := by decide +kernel
theorem dX7_factor_54 : decode cX7_factor 54 = .ok (.bipush 40, 2) := by decide +kernel
theorem dX7_factor_56 : decode cX7_factor 56 = .ok (.if_icmp .ne 42, 3) := by decide +kernel
theorem dX7_factor_59 : decode cX7_factor 59 = .ok (.aload_n 0, 1) := by decide +kernel
theorem dX7_factor_60 : decode cX7_factor 60 = .ok (.bipush 40, 2) := by decide +kernel
theorem dX7_factor_62 : decode cX7_factor 62 = .ok (.invokevirtual 230, 3) := by decide +kernel
theorem dX7_factor_65 : decode cX7_factor 65 = .ok (.aload_n 0, 1) := by decide +kernel
theorem dX7_factor_66 : decode cX7_factor 66 = .ok (.iload_n 1, 1) := by decide +kernel
theorem dX7_factor_67 : decode cX7_factor 67 = .ok (.iconst 1, 1) := by decide +kernel
theorem dX7_factor_68 : decode cX7_factor 68 = .ok (.iadd, 1) := by decide +kernel
theorem dX7_factor_69 : decode cX7_factor 69 = .ok (.invokevirtual 233, 3) := by decide +kernel
theorem dX7_factor_72 : decode cX7_factor 72 = .ok (.aload_n 0, 1) := by decide +kernel
theorem dX7_factor_73 : decode cX7_factor 73 = .ok (.bipush 41, 2) := by decide +kernel
theorem dX7_factor_75 : decode cX7_factor 75 = .ok (.invokevirtual 236, 3) := by decide +kernel
theorem dX7_factor_78 : decode cX7_factor 78 = .ok (.aload_n 0, 1) := by decide +kernel
theorem dX7_factor_79 : decode cX7_factor 79 = .ok (.getfield 46, 3) := by decide +kernel
theorem dX7_factor_82 : decode cX7_factor 82 = .ok (.iload_n 1, 1) := by decide +kernel
theorem dX7_factor_83 : decode cX7_factor 83 = .ok (.iconst 1, 1) := by decide +kernel
theorem dX7_factor_84 : decode cX7_factor 84 = .ok (.iadd, 1) := by decide +kernel
theorem dX7_factor_85 : decode cX7_factor 85 = .ok (.aaload, 1) := by decide +kernel
theorem dX7_factor_86 : decode cX7_factor 86 = .ok (.aload_n 0, 1) := by decide +kernel
theorem dX7_factor_87 : decode cX7_factor 87 = .ok (.getfield 52, 3) := by decide +kernel
theorem dX7_factor_90 : decode cX7_factor 90 = .ok (.iload_n 1, 1) := by decide +kernel
theorem dX7_factor_91 : decode cX7_factor 91 = .ok (.aaload, 1) := by decide +kernel
theorem dX7_factor_92 : decode cX7_factor 92 = .ok (.invokestatic 147, 3) := by decide +kernel
theorem dX7_factor_95 : decode cX7_factor 95 = .ok (.goto 126, 3) := by decide +kernel
theorem dX7_factor_98 : decode cX7_factor 98 = .ok (.aload_n 0, 1) := by decide +kernel
theorem dX7_factor_99 : decode cX7_factor 99 = .ok (.ldc 255, 2) := by decide +kernel
theorem dX7_factor_101 : decode cX7_factor 101 = .ok (.invokevirtual 257, 3) := by decide +kernel
theorem dX7_factor_104 : decode cX7_factor 104 = .ok (.ifCond .eq 21, 3) := by decide +kernel
theorem dX7_factor_107 : decode cX7_factor 107 = .ok (.aload_n 0, 1) := by decide +kernel
theorem dX7_factor_108 : decode cX7_factor 108 = .ok (.getfield 52, 3) := by decide +kernel
theorem dX7_factor_111 : decode cX7_factor 111 = .ok (.iload_n 1, 1) := by decide +kernel
theorem dX7_factor_112 : decode cX7_factor 112 = .ok (.aaload, 1) := by decide +kernel
theorem dX7_factor_113 : decode cX7_factor 113 = .ok (.iconst 1, 1) := by decide +kernel
theorem dX7_factor_114 : decode cX7_factor 114 = .ok (.iconst 0, 1) := by decide +kernel
theorem dX7_factor_115 : decode cX7_factor 115 = .ok (.invokestatic 133, 3) := by decide +kernel
theorem dX7_factor_118 : decode cX7_factor 118 = .ok (.ldc2_w 116, 3) := by decide +kernel
theorem dX7_factor_121 : decode cX7_factor 121 = .ok (.lastore, 1) := by decide +kernel
theorem dX7_factor_122 : decode cX7_factor 122 = .ok (.goto 99, 3) := by decide +kernel
theorem dX7_factor_125 : decode cX7_factor 125 = .ok (.aload_n 0, 1) := by decide +kernel
theorem dX7_factor_126 : decode cX7_factor 126 = .ok (.ldc_w 261, 3) := by decide +kernel
theorem dX7_factor_129 : decode cX7_factor 129 = .ok (.invokevirtual 257, 3) := by decide +kernel
theorem dX7_factor_132 : decode cX7_factor 132 = .ok (.ifCond .eq 21, 3) := by decide +kernel
theorem dX7_factor_135 : decode cX7_factor 135 = .ok (.aload_n 0, 1) := by decide +kernel
theorem dX7_factor_136 : decode cX7_factor 136 = .ok (.getfield 52, 3) := by decide +kernel
theorem dX7_factor_139 : decode cX7_factor 139 = .ok (.iload_n 1, 1) := by decide +kernel
theorem dX7_factor_140 : decode cX7_factor 140 = .ok (.aaload, 1) := by decide +kernel
theorem dX7_factor_141 : decode cX7_factor 141 = .ok (.iconst 0, 1) := by decide +kernel
theorem dX7_factor_142 : decode cX7_factor 142 = .ok (.iconst 1, 1) := by decide +kernel
theorem dX7_factor_143 : decode cX7_factor 143 = .ok (.invokestatic 133, 3) := by decide +kernel
theorem dX7_factor_146 : decode cX7_factor 146 = .ok (.ldc2_w 116, 3) := by decide +kernel
theorem dX7_factor_149 : decode cX7_factor 149 = .ok (.lastore, 1) := by decide +kernel
theorem dX7_factor_150 : decode cX7_factor 150 = .ok (.goto 71, 3) := by decide +kernel
theorem dX7_factor_153 : decode cX7_factor 153 = .ok (.aload_n 0, 1) := by decide +kernel
theorem dX7_factor_154 : decode cX7_factor 154 = .ok (.ldc_w 263, 3) := by decide +kernel
theorem dX7_factor_157 : decode cX7_factor 157 = .ok (.invokevirtual 257, 3) := by decide +kernel
theorem dX7_factor_160 : decode cX7_factor 160 = .ok (.ifCond .eq 12, 3) := by decide +kernel
theorem dX7_factor_163 : decode cX7_factor 163 = .ok (.aload_n 0, 1) := by decide +kernel
theorem dX7_factor_164 : decode cX7_factor 164 = .ok (.iload_n 1, 1) := by decide +kernel
theorem dX7_factor_165 : decode cX7_factor 165 = .ok (.iconst 0, 1) := by decide +kernel
theorem dX7_factor_166 : decode cX7_factor 166 = .ok (.invokevirtual 265, 3) := by decide +kernel
theorem dX7_factor_169 : decode cX7_factor 169 = .ok (.goto 52, 3) := by decide +kernel
theorem dX7_factor_172 : decode cX7_factor 172 = .ok (.aload_n 0, 1) := by decide +kernel
theorem dX7_factor_173 : decode cX7_factor 173 = .ok (.ldc_w 268, 3) := by decide +kernel
theorem dX7_factor_176 : decode cX7_factor 176 = .ok (.invokevirtual 257, 3) := by decide +kernel
theorem dX7_factor_179 : decode cX7_factor 179 = .ok (.ifCond .eq 12, 3) := by decide +kernel
theorem dX7_factor_182 : decode cX7_factor 182 = .ok (.aload_n 0, 1) := by decide +kernel
theorem dX7_factor_183 : decode cX7_factor 183 = .ok (.iload_n 1, 1) := by decide +kernel
theorem dX7_factor_184 : decode cX7_factor 184 = .ok (.iconst 1, 1) := by decide +kernel
theorem dX7_factor_185 : decode cX7_factor 185 = .ok (.invokevirtual 265, 3) := by decide +kernel
theorem dX7_factor_188 : decode cX7_factor 188 = .ok (.goto 33, 3) := by decide +kernel
theorem dX7_factor_191 : decode cX7_factor 191 = .ok (.aload_n 0, 1) := by decide +kernel
theorem dX7_factor_192 : decode cX7_factor 192 = .ok (.invokevirtual 270, 3) := by decide +kernel
theorem dX7_factor_195 : decode cX7_factor 195 = .ok (.istore 4, 2) := by decide +kernel
theorem dX7_factor_197 : decode cX7_factor 197 = .ok (.iload 4, 2) := by decide +kernel
theorem dX7_factor_199 : decode cX7_factor 199 = .ok (.iconst (-1), 1) := by decide +kernel
theorem dX7_factor_200 : decode cX7_factor 200 = .ok (.if_icmp .ne 13, 3) := by decide +kernel
theorem dX7_factor_203 : decode cX7_factor 203 = .ok (.aload_n 0, 1) := by decide +kernel
theorem dX7_factor_204 : decode cX7_factor 204 = .ok (.bipush (-2), 2) := by decide +kernel
theorem dX7_factor_206 : decode cX7_factor 206 = .ok (.iload_n 3, 1) := by decide +kernel
theorem dX7_factor_207 : decode cX7_factor 207 = .ok (.invokevirtual 200, 3) := by decide +kernel
theorem dX7_factor_210 : decode cX7_factor 210 = .ok (.goto 11, 3) := by decide +kernel
theorem dX7_factor_213 : decode cX7_factor 213 = .ok (.aload_n 0, 1) := by decide +kernel
theorem dX7_factor_214 : decode cX7_factor 214 = .ok (.iload_n 1, 1) := by decide +kernel
theorem dX7_factor_215 : decode cX7_factor 215 = .ok (.iload_n 3, 1) := by decide +kernel
theorem dX7_factor_216 : decode cX7_factor 216 = .ok (.iload 4, 2) := by decide +kernel
theorem dX7_factor_218 : decode cX7_factor 218 = .ok (.invokevirtual 273, 3) := by decide +kernel
theorem dX7_factor_221 : decode cX7_factor 221 = .ok (.return_, 1) := by decide +kernel
theorem dX7_term_0 : decode cX7_term 0 = .ok (.aload_n 0, 1) := by decide +kernel
theorem dX7_term_1 : decode cX7_term 1 = .ok (.iload_n 1, 1) := by decide +kernel
theorem dX7_term_2 : decode cX7_term 2 = .ok (.invokevirtual 277, 3) := by decide +kernel
theorem dX7_term_5 : decode cX7_term 5 = .ok (.aload_n 0, 1) := by decide +kernel
theorem dX7_term_6 : decode cX7_term 6 = .ok (.getfield 52, 3) := by decide +kernel
theorem dX7_term_9 : decode cX7_term 9 = .ok (.iload_n 1, 1) := by decide +kernel
theorem dX7_term_10 : decode cX7_term 10 = .ok (.aaload, 1) := by decide +kernel
theorem dX7_term_11 : decode cX7_term 11 = .ok (.aload_n 0, 1) := by decide +kernel
theorem dX7_term_12 : decode cX7_term 12 = .ok (.getfield 49, 3) := by decide +kernel
theorem dX7_term_15 : decode cX7_term 15 = .ok (.iload_n 1, 1) := by decide +kernel
theorem dX7_term_16 : decode cX7_term 16 = .ok (.aaload, 1) := by decide +kernel
theorem dX7_term_17 : decode cX7_term 17 = .ok (.invokestatic 147, 3) := by decide +kernel
theorem dX7_term_20 : decode cX7_term 20 = .ok (.aload_n 0, 1) := by decide +kernel
theorem dX7_term_21 : decode cX7_term 21 = .ok (.invokevirtual 183, 3) := by decide +kernel
theorem dX7_term_24 : decode cX7_term 24 = .ok (.ifCond .eq 63, 3) := by decide +kernel
theorem dX7_term_27 : decode cX7_term 27 = .ok (.aload_n 0, 1) := by decide +kernel
theorem dX7_term_28 : decode cX7_term 28 = .ok (.invokevirtual 187, 3) := by decide +kernel
theorem dX7_term_31 : decode cX7_term 31 = .ok (.bipush 42, 2) := by decide +kernel
theorem dX7_term_33 : decode cX7_term 33 = .ok (.if_icmp .ne 54, 3) := by decide +kernel
theorem dX7_term_36 : decode cX7_term 36 = .ok (.aload_n 0, 1) := by decide +kernel
theorem dX7_term_37 : decode cX7_term 37 = .ok (.dup, 1) := by decide +kernel
theorem dX7_term_38 : decode cX7_term 38 = .ok (.getfield 167, 3) := by decide +kernel
theorem dX7_term_41 : decode cX7_term 41 = .ok (.iconst 1, 1) := by decide +kernel
theorem dX7_term_42 : decode cX7_term 42 = .ok (.iadd, 1) := by decide +kernel
theorem dX7_term_43 : decode cX7_term 43 = .ok (.putfield 167, 3) := by decide +kernel
theorem dX7_term_46 : decode cX7_term 46 = .ok (.aload_n 0, 1) := by decide +kernel
theorem dX7_term_47 : decode cX7_term 47 = .ok (.iload_n 1, 1) := by decide +kernel
theorem dX7_term_48 : decode cX7_term 48 = .ok (.invokevirtual 277, 3) := by decide +kernel
theorem dX7_term_51 : decode cX7_term 51 = .ok (.aload_n 0, 1) := by decide +kernel
theorem dX7_term_52 : decode cX7_term 52 = .ok (.invokevirtual 183, 3) := by decide +kernel
theorem dX7_term_55 : decode cX7_term 55 = .ok (.ifCond .eq (-35), 3) := by decide +kernel
theorem dX7_term_58 : decode cX7_term 58 = .ok (.aload_n 0, 1) := by decide +kernel
theorem dX7_term_59 : decode cX7_term 59 = .ok (.aload_n 0, 1) := by decide +kernel
theorem dX7_term_60 : decode cX7_term 60 = .ok (.aload_n 0, 1) := by decide +kernel
theorem dX7_term_61 : decode cX7_term 61 = .ok (.getfield 49, 3) := by decide +kernel
theorem dX7_term_64 : decode cX7_term 64 = .ok (.iload_n 1, 1) := by decide +kernel
theorem dX7_term_65 : decode cX7_term 65 = .ok (.aaload, 1) := by decide +kernel
theorem dX7_term_66 : decode cX7_term 66 = .ok (.aload_n 0, 1) := by decide +kernel
theorem dX7_term_67 : decode cX7_term 67 = .ok (.getfield 52, 3) := by decide +kernel
theorem dX7_term_70 : decode cX7_term 70 = .ok (.iload_n 1, 1) := by decide +kernel
theorem dX7_term_71 : decode cX7_term 71 = .ok (.aaload, 1) := by decide +kernel
theorem dX7_term_72 : decode cX7_term 72 = .ok (.aload_n 0, 1) := by decide +kernel
theorem dX7_term_73 : decode cX7_term 73 = .ok (.getfield 49, 3) := by decide +kernel
theorem dX7_term_76 : decode cX7_term 76 = .ok (.iload_n 1, 1) := by decide +kernel
theorem dX7_term_77 : decode cX7_term 77 = .ok (.aaload, 1) := by decide +kernel
theorem dX7_term_78 : decode cX7_term 78 = .ok (.invokevirtual 153, 3) := by decide +kernel
theorem dX7_term_81 : decode cX7_term 81 = .ok (.invokevirtual 243, 3) := by decide +kernel
theorem dX7_term_84 : decode cX7_term 84 = .ok (.goto (-64), 3) := by decide +kernel
theorem dX7_term_87 : decode cX7_term 87 = .ok (.return_, 1) := by decide +kernel
theorem dX7_sum_0 : decode cX7_sum 0 = .ok (.aload_n 0, 1) := by decide +kernel
theorem dX7_sum_1 : decode cX7_sum 1 = .ok (.invokevirtual 183, 3) := by decide +kernel
theorem dX7_sum_4 : decode cX7_sum 4 = .ok (.ifCond .ne 4, 3) := by decide +kernel
theorem dX7_sum_7 : decode cX7_sum 7 = .ok (.return_, 1) := by decide +kernel
theorem dX7_sum_8 : decode cX7_sum 8 = .ok (.aload_n 0, 1) := by decide +kernel
theorem dX7_sum_9 : decode cX7_sum 9 = .ok (.iload_n 1, 1) := by decide +kernel
theorem dX7_sum_10 : decode cX7_sum 10 = .ok (.invokevirtual 280, 3) := by decide +kernel
theorem dX7_sum_13 : decode cX7_sum 13 = .ok (.aload_n 0, 1) := by decide +kernel
theorem dX7_sum_14 : decode cX7_sum 14 = .ok (.getfield 49, 3) := by decide +kernel
theorem dX7_sum_17 : decode cX7_sum 17 = .ok (.iload_n 1, 1) := by decide +kernel
theorem dX7_sum_18 : decode cX7_sum 18 = .ok (.aaload, 1) := by decide +kernel
theorem dX7_sum_19 : decode cX7_sum 19 = .ok (.aload_n 0, 1) := by decide +kernel
theorem dX7_sum_20 : decode cX7_sum 20 = .ok (.getfield 46, 3) := by decide +kernel
theorem dX7_sum_23 : decode cX7_sum 23 = .ok (.iload_n 1, 1) := by decide +kernel
theorem dX7_sum_24 : decode cX7_sum 24 = .ok (.aaload, 1) := by decide +kernel
theorem dX7_sum_25 : decode cX7_sum 25 = .ok (.invokestatic 147, 3) := by decide +kernel
theorem dX7_sum_28 : decode cX7_sum 28 = .ok (.aload_n 0, 1) := by decide +kernel
theorem dX7_sum_29 : decode cX7_sum 29 = .ok (.invokevirtual 183, 3) := by decide +kernel
theorem dX7_sum_32 : decode cX7_sum 32 = .ok (.ifCond .eq 87, 3) := by decide +kernel
theorem dX7_sum_35 : decode cX7_sum 35 = .ok (.aload_n 0, 1) := by decide +kernel
theorem dX7_sum_36 : decode cX7_sum 36 = .ok (.invokevirtual 187, 3) := by decide +kernel
theorem dX7_sum_39 : decode cX7_sum 39 = .ok (.bipush 43, 2) := by decide +kernel
theorem dX7_sum_41 : decode cX7_sum 41 = .ok (.if_icmp .eq 12, 3) := by decide +kernel
theorem dX7_sum_44 : decode cX7_sum 44 = .ok (.aload_n 0, 1) := by decide +kernel
theorem dX7_sum_45 : decode cX7_sum 45 = .ok (.invokevirtual 187, 3) := by decide +kernel
theorem dX7_sum_48 : decode cX7_sum 48 = .ok (.bipush 45, 2) := by decide +kernel
theorem dX7_sum_50 : decode cX7_sum 50 = .ok (.if_icmp .ne 69, 3) := by decide +kernel
theorem dX7_sum_53 : decode cX7_sum 53 = .ok (.aload_n 0, 1) := by decide +kernel
theorem dX7_sum_54 : decode cX7_sum 54 = .ok (.invokevirtual 187, 3) := by decide +kernel
theorem dX7_sum_57 : decode cX7_sum 57 = .ok (.bipush 43, 2) := by decide +kernel
theorem dX7_sum_59 : decode cX7_sum 59 = .ok (.if_icmp .ne 7, 3) := by decide +kernel
theorem dX7_sum_62 : decode cX7_sum 62 = .ok (.iconst 1, 1) := by decide +kernel
theorem dX7_sum_63 : decode cX7_sum 63 = .ok (.goto 4, 3) := by decide +kernel
theorem dX7_sum_66 : decode cX7_sum 66 = .ok (.iconst (-1), 1) := by decide +kernel
theorem dX7_sum_67 : decode cX7_sum 67 = .ok (.istore_n 2, 1) := by decide +kernel
theorem dX7_sum_68 : decode cX7_sum 68 = .ok (.aload_n 0, 1) := by decide +kernel
theorem dX7_sum_69 : decode cX7_sum 69 = .ok (.dup, 1) := by decide +kernel
theorem dX7_sum_70 : decode cX7_sum 70 = .ok (.getfield 167, 3) := by decide +kernel
theorem dX7_sum_73 : decode cX7_sum 73 = .ok (.iconst 1, 1) := by decide +kernel
theorem dX7_sum_74 : decode cX7_sum 74 = .ok (.iadd, 1) := by decide +kernel
theorem dX7_sum_75 : decode cX7_sum 75 = .ok (.putfield 167, 3) := by decide +kernel
theorem dX7_sum_78 : decode cX7_sum 78 = .ok (.aload_n 0, 1) := by decide +kernel
theorem dX7_sum_79 : decode cX7_sum 79 = .ok (.iload_n 1, 1) := by decide +kernel
theorem dX7_sum_80 : decode cX7_sum 80 = .ok (.invokevirtual 280, 3) := by decide +kernel
theorem dX7_sum_83 : decode cX7_sum 83 = .ok (.aload_n 0, 1) := by decide +kernel
theorem dX7_sum_84 : decode cX7_sum 84 = .ok (.invokevirtual 183, 3) := by decide +kernel
theorem dX7_sum_87 : decode cX7_sum 87 = .ok (.ifCond .eq 29, 3) := by decide +kernel
theorem dX7_sum_90 : decode cX7_sum 90 = .ok (.aload_n 0, 1) := by decide +kernel
theorem dX7_sum_91 : decode cX7_sum 91 = .ok (.aload_n 0, 1) := by decide +kernel
theorem dX7_sum_92 : decode cX7_sum 92 = .ok (.getfield 46, 3) := by decide +kernel
theorem dX7_sum_95 : decode cX7_sum 95 = .ok (.iload_n 1, 1) := by decide +kernel
theorem dX7_sum_96 : decode cX7_sum 96 = .ok (.aaload, 1) := by decide +kernel
theorem dX7_sum_97 : decode cX7_sum 97 = .ok (.aload_n 0, 1) := by decide +kernel
theorem dX7_sum_98 : decode cX7_sum 98 = .ok (.getfield 49, 3) := by decide +kernel
theorem dX7_sum_101 : decode cX7_sum 101 = .ok (.iload_n 1, 1) := by decide +kernel
theorem dX7_sum_102 : decode cX7_sum 102 = .ok (.aaload, 1) := by decide +kernel
theorem dX7_sum_103 : decode cX7_sum 103 = .ok (.iload_n 2, 1) := by decide +kernel
theorem dX7_sum_104 : decode cX7_sum 104 = .ok (.aload_n 0, 1) := by decide +kernel
theorem dX7_sum_105 : decode cX7_sum 105 = .ok (.getfield 46, 3) := by decide +kernel
theorem dX7_sum_108 : decode cX7_sum 108 = .ok (.iload_n 1, 1) := by decide +kernel
theorem dX7_sum_109 : decode cX7_sum 109 = .ok (.aaload, 1) := by decide +kernel
theorem dX7_sum_110 : decode cX7_sum 110 = .ok (.invokestatic 157, 3) := by decide +kernel
theorem dX7_sum_113 : decode cX7_sum 113 = .ok (.invokevirtual 243, 3) := by decide +kernel
theorem dX7_sum_116 : decode cX7_sum 116 = .ok (.goto (-88), 3) := by decide +kernel
theorem dX7_sum_119 : decode cX7_sum 119 = .ok (.return_, 1) := by decide +kernel
theorem dX7_statement_0 : decode cX7_statement 0 = .ok (.aload_n 0, 1) := by decide +kernel
theorem dX7_statement_1 : decode cX7_statement 1 = .ok (.invokevirtual 187, 3) := by decide +kernel
theorem dX7_statement_4 : decode cX7_statement 4 = .ok (.pop, 1) := by decide +kernel
theorem dX7_statement_5 : decode cX7_statement 5 = .ok (.aload_n 0, 1) := by decide +kernel
theorem dX7_statement_6 : decode cX7_statement 6 = .ok (.getfield 167, 3) := by decide +kernel
theorem dX7_statement_9 : decode cX7_statement 9 = .ok (.istore_n 1, 1) := by decide +kernel
theorem dX7_statement_10 : decode cX7_statement 10 = .ok (.aload_n 0, 1) := by decide +kernel
theorem dX7_statement_11 : decode cX7_statement 11 = .ok (.invokevirtual 270, 3) := by decide +kernel
theorem dX7_statement_14 : decode cX7_statement 14 = .ok (.istore_n 2, 1) := by decide +kernel
theorem dX7_statement_15 : decode cX7_statement 15 = .ok (.iload_n 2, 1) := by decide +kernel
theorem dX7_statement_16 : decode cX7_statement 16 = .ok (.iconst (-1), 1) := by decide +kernel
theorem dX7_statement_17 : decode cX7_statement 17 = .ok (.if_icmp .ne 10, 3) := by decide +kernel
theorem dX7_statement_20 : decode cX7_statement 20 = .ok (.aload_n 0, 1) := by decide +kernel
theorem dX7_statement_21 : decode cX7_statement 21 = .ok (.bipush (-2), 2) := by decide +kernel
theorem dX7_statement_23 : decode cX7_statement 23 = .ok (.iload_n 1, 1) := by decide +kernel
theorem dX7_statement_24 : decode cX7_statement 24 = .ok (.invokevirtual 200, 3) := by decide +kernel
theorem dX7_statement_27 : decode cX7_statement 27 = .ok (.aload_n 0, 1) := by decide +kernel
theorem dX7_statement_28 : decode cX7_statement 28 = .ok (.bipush 61, 2) := by decide +kernel
theorem dX7_statement_30 : decode cX7_statement 30 = .ok (.invokevirtual 218, 3) := by decide +kernel
theorem dX7_statement_33 : decode cX7_statement 33 = .ok (.aload_n 0, 1) := by decide +kernel
theorem dX7_statement_34 : decode cX7_statement 34 = .ok (.iconst 0, 1) := by decide +kernel
theorem dX7_statement_35 : decode cX7_statement 35 = .ok (.invokevirtual 233, 3) := by decide +kernel
theorem dX7_statement_38 : decode cX7_statement 38 = .ok (.aload_n 0, 1) := by decide +kernel
theorem dX7_statement_39 : decode cX7_statement 39 = .ok (.invokevirtual 183, 3) := by decide +kernel
theorem dX7_statement_42 : decode cX7_statement 42 = .ok (.ifCond .eq 78, 3) := by decide +kernel
theorem dX7_statement_45 : decode cX7_statement 45 = .ok (.aload_n 0, 1) := by decide +kernel
theorem dX7_statement_46 : decode cX7_statement 46 = .ok (.invokevirtual 187, 3) := by decide +kernel
theorem dX7_statement_49 : decode cX7_statement 49 = .ok (.bipush 35, 2) := by decide +kernel
theorem dX7_statement_51 : decode cX7_statement 51 = .ok (.if_icmp .ne 69, 3) := by decide +kernel
theorem dX7_statement_54 : decode cX7_statement 54 = .ok (.aload_n 0, 1) := by decide +kernel
theorem dX7_statement_55 : decode cX7_statement 55 = .ok (.dup, 1) := by decide +kernel
theorem dX7_statement_56 : decode cX7_statement 56 = .ok (.getfield 167, 3) := by decide +kernel
theorem dX7_statement_59 : decode cX7_statement 59 = .ok (.iconst 1, 1) := by decide +kernel
theorem dX7_statement_60 : decode cX7_statement 60 = .ok (.iadd, 1) := by decide +kernel
theorem dX7_statement_61 : decode cX7_statement 61 = .ok (.putfield 167, 3) := by decide +kernel
theorem dX7_statement_64 : decode cX7_statement 64 = .ok (.aload_n 0, 1) := by decide +kernel
theorem dX7_statement_65 : decode cX7_statement 65 = .ok (.iconst 0, 1) := by decide +kernel
theorem dX7_statement_66 : decode cX7_statement 66 = .ok (.ldc 251, 2) := by decide +kernel
theorem dX7_statement_68 : decode cX7_statement 68 = .ok (.invokevirtual 252, 3) := by decide +kernel
theorem dX7_statement_71 : decode cX7_statement 71 = .ok (.istore_n 3, 1) := by decide +kernel
theorem dX7_statement_72 : decode cX7_statement 72 = .ok (.aload_n 0, 1) := by decide +kernel
theorem dX7_statement_73 : decode cX7_statement 73 = .ok (.getfield 46, 3) := by decide +kernel
theorem dX7_statement_76 : decode cX7_statement 76 = .ok (.iconst 0, 1) := by decide +kernel
theorem dX7_statement_77 : decode cX7_statement 77 = .ok (.aaload, 1) := by decide +kernel
theorem dX7_statement_78 : decode cX7_statement 78 = .ok (.bipush 10, 2) := by decide +kernel
theorem dX7_statement_80 : decode cX7_statement 80 = .ok (.dup2, 1) := by decide +kernel
theorem dX7_statement_81 : decode cX7_statement 81 = .ok (.laload, 1) := by decide +kernel
theorem dX7_statement_82 : decode cX7_statement 82 = .ok (.iload_n 3, 1) := by decide +kernel
theorem dX7_statement_83 : decode cX7_statement 83 = .ok (.i2l, 1) := by decide +kernel
theorem dX7_statement_84 : decode cX7_statement 84 = .ok (.lsub, 1) := by decide +kernel
theorem dX7_statement_85 : decode cX7_statement 85 = .ok (.lastore, 1) := by decide +kernel
theorem dX7_statement_86 : decode cX7_statement 86 = .ok (.aload_n 0, 1) := by decide +kernel
theorem dX7_statement_87 : decode cX7_statement 87 = .ok (.getfield 46, 3) := by decide +kernel
theorem dX7_statement_90 : decode cX7_statement 90 = .ok (.iconst 0, 1) := by decide +kernel
theorem dX7_statement_91 : decode cX7_statement 91 = .ok (.aaload, 1) := by decide +kernel
theorem dX7_statement_92 : decode cX7_statement 92 = .ok (.bipush 11, 2) := by decide +kernel
theorem dX7_statement_94 : decode cX7_statement 94 = .ok (.dup2, 1) := by decide +kernel
theorem dX7_statement_95 : decode cX7_statement 95 = .ok (.laload, 1) := by decide +kernel
theorem dX7_statement_96 : decode cX7_statement 96 = .ok (.iload_n 3, 1) := by decide +kernel
theorem dX7_statement_97 : decode cX7_statement 97 = .ok (.i2l, 1) := by decide +kernel
theorem dX7_statement_98 : decode cX7_statement 98 = .ok (.ladd, 1) := by decide +kernel
theorem dX7_statement_99 : decode cX7_statement 99 = .ok (.lastore, 1) := by decide +kernel
theorem dX7_statement_100 : decode cX7_statement 100 = .ok (.aload_n 0, 1) := by decide +kernel
theorem dX7_statement_101 : decode cX7_statement 101 = .ok (.invokevirtual 183, 3) := by decide +kernel
theorem dX7_statement_104 : decode cX7_statement 104 = .ok (.ifCond .eq 16, 3) := by decide +kernel
theorem dX7_statement_107 : decode cX7_statement 107 = .ok (.aload_n 0, 1) := by decide +kernel
theorem dX7_statement_108 : decode cX7_statement 108 = .ok (.aload_n 0, 1) := by decide +kernel
theorem dX7_statement_109 : decode cX7_statement 109 = .ok (.getfield 46, 3) := by decide +kernel
theorem dX7_statement_112 : decode cX7_statement 112 = .ok (.iconst 0, 1) := by decide +kernel
theorem dX7_statement_113 : decode cX7_statement 113 = .ok (.aaload, 1) := by decide +kernel
theorem dX7_statement_114 : decode cX7_statement 114 = .ok (.invokestatic 118, 3) := by decide +kernel
theorem dX7_statement_117 : decode cX7_statement 117 = .ok (.invokevirtual 243, 3) := by decide +kernel
theorem dX7_statement_120 : decode cX7_statement 120 = .ok (.aload_n 0, 1) := by decide +kernel
theorem dX7_statement_121 : decode cX7_statement 121 = .ok (.bipush 59, 2) := by decide +kernel
theorem dX7_statement_123 : decode cX7_statement 123 = .ok (.invokevirtual 218, 3) := by decide +kernel
theorem dX7_statement_126 : decode cX7_statement 126 = .ok (.aload_n 0, 1) := by decide +kernel
theorem dX7_statement_127 : decode cX7_statement 127 = .ok (.invokevirtual 183, 3) := by decide +kernel
theorem dX7_statement_130 : decode cX7_statement 130 = .ok (.ifCond .eq 17, 3) := by decide +kernel
theorem dX7_statement_133 : decode cX7_statement 133 = .ok (.aload_n 0, 1) := by decide +kernel
theorem dX7_statement_134 : decode cX7_statement 134 = .ok (.getfield 46, 3) := by decide +kernel
theorem dX7_statement_137 : decode cX7_statement 137 = .ok (.iconst 0, 1) := by decide +kernel
theorem dX7_statement_138 : decode cX7_statement 138 = .ok (.aaload, 1) := by decide +kernel
theorem dX7_statement_139 : decode cX7_statement 139 = .ok (.aload_n 0, 1) := by decide +kernel
theorem dX7_statement_140 : decode cX7_statement 140 = .ok (.getfield 20, 3) := by decide +kernel
theorem dX7_statement_143 : decode cX7_statement 143 = .ok (.iload_n 2, 1) := by decide +kernel
theorem dX7_statement_144 : decode cX7_statement 144 = .ok (.invokestatic 283, 3) := by decide +kernel
theorem dX7_statement_147 : decode cX7_statement 147 = .ok (.return_, 1) := by decide +kernel
theorem dX7_load_0 : decode cX7_load 0 = .ok (.aload_n 0, 1) := by decide +kernel
theorem dX7_load_1 : decode cX7_load 1 = .ok (.iconst 0, 1) := by decide +kernel
theorem dX7_load_2 : decode cX7_load 2 = .ok (.putfield 79, 3) := by decide +kernel
theorem dX7_load_5 : decode cX7_load 5 = .ok (.aload_n 0, 1) := by decide +kernel
theorem dX7_load_6 : decode cX7_load 6 = .ok (.iload_n 1, 1) := by decide +kernel
theorem dX7_load_7 : decode cX7_load 7 = .ok (.iconst 0, 1) := by decide +kernel
theorem dX7_load_8 : decode cX7_load 8 = .ok (.aload_n 0, 1) := by decide +kernel
theorem dX7_load_9 : decode cX7_load 9 = .ok (.getfield 161, 3) := by decide +kernel
theorem dX7_load_12 : decode cX7_load 12 = .ok (.invokestatic 179, 3) := by decide +kernel
theorem dX7_load_15 : decode cX7_load 15 = .ok (.ifCond .ne 7, 3) := by decide +kernel
theorem dX7_load_18 : decode cX7_load 18 = .ok (.iconst 1, 1) := by decide +kernel
theorem dX7_load_19 : decode cX7_load 19 = .ok (.goto 4, 3) := by decide +kernel
theorem dX7_load_22 : decode cX7_load 22 = .ok (.iconst 0, 1) := by decide +kernel
theorem dX7_load_23 : decode cX7_load 23 = .ok (.iconst 1, 1) := by decide +kernel
theorem dX7_load_24 : decode cX7_load 24 = .ok (.invokevirtual 287, 3) := by decide +kernel
theorem dX7_load_27 : decode cX7_load 27 = .ok (.ifCond .eq 5, 3) := by decide +kernel
theorem dX7_load_30 : decode cX7_load 30 = .ok (.iconst 0, 1) := by decide +kernel
theorem dX7_load_31 : decode cX7_load 31 = .ok (.ireturn, 1) := by decide +kernel
theorem dX7_load_32 : decode cX7_load 32 = .ok (.aload_n 0, 1) := by decide +kernel
theorem dX7_load_33 : decode cX7_load 33 = .ok (.iconst 0, 1) := by decide +kernel
theorem dX7_load_34 : decode cX7_load 34 = .ok (.putfield 161, 3) := by decide +kernel
theorem dX7_load_37 : decode cX7_load 37 = .ok (.aload_n 0, 1) := by decide +kernel
theorem dX7_load_38 : decode cX7_load 38 = .ok (.iload_n 1, 1) := by decide +kernel
theorem dX7_load_39 : decode cX7_load 39 = .ok (.putfield 164, 3) := by decide +kernel
theorem dX7_load_42 : decode cX7_load 42 = .ok (.aload_n 0, 1) := by decide +kernel
theorem dX7_load_43 : decode cX7_load 43 = .ok (.iconst 0, 1) := by decide +kernel
theorem dX7_load_44 : decode cX7_load 44 = .ok (.putfield 167, 3) := by decide +kernel
theorem dX7_load_47 : decode cX7_load 47 = .ok (.aload_n 0, 1) := by decide +kernel
theorem dX7_load_48 : decode cX7_load 48 = .ok (.iconst 0, 1) := by decide +kernel
theorem dX7_load_49 : decode cX7_load 49 = .ok (.putfield 173, 3) := by decide +kernel
theorem dX7_load_52 : decode cX7_load 52 = .ok (.aload_n 0, 1) := by decide +kernel
theorem dX7_load_53 : decode cX7_load 53 = .ok (.iconst (-1), 1) := by decide +kernel
theorem dX7_load_54 : decode cX7_load 54 = .ok (.putfield 176, 3) := by decide +kernel
theorem dX7_load_57 : decode cX7_load 57 = .ok (.aload_n 0, 1) := by decide +kernel
theorem dX7_load_58 : decode cX7_load 58 = .ok (.iconst 0, 1) := by decide +kernel
theorem dX7_load_59 : decode cX7_load 59 = .ok (.putfield 215, 3) := by decide +kernel
theorem dX7_load_62 : decode cX7_load 62 = .ok (.iconst 0, 1) := by decide +kernel
theorem dX7_load_63 : decode cX7_load 63 = .ok (.istore_n 2, 1) := by decide +kernel
theorem dX7_load_64 : decode cX7_load 64 = .ok (.iload_n 2, 1) := by decide +kernel
theorem dX7_load_65 : decode cX7_load 65 = .ok (.bipush 97, 2) := by decide +kernel
theorem dX7_load_67 : decode cX7_load 67 = .ok (.if_icmp .ge 16, 3) := by decide +kernel
theorem dX7_load_70 : decode cX7_load 70 = .ok (.aload_n 0, 1) := by decide +kernel
theorem dX7_load_71 : decode cX7_load 71 = .ok (.getfield 20, 3) := by decide +kernel
theorem dX7_load_74 : decode cX7_load 74 = .ok (.iload_n 2, 1) := by decide +kernel
theorem dX7_load_75 : decode cX7_load 75 = .ok (.iconst 0, 1) := by decide +kernel
theorem dX7_load_76 : decode cX7_load 76 = .ok (.iastore, 1) := by decide +kernel
theorem dX7_load_77 : decode cX7_load 77 = .ok (.iinc 2 1, 3) := by decide +kernel
theorem dX7_load_80 : decode cX7_load 80 = .ok (.goto (-16), 3) := by decide +kernel
theorem dX7_load_83 : decode cX7_load 83 = .ok (.aload_n 0, 1) := by decide +kernel
theorem dX7_load_84 : decode cX7_load 84 = .ok (.ldc_w 291, 3) := by decide +kernel
theorem dX7_load_87 : decode cX7_load 87 = .ok (.invokevirtual 257, 3) := by decide +kernel
theorem dX7_load_90 : decode cX7_load 90 = .ok (.ifCond .ne 13, 3) := by decide +kernel
theorem dX7_load_93 : decode cX7_load 93 = .ok (.aload_n 0, 1) := by decide +kernel
theorem dX7_load_94 : decode cX7_load 94 = .ok (.bipush (-2), 2) := by decide +kernel
theorem dX7_load_96 : decode cX7_load 96 = .ok (.aload_n 0, 1) := by decide +kernel
theorem dX7_load_97 : decode cX7_load 97 = .ok (.getfield 167, 3) := by decide +kernel
theorem dX7_load_100 : decode cX7_load 100 = .ok (.invokevirtual 200, 3) := by decide +kernel
theorem dX7_load_103 : decode cX7_load 103 = .ok (.aload_n 0, 1) := by decide +kernel
theorem dX7_load_104 : decode cX7_load 104 = .ok (.bipush 59, 2) := by decide +kernel
theorem dX7_load_106 : decode cX7_load 106 = .ok (.invokevirtual 218, 3) := by decide +kernel
theorem dX7_load_109 : decode cX7_load 109 = .ok (.aload_n 0, 1) := by decide +kernel
theorem dX7_load_110 : decode cX7_load 110 = .ok (.invokevirtual 183, 3) := by decide +kernel
theorem dX7_load_113 : decode cX7_load 113 = .ok (.ifCond .eq 18, 3) := by decide +kernel
theorem dX7_load_116 : decode cX7_load 116 = .ok (.aload_n 0, 1) := by decide +kernel
theorem dX7_load_117 : decode cX7_load 117 = .ok (.invokevirtual 187, 3) := by decide +kernel
theorem dX7_load_120 : decode cX7_load 120 = .ok (.iconst (-1), 1) := by decide +kernel
theorem dX7_load_121 : decode cX7_load 121 = .ok (.if_icmp .eq 10, 3) := by decide +kernel
theorem dX7_load_124 : decode cX7_load 124 = .ok (.aload_n 0, 1) := by decide +kernel
theorem dX7_load_125 : decode cX7_load 125 = .ok (.invokevirtual 293, 3) := by decide +kernel
theorem dX7_load_128 : decode cX7_load 128 = .ok (.goto (-19), 3) := by decide +kernel
theorem dX7_load_131 : decode cX7_load 131 = .ok (.aload_n 0, 1) := by decide +kernel
theorem dX7_load_132 : decode cX7_load 132 = .ok (.aload_n 0, 1) := by decide +kernel
theorem dX7_load_133 : decode cX7_load 133 = .ok (.getfield 176, 3) := by decide +kernel
theorem dX7_load_136 : decode cX7_load 136 = .ok (.putfield 13, 3) := by decide +kernel
theorem dX7_load_139 : decode cX7_load 139 = .ok (.aload_n 0, 1) := by decide +kernel
theorem dX7_load_140 : decode cX7_load 140 = .ok (.invokevirtual 183, 3) := by decide +kernel
theorem dX7_load_143 : decode cX7_load 143 = .ok (.ifCond .ne 8, 3) := by decide +kernel
theorem dX7_load_146 : decode cX7_load 146 = .ok (.aload_n 0, 1) := by decide +kernel
theorem dX7_load_147 : decode cX7_load 147 = .ok (.getfield 173, 3) := by decide +kernel
theorem dX7_load_150 : decode cX7_load 150 = .ok (.ireturn, 1) := by decide +kernel
theorem dX7_load_151 : decode cX7_load 151 = .ok (.aload_n 0, 1) := by decide +kernel
theorem dX7_load_152 : decode cX7_load 152 = .ok (.invokevirtual 296, 3) := by decide +kernel
theorem dX7_load_155 : decode cX7_load 155 = .ok (.aload_n 0, 1) := by decide +kernel
theorem dX7_load_156 : decode cX7_load 156 = .ok (.getfield 20, 3) := by decide +kernel
theorem dX7_load_159 : decode cX7_load 159 = .ok (.aload_n 0, 1) := by decide +kernel
theorem dX7_load_160 : decode cX7_load 160 = .ok (.getfield 17, 3) := by decide +kernel
theorem dX7_load_163 : decode cX7_load 163 = .ok (.invokestatic 299, 3) := by decide +kernel
theorem dX7_load_166 : decode cX7_load 166 = .ok (.iconst 0, 1) := by decide +kernel
theorem dX7_load_167 : decode cX7_load 167 = .ok (.istore_n 2, 1) := by decide +kernel
theorem dX7_load_168 : decode cX7_load 168 = .ok (.iconst 0, 1) := by decide +kernel
theorem dX7_load_169 : decode cX7_load 169 = .ok (.istore_n 3, 1) := by decide +kernel
theorem dX7_load_170 : decode cX7_load 170 = .ok (.iload_n 3, 1) := by decide +kernel
theorem dX7_load_171 : decode cX7_load 171 = .ok (.bipush 8, 2) := by decide +kernel
theorem dX7_load_173 : decode cX7_load 173 = .ok (.if_icmp .ge 22, 3) := by decide +kernel
theorem dX7_load_176 : decode cX7_load 176 = .ok (.iload_n 2, 1) := by decide +kernel
theorem dX7_load_177 : decode cX7_load 177 = .ok (.aload_n 0, 1) := by decide +kernel
theorem dX7_load_178 : decode cX7_load 178 = .ok (.getfield 17, 3) := by decide +kernel
theorem dX7_load_181 : decode cX7_load 181 = .ok (.iconst 0, 1) := by decide +kernel
theorem dX7_load_182 : decode cX7_load 182 = .ok (.iaload, 1) := by decide +kernel
theorem dX7_load_183 : decode cX7_load 183 = .ok (.iload_n 3, 1) := by decide +kernel
theorem dX7_load_184 : decode cX7_load 184 = .ok (.ishr, 1) := by decide +kernel
theorem dX7_load_185 : decode cX7_load 185 = .ok (.iconst 1, 1) := by decide +kernel
theorem dX7_load_186 : decode cX7_load 186 = .ok (.iand, 1) := by decide +kernel
theorem dX7_load_187 : decode cX7_load 187 = .ok (.iadd, 1) := by decide +kernel
theorem dX7_load_188 : decode cX7_load 188 = .ok (.istore_n 2, 1) := by decide +kernel
theorem dX7_load_189 : decode cX7_load 189 = .ok (.iinc 3 1, 3) := by decide +kernel
theorem dX7_load_192 : decode cX7_load 192 = .ok (.goto (-22), 3) := by decide +kernel
theorem dX7_load_195 : decode cX7_load 195 = .ok (.iload_n 2, 1) := by decide +kernel
theorem dX7_load_196 : decode cX7_load 196 = .ok (.ireturn, 1) := by decide +kernel
theorem dX7_errorOffset_0 : decode cX7_errorOffset 0 = .ok (.aload_n 0, 1) := by decide +kernel
theorem dX7_errorOffset_1 : decode cX7_errorOffset 1 = .ok (.iconst 0, 1) := by decide +kernel
theorem dX7_errorOffset_2 : decode cX7_errorOffset 2 = .ok (.putfield 79, 3) := by decide +kernel
theorem dX7_errorOffset_5 : decode cX7_errorOffset 5 = .ok (.aload_n 0, 1) := by decide +kernel
theorem dX7_errorOffset_6 : decode cX7_errorOffset 6 = .ok (.getfield 13, 3) := by decide +kernel
theorem dX7_errorOffset_9 : decode cX7_errorOffset 9 = .ok (.ireturn, 1) := by decide +kernel
theorem dX7_noIndex_0 : decode cX7_noIndex 0 = .ok (.aload_n 0, 1) := by decide +kernel
theorem dX7_noIndex_1 : decode cX7_noIndex 1 = .ok (.iload_n 1, 1) := by decide +kernel
theorem dX7_noIndex_2 : decode cX7_noIndex 2 = .ok (.iconst 0, 1) := by decide +kernel
theorem dX7_noIndex_3 : decode cX7_noIndex 3 = .ok (.bipush 7, 2) := by decide +kernel
theorem dX7_noIndex_5 : decode cX7_noIndex 5 = .ok (.invokestatic 179, 3) := by decide +kernel
theorem dX7_noIndex_8 : decode cX7_noIndex 8 = .ok (.ifCond .ne 7, 3) := by decide +kernel
theorem dX7_noIndex_11 : decode cX7_noIndex 11 = .ok (.iconst 1, 1) := by decide +kernel
theorem dX7_noIndex_12 : decode cX7_noIndex 12 = .ok (.goto 4, 3) := by decide +kernel
theorem dX7_noIndex_15 : decode cX7_noIndex 15 = .ok (.iconst 0, 1) := by decide +kernel
theorem dX7_noIndex_16 : decode cX7_noIndex 16 = .ok (.iconst 1, 1) := by decide +kernel
theorem dX7_noIndex_17 : decode cX7_noIndex 17 = .ok (.invokevirtual 287, 3) := by decide +kernel
theorem dX7_noIndex_20 : decode cX7_noIndex 20 = .ok (.ireturn, 1) := by decide +kernel
theorem dX7_noModel_0 : decode cX7_noModel 0 = .ok (.aload_n 0, 1) := by decide +kernel
theorem dX7_noModel_1 : decode cX7_noModel 1 = .ok (.iload_n 1, 1) := by decide +kernel
theorem dX7_noModel_2 : decode cX7_noModel 2 = .ok (.invokevirtual 303, 3) := by decide +kernel
theorem dX7_noModel_5 : decode cX7_noModel 5 = .ok (.ifCond .ne 27, 3) := by decide +kernel
theorem dX7_noModel_8 : decode cX7_noModel 8 = .ok (.aload_n 0, 1) := by decide +kernel
theorem dX7_noModel_9 : decode cX7_noModel 9 = .ok (.aload_n 0, 1) := by decide +kernel
theorem dX7_noModel_10 : decode cX7_noModel 10 = .ok (.getfield 17, 3) := by decide +kernel
theorem dX7_noModel_13 : decode cX7_noModel 13 = .ok (.iload_n 1, 1) := by decide +kernel
theorem dX7_noModel_14 : decode cX7_noModel 14 = .ok (.invokestatic 222, 3) := by decide +kernel
theorem dX7_noModel_17 : decode cX7_noModel 17 = .ok (.ifCond .ne 7, 3) := by decide +kernel
theorem dX7_noModel_20 : decode cX7_noModel 20 = .ok (.iconst 1, 1) := by decide +kernel
theorem dX7_noModel_21 : decode cX7_noModel 21 = .ok (.goto 4, 3) := by decide +kernel
theorem dX7_noModel_24 : decode cX7_noModel 24 = .ok (.iconst 0, 1) := by decide +kernel
theorem dX7_noModel_25 : decode cX7_noModel 25 = .ok (.iconst 2, 1) := by decide +kernel
theorem dX7_noModel_26 : decode cX7_noModel 26 = .ok (.invokevirtual 287, 3) := by decide +kernel
theorem dX7_noModel_29 : decode cX7_noModel 29 = .ok (.ifCond .eq 7, 3) := by decide +kernel
theorem dX7_noModel_32 : decode cX7_noModel 32 = .ok (.iconst 1, 1) := by decide +kernel
theorem dX7_noModel_33 : decode cX7_noModel 33 = .ok (.goto 4, 3) := by decide +kernel
theorem dX7_noModel_36 : decode cX7_noModel 36 = .ok (.iconst 0, 1) := by decide +kernel
theorem dX7_noModel_37 : decode cX7_noModel 37 = .ok (.ireturn, 1) := by decide +kernel
theorem dX7_noPair_0 : decode cX7_noPair 0 = .ok (.aload_n 0, 1) := by decide +kernel
theorem dX7_noPair_1 : decode cX7_noPair 1 = .ok (.iload_n 1, 1) := by decide +kernel
theorem dX7_noPair_2 : decode cX7_noPair 2 = .ok (.invokevirtual 303, 3) := by decide +kernel
theorem dX7_noPair_5 : decode cX7_noPair 5 = .ok (.ifCond .ne 27, 3) := by decide +kernel
theorem dX7_noPair_8 : decode cX7_noPair 8 = .ok (.aload_n 0, 1) := by decide +kernel
theorem dX7_noPair_9 : decode cX7_noPair 9 = .ok (.iload_n 2, 1) := by decide +kernel
theorem dX7_noPair_10 : decode cX7_noPair 10 = .ok (.invokevirtual 303, 3) := by decide +kernel
theorem dX7_noPair_13 : decode cX7_noPair 13 = .ok (.ifCond .ne 19, 3) := by decide +kernel
theorem dX7_noPair_16 : decode cX7_noPair 16 = .ok (.aload_n 0, 1) := by decide +kernel
theorem dX7_noPair_17 : decode cX7_noPair 17 = .ok (.iload_n 1, 1) := by decide +kernel
theorem dX7_noPair_18 : decode cX7_noPair 18 = .ok (.invokevirtual 306, 3) := by decide +kernel
theorem dX7_noPair_21 : decode cX7_noPair 21 = .ok (.ifCond .ne 11, 3) := by decide +kernel
theorem dX7_noPair_24 : decode cX7_noPair 24 = .ok (.aload_n 0, 1) := by decide +kernel
theorem dX7_noPair_25 : decode cX7_noPair 25 = .ok (.iload_n 2, 1) := by decide +kernel
theorem dX7_noPair_26 : decode cX7_noPair 26 = .ok (.invokevirtual 306, 3) := by decide +kernel
theorem dX7_noPair_29 : decode cX7_noPair 29 = .ok (.ifCond .eq 5, 3) := by decide +kernel
theorem dX7_noPair_32 : decode cX7_noPair 32 = .ok (.iconst 1, 1) := by decide +kernel
theorem dX7_noPair_33 : decode cX7_noPair 33 = .ok (.ireturn, 1) := by decide +kernel
theorem dX7_noPair_34 : decode cX7_noPair 34 = .ok (.aload_n 0, 1) := by decide +kernel
theorem dX7_noPair_35 : decode cX7_noPair 35 = .ok (.getfield 17, 3) := by decide +kernel
theorem dX7_noPair_38 : decode cX7_noPair 38 = .ok (.iload_n 1, 1) := by decide +kernel
theorem dX7_noPair_39 : decode cX7_noPair 39 = .ok (.aload_n 0, 1) := by decide +kernel
theorem dX7_noPair_40 : decode cX7_noPair 40 = .ok (.getfield 61, 3) := by decide +kernel
theorem dX7_noPair_43 : decode cX7_noPair 43 = .ok (.invokestatic 226, 3) := by decide +kernel
theorem dX7_noPair_46 : decode cX7_noPair 46 = .ok (.aload_n 0, 1) := by decide +kernel
theorem dX7_noPair_47 : decode cX7_noPair 47 = .ok (.getfield 17, 3) := by decide +kernel
theorem dX7_noPair_50 : decode cX7_noPair 50 = .ok (.iload_n 2, 1) := by decide +kernel
theorem dX7_noPair_51 : decode cX7_noPair 51 = .ok (.aload_n 0, 1) := by decide +kernel
theorem dX7_noPair_52 : decode cX7_noPair 52 = .ok (.getfield 64, 3) := by decide +kernel
theorem dX7_noPair_55 : decode cX7_noPair 55 = .ok (.invokestatic 226, 3) := by decide +kernel
theorem dX7_noPair_58 : decode cX7_noPair 58 = .ok (.iconst 0, 1) := by decide +kernel
theorem dX7_noPair_59 : decode cX7_noPair 59 = .ok (.ireturn, 1) := by decide +kernel
theorem dX7_isPlace_0 : decode cX7_isPlace 0 = .ok (.iload_n 0, 1) := by decide +kernel
theorem dX7_isPlace_1 : decode cX7_isPlace 1 = .ok (.ifCond .lt 23, 3) := by decide +kernel
theorem dX7_isPlace_4 : decode cX7_isPlace 4 = .ok (.iload_n 1, 1) := by decide +kernel
theorem dX7_isPlace_5 : decode cX7_isPlace 5 = .ok (.ifCond .lt 19, 3) := by decide +kernel
theorem dX7_isPlace_8 : decode cX7_isPlace 8 = .ok (.iload_n 0, 1) := by decide +kernel
theorem dX7_isPlace_9 : decode cX7_isPlace 9 = .ok (.iconst 3, 1) := by decide +kernel
theorem dX7_isPlace_10 : decode cX7_isPlace 10 = .ok (.if_icmp .gt 14, 3) := by decide +kernel
theorem dX7_isPlace_13 : decode cX7_isPlace 13 = .ok (.iload_n 1, 1) := by decide +kernel
theorem dX7_isPlace_14 : decode cX7_isPlace 14 = .ok (.iconst 3, 1) := by decide +kernel
theorem dX7_isPlace_15 : decode cX7_isPlace 15 = .ok (.iload_n 0, 1) := by decide +kernel
theorem dX7_isPlace_16 : decode cX7_isPlace 16 = .ok (.isub, 1) := by decide +kernel
theorem dX7_isPlace_17 : decode cX7_isPlace 17 = .ok (.if_icmp .gt 7, 3) := by decide +kernel
theorem dX7_isPlace_20 : decode cX7_isPlace 20 = .ok (.iconst 1, 1) := by decide +kernel
theorem dX7_isPlace_21 : decode cX7_isPlace 21 = .ok (.goto 4, 3) := by decide +kernel
theorem dX7_isPlace_24 : decode cX7_isPlace 24 = .ok (.iconst 0, 1) := by decide +kernel
theorem dX7_isPlace_25 : decode cX7_isPlace 25 = .ok (.ireturn, 1) := by decide +kernel
theorem dX7_defined_0 : decode cX7_defined 0 = .ok (.aload_n 0, 1) := by decide +kernel
theorem dX7_defined_1 : decode cX7_defined 1 = .ok (.iconst 0, 1) := by decide +kernel
theorem dX7_defined_2 : decode cX7_defined 2 = .ok (.putfield 79, 3) := by decide +kernel
theorem dX7_defined_5 : decode cX7_defined 5 = .ok (.aload_n 0, 1) := by decide +kernel
theorem dX7_defined_6 : decode cX7_defined 6 = .ok (.getfield 17, 3) := by decide +kernel
theorem dX7_defined_9 : decode cX7_defined 9 = .ok (.iconst 0, 1) := by decide +kernel
theorem dX7_defined_10 : decode cX7_defined 10 = .ok (.iaload, 1) := by decide +kernel
theorem dX7_defined_11 : decode cX7_defined 11 = .ok (.ireturn, 1) := by decide +kernel
theorem dX7_coefficient_0 : decode cX7_coefficient 0 = .ok (.aload_n 0, 1) := by decide +kernel
theorem dX7_coefficient_1 : decode cX7_coefficient 1 = .ok (.iconst 0, 1) := by decide +kernel
theorem dX7_coefficient_2 : decode cX7_coefficient 2 = .ok (.putfield 79, 3) := by decide +kernel
theorem dX7_coefficient_5 : decode cX7_coefficient 5 = .ok (.aload_n 0, 1) := by decide +kernel
theorem dX7_coefficient_6 : decode cX7_coefficient 6 = .ok (.iload_n 1, 1) := by decide +kernel
theorem dX7_coefficient_7 : decode cX7_coefficient 7 = .ok (.invokevirtual 306, 3) := by decide +kernel
theorem dX7_coefficient_10 : decode cX7_coefficient 10 = .ok (.ifCond .ne 24, 3) := by decide +kernel
theorem dX7_coefficient_13 : decode cX7_coefficient 13 = .ok (.aload_n 0, 1) := by decide +kernel
theorem dX7_coefficient_14 : decode cX7_coefficient 14 = .ok (.iload_n 2, 1) := by decide +kernel
theorem dX7_coefficient_15 : decode cX7_coefficient 15 = .ok (.iload_n 3, 1) := by decide +kernel
theorem dX7_coefficient_16 : decode cX7_coefficient 16 = .ok (.invokestatic 309, 3) := by decide +kernel
theorem dX7_coefficient_19 : decode cX7_coefficient 19 = .ok (.ifCond .ne 7, 3) := by decide +kernel
theorem dX7_coefficient_22 : decode cX7_coefficient 22 = .ok (.iconst 1, 1) := by decide +kernel
theorem dX7_coefficient_23 : decode cX7_coefficient 23 = .ok (.goto 4, 3) := by decide +kernel
theorem dX7_coefficient_26 : decode cX7_coefficient 26 = .ok (.iconst 0, 1) := by decide +kernel
theorem dX7_coefficient_27 : decode cX7_coefficient 27 = .ok (.iconst 3, 1) := by decide +kernel
theorem dX7_coefficient_28 : decode cX7_coefficient 28 = .ok (.invokevirtual 287, 3) := by decide +kernel
theorem dX7_coefficient_31 : decode cX7_coefficient 31 = .ok (.ifCond .eq 7, 3) := by decide +kernel
theorem dX7_coefficient_34 : decode cX7_coefficient 34 = .ok (.iconst 0, 1) := by decide +kernel
theorem dX7_coefficient_35 : decode cX7_coefficient 35 = .ok (.goto 20, 3) := by decide +kernel
theorem dX7_coefficient_38 : decode cX7_coefficient 38 = .ok (.aload_n 0, 1) := by decide +kernel
theorem dX7_coefficient_39 : decode cX7_coefficient 39 = .ok (.getfield 17, 3) := by decide +kernel
theorem dX7_coefficient_42 : decode cX7_coefficient 42 = .ok (.iconst 1, 1) := by decide +kernel
theorem dX7_coefficient_43 : decode cX7_coefficient 43 = .ok (.bipush 12, 2) := by decide +kernel
theorem dX7_coefficient_45 : decode cX7_coefficient 45 = .ok (.iload_n 1, 1) := by decide +kernel
theorem dX7_coefficient_46 : decode cX7_coefficient 46 = .ok (.imul, 1) := by decide +kernel
theorem dX7_coefficient_47 : decode cX7_coefficient 47 = .ok (.iadd, 1) := by decide +kernel
theorem dX7_coefficient_48 : decode cX7_coefficient 48 = .ok (.iload_n 2, 1) := by decide +kernel
theorem dX7_coefficient_49 : decode cX7_coefficient 49 = .ok (.iload_n 3, 1) := by decide +kernel
theorem dX7_coefficient_50 : decode cX7_coefficient 50 = .ok (.invokestatic 133, 3) := by decide +kernel
theorem dX7_coefficient_53 : decode cX7_coefficient 53 = .ok (.iadd, 1) := by decide +kernel
theorem dX7_coefficient_54 : decode cX7_coefficient 54 = .ok (.iaload, 1) := by decide +kernel
theorem dX7_coefficient_55 : decode cX7_coefficient 55 = .ok (.ireturn, 1) := by decide +kernel
theorem dX7_remainder_0 : decode cX7_remainder 0 = .ok (.aload_n 0, 1) := by decide +kernel
theorem dX7_remainder_1 : decode cX7_remainder 1 = .ok (.iconst 0, 1) := by decide +kernel
theorem dX7_remainder_2 : decode cX7_remainder 2 = .ok (.putfield 79, 3) := by decide +kernel
theorem dX7_remainder_5 : decode cX7_remainder 5 = .ok (.aload_n 0, 1) := by decide +kernel
theorem dX7_remainder_6 : decode cX7_remainder 6 = .ok (.iload_n 1, 1) := by decide +kernel
theorem dX7_remainder_7 : decode cX7_remainder 7 = .ok (.invokevirtual 306, 3) := by decide +kernel
theorem dX7_remainder_10 : decode cX7_remainder 10 = .ok (.ifCond .ne 25, 3) := by decide +kernel
theorem dX7_remainder_13 : decode cX7_remainder 13 = .ok (.aload_n 0, 1) := by decide +kernel
theorem dX7_remainder_14 : decode cX7_remainder 14 = .ok (.iload_n 2, 1) := by decide +kernel
theorem dX7_remainder_15 : decode cX7_remainder 15 = .ok (.iconst 0, 1) := by decide +kernel
theorem dX7_remainder_16 : decode cX7_remainder 16 = .ok (.iconst 1, 1) := by decide +kernel
theorem dX7_remainder_17 : decode cX7_remainder 17 = .ok (.invokestatic 179, 3) := by decide +kernel
theorem dX7_remainder_20 : decode cX7_remainder 20 = .ok (.ifCond .ne 7, 3) := by decide +kernel
theorem dX7_remainder_23 : decode cX7_remainder 23 = .ok (.iconst 1, 1) := by decide +kernel
theorem dX7_remainder_24 : decode cX7_remainder 24 = .ok (.goto 4, 3) := by decide +kernel
theorem dX7_remainder_27 : decode cX7_remainder 27 = .ok (.iconst 0, 1) := by decide +kernel
theorem dX7_remainder_28 : decode cX7_remainder 28 = .ok (.iconst 3, 1) := by decide +kernel
theorem dX7_remainder_29 : decode cX7_remainder 29 = .ok (.invokevirtual 287, 3) := by decide +kernel
theorem dX7_remainder_32 : decode cX7_remainder 32 = .ok (.ifCond .eq 7, 3) := by decide +kernel
theorem dX7_remainder_35 : decode cX7_remainder 35 = .ok (.iconst 0, 1) := by decide +kernel
theorem dX7_remainder_36 : decode cX7_remainder 36 = .ok (.goto 19, 3) := by decide +kernel
theorem dX7_remainder_39 : decode cX7_remainder 39 = .ok (.aload_n 0, 1) := by decide +kernel
theorem dX7_remainder_40 : decode cX7_remainder 40 = .ok (.getfield 17, 3) := by decide +kernel
theorem dX7_remainder_43 : decode cX7_remainder 43 = .ok (.iconst 1, 1) := by decide +kernel
theorem dX7_remainder_44 : decode cX7_remainder 44 = .ok (.bipush 12, 2) := by decide +kernel
theorem dX7_remainder_46 : decode cX7_remainder 46 = .ok (.iload_n 1, 1) := by decide +kernel
theorem dX7_remainder_47 : decode cX7_remainder 47 = .ok (.imul, 1) := by decide +kernel
theorem dX7_remainder_48 : decode cX7_remainder 48 = .ok (.iadd, 1) := by decide +kernel
theorem dX7_remainder_49 : decode cX7_remainder 49 = .ok (.bipush 10, 2) := by decide +kernel
theorem dX7_remainder_51 : decode cX7_remainder 51 = .ok (.iadd, 1) := by decide +kernel
theorem dX7_remainder_52 : decode cX7_remainder 52 = .ok (.iload_n 2, 1) := by decide +kernel
theorem dX7_remainder_53 : decode cX7_remainder 53 = .ok (.iadd, 1) := by decide +kernel
theorem dX7_remainder_54 : decode cX7_remainder 54 = .ok (.iaload, 1) := by decide +kernel
theorem dX7_remainder_55 : decode cX7_remainder 55 = .ok (.ireturn, 1) := by decide +kernel
theorem dX7_bound_0 : decode cX7_bound 0 = .ok (.aload_n 0, 1) := by decide +kernel
theorem dX7_bound_1 : decode cX7_bound 1 = .ok (.iconst 0, 1) := by decide +kernel
theorem dX7_bound_2 : decode cX7_bound 2 = .ok (.putfield 79, 3) := by decide +kernel
theorem dX7_bound_5 : decode cX7_bound 5 = .ok (.aload_n 0, 1) := by decide +kernel
theorem dX7_bound_6 : decode cX7_bound 6 = .ok (.iload_n 1, 1) := by decide +kernel
theorem dX7_bound_7 : decode cX7_bound 7 = .ok (.invokevirtual 306, 3) := by decide +kernel
theorem dX7_bound_10 : decode cX7_bound 10 = .ok (.ifCond .ne 25, 3) := by decide +kernel
theorem dX7_bound_13 : decode cX7_bound 13 = .ok (.aload_n 0, 1) := by decide +kernel
theorem dX7_bound_14 : decode cX7_bound 14 = .ok (.iload_n 2, 1) := by decide +kernel
theorem dX7_bound_15 : decode cX7_bound 15 = .ok (.iconst 0, 1) := by decide +kernel
theorem dX7_bound_16 : decode cX7_bound 16 = .ok (.iconst 1, 1) := by decide +kernel
theorem dX7_bound_17 : decode cX7_bound 17 = .ok (.invokestatic 179, 3) := by decide +kernel
theorem dX7_bound_20 : decode cX7_bound 20 = .ok (.ifCond .ne 7, 3) := by decide +kernel
theorem dX7_bound_23 : decode cX7_bound 23 = .ok (.iconst 1, 1) := by decide +kernel
theorem dX7_bound_24 : decode cX7_bound 24 = .ok (.goto 4, 3) := by decide +kernel
theorem dX7_bound_27 : decode cX7_bound 27 = .ok (.iconst 0, 1) := by decide +kernel
theorem dX7_bound_28 : decode cX7_bound 28 = .ok (.iconst 3, 1) := by decide +kernel
theorem dX7_bound_29 : decode cX7_bound 29 = .ok (.invokevirtual 287, 3) := by decide +kernel
theorem dX7_bound_32 : decode cX7_bound 32 = .ok (.ifCond .eq 5, 3) := by decide +kernel
theorem dX7_bound_35 : decode cX7_bound 35 = .ok (.iconst 0, 1) := by decide +kernel
theorem dX7_bound_36 : decode cX7_bound 36 = .ok (.ireturn, 1) := by decide +kernel
theorem dX7_bound_37 : decode cX7_bound 37 = .ok (.aload_n 0, 1) := by decide +kernel
theorem dX7_bound_38 : decode cX7_bound 38 = .ok (.getfield 17, 3) := by decide +kernel
theorem dX7_bound_41 : decode cX7_bound 41 = .ok (.iload_n 1, 1) := by decide +kernel
theorem dX7_bound_42 : decode cX7_bound 42 = .ok (.aload_n 0, 1) := by decide +kernel
theorem dX7_bound_43 : decode cX7_bound 43 = .ok (.getfield 61, 3) := by decide +kernel
theorem dX7_bound_46 : decode cX7_bound 46 = .ok (.invokestatic 226, 3) := by decide +kernel
theorem dX7_bound_49 : decode cX7_bound 49 = .ok (.iload_n 2, 1) := by decide +kernel
theorem dX7_bound_50 : decode cX7_bound 50 = .ok (.ifCond .ne 21, 3) := by decide +kernel
theorem dX7_bound_53 : decode cX7_bound 53 = .ok (.aload_n 0, 1) := by decide +kernel
theorem dX7_bound_54 : decode cX7_bound 54 = .ok (.getfield 61, 3) := by decide +kernel
theorem dX7_bound_57 : decode cX7_bound 57 = .ok (.invokestatic 107, 3) := by decide +kernel
theorem dX7_bound_60 : decode cX7_bound 60 = .ok (.aload_n 0, 1) := by decide +kernel
theorem dX7_bound_61 : decode cX7_bound 61 = .ok (.getfield 61, 3) := by decide +kernel
theorem dX7_bound_64 : decode cX7_bound 64 = .ok (.bipush 10, 2) := by decide +kernel
theorem dX7_bound_66 : decode cX7_bound 66 = .ok (.laload, 1) := by decide +kernel
theorem dX7_bound_67 : decode cX7_bound 67 = .ok (.ladd, 1) := by decide +kernel
theorem dX7_bound_68 : decode cX7_bound 68 = .ok (.goto 18, 3) := by decide +kernel
theorem dX7_bound_71 : decode cX7_bound 71 = .ok (.aload_n 0, 1) := by decide +kernel
theorem dX7_bound_72 : decode cX7_bound 72 = .ok (.getfield 61, 3) := by decide +kernel
theorem dX7_bound_75 : decode cX7_bound 75 = .ok (.invokestatic 113, 3) := by decide +kernel
theorem dX7_bound_78 : decode cX7_bound 78 = .ok (.aload_n 0, 1) := by decide +kernel
theorem dX7_bound_79 : decode cX7_bound 79 = .ok (.getfield 61, 3) := by decide +kernel
theorem dX7_bound_82 : decode cX7_bound 82 = .ok (.bipush 11, 2) := by decide +kernel
theorem dX7_bound_84 : decode cX7_bound 84 = .ok (.laload, 1) := by decide +kernel
theorem dX7_bound_85 : decode cX7_bound 85 = .ok (.ladd, 1) := by decide +kernel
theorem dX7_bound_86 : decode cX7_bound 86 = .ok (.l2i, 1) := by decide +kernel
theorem dX7_bound_87 : decode cX7_bound 87 = .ok (.ireturn, 1) := by decide +kernel
theorem dX7_power_0 : decode cX7_power 0 = .ok (.iload_n 2, 1) := by decide +kernel
theorem dX7_power_1 : decode cX7_power 1 = .ok (.ifCond .ne 7, 3) := by decide +kernel
theorem dX7_power_4 : decode cX7_power 4 = .ok (.lconst 1, 1) := by decide +kernel
theorem dX7_power_5 : decode cX7_power 5 = .ok (.goto 28, 3) := by decide +kernel
theorem dX7_power_8 : decode cX7_power 8 = .ok (.iload_n 2, 1) := by decide +kernel
theorem dX7_power_9 : decode cX7_power 9 = .ok (.iconst 1, 1) := by decide +kernel
theorem dX7_power_10 : decode cX7_power 10 = .ok (.if_icmp .ne 7, 3) := by decide +kernel
theorem dX7_power_13 : decode cX7_power 13 = .ok (.lload_n 0, 1) := by decide +kernel
theorem dX7_power_14 : decode cX7_power 14 = .ok (.goto 19, 3) := by decide +kernel
theorem dX7_power_17 : decode cX7_power 17 = .ok (.iload_n 2, 1) := by decide +kernel
theorem dX7_power_18 : decode cX7_power 18 = .ok (.iconst 2, 1) := by decide +kernel
theorem dX7_power_19 : decode cX7_power 19 = .ok (.if_icmp .ne 9, 3) := by decide +kernel
theorem dX7_power_22 : decode cX7_power 22 = .ok (.lload_n 0, 1) := by decide +kernel
theorem dX7_power_23 : decode cX7_power 23 = .ok (.lload_n 0, 1) := by decide +kernel
theorem dX7_power_24 : decode cX7_power 24 = .ok (.lmul, 1) := by decide +kernel
theorem dX7_power_25 : decode cX7_power 25 = .ok (.goto 8, 3) := by decide +kernel
theorem dX7_power_28 : decode cX7_power 28 = .ok (.lload_n 0, 1) := by decide +kernel
theorem dX7_power_29 : decode cX7_power 29 = .ok (.lload_n 0, 1) := by decide +kernel
theorem dX7_power_30 : decode cX7_power 30 = .ok (.lmul, 1) := by decide +kernel
theorem dX7_power_31 : decode cX7_power 31 = .ok (.lload_n 0, 1) := by decide +kernel
theorem dX7_power_32 : decode cX7_power 32 = .ok (.lmul, 1) := by decide +kernel
theorem dX7_power_33 : decode cX7_power 33 = .ok (.lreturn, 1) := by decide +kernel
theorem dX7_value_0 : decode cX7_value 0 = .ok (.aload_n 0, 1) := by decide +kernel
theorem dX7_value_1 : decode cX7_value 1 = .ok (.iconst 0, 1) := by decide +kernel
theorem dX7_value_2 : decode cX7_value 2 = .ok (.putfield 79, 3) := by decide +kernel
theorem dX7_value_5 : decode cX7_value 5 = .ok (.aload_n 0, 1) := by decide +kernel
theorem dX7_value_6 : decode cX7_value 6 = .ok (.iload_n 1, 1) := by decide +kernel
theorem dX7_value_7 : decode cX7_value 7 = .ok (.invokevirtual 306, 3) := by decide +kernel
theorem dX7_value_10 : decode cX7_value 10 = .ok (.ifCond .ne 52, 3) := by decide +kernel
theorem dX7_value_13 : decode cX7_value 13 = .ok (.aload_n 0, 1) := by decide +kernel
theorem dX7_value_14 : decode cX7_value 14 = .ok (.iload_n 2, 1) := by decide +kernel
theorem dX7_value_15 : decode cX7_value 15 = .ok (.sipush (-1000), 3) := by decide +kernel
theorem dX7_value_18 : decode cX7_value 18 = .ok (.sipush 1000, 3) := by decide +kernel
theorem dX7_value_21 : decode cX7_value 21 = .ok (.invokestatic 179, 3) := by decide +kernel
theorem dX7_value_24 : decode cX7_value 24 = .ok (.ifCond .eq 26, 3) := by decide +kernel
theorem dX7_value_27 : decode cX7_value 27 = .ok (.iload_n 3, 1) := by decide +kernel
theorem dX7_value_28 : decode cX7_value 28 = .ok (.sipush (-1000), 3) := by decide +kernel
theorem dX7_value_31 : decode cX7_value 31 = .ok (.sipush 1000, 3) := by decide +kernel
theorem dX7_value_34 : decode cX7_value 34 = .ok (.invokestatic 179, 3) := by decide +kernel
theorem dX7_value_37 : decode cX7_value 37 = .ok (.ifCond .eq 13, 3) := by decide +kernel
theorem dX7_value_40 : decode cX7_value 40 = .ok (.iload 4, 2) := by decide +kernel
theorem dX7_value_42 : decode cX7_value 42 = .ok (.iconst 0, 1) := by decide +kernel
theorem dX7_value_43 : decode cX7_value 43 = .ok (.iconst 1, 1) := by decide +kernel
theorem dX7_value_44 : decode cX7_value 44 = .ok (.invokestatic 179, 3) := by decide +kernel
theorem dX7_value_47 : decode cX7_value 47 = .ok (.ifCond .ne 7, 3) := by decide +kernel
theorem dX7_value_50 : decode cX7_value 50 = .ok (.iconst 1, 1) := by decide +kernel
theorem dX7_value_51 : decode cX7_value 51 = .ok (.goto 4, 3) := by decide +kernel
theorem dX7_value_54 : decode cX7_value 54 = .ok (.iconst 0, 1) := by decide +kernel
theorem dX7_value_55 : decode cX7_value 55 = .ok (.iconst 3, 1) := by decide +kernel
theorem dX7_value_56 : decode cX7_value 56 = .ok (.invokevirtual 287, 3) := by decide +kernel
theorem dX7_value_59 : decode cX7_value 59 = .ok (.ifCond .eq 5, 3) := by decide +kernel
theorem dX7_value_62 : decode cX7_value 62 = .ok (.iconst 0, 1) := by decide +kernel
theorem dX7_value_63 : decode cX7_value 63 = .ok (.ireturn, 1) := by decide +kernel
theorem dX7_value_64 : decode cX7_value 64 = .ok (.aload_n 0, 1) := by decide +kernel
theorem dX7_value_65 : decode cX7_value 65 = .ok (.getfield 17, 3) := by decide +kernel
theorem dX7_value_68 : decode cX7_value 68 = .ok (.iload_n 1, 1) := by decide +kernel
theorem dX7_value_69 : decode cX7_value 69 = .ok (.aload_n 0, 1) := by decide +kernel
theorem dX7_value_70 : decode cX7_value 70 = .ok (.getfield 61, 3) := by decide +kernel
theorem dX7_value_73 : decode cX7_value 73 = .ok (.invokestatic 226, 3) := by decide +kernel
theorem dX7_value_76 : decode cX7_value 76 = .ok (.lconst 0, 1) := by decide +kernel
theorem dX7_value_77 : decode cX7_value 77 = .ok (.lstore 5, 2) := by decide +kernel
theorem dX7_value_79 : decode cX7_value 79 = .ok (.ldc2_w 116, 3) := by decide +kernel
theorem dX7_value_82 : decode cX7_value 82 = .ok (.iconst 3, 1) := by decide +kernel
theorem dX7_value_83 : decode cX7_value 83 = .ok (.invokestatic 313, 3) := by decide +kernel
theorem dX7_value_86 : decode cX7_value 86 = .ok (.lstore 7, 2) := by decide +kernel
theorem dX7_value_88 : decode cX7_value 88 = .ok (.iconst 0, 1) := by decide +kernel
theorem dX7_value_89 : decode cX7_value 89 = .ok (.istore 9, 2) := by decide +kernel
theorem dX7_value_91 : decode cX7_value 91 = .ok (.iload 9, 2) := by decide +kernel
theorem dX7_value_93 : decode cX7_value 93 = .ok (.bipush 10, 2) := by decide +kernel
theorem dX7_value_95 : decode cX7_value 95 = .ok (.if_icmp .ge 63, 3) := by decide +kernel
theorem dX7_value_98 : decode cX7_value 98 = .ok (.lload 5, 2) := by decide +kernel
theorem dX7_value_100 : decode cX7_value 100 = .ok (.aload_n 0, 1) := by decide +kernel
theorem dX7_value_101 : decode cX7_value 101 = .ok (.getfield 61, 3) := by decide +kernel
theorem dX7_value_104 : decode cX7_value 104 = .ok (.iload 9, 2) := by decide +kernel
theorem dX7_value_106 : decode cX7_value 106 = .ok (.laload, 1) := by decide +kernel
theorem dX7_value_107 : decode cX7_value 107 = .ok (.iload_n 2, 1) := by decide +kernel
theorem dX7_value_108 : decode cX7_value 108 = .ok (.i2l, 1) := by decide +kernel
theorem dX7_value_109 : decode cX7_value 109 = .ok (.iload 9, 2) := by decide +kernel
theorem dX7_value_111 : decode cX7_value 111 = .ok (.invokestatic 93, 3) := by decide +kernel
theorem dX7_value_114 : decode cX7_value 114 = .ok (.invokestatic 313, 3) := by decide +kernel
theorem dX7_value_117 : decode cX7_value 117 = .ok (.lmul, 1) := by decide +kernel
theorem dX7_value_118 : decode cX7_value 118 = .ok (.iload_n 3, 1) := by decide +kernel
theorem dX7_value_119 : decode cX7_value 119 = .ok (.i2l, 1) := by decide +kernel
theorem dX7_value_120 : decode cX7_value 120 = .ok (.iload 9, 2) := by decide +kernel
theorem dX7_value_122 : decode cX7_value 122 = .ok (.invokestatic 97, 3) := by decide +kernel
theorem dX7_value_125 : decode cX7_value 125 = .ok (.invokestatic 313, 3) := by decide +kernel
theorem dX7_value_128 : decode cX7_value 128 = .ok (.lmul, 1) := by decide +kernel
theorem dX7_value_129 : decode cX7_value 129 = .ok (.ldc2_w 116, 3) := by decide +kernel
theorem dX7_value_132 : decode cX7_value 132 = .ok (.iconst 3, 1) := by decide +kernel
theorem dX7_value_133 : decode cX7_value 133 = .ok (.iload 9, 2) := by decide +kernel
theorem dX7_value_135 : decode cX7_value 135 = .ok (.invokestatic 93, 3) := by decide +kernel
theorem dX7_value_138 : decode cX7_value 138 = .ok (.isub, 1) := by decide +kernel
theorem dX7_value_139 : decode cX7_value 139 = .ok (.iload 9, 2) := by decide +kernel
theorem dX7_value_141 : decode cX7_value 141 = .ok (.invokestatic 97, 3) := by decide +kernel
theorem dX7_value_144 : decode cX7_value 144 = .ok (.isub, 1) := by decide +kernel
theorem dX7_value_145 : decode cX7_value 145 = .ok (.invokestatic 313, 3) := by decide +kernel
theorem dX7_value_148 : decode cX7_value 148 = .ok (.lmul, 1) := by decide +kernel
theorem dX7_value_149 : decode cX7_value 149 = .ok (.ladd, 1) := by decide +kernel
theorem dX7_value_150 : decode cX7_value 150 = .ok (.lstore 5, 2) := by decide +kernel
theorem dX7_value_152 : decode cX7_value 152 = .ok (.iinc 9 1, 3) := by decide +kernel
theorem dX7_value_155 : decode cX7_value 155 = .ok (.goto (-64), 3) := by decide +kernel
theorem dX7_value_158 : decode cX7_value 158 = .ok (.iload 4, 2) := by decide +kernel
theorem dX7_value_160 : decode cX7_value 160 = .ok (.ifCond .ne 21, 3) := by decide +kernel
theorem dX7_value_163 : decode cX7_value 163 = .ok (.lload 5, 2) := by decide +kernel
theorem dX7_value_165 : decode cX7_value 165 = .ok (.lload 7, 2) := by decide +kernel
theorem dX7_value_167 : decode cX7_value 167 = .ok (.invokestatic 82, 3) := by decide +kernel
theorem dX7_value_170 : decode cX7_value 170 = .ok (.aload_n 0, 1) := by decide +kernel
theorem dX7_value_171 : decode cX7_value 171 = .ok (.getfield 61, 3) := by decide +kernel
theorem dX7_value_174 : decode cX7_value 174 = .ok (.bipush 10, 2) := by decide +kernel
theorem dX7_value_176 : decode cX7_value 176 = .ok (.laload, 1) := by decide +kernel
theorem dX7_value_177 : decode cX7_value 177 = .ok (.ladd, 1) := by decide +kernel
theorem dX7_value_178 : decode cX7_value 178 = .ok (.goto 18, 3) := by decide +kernel
theorem dX7_value_181 : decode cX7_value 181 = .ok (.lload 5, 2) := by decide +kernel
theorem dX7_value_183 : decode cX7_value 183 = .ok (.lload 7, 2) := by decide +kernel
theorem dX7_value_185 : decode cX7_value 185 = .ok (.invokestatic 144, 3) := by decide +kernel
theorem dX7_value_188 : decode cX7_value 188 = .ok (.aload_n 0, 1) := by decide +kernel
theorem dX7_value_189 : decode cX7_value 189 = .ok (.getfield 61, 3) := by decide +kernel
theorem dX7_value_192 : decode cX7_value 192 = .ok (.bipush 11, 2) := by decide +kernel
theorem dX7_value_194 : decode cX7_value 194 = .ok (.laload, 1) := by decide +kernel
theorem dX7_value_195 : decode cX7_value 195 = .ok (.ladd, 1) := by decide +kernel
theorem dX7_value_196 : decode cX7_value 196 = .ok (.l2i, 1) := by decide +kernel
theorem dX7_value_197 : decode cX7_value 197 = .ok (.ireturn, 1) := by decide +kernel
theorem dX7_degree_0 : decode cX7_degree 0 = .ok (.aload_n 0, 1) := by decide +kernel
theorem dX7_degree_1 : decode cX7_degree 1 = .ok (.iconst 0, 1) := by decide +kernel
theorem dX7_degree_2 : decode cX7_degree 2 = .ok (.putfield 79, 3) := by decide +kernel
theorem dX7_degree_5 : decode cX7_degree 5 = .ok (.aload_n 0, 1) := by decide +kernel
theorem dX7_degree_6 : decode cX7_degree 6 = .ok (.iload_n 1, 1) := by decide +kernel
theorem dX7_degree_7 : decode cX7_degree 7 = .ok (.invokevirtual 306, 3) := by decide +kernel
theorem dX7_degree_10 : decode cX7_degree 10 = .ok (.ifCond .eq 5, 3) := by decide +kernel
theorem dX7_degree_13 : decode cX7_degree 13 = .ok (.iconst 0, 1) := by decide +kernel
theorem dX7_degree_14 : decode cX7_degree 14 = .ok (.ireturn, 1) := by decide +kernel
theorem dX7_degree_15 : decode cX7_degree 15 = .ok (.iconst (-1), 1) := by decide +kernel
theorem dX7_degree_16 : decode cX7_degree 16 = .ok (.istore_n 2, 1) := by decide +kernel
theorem dX7_degree_17 : decode cX7_degree 17 = .ok (.iconst 0, 1) := by decide +kernel
theorem dX7_degree_18 : decode cX7_degree 18 = .ok (.istore_n 3, 1) := by decide +kernel
theorem dX7_degree_19 : decode cX7_degree 19 = .ok (.iload_n 3, 1) := by decide +kernel
theorem dX7_degree_20 : decode cX7_degree 20 = .ok (.bipush 10, 2) := by decide +kernel
theorem dX7_degree_22 : decode cX7_degree 22 = .ok (.if_icmp .ge 48, 3) := by decide +kernel
theorem dX7_degree_25 : decode cX7_degree 25 = .ok (.aload_n 0, 1) := by decide +kernel
theorem dX7_degree_26 : decode cX7_degree 26 = .ok (.getfield 17, 3) := by decide +kernel
theorem dX7_degree_29 : decode cX7_degree 29 = .ok (.iconst 1, 1) := by decide +kernel
theorem dX7_degree_30 : decode cX7_degree 30 = .ok (.bipush 12, 2) := by decide +kernel
theorem dX7_degree_32 : decode cX7_degree 32 = .ok (.iload_n 1, 1) := by decide +kernel
theorem dX7_degree_33 : decode cX7_degree 33 = .ok (.imul, 1) := by decide +kernel
theorem dX7_degree_34 : decode cX7_degree 34 = .ok (.iadd, 1) := by decide +kernel
theorem dX7_degree_35 : decode cX7_degree 35 = .ok (.iload_n 3, 1) := by decide +kernel
theorem dX7_degree_36 : decode cX7_degree 36 = .ok (.iadd, 1) := by decide +kernel
theorem dX7_degree_37 : decode cX7_degree 37 = .ok (.iaload, 1) := by decide +kernel
theorem dX7_degree_38 : decode cX7_degree 38 = .ok (.ifCond .eq 26, 3) := by decide +kernel
theorem dX7_degree_41 : decode cX7_degree 41 = .ok (.iload_n 3, 1) := by decide +kernel
theorem dX7_degree_42 : decode cX7_degree 42 = .ok (.invokestatic 93, 3) := by decide +kernel
theorem dX7_degree_45 : decode cX7_degree 45 = .ok (.iload_n 3, 1) := by decide +kernel
theorem dX7_degree_46 : decode cX7_degree 46 = .ok (.invokestatic 97, 3) := by decide +kernel
theorem dX7_degree_49 : decode cX7_degree 49 = .ok (.iadd, 1) := by decide +kernel
theorem dX7_degree_50 : decode cX7_degree 50 = .ok (.iload_n 2, 1) := by decide +kernel
theorem dX7_degree_51 : decode cX7_degree 51 = .ok (.if_icmp .le 13, 3) := by decide +kernel
theorem dX7_degree_54 : decode cX7_degree 54 = .ok (.iload_n 3, 1) := by decide +kernel
theorem dX7_degree_55 : decode cX7_degree 55 = .ok (.invokestatic 93, 3) := by decide +kernel
theorem dX7_degree_58 : decode cX7_degree 58 = .ok (.iload_n 3, 1) := by decide +kernel
theorem dX7_degree_59 : decode cX7_degree 59 = .ok (.invokestatic 97, 3) := by decide +kernel
theorem dX7_degree_62 : decode cX7_degree 62 = .ok (.iadd, 1) := by decide +kernel
theorem dX7_degree_63 : decode cX7_degree 63 = .ok (.istore_n 2, 1) := by decide +kernel
theorem dX7_degree_64 : decode cX7_degree 64 = .ok (.iinc 3 1, 3) := by decide +kernel
theorem dX7_degree_67 : decode cX7_degree 67 = .ok (.goto (-48), 3) := by decide +kernel
theorem dX7_degree_70 : decode cX7_degree 70 = .ok (.iload_n 2, 1) := by decide +kernel
theorem dX7_degree_71 : decode cX7_degree 71 = .ok (.ireturn, 1) := by decide +kernel
theorem dX7_covers_0 : decode cX7_covers 0 = .ok (.aload_n 0, 1) := by decide +kernel
theorem dX7_covers_1 : decode cX7_covers 1 = .ok (.iconst 0, 1) := by decide +kernel
theorem dX7_covers_2 : decode cX7_covers 2 = .ok (.putfield 79, 3) := by decide +kernel
theorem dX7_covers_5 : decode cX7_covers 5 = .ok (.aload_n 0, 1) := by decide +kernel
theorem dX7_covers_6 : decode cX7_covers 6 = .ok (.iload_n 1, 1) := by decide +kernel
theorem dX7_covers_7 : decode cX7_covers 7 = .ok (.iload_n 2, 1) := by decide +kernel
theorem dX7_covers_8 : decode cX7_covers 8 = .ok (.invokevirtual 316, 3) := by decide +kernel
theorem dX7_covers_11 : decode cX7_covers 11 = .ok (.ifCond .eq 5, 3) := by decide +kernel
theorem dX7_covers_14 : decode cX7_covers 14 = .ok (.iconst 0, 1) := by decide +kernel
theorem dX7_covers_15 : decode cX7_covers 15 = .ok (.ireturn, 1) := by decide +kernel
theorem dX7_covers_16 : decode cX7_covers 16 = .ok (.iconst 0, 1) := by decide +kernel
theorem dX7_covers_17 : decode cX7_covers 17 = .ok (.istore_n 3, 1) := by decide +kernel
theorem dX7_covers_18 : decode cX7_covers 18 = .ok (.iload_n 3, 1) := by decide +kernel
theorem dX7_covers_19 : decode cX7_covers 19 = .ok (.bipush 10, 2) := by decide +kernel
theorem dX7_covers_21 : decode cX7_covers 21 = .ok (.if_icmp .ge 28, 3) := by decide +kernel
theorem dX7_covers_24 : decode cX7_covers 24 = .ok (.aload_n 0, 1) := by decide +kernel
theorem dX7_covers_25 : decode cX7_covers 25 = .ok (.getfield 67, 3) := by decide +kernel
theorem dX7_covers_28 : decode cX7_covers 28 = .ok (.iload_n 3, 1) := by decide +kernel
theorem dX7_covers_29 : decode cX7_covers 29 = .ok (.aload_n 0, 1) := by decide +kernel
theorem dX7_covers_30 : decode cX7_covers 30 = .ok (.getfield 64, 3) := by decide +kernel
theorem dX7_covers_33 : decode cX7_covers 33 = .ok (.iload_n 3, 1) := by decide +kernel
theorem dX7_covers_34 : decode cX7_covers 34 = .ok (.laload, 1) := by decide +kernel
theorem dX7_covers_35 : decode cX7_covers 35 = .ok (.aload_n 0, 1) := by decide +kernel
theorem dX7_covers_36 : decode cX7_covers 36 = .ok (.getfield 61, 3) := by decide +kernel
theorem dX7_covers_39 : decode cX7_covers 39 = .ok (.iload_n 3, 1) := by decide +kernel
theorem dX7_covers_40 : decode cX7_covers 40 = .ok (.laload, 1) := by decide +kernel
theorem dX7_covers_41 : decode cX7_covers 41 = .ok (.lsub, 1) := by decide +kernel
theorem dX7_covers_42 : decode cX7_covers 42 = .ok (.lastore, 1) := by decide +kernel
theorem dX7_covers_43 : decode cX7_covers 43 = .ok (.iinc 3 1, 3) := by decide +kernel
theorem dX7_covers_46 : decode cX7_covers 46 = .ok (.goto (-28), 3) := by decide +kernel
theorem dX7_covers_49 : decode cX7_covers 49 = .ok (.aload_n 0, 1) := by decide +kernel
theorem dX7_covers_50 : decode cX7_covers 50 = .ok (.getfield 67, 3) := by decide +kernel
theorem dX7_covers_53 : decode cX7_covers 53 = .ok (.invokestatic 107, 3) := by decide +kernel
theorem dX7_covers_56 : decode cX7_covers 56 = .ok (.aload_n 0, 1) := by decide +kernel
theorem dX7_covers_57 : decode cX7_covers 57 = .ok (.getfield 64, 3) := by decide +kernel
theorem dX7_covers_60 : decode cX7_covers 60 = .ok (.bipush 10, 2) := by decide +kernel
theorem dX7_covers_62 : decode cX7_covers 62 = .ok (.laload, 1) := by decide +kernel
theorem dX7_covers_63 : decode cX7_covers 63 = .ok (.ladd, 1) := by decide +kernel
theorem dX7_covers_64 : decode cX7_covers 64 = .ok (.aload_n 0, 1) := by decide +kernel
theorem dX7_covers_65 : decode cX7_covers 65 = .ok (.getfield 61, 3) := by decide +kernel
theorem dX7_covers_68 : decode cX7_covers 68 = .ok (.bipush 10, 2) := by decide +kernel
theorem dX7_covers_70 : decode cX7_covers 70 = .ok (.laload, 1) := by decide +kernel
theorem dX7_covers_71 : decode cX7_covers 71 = .ok (.lcmp, 1) := by decide +kernel
theorem dX7_covers_72 : decode cX7_covers 72 = .ok (.ifCond .lt 33, 3) := by decide +kernel
theorem dX7_covers_75 : decode cX7_covers 75 = .ok (.aload_n 0, 1) := by decide +kernel
theorem dX7_covers_76 : decode cX7_covers 76 = .ok (.getfield 67, 3) := by decide +kernel
theorem dX7_covers_79 : decode cX7_covers 79 = .ok (.invokestatic 113, 3) := by decide +kernel
theorem dX7_covers_82 : decode cX7_covers 82 = .ok (.aload_n 0, 1) := by decide +kernel
theorem dX7_covers_83 : decode cX7_covers 83 = .ok (.getfield 64, 3) := by decide +kernel
theorem dX7_covers_86 : decode cX7_covers 86 = .ok (.bipush 11, 2) := by decide +kernel
theorem dX7_covers_88 : decode cX7_covers 88 = .ok (.laload, 1) := by decide +kernel
theorem dX7_covers_89 : decode cX7_covers 89 = .ok (.ladd, 1) := by decide +kernel
theorem dX7_covers_90 : decode cX7_covers 90 = .ok (.aload_n 0, 1) := by decide +kernel
theorem dX7_covers_91 : decode cX7_covers 91 = .ok (.getfield 61, 3) := by decide +kernel
theorem dX7_covers_94 : decode cX7_covers 94 = .ok (.bipush 11, 2) := by decide +kernel
theorem dX7_covers_96 : decode cX7_covers 96 = .ok (.laload, 1) := by decide +kernel
theorem dX7_covers_97 : decode cX7_covers 97 = .ok (.lcmp, 1) := by decide +kernel
theorem dX7_covers_98 : decode cX7_covers 98 = .ok (.ifCond .gt 7, 3) := by decide +kernel
theorem dX7_covers_101 : decode cX7_covers 101 = .ok (.iconst 1, 1) := by decide +kernel
theorem dX7_covers_102 : decode cX7_covers 102 = .ok (.goto 4, 3) := by decide +kernel
theorem dX7_covers_105 : decode cX7_covers 105 = .ok (.iconst 0, 1) := by decide +kernel
theorem dX7_covers_106 : decode cX7_covers 106 = .ok (.ireturn, 1) := by decide +kernel
theorem dX7_noThree_0 : decode cX7_noThree 0 = .ok (.aload_n 0, 1) := by decide +kernel
theorem dX7_noThree_1 : decode cX7_noThree 1 = .ok (.iload_n 1, 1) := by decide +kernel
theorem dX7_noThree_2 : decode cX7_noThree 2 = .ok (.invokevirtual 303, 3) := by decide +kernel
theorem dX7_noThree_5 : decode cX7_noThree 5 = .ok (.ifCond .ne 36, 3) := by decide +kernel
theorem dX7_noThree_8 : decode cX7_noThree 8 = .ok (.aload_n 0, 1) := by decide +kernel
theorem dX7_noThree_9 : decode cX7_noThree 9 = .ok (.iload_n 2, 1) := by decide +kernel
theorem dX7_noThree_10 : decode cX7_noThree 10 = .ok (.invokevirtual 303, 3) := by decide +kernel
theorem dX7_noThree_13 : decode cX7_noThree 13 = .ok (.ifCond .ne 28, 3) := by decide +kernel
theorem dX7_noThree_16 : decode cX7_noThree 16 = .ok (.aload_n 0, 1) := by decide +kernel
theorem dX7_noThree_17 : decode cX7_noThree 17 = .ok (.iload_n 3, 1) := by decide +kernel
theorem dX7_noThree_18 : decode cX7_noThree 18 = .ok (.invokevirtual 303, 3) := by decide +kernel
theorem dX7_noThree_21 : decode cX7_noThree 21 = .ok (.ifCond .ne 20, 3) := by decide +kernel
theorem dX7_noThree_24 : decode cX7_noThree 24 = .ok (.aload_n 0, 1) := by decide +kernel
theorem dX7_noThree_25 : decode cX7_noThree 25 = .ok (.iload_n 1, 1) := by decide +kernel
theorem dX7_noThree_26 : decode cX7_noThree 26 = .ok (.invokevirtual 306, 3) := by decide +kernel
theorem dX7_noThree_29 : decode cX7_noThree 29 = .ok (.ifCond .ne 12, 3) := by decide +kernel
theorem dX7_noThree_32 : decode cX7_noThree 32 = .ok (.aload_n 0, 1) := by decide +kernel
theorem dX7_noThree_33 : decode cX7_noThree 33 = .ok (.iload_n 2, 1) := by decide +kernel
theorem dX7_noThree_34 : decode cX7_noThree 34 = .ok (.iload_n 3, 1) := by decide +kernel
theorem dX7_noThree_35 : decode cX7_noThree 35 = .ok (.invokevirtual 316, 3) := by decide +kernel
theorem dX7_noThree_38 : decode cX7_noThree 38 = .ok (.ifCond .eq 5, 3) := by decide +kernel
theorem dX7_noThree_41 : decode cX7_noThree 41 = .ok (.iconst 1, 1) := by decide +kernel
theorem dX7_noThree_42 : decode cX7_noThree 42 = .ok (.ireturn, 1) := by decide +kernel
theorem dX7_noThree_43 : decode cX7_noThree 43 = .ok (.aload_n 0, 1) := by decide +kernel
theorem dX7_noThree_44 : decode cX7_noThree 44 = .ok (.getfield 17, 3) := by decide +kernel
theorem dX7_noThree_47 : decode cX7_noThree 47 = .ok (.iload_n 1, 1) := by decide +kernel
theorem dX7_noThree_48 : decode cX7_noThree 48 = .ok (.aload_n 0, 1) := by decide +kernel
theorem dX7_noThree_49 : decode cX7_noThree 49 = .ok (.getfield 67, 3) := by decide +kernel
theorem dX7_noThree_52 : decode cX7_noThree 52 = .ok (.invokestatic 226, 3) := by decide +kernel
theorem dX7_noThree_55 : decode cX7_noThree 55 = .ok (.iconst 0, 1) := by decide +kernel
theorem dX7_noThree_56 : decode cX7_noThree 56 = .ok (.ireturn, 1) := by decide +kernel
theorem dX7_reason_0 : decode cX7_reason 0 = .ok (.aload_n 0, 1) := by decide +kernel
theorem dX7_reason_1 : decode cX7_reason 1 = .ok (.iconst 0, 1) := by decide +kernel
theorem dX7_reason_2 : decode cX7_reason 2 = .ok (.putfield 79, 3) := by decide +kernel
theorem dX7_reason_5 : decode cX7_reason 5 = .ok (.aload_n 0, 1) := by decide +kernel
theorem dX7_reason_6 : decode cX7_reason 6 = .ok (.iload_n 1, 1) := by decide +kernel
theorem dX7_reason_7 : decode cX7_reason 7 = .ok (.iload_n 2, 1) := by decide +kernel
theorem dX7_reason_8 : decode cX7_reason 8 = .ok (.iload_n 3, 1) := by decide +kernel
theorem dX7_reason_9 : decode cX7_reason 9 = .ok (.invokevirtual 319, 3) := by decide +kernel
theorem dX7_reason_12 : decode cX7_reason 12 = .ok (.ifCond .eq 7, 3) := by decide +kernel
theorem dX7_reason_15 : decode cX7_reason 15 = .ok (.iconst 0, 1) := by decide +kernel
theorem dX7_reason_16 : decode cX7_reason 16 = .ok (.goto 23, 3) := by decide +kernel
theorem dX7_reason_19 : decode cX7_reason 19 = .ok (.aload_n 0, 1) := by decide +kernel
theorem dX7_reason_20 : decode cX7_reason 20 = .ok (.aload_n 0, 1) := by decide +kernel
theorem dX7_reason_21 : decode cX7_reason 21 = .ok (.getfield 67, 3) := by decide +kernel
theorem dX7_reason_24 : decode cX7_reason 24 = .ok (.aload_n 0, 1) := by decide +kernel
theorem dX7_reason_25 : decode cX7_reason 25 = .ok (.getfield 61, 3) := by decide +kernel
theorem dX7_reason_28 : decode cX7_reason 28 = .ok (.aload_n 0, 1) := by decide +kernel
theorem dX7_reason_29 : decode cX7_reason 29 = .ok (.getfield 64, 3) := by decide +kernel
theorem dX7_reason_32 : decode cX7_reason 32 = .ok (.aload_n 0, 1) := by decide +kernel
theorem dX7_reason_33 : decode cX7_reason 33 = .ok (.getfield 70, 3) := by decide +kernel
theorem dX7_reason_36 : decode cX7_reason 36 = .ok (.invokevirtual 239, 3) := by decide +kernel
theorem dX7_reason_39 : decode cX7_reason 39 = .ok (.ireturn, 1) := by decide +kernel
theorem dX7_remember_0 : decode cX7_remember 0 = .ok (.aload_n 0, 1) := by decide +kernel
theorem dX7_remember_1 : decode cX7_remember 1 = .ok (.getfield 322, 3) := by decide +kernel
theorem dX7_remember_4 : decode cX7_remember 4 = .ok (.bipush 8, 2) := by decide +kernel
theorem dX7_remember_6 : decode cX7_remember 6 = .ok (.if_icmp .ne 44, 3) := by decide +kernel
theorem dX7_remember_9 : decode cX7_remember 9 = .ok (.iconst 1, 1) := by decide +kernel
theorem dX7_remember_10 : decode cX7_remember 10 = .ok (.istore_n 1, 1) := by decide +kernel
theorem dX7_remember_11 : decode cX7_remember 11 = .ok (.iload_n 1, 1) := by decide +kernel
theorem dX7_remember_12 : decode cX7_remember 12 = .ok (.bipush 8, 2) := by decide +kernel
theorem dX7_remember_14 : decode cX7_remember 14 = .ok (.if_icmp .ge 26, 3) := by decide +kernel
theorem dX7_remember_17 : decode cX7_remember 17 = .ok (.aload_n 0, 1) := by decide +kernel
theorem dX7_remember_18 : decode cX7_remember 18 = .ok (.getfield 25, 3) := by decide +kernel
theorem dX7_remember_21 : decode cX7_remember 21 = .ok (.iload_n 1, 1) := by decide +kernel
theorem dX7_remember_22 : decode cX7_remember 22 = .ok (.aaload, 1) := by decide +kernel
theorem dX7_remember_23 : decode cX7_remember 23 = .ok (.aload_n 0, 1) := by decide +kernel
theorem dX7_remember_24 : decode cX7_remember 24 = .ok (.getfield 25, 3) := by decide +kernel
theorem dX7_remember_27 : decode cX7_remember 27 = .ok (.iload_n 1, 1) := by decide +kernel
theorem dX7_remember_28 : decode cX7_remember 28 = .ok (.iconst 1, 1) := by decide +kernel
theorem dX7_remember_29 : decode cX7_remember 29 = .ok (.isub, 1) := by decide +kernel
theorem dX7_remember_30 : decode cX7_remember 30 = .ok (.aaload, 1) := by decide +kernel
theorem dX7_remember_31 : decode cX7_remember 31 = .ok (.invokestatic 299, 3) := by decide +kernel
theorem dX7_remember_34 : decode cX7_remember 34 = .ok (.iinc 1 1, 3) := by decide +kernel
theorem dX7_remember_37 : decode cX7_remember 37 = .ok (.goto (-26), 3) := by decide +kernel
theorem dX7_remember_40 : decode cX7_remember 40 = .ok (.aload_n 0, 1) := by decide +kernel
theorem dX7_remember_41 : decode cX7_remember 41 = .ok (.dup, 1) := by decide +kernel
theorem dX7_remember_42 : decode cX7_remember 42 = .ok (.getfield 322, 3) := by decide +kernel
theorem dX7_remember_45 : decode cX7_remember 45 = .ok (.iconst 1, 1) := by decide +kernel
theorem dX7_remember_46 : decode cX7_remember 46 = .ok (.isub, 1) := by decide +kernel
theorem dX7_remember_47 : decode cX7_remember 47 = .ok (.putfield 322, 3) := by decide +kernel
theorem dX7_remember_50 : decode cX7_remember 50 = .ok (.aload_n 0, 1) := by decide +kernel
theorem dX7_remember_51 : decode cX7_remember 51 = .ok (.getfield 17, 3) := by decide +kernel
theorem dX7_remember_54 : decode cX7_remember 54 = .ok (.aload_n 0, 1) := by decide +kernel
theorem dX7_remember_55 : decode cX7_remember 55 = .ok (.getfield 25, 3) := by decide +kernel
theorem dX7_remember_58 : decode cX7_remember 58 = .ok (.aload_n 0, 1) := by decide +kernel
theorem dX7_remember_59 : decode cX7_remember 59 = .ok (.getfield 322, 3) := by decide +kernel
theorem dX7_remember_62 : decode cX7_remember 62 = .ok (.aaload, 1) := by decide +kernel
theorem dX7_remember_63 : decode cX7_remember 63 = .ok (.invokestatic 299, 3) := by decide +kernel
theorem dX7_remember_66 : decode cX7_remember 66 = .ok (.aload_n 0, 1) := by decide +kernel
theorem dX7_remember_67 : decode cX7_remember 67 = .ok (.dup, 1) := by decide +kernel
theorem dX7_remember_68 : decode cX7_remember 68 = .ok (.getfield 322, 3) := by decide +kernel
theorem dX7_remember_71 : decode cX7_remember 71 = .ok (.iconst 1, 1) := by decide +kernel
theorem dX7_remember_72 : decode cX7_remember 72 = .ok (.iadd, 1) := by decide +kernel
theorem dX7_remember_73 : decode cX7_remember 73 = .ok (.putfield 322, 3) := by decide +kernel
theorem dX7_remember_76 : decode cX7_remember 76 = .ok (.return_, 1) := by decide +kernel
theorem dX7_becomes_0 : decode cX7_becomes 0 = .ok (.aload_n 0, 1) := by decide +kernel
theorem dX7_becomes_1 : decode cX7_becomes 1 = .ok (.invokevirtual 296, 3) := by decide +kernel
theorem dX7_becomes_4 : decode cX7_becomes 4 = .ok (.aload_n 0, 1) := by decide +kernel
theorem dX7_becomes_5 : decode cX7_becomes 5 = .ok (.getfield 70, 3) := by decide +kernel
theorem dX7_becomes_8 : decode cX7_becomes 8 = .ok (.aload_n 0, 1) := by decide +kernel
theorem dX7_becomes_9 : decode cX7_becomes 9 = .ok (.getfield 17, 3) := by decide +kernel
theorem dX7_becomes_12 : decode cX7_becomes 12 = .ok (.iload_n 1, 1) := by decide +kernel
theorem dX7_becomes_13 : decode cX7_becomes 13 = .ok (.invokestatic 283, 3) := by decide +kernel
theorem dX7_becomes_16 : decode cX7_becomes 16 = .ok (.aload_n 0, 1) := by decide +kernel
theorem dX7_becomes_17 : decode cX7_becomes 17 = .ok (.getfield 70, 3) := by decide +kernel
theorem dX7_becomes_20 : decode cX7_becomes 20 = .ok (.bipush 11, 2) := by decide +kernel
theorem dX7_becomes_22 : decode cX7_becomes 22 = .ok (.laload, 1) := by decide +kernel
theorem dX7_becomes_23 : decode cX7_becomes 23 = .ok (.aload_n 0, 1) := by decide +kernel
theorem dX7_becomes_24 : decode cX7_becomes 24 = .ok (.getfield 70, 3) := by decide +kernel
theorem dX7_becomes_27 : decode cX7_becomes 27 = .ok (.bipush 10, 2) := by decide +kernel
theorem dX7_becomes_29 : decode cX7_becomes 29 = .ok (.laload, 1) := by decide +kernel
theorem dX7_becomes_30 : decode cX7_becomes 30 = .ok (.lsub, 1) := by decide +kernel
theorem dX7_becomes_31 : decode cX7_becomes 31 = .ok (.l2i, 1) := by decide +kernel
theorem dX7_becomes_32 : decode cX7_becomes 32 = .ok (.ireturn, 1) := by decide +kernel
theorem dX7_add_0 : decode cX7_add 0 = .ok (.aload_n 0, 1) := by decide +kernel
theorem dX7_add_1 : decode cX7_add 1 = .ok (.iconst 0, 1) := by decide +kernel
theorem dX7_add_2 : decode cX7_add 2 = .ok (.putfield 79, 3) := by decide +kernel
theorem dX7_add_5 : decode cX7_add 5 = .ok (.aload_n 0, 1) := by decide +kernel
theorem dX7_add_6 : decode cX7_add 6 = .ok (.iload_n 1, 1) := by decide +kernel
theorem dX7_add_7 : decode cX7_add 7 = .ok (.invokevirtual 303, 3) := by decide +kernel
theorem dX7_add_10 : decode cX7_add 10 = .ok (.ifCond .ne 44, 3) := by decide +kernel
theorem dX7_add_13 : decode cX7_add 13 = .ok (.aload_n 0, 1) := by decide +kernel
theorem dX7_add_14 : decode cX7_add 14 = .ok (.iload_n 2, 1) := by decide +kernel
end
section
theorem dX7_add_15 : decode cX7_add 15 = .ok (.iload_n 3, 1) := by decide +kernel
theorem dX7_add_16 : decode cX7_add 16 = .ok (.invokevirtual 316, 3) := by decide +kernel
theorem dX7_add_19 : decode cX7_add 19 = .ok (.ifCond .ne 35, 3) := by decide +kernel
theorem dX7_add_22 : decode cX7_add 22 = .ok (.aload_n 0, 1) := by decide +kernel
theorem dX7_add_23 : decode cX7_add 23 = .ok (.aload_n 0, 1) := by decide +kernel
theorem dX7_add_24 : decode cX7_add 24 = .ok (.getfield 61, 3) := by decide +kernel
theorem dX7_add_27 : decode cX7_add 27 = .ok (.aload_n 0, 1) := by decide +kernel
theorem dX7_add_28 : decode cX7_add 28 = .ok (.getfield 64, 3) := by decide +kernel
theorem dX7_add_31 : decode cX7_add 31 = .ok (.iconst 1, 1) := by decide +kernel
theorem dX7_add_32 : decode cX7_add 32 = .ok (.aload_n 0, 1) := by decide +kernel
theorem dX7_add_33 : decode cX7_add 33 = .ok (.getfield 70, 3) := by decide +kernel
theorem dX7_add_36 : decode cX7_add 36 = .ok (.invokestatic 157, 3) := by decide +kernel
theorem dX7_add_39 : decode cX7_add 39 = .ok (.ifCond .ne 7, 3) := by decide +kernel
theorem dX7_add_42 : decode cX7_add 42 = .ok (.iconst 1, 1) := by decide +kernel
theorem dX7_add_43 : decode cX7_add 43 = .ok (.goto 4, 3) := by decide +kernel
theorem dX7_add_46 : decode cX7_add 46 = .ok (.iconst 0, 1) := by decide +kernel
theorem dX7_add_47 : decode cX7_add 47 = .ok (.iconst 3, 1) := by decide +kernel
theorem dX7_add_48 : decode cX7_add 48 = .ok (.invokevirtual 287, 3) := by decide +kernel
theorem dX7_add_51 : decode cX7_add 51 = .ok (.ifCond .eq 7, 3) := by decide +kernel
theorem dX7_add_54 : decode cX7_add 54 = .ok (.iconst 0, 1) := by decide +kernel
theorem dX7_add_55 : decode cX7_add 55 = .ok (.goto 8, 3) := by decide +kernel
theorem dX7_add_58 : decode cX7_add 58 = .ok (.aload_n 0, 1) := by decide +kernel
theorem dX7_add_59 : decode cX7_add 59 = .ok (.iload_n 1, 1) := by decide +kernel
theorem dX7_add_60 : decode cX7_add 60 = .ok (.invokevirtual 325, 3) := by decide +kernel
theorem dX7_add_63 : decode cX7_add 63 = .ok (.ireturn, 1) := by decide +kernel
theorem dX7_subtract_0 : decode cX7_subtract 0 = .ok (.aload_n 0, 1) := by decide +kernel
theorem dX7_subtract_1 : decode cX7_subtract 1 = .ok (.iconst 0, 1) := by decide +kernel
theorem dX7_subtract_2 : decode cX7_subtract 2 = .ok (.putfield 79, 3) := by decide +kernel
theorem dX7_subtract_5 : decode cX7_subtract 5 = .ok (.aload_n 0, 1) := by decide +kernel
theorem dX7_subtract_6 : decode cX7_subtract 6 = .ok (.iload_n 1, 1) := by decide +kernel
theorem dX7_subtract_7 : decode cX7_subtract 7 = .ok (.invokevirtual 303, 3) := by decide +kernel
theorem dX7_subtract_10 : decode cX7_subtract 10 = .ok (.ifCond .ne 44, 3) := by decide +kernel
theorem dX7_subtract_13 : decode cX7_subtract 13 = .ok (.aload_n 0, 1) := by decide +kernel
theorem dX7_subtract_14 : decode cX7_subtract 14 = .ok (.iload_n 2, 1) := by decide +kernel
theorem dX7_subtract_15 : decode cX7_subtract 15 = .ok (.iload_n 3, 1) := by decide +kernel
theorem dX7_subtract_16 : decode cX7_subtract 16 = .ok (.invokevirtual 316, 3) := by decide +kernel
theorem dX7_subtract_19 : decode cX7_subtract 19 = .ok (.ifCond .ne 35, 3) := by decide +kernel
theorem dX7_subtract_22 : decode cX7_subtract 22 = .ok (.aload_n 0, 1) := by decide +kernel
theorem dX7_subtract_23 : decode cX7_subtract 23 = .ok (.aload_n 0, 1) := by decide +kernel
theorem dX7_subtract_24 : decode cX7_subtract 24 = .ok (.getfield 61, 3) := by decide +kernel
theorem dX7_subtract_27 : decode cX7_subtract 27 = .ok (.aload_n 0, 1) := by decide +kernel
theorem dX7_subtract_28 : decode cX7_subtract 28 = .ok (.getfield 64, 3) := by decide +kernel
theorem dX7_subtract_31 : decode cX7_subtract 31 = .ok (.iconst (-1), 1) := by decide +kernel
theorem dX7_subtract_32 : decode cX7_subtract 32 = .ok (.aload_n 0, 1) := by decide +kernel
theorem dX7_subtract_33 : decode cX7_subtract 33 = .ok (.getfield 70, 3) := by decide +kernel
theorem dX7_subtract_36 : decode cX7_subtract 36 = .ok (.invokestatic 157, 3) := by decide +kernel
theorem dX7_subtract_39 : decode cX7_subtract 39 = .ok (.ifCond .ne 7, 3) := by decide +kernel
theorem dX7_subtract_42 : decode cX7_subtract 42 = .ok (.iconst 1, 1) := by decide +kernel
theorem dX7_subtract_43 : decode cX7_subtract 43 = .ok (.goto 4, 3) := by decide +kernel
theorem dX7_subtract_46 : decode cX7_subtract 46 = .ok (.iconst 0, 1) := by decide +kernel
theorem dX7_subtract_47 : decode cX7_subtract 47 = .ok (.iconst 3, 1) := by decide +kernel
theorem dX7_subtract_48 : decode cX7_subtract 48 = .ok (.invokevirtual 287, 3) := by decide +kernel
theorem dX7_subtract_51 : decode cX7_subtract 51 = .ok (.ifCond .eq 7, 3) := by decide +kernel
theorem dX7_subtract_54 : decode cX7_subtract 54 = .ok (.iconst 0, 1) := by decide +kernel
theorem dX7_subtract_55 : decode cX7_subtract 55 = .ok (.goto 8, 3) := by decide +kernel
theorem dX7_subtract_58 : decode cX7_subtract 58 = .ok (.aload_n 0, 1) := by decide +kernel
theorem dX7_subtract_59 : decode cX7_subtract 59 = .ok (.iload_n 1, 1) := by decide +kernel
theorem dX7_subtract_60 : decode cX7_subtract 60 = .ok (.invokevirtual 325, 3) := by decide +kernel
theorem dX7_subtract_63 : decode cX7_subtract 63 = .ok (.ireturn, 1) := by decide +kernel
theorem dX7_multiply_0 : decode cX7_multiply 0 = .ok (.aload_n 0, 1) := by decide +kernel
theorem dX7_multiply_1 : decode cX7_multiply 1 = .ok (.iconst 0, 1) := by decide +kernel
theorem dX7_multiply_2 : decode cX7_multiply 2 = .ok (.putfield 79, 3) := by decide +kernel
theorem dX7_multiply_5 : decode cX7_multiply 5 = .ok (.aload_n 0, 1) := by decide +kernel
theorem dX7_multiply_6 : decode cX7_multiply 6 = .ok (.iload_n 1, 1) := by decide +kernel
theorem dX7_multiply_7 : decode cX7_multiply 7 = .ok (.invokevirtual 303, 3) := by decide +kernel
theorem dX7_multiply_10 : decode cX7_multiply 10 = .ok (.ifCond .ne 44, 3) := by decide +kernel
theorem dX7_multiply_13 : decode cX7_multiply 13 = .ok (.aload_n 0, 1) := by decide +kernel
theorem dX7_multiply_14 : decode cX7_multiply 14 = .ok (.iload_n 2, 1) := by decide +kernel
theorem dX7_multiply_15 : decode cX7_multiply 15 = .ok (.iload_n 3, 1) := by decide +kernel
theorem dX7_multiply_16 : decode cX7_multiply 16 = .ok (.invokevirtual 316, 3) := by decide +kernel
theorem dX7_multiply_19 : decode cX7_multiply 19 = .ok (.ifCond .ne 35, 3) := by decide +kernel
theorem dX7_multiply_22 : decode cX7_multiply 22 = .ok (.aload_n 0, 1) := by decide +kernel
theorem dX7_multiply_23 : decode cX7_multiply 23 = .ok (.aload_n 0, 1) := by decide +kernel
theorem dX7_multiply_24 : decode cX7_multiply 24 = .ok (.aload_n 0, 1) := by decide +kernel
theorem dX7_multiply_25 : decode cX7_multiply 25 = .ok (.getfield 61, 3) := by decide +kernel
theorem dX7_multiply_28 : decode cX7_multiply 28 = .ok (.aload_n 0, 1) := by decide +kernel
theorem dX7_multiply_29 : decode cX7_multiply 29 = .ok (.getfield 64, 3) := by decide +kernel
theorem dX7_multiply_32 : decode cX7_multiply 32 = .ok (.aload_n 0, 1) := by decide +kernel
theorem dX7_multiply_33 : decode cX7_multiply 33 = .ok (.getfield 70, 3) := by decide +kernel
theorem dX7_multiply_36 : decode cX7_multiply 36 = .ok (.invokevirtual 153, 3) := by decide +kernel
theorem dX7_multiply_39 : decode cX7_multiply 39 = .ok (.ifCond .ne 7, 3) := by decide +kernel
theorem dX7_multiply_42 : decode cX7_multiply 42 = .ok (.iconst 1, 1) := by decide +kernel
theorem dX7_multiply_43 : decode cX7_multiply 43 = .ok (.goto 4, 3) := by decide +kernel
theorem dX7_multiply_46 : decode cX7_multiply 46 = .ok (.iconst 0, 1) := by decide +kernel
theorem dX7_multiply_47 : decode cX7_multiply 47 = .ok (.iconst 3, 1) := by decide +kernel
theorem dX7_multiply_48 : decode cX7_multiply 48 = .ok (.invokevirtual 287, 3) := by decide +kernel
theorem dX7_multiply_51 : decode cX7_multiply 51 = .ok (.ifCond .eq 7, 3) := by decide +kernel
theorem dX7_multiply_54 : decode cX7_multiply 54 = .ok (.iconst 0, 1) := by decide +kernel
theorem dX7_multiply_55 : decode cX7_multiply 55 = .ok (.goto 8, 3) := by decide +kernel
theorem dX7_multiply_58 : decode cX7_multiply 58 = .ok (.aload_n 0, 1) := by decide +kernel
theorem dX7_multiply_59 : decode cX7_multiply 59 = .ok (.iload_n 1, 1) := by decide +kernel
theorem dX7_multiply_60 : decode cX7_multiply 60 = .ok (.invokevirtual 325, 3) := by decide +kernel
theorem dX7_multiply_63 : decode cX7_multiply 63 = .ok (.ireturn, 1) := by decide +kernel
theorem dX7_compose_0 : decode cX7_compose 0 = .ok (.aload_n 0, 1) := by decide +kernel
theorem dX7_compose_1 : decode cX7_compose 1 = .ok (.iconst 0, 1) := by decide +kernel
theorem dX7_compose_2 : decode cX7_compose 2 = .ok (.putfield 79, 3) := by decide +kernel
theorem dX7_compose_5 : decode cX7_compose 5 = .ok (.aload_n 0, 1) := by decide +kernel
theorem dX7_compose_6 : decode cX7_compose 6 = .ok (.iload_n 1, 1) := by decide +kernel
theorem dX7_compose_7 : decode cX7_compose 7 = .ok (.invokevirtual 303, 3) := by decide +kernel
theorem dX7_compose_10 : decode cX7_compose 10 = .ok (.ifCond .ne 50, 3) := by decide +kernel
theorem dX7_compose_13 : decode cX7_compose 13 = .ok (.aload_n 0, 1) := by decide +kernel
theorem dX7_compose_14 : decode cX7_compose 14 = .ok (.iload_n 2, 1) := by decide +kernel
theorem dX7_compose_15 : decode cX7_compose 15 = .ok (.iload_n 3, 1) := by decide +kernel
theorem dX7_compose_16 : decode cX7_compose 16 = .ok (.iload 4, 2) := by decide +kernel
theorem dX7_compose_18 : decode cX7_compose 18 = .ok (.invokevirtual 319, 3) := by decide +kernel
theorem dX7_compose_21 : decode cX7_compose 21 = .ok (.ifCond .ne 39, 3) := by decide +kernel
theorem dX7_compose_24 : decode cX7_compose 24 = .ok (.aload_n 0, 1) := by decide +kernel
theorem dX7_compose_25 : decode cX7_compose 25 = .ok (.aload_n 0, 1) := by decide +kernel
theorem dX7_compose_26 : decode cX7_compose 26 = .ok (.aload_n 0, 1) := by decide +kernel
theorem dX7_compose_27 : decode cX7_compose 27 = .ok (.getfield 67, 3) := by decide +kernel
theorem dX7_compose_30 : decode cX7_compose 30 = .ok (.aload_n 0, 1) := by decide +kernel
theorem dX7_compose_31 : decode cX7_compose 31 = .ok (.getfield 61, 3) := by decide +kernel
theorem dX7_compose_34 : decode cX7_compose 34 = .ok (.aload_n 0, 1) := by decide +kernel
theorem dX7_compose_35 : decode cX7_compose 35 = .ok (.getfield 64, 3) := by decide +kernel
theorem dX7_compose_38 : decode cX7_compose 38 = .ok (.aload_n 0, 1) := by decide +kernel
theorem dX7_compose_39 : decode cX7_compose 39 = .ok (.getfield 70, 3) := by decide +kernel
theorem dX7_compose_42 : decode cX7_compose 42 = .ok (.invokevirtual 239, 3) := by decide +kernel
theorem dX7_compose_45 : decode cX7_compose 45 = .ok (.ifCond .eq 7, 3) := by decide +kernel
theorem dX7_compose_48 : decode cX7_compose 48 = .ok (.iconst 1, 1) := by decide +kernel
theorem dX7_compose_49 : decode cX7_compose 49 = .ok (.goto 4, 3) := by decide +kernel
theorem dX7_compose_52 : decode cX7_compose 52 = .ok (.iconst 0, 1) := by decide +kernel
theorem dX7_compose_53 : decode cX7_compose 53 = .ok (.iconst 3, 1) := by decide +kernel
theorem dX7_compose_54 : decode cX7_compose 54 = .ok (.invokevirtual 287, 3) := by decide +kernel
theorem dX7_compose_57 : decode cX7_compose 57 = .ok (.ifCond .eq 7, 3) := by decide +kernel
theorem dX7_compose_60 : decode cX7_compose 60 = .ok (.iconst 0, 1) := by decide +kernel
theorem dX7_compose_61 : decode cX7_compose 61 = .ok (.goto 8, 3) := by decide +kernel
theorem dX7_compose_64 : decode cX7_compose 64 = .ok (.aload_n 0, 1) := by decide +kernel
theorem dX7_compose_65 : decode cX7_compose 65 = .ok (.iload_n 1, 1) := by decide +kernel
theorem dX7_compose_66 : decode cX7_compose 66 = .ok (.invokevirtual 325, 3) := by decide +kernel
theorem dX7_compose_69 : decode cX7_compose 69 = .ok (.ireturn, 1) := by decide +kernel
theorem dX7_integrate_0 : decode cX7_integrate 0 = .ok (.aload_n 0, 1) := by decide +kernel
theorem dX7_integrate_1 : decode cX7_integrate 1 = .ok (.iconst 0, 1) := by decide +kernel
theorem dX7_integrate_2 : decode cX7_integrate 2 = .ok (.putfield 79, 3) := by decide +kernel
theorem dX7_integrate_5 : decode cX7_integrate 5 = .ok (.aload_n 0, 1) := by decide +kernel
theorem dX7_integrate_6 : decode cX7_integrate 6 = .ok (.iload_n 1, 1) := by decide +kernel
theorem dX7_integrate_7 : decode cX7_integrate 7 = .ok (.invokevirtual 303, 3) := by decide +kernel
theorem dX7_integrate_10 : decode cX7_integrate 10 = .ok (.ifCond .ne 33, 3) := by decide +kernel
theorem dX7_integrate_13 : decode cX7_integrate 13 = .ok (.aload_n 0, 1) := by decide +kernel
theorem dX7_integrate_14 : decode cX7_integrate 14 = .ok (.iload_n 2, 1) := by decide +kernel
theorem dX7_integrate_15 : decode cX7_integrate 15 = .ok (.invokevirtual 306, 3) := by decide +kernel
theorem dX7_integrate_18 : decode cX7_integrate 18 = .ok (.ifCond .ne 25, 3) := by decide +kernel
theorem dX7_integrate_21 : decode cX7_integrate 21 = .ok (.aload_n 0, 1) := by decide +kernel
theorem dX7_integrate_22 : decode cX7_integrate 22 = .ok (.iload_n 3, 1) := by decide +kernel
theorem dX7_integrate_23 : decode cX7_integrate 23 = .ok (.iconst 0, 1) := by decide +kernel
theorem dX7_integrate_24 : decode cX7_integrate 24 = .ok (.iconst 1, 1) := by decide +kernel
theorem dX7_integrate_25 : decode cX7_integrate 25 = .ok (.invokestatic 179, 3) := by decide +kernel
theorem dX7_integrate_28 : decode cX7_integrate 28 = .ok (.ifCond .ne 7, 3) := by decide +kernel
theorem dX7_integrate_31 : decode cX7_integrate 31 = .ok (.iconst 1, 1) := by decide +kernel
theorem dX7_integrate_32 : decode cX7_integrate 32 = .ok (.goto 4, 3) := by decide +kernel
theorem dX7_integrate_35 : decode cX7_integrate 35 = .ok (.iconst 0, 1) := by decide +kernel
theorem dX7_integrate_36 : decode cX7_integrate 36 = .ok (.iconst 3, 1) := by decide +kernel
theorem dX7_integrate_37 : decode cX7_integrate 37 = .ok (.invokevirtual 287, 3) := by decide +kernel
theorem dX7_integrate_40 : decode cX7_integrate 40 = .ok (.ifCond .eq 5, 3) := by decide +kernel
theorem dX7_integrate_43 : decode cX7_integrate 43 = .ok (.iconst 0, 1) := by decide +kernel
theorem dX7_integrate_44 : decode cX7_integrate 44 = .ok (.ireturn, 1) := by decide +kernel
theorem dX7_integrate_45 : decode cX7_integrate 45 = .ok (.aload_n 0, 1) := by decide +kernel
theorem dX7_integrate_46 : decode cX7_integrate 46 = .ok (.getfield 17, 3) := by decide +kernel
theorem dX7_integrate_49 : decode cX7_integrate 49 = .ok (.iload_n 2, 1) := by decide +kernel
theorem dX7_integrate_50 : decode cX7_integrate 50 = .ok (.aload_n 0, 1) := by decide +kernel
theorem dX7_integrate_51 : decode cX7_integrate 51 = .ok (.getfield 61, 3) := by decide +kernel
theorem dX7_integrate_54 : decode cX7_integrate 54 = .ok (.invokestatic 226, 3) := by decide +kernel
theorem dX7_integrate_57 : decode cX7_integrate 57 = .ok (.aload_n 0, 1) := by decide +kernel
theorem dX7_integrate_58 : decode cX7_integrate 58 = .ok (.aload_n 0, 1) := by decide +kernel
theorem dX7_integrate_59 : decode cX7_integrate 59 = .ok (.aload_n 0, 1) := by decide +kernel
theorem dX7_integrate_60 : decode cX7_integrate 60 = .ok (.getfield 61, 3) := by decide +kernel
theorem dX7_integrate_63 : decode cX7_integrate 63 = .ok (.iload_n 3, 1) := by decide +kernel
theorem dX7_integrate_64 : decode cX7_integrate 64 = .ok (.aload_n 0, 1) := by decide +kernel
theorem dX7_integrate_65 : decode cX7_integrate 65 = .ok (.getfield 70, 3) := by decide +kernel
theorem dX7_integrate_68 : decode cX7_integrate 68 = .ok (.invokevirtual 247, 3) := by decide +kernel
theorem dX7_integrate_71 : decode cX7_integrate 71 = .ok (.ifCond .ne 7, 3) := by decide +kernel
theorem dX7_integrate_74 : decode cX7_integrate 74 = .ok (.iconst 1, 1) := by decide +kernel
theorem dX7_integrate_75 : decode cX7_integrate 75 = .ok (.goto 4, 3) := by decide +kernel
theorem dX7_integrate_78 : decode cX7_integrate 78 = .ok (.iconst 0, 1) := by decide +kernel
theorem dX7_integrate_79 : decode cX7_integrate 79 = .ok (.iconst 4, 1) := by decide +kernel
theorem dX7_integrate_80 : decode cX7_integrate 80 = .ok (.invokevirtual 287, 3) := by decide +kernel
theorem dX7_integrate_83 : decode cX7_integrate 83 = .ok (.ifCond .eq 7, 3) := by decide +kernel
theorem dX7_integrate_86 : decode cX7_integrate 86 = .ok (.iconst 0, 1) := by decide +kernel
theorem dX7_integrate_87 : decode cX7_integrate 87 = .ok (.goto 8, 3) := by decide +kernel
theorem dX7_integrate_90 : decode cX7_integrate 90 = .ok (.aload_n 0, 1) := by decide +kernel
theorem dX7_integrate_91 : decode cX7_integrate 91 = .ok (.iload_n 1, 1) := by decide +kernel
theorem dX7_integrate_92 : decode cX7_integrate 92 = .ok (.invokevirtual 325, 3) := by decide +kernel
theorem dX7_integrate_95 : decode cX7_integrate 95 = .ok (.ireturn, 1) := by decide +kernel
theorem dX7_stepOf_0 : decode cX7_stepOf 0 = .ok (.aload_n 0, 1) := by decide +kernel
theorem dX7_stepOf_1 : decode cX7_stepOf 1 = .ok (.getfield 17, 3) := by decide +kernel
theorem dX7_stepOf_4 : decode cX7_stepOf 4 = .ok (.iconst 0, 1) := by decide +kernel
theorem dX7_stepOf_5 : decode cX7_stepOf 5 = .ok (.aload_n 0, 1) := by decide +kernel
theorem dX7_stepOf_6 : decode cX7_stepOf 6 = .ok (.getfield 61, 3) := by decide +kernel
theorem dX7_stepOf_9 : decode cX7_stepOf 9 = .ok (.invokestatic 226, 3) := by decide +kernel
theorem dX7_stepOf_12 : decode cX7_stepOf 12 = .ok (.aload_n 0, 1) := by decide +kernel
theorem dX7_stepOf_13 : decode cX7_stepOf 13 = .ok (.getfield 17, 3) := by decide +kernel
theorem dX7_stepOf_16 : decode cX7_stepOf 16 = .ok (.iconst 1, 1) := by decide +kernel
theorem dX7_stepOf_17 : decode cX7_stepOf 17 = .ok (.aload_n 0, 1) := by decide +kernel
theorem dX7_stepOf_18 : decode cX7_stepOf 18 = .ok (.getfield 64, 3) := by decide +kernel
theorem dX7_stepOf_21 : decode cX7_stepOf 21 = .ok (.invokestatic 226, 3) := by decide +kernel
theorem dX7_stepOf_24 : decode cX7_stepOf 24 = .ok (.aload_n 0, 1) := by decide +kernel
theorem dX7_stepOf_25 : decode cX7_stepOf 25 = .ok (.getfield 17, 3) := by decide +kernel
theorem dX7_stepOf_28 : decode cX7_stepOf 28 = .ok (.iload_n 2, 1) := by decide +kernel
theorem dX7_stepOf_29 : decode cX7_stepOf 29 = .ok (.aload_n 0, 1) := by decide +kernel
theorem dX7_stepOf_30 : decode cX7_stepOf 30 = .ok (.getfield 67, 3) := by decide +kernel
theorem dX7_stepOf_33 : decode cX7_stepOf 33 = .ok (.invokestatic 226, 3) := by decide +kernel
theorem dX7_stepOf_36 : decode cX7_stepOf 36 = .ok (.aload_n 0, 1) := by decide +kernel
theorem dX7_stepOf_37 : decode cX7_stepOf 37 = .ok (.aload_n 0, 1) := by decide +kernel
theorem dX7_stepOf_38 : decode cX7_stepOf 38 = .ok (.getfield 67, 3) := by decide +kernel
theorem dX7_stepOf_41 : decode cX7_stepOf 41 = .ok (.aload_n 0, 1) := by decide +kernel
theorem dX7_stepOf_42 : decode cX7_stepOf 42 = .ok (.getfield 61, 3) := by decide +kernel
theorem dX7_stepOf_45 : decode cX7_stepOf 45 = .ok (.aload_n 0, 1) := by decide +kernel
theorem dX7_stepOf_46 : decode cX7_stepOf 46 = .ok (.getfield 64, 3) := by decide +kernel
theorem dX7_stepOf_49 : decode cX7_stepOf 49 = .ok (.aload_n 0, 1) := by decide +kernel
theorem dX7_stepOf_50 : decode cX7_stepOf 50 = .ok (.getfield 70, 3) := by decide +kernel
theorem dX7_stepOf_53 : decode cX7_stepOf 53 = .ok (.invokevirtual 239, 3) := by decide +kernel
theorem dX7_stepOf_56 : decode cX7_stepOf 56 = .ok (.ifCond .eq 5, 3) := by decide +kernel
theorem dX7_stepOf_59 : decode cX7_stepOf 59 = .ok (.iconst 0, 1) := by decide +kernel
theorem dX7_stepOf_60 : decode cX7_stepOf 60 = .ok (.ireturn, 1) := by decide +kernel
theorem dX7_stepOf_61 : decode cX7_stepOf 61 = .ok (.aload_n 0, 1) := by decide +kernel
theorem dX7_stepOf_62 : decode cX7_stepOf 62 = .ok (.getfield 67, 3) := by decide +kernel
theorem dX7_stepOf_65 : decode cX7_stepOf 65 = .ok (.invokestatic 129, 3) := by decide +kernel
theorem dX7_stepOf_68 : decode cX7_stepOf 68 = .ok (.aload_n 0, 1) := by decide +kernel
theorem dX7_stepOf_69 : decode cX7_stepOf 69 = .ok (.getfield 67, 3) := by decide +kernel
theorem dX7_stepOf_72 : decode cX7_stepOf 72 = .ok (.iconst 0, 1) := by decide +kernel
theorem dX7_stepOf_73 : decode cX7_stepOf 73 = .ok (.iload_n 3, 1) := by decide +kernel
theorem dX7_stepOf_74 : decode cX7_stepOf 74 = .ok (.i2l, 1) := by decide +kernel
theorem dX7_stepOf_75 : decode cX7_stepOf 75 = .ok (.lastore, 1) := by decide +kernel
theorem dX7_stepOf_76 : decode cX7_stepOf 76 = .ok (.aload_n 0, 1) := by decide +kernel
theorem dX7_stepOf_77 : decode cX7_stepOf 77 = .ok (.getfield 17, 3) := by decide +kernel
theorem dX7_stepOf_80 : decode cX7_stepOf 80 = .ok (.iload_n 1, 1) := by decide +kernel
theorem dX7_stepOf_81 : decode cX7_stepOf 81 = .ok (.aload_n 0, 1) := by decide +kernel
theorem dX7_stepOf_82 : decode cX7_stepOf 82 = .ok (.getfield 61, 3) := by decide +kernel
theorem dX7_stepOf_85 : decode cX7_stepOf 85 = .ok (.invokestatic 226, 3) := by decide +kernel
theorem dX7_stepOf_88 : decode cX7_stepOf 88 = .ok (.aload_n 0, 1) := by decide +kernel
theorem dX7_stepOf_89 : decode cX7_stepOf 89 = .ok (.aload_n 0, 1) := by decide +kernel
theorem dX7_stepOf_90 : decode cX7_stepOf 90 = .ok (.getfield 67, 3) := by decide +kernel
theorem dX7_stepOf_93 : decode cX7_stepOf 93 = .ok (.aload_n 0, 1) := by decide +kernel
theorem dX7_stepOf_94 : decode cX7_stepOf 94 = .ok (.getfield 70, 3) := by decide +kernel
theorem dX7_stepOf_97 : decode cX7_stepOf 97 = .ok (.aload_n 0, 1) := by decide +kernel
theorem dX7_stepOf_98 : decode cX7_stepOf 98 = .ok (.getfield 70, 3) := by decide +kernel
theorem dX7_stepOf_101 : decode cX7_stepOf 101 = .ok (.invokevirtual 153, 3) := by decide +kernel
theorem dX7_stepOf_104 : decode cX7_stepOf 104 = .ok (.ifCond .eq 24, 3) := by decide +kernel
theorem dX7_stepOf_107 : decode cX7_stepOf 107 = .ok (.aload_n 0, 1) := by decide +kernel
theorem dX7_stepOf_108 : decode cX7_stepOf 108 = .ok (.getfield 61, 3) := by decide +kernel
theorem dX7_stepOf_111 : decode cX7_stepOf 111 = .ok (.aload_n 0, 1) := by decide +kernel
theorem dX7_stepOf_112 : decode cX7_stepOf 112 = .ok (.getfield 70, 3) := by decide +kernel
theorem dX7_stepOf_115 : decode cX7_stepOf 115 = .ok (.iconst 1, 1) := by decide +kernel
theorem dX7_stepOf_116 : decode cX7_stepOf 116 = .ok (.aload 4, 2) := by decide +kernel
theorem dX7_stepOf_118 : decode cX7_stepOf 118 = .ok (.invokestatic 157, 3) := by decide +kernel
theorem dX7_stepOf_121 : decode cX7_stepOf 121 = .ok (.ifCond .eq 7, 3) := by decide +kernel
theorem dX7_stepOf_124 : decode cX7_stepOf 124 = .ok (.iconst 1, 1) := by decide +kernel
theorem dX7_stepOf_125 : decode cX7_stepOf 125 = .ok (.goto 4, 3) := by decide +kernel
theorem dX7_stepOf_128 : decode cX7_stepOf 128 = .ok (.iconst 0, 1) := by decide +kernel
theorem dX7_stepOf_129 : decode cX7_stepOf 129 = .ok (.ireturn, 1) := by decide +kernel
theorem dX7_step_0 : decode cX7_step 0 = .ok (.aload_n 0, 1) := by decide +kernel
theorem dX7_step_1 : decode cX7_step 1 = .ok (.iconst 0, 1) := by decide +kernel
theorem dX7_step_2 : decode cX7_step 2 = .ok (.putfield 79, 3) := by decide +kernel
theorem dX7_step_5 : decode cX7_step 5 = .ok (.aload_n 0, 1) := by decide +kernel
theorem dX7_step_6 : decode cX7_step 6 = .ok (.aload_n 0, 1) := by decide +kernel
theorem dX7_step_7 : decode cX7_step 7 = .ok (.getfield 17, 3) := by decide +kernel
theorem dX7_step_10 : decode cX7_step 10 = .ok (.iconst 0, 1) := by decide +kernel
theorem dX7_step_11 : decode cX7_step 11 = .ok (.iaload, 1) := by decide +kernel
theorem dX7_step_12 : decode cX7_step 12 = .ok (.bipush 15, 2) := by decide +kernel
theorem dX7_step_14 : decode cX7_step 14 = .ok (.iand, 1) := by decide +kernel
theorem dX7_step_15 : decode cX7_step 15 = .ok (.bipush 15, 2) := by decide +kernel
theorem dX7_step_17 : decode cX7_step 17 = .ok (.if_icmp .eq 7, 3) := by decide +kernel
theorem dX7_step_20 : decode cX7_step 20 = .ok (.iconst 1, 1) := by decide +kernel
theorem dX7_step_21 : decode cX7_step 21 = .ok (.goto 4, 3) := by decide +kernel
theorem dX7_step_24 : decode cX7_step 24 = .ok (.iconst 0, 1) := by decide +kernel
theorem dX7_step_25 : decode cX7_step 25 = .ok (.iconst 1, 1) := by decide +kernel
theorem dX7_step_26 : decode cX7_step 26 = .ok (.invokevirtual 287, 3) := by decide +kernel
theorem dX7_step_29 : decode cX7_step 29 = .ok (.ifCond .ne 39, 3) := by decide +kernel
theorem dX7_step_32 : decode cX7_step 32 = .ok (.aload_n 0, 1) := by decide +kernel
theorem dX7_step_33 : decode cX7_step 33 = .ok (.iload_n 1, 1) := by decide +kernel
theorem dX7_step_34 : decode cX7_step 34 = .ok (.sipush (-1000), 3) := by decide +kernel
theorem dX7_step_37 : decode cX7_step 37 = .ok (.sipush 1000, 3) := by decide +kernel
theorem dX7_step_40 : decode cX7_step 40 = .ok (.invokestatic 179, 3) := by decide +kernel
theorem dX7_step_43 : decode cX7_step 43 = .ok (.ifCond .eq 13, 3) := by decide +kernel
theorem dX7_step_46 : decode cX7_step 46 = .ok (.iload_n 2, 1) := by decide +kernel
theorem dX7_step_47 : decode cX7_step 47 = .ok (.iconst 1, 1) := by decide +kernel
theorem dX7_step_48 : decode cX7_step 48 = .ok (.bipush 20, 2) := by decide +kernel
theorem dX7_step_50 : decode cX7_step 50 = .ok (.invokestatic 179, 3) := by decide +kernel
theorem dX7_step_53 : decode cX7_step 53 = .ok (.ifCond .ne 7, 3) := by decide +kernel
theorem dX7_step_56 : decode cX7_step 56 = .ok (.iconst 1, 1) := by decide +kernel
theorem dX7_step_57 : decode cX7_step 57 = .ok (.goto 4, 3) := by decide +kernel
theorem dX7_step_60 : decode cX7_step 60 = .ok (.iconst 0, 1) := by decide +kernel
theorem dX7_step_61 : decode cX7_step 61 = .ok (.iconst 2, 1) := by decide +kernel
theorem dX7_step_62 : decode cX7_step 62 = .ok (.invokevirtual 287, 3) := by decide +kernel
theorem dX7_step_65 : decode cX7_step 65 = .ok (.ifCond .eq 5, 3) := by decide +kernel
theorem dX7_step_68 : decode cX7_step 68 = .ok (.iconst 0, 1) := by decide +kernel
theorem dX7_step_69 : decode cX7_step 69 = .ok (.ireturn, 1) := by decide +kernel
theorem dX7_step_70 : decode cX7_step 70 = .ok (.aload_n 0, 1) := by decide +kernel
theorem dX7_step_71 : decode cX7_step 71 = .ok (.invokevirtual 296, 3) := by decide +kernel
theorem dX7_step_74 : decode cX7_step 74 = .ok (.iconst 0, 1) := by decide +kernel
theorem dX7_step_75 : decode cX7_step 75 = .ok (.istore_n 3, 1) := by decide +kernel
theorem dX7_step_76 : decode cX7_step 76 = .ok (.iload_n 3, 1) := by decide +kernel
theorem dX7_step_77 : decode cX7_step 77 = .ok (.iload_n 2, 1) := by decide +kernel
theorem dX7_step_78 : decode cX7_step 78 = .ok (.if_icmp .ge 61, 3) := by decide +kernel
theorem dX7_step_81 : decode cX7_step 81 = .ok (.aload_n 0, 1) := by decide +kernel
theorem dX7_step_82 : decode cX7_step 82 = .ok (.iconst 0, 1) := by decide +kernel
theorem dX7_step_83 : decode cX7_step 83 = .ok (.iconst 2, 1) := by decide +kernel
theorem dX7_step_84 : decode cX7_step 84 = .ok (.iload_n 1, 1) := by decide +kernel
theorem dX7_step_85 : decode cX7_step 85 = .ok (.aload_n 0, 1) := by decide +kernel
theorem dX7_step_86 : decode cX7_step 86 = .ok (.getfield 73, 3) := by decide +kernel
theorem dX7_step_89 : decode cX7_step 89 = .ok (.invokevirtual 328, 3) := by decide +kernel
theorem dX7_step_92 : decode cX7_step 92 = .ok (.ifCond .eq 47, 3) := by decide +kernel
theorem dX7_step_95 : decode cX7_step 95 = .ok (.aload_n 0, 1) := by decide +kernel
theorem dX7_step_96 : decode cX7_step 96 = .ok (.iconst 1, 1) := by decide +kernel
theorem dX7_step_97 : decode cX7_step 97 = .ok (.iconst 3, 1) := by decide +kernel
theorem dX7_step_98 : decode cX7_step 98 = .ok (.iload_n 1, 1) := by decide +kernel
theorem dX7_step_99 : decode cX7_step 99 = .ok (.aload_n 0, 1) := by decide +kernel
theorem dX7_step_100 : decode cX7_step 100 = .ok (.getfield 76, 3) := by decide +kernel
theorem dX7_step_103 : decode cX7_step 103 = .ok (.invokevirtual 328, 3) := by decide +kernel
theorem dX7_step_106 : decode cX7_step 106 = .ok (.ifCond .eq 33, 3) := by decide +kernel
theorem dX7_step_109 : decode cX7_step 109 = .ok (.aload_n 0, 1) := by decide +kernel
theorem dX7_step_110 : decode cX7_step 110 = .ok (.getfield 73, 3) := by decide +kernel
theorem dX7_step_113 : decode cX7_step 113 = .ok (.aload_n 0, 1) := by decide +kernel
theorem dX7_step_114 : decode cX7_step 114 = .ok (.getfield 17, 3) := by decide +kernel
theorem dX7_step_117 : decode cX7_step 117 = .ok (.iconst 0, 1) := by decide +kernel
theorem dX7_step_118 : decode cX7_step 118 = .ok (.invokestatic 283, 3) := by decide +kernel
theorem dX7_step_121 : decode cX7_step 121 = .ok (.aload_n 0, 1) := by decide +kernel
theorem dX7_step_122 : decode cX7_step 122 = .ok (.getfield 76, 3) := by decide +kernel
theorem dX7_step_125 : decode cX7_step 125 = .ok (.aload_n 0, 1) := by decide +kernel
theorem dX7_step_126 : decode cX7_step 126 = .ok (.getfield 17, 3) := by decide +kernel
theorem dX7_step_129 : decode cX7_step 129 = .ok (.iconst 1, 1) := by decide +kernel
theorem dX7_step_130 : decode cX7_step 130 = .ok (.invokestatic 283, 3) := by decide +kernel
theorem dX7_step_133 : decode cX7_step 133 = .ok (.iinc 3 1, 3) := by decide +kernel
theorem dX7_step_136 : decode cX7_step 136 = .ok (.goto (-60), 3) := by decide +kernel
theorem dX7_step_139 : decode cX7_step 139 = .ok (.iload_n 3, 1) := by decide +kernel
theorem dX7_step_140 : decode cX7_step 140 = .ok (.ireturn, 1) := by decide +kernel
theorem dX7_sweep_0 : decode cX7_sweep 0 = .ok (.aload_n 0, 1) := by decide +kernel
theorem dX7_sweep_1 : decode cX7_sweep 1 = .ok (.iconst 0, 1) := by decide +kernel
theorem dX7_sweep_2 : decode cX7_sweep 2 = .ok (.putfield 79, 3) := by decide +kernel
theorem dX7_sweep_5 : decode cX7_sweep 5 = .ok (.aload_n 0, 1) := by decide +kernel
theorem dX7_sweep_6 : decode cX7_sweep 6 = .ok (.iload_n 1, 1) := by decide +kernel
theorem dX7_sweep_7 : decode cX7_sweep 7 = .ok (.invokevirtual 306, 3) := by decide +kernel
theorem dX7_sweep_10 : decode cX7_sweep 10 = .ok (.ifCond .ne 27, 3) := by decide +kernel
theorem dX7_sweep_13 : decode cX7_sweep 13 = .ok (.aload_n 0, 1) := by decide +kernel
theorem dX7_sweep_14 : decode cX7_sweep 14 = .ok (.iload_n 2, 1) := by decide +kernel
theorem dX7_sweep_15 : decode cX7_sweep 15 = .ok (.iconst 0, 1) := by decide +kernel
theorem dX7_sweep_16 : decode cX7_sweep 16 = .ok (.ldc_w 332, 3) := by decide +kernel
theorem dX7_sweep_19 : decode cX7_sweep 19 = .ok (.invokestatic 179, 3) := by decide +kernel
theorem dX7_sweep_22 : decode cX7_sweep 22 = .ok (.ifCond .ne 7, 3) := by decide +kernel
theorem dX7_sweep_25 : decode cX7_sweep 25 = .ok (.iconst 1, 1) := by decide +kernel
theorem dX7_sweep_26 : decode cX7_sweep 26 = .ok (.goto 4, 3) := by decide +kernel
theorem dX7_sweep_29 : decode cX7_sweep 29 = .ok (.iconst 0, 1) := by decide +kernel
theorem dX7_sweep_30 : decode cX7_sweep 30 = .ok (.iconst 3, 1) := by decide +kernel
theorem dX7_sweep_31 : decode cX7_sweep 31 = .ok (.invokevirtual 287, 3) := by decide +kernel
theorem dX7_sweep_34 : decode cX7_sweep 34 = .ok (.ifCond .eq 5, 3) := by decide +kernel
theorem dX7_sweep_37 : decode cX7_sweep 37 = .ok (.iconst 0, 1) := by decide +kernel
theorem dX7_sweep_38 : decode cX7_sweep 38 = .ok (.ireturn, 1) := by decide +kernel
theorem dX7_sweep_39 : decode cX7_sweep 39 = .ok (.aload_n 0, 1) := by decide +kernel
theorem dX7_sweep_40 : decode cX7_sweep 40 = .ok (.getfield 17, 3) := by decide +kernel
theorem dX7_sweep_43 : decode cX7_sweep 43 = .ok (.iload_n 1, 1) := by decide +kernel
theorem dX7_sweep_44 : decode cX7_sweep 44 = .ok (.aload_n 0, 1) := by decide +kernel
theorem dX7_sweep_45 : decode cX7_sweep 45 = .ok (.getfield 70, 3) := by decide +kernel
theorem dX7_sweep_48 : decode cX7_sweep 48 = .ok (.invokestatic 226, 3) := by decide +kernel
theorem dX7_sweep_51 : decode cX7_sweep 51 = .ok (.iconst 0, 1) := by decide +kernel
theorem dX7_sweep_52 : decode cX7_sweep 52 = .ok (.istore_n 3, 1) := by decide +kernel
theorem dX7_sweep_53 : decode cX7_sweep 53 = .ok (.iconst 1, 1) := by decide +kernel
theorem dX7_sweep_54 : decode cX7_sweep 54 = .ok (.istore 4, 2) := by decide +kernel
theorem dX7_sweep_56 : decode cX7_sweep 56 = .ok (.iload 4, 2) := by decide +kernel
theorem dX7_sweep_58 : decode cX7_sweep 58 = .ok (.bipush 10, 2) := by decide +kernel
theorem dX7_sweep_60 : decode cX7_sweep 60 = .ok (.if_icmp .ge 124, 3) := by decide +kernel
theorem dX7_sweep_63 : decode cX7_sweep 63 = .ok (.aload_n 0, 1) := by decide +kernel
theorem dX7_sweep_64 : decode cX7_sweep 64 = .ok (.getfield 70, 3) := by decide +kernel
theorem dX7_sweep_67 : decode cX7_sweep 67 = .ok (.iload 4, 2) := by decide +kernel
theorem dX7_sweep_69 : decode cX7_sweep 69 = .ok (.laload, 1) := by decide +kernel
theorem dX7_sweep_70 : decode cX7_sweep 70 = .ok (.aload_n 0, 1) := by decide +kernel
theorem dX7_sweep_71 : decode cX7_sweep 71 = .ok (.getfield 70, 3) := by decide +kernel
theorem dX7_sweep_74 : decode cX7_sweep 74 = .ok (.iload 4, 2) := by decide +kernel
theorem dX7_sweep_76 : decode cX7_sweep 76 = .ok (.laload, 1) := by decide +kernel
theorem dX7_sweep_77 : decode cX7_sweep 77 = .ok (.lneg, 1) := by decide +kernel
theorem dX7_sweep_78 : decode cX7_sweep 78 = .ok (.invokestatic 122, 3) := by decide +kernel
theorem dX7_sweep_81 : decode cX7_sweep 81 = .ok (.iload_n 2, 1) := by decide +kernel
theorem dX7_sweep_82 : decode cX7_sweep 82 = .ok (.i2l, 1) := by decide +kernel
theorem dX7_sweep_83 : decode cX7_sweep 83 = .ok (.lcmp, 1) := by decide +kernel
theorem dX7_sweep_84 : decode cX7_sweep 84 = .ok (.ifCond .le 6, 3) := by decide +kernel
theorem dX7_sweep_87 : decode cX7_sweep 87 = .ok (.goto 91, 3) := by decide +kernel
theorem dX7_sweep_90 : decode cX7_sweep 90 = .ok (.iload_n 3, 1) := by decide +kernel
theorem dX7_sweep_91 : decode cX7_sweep 91 = .ok (.aload_n 0, 1) := by decide +kernel
theorem dX7_sweep_92 : decode cX7_sweep 92 = .ok (.getfield 70, 3) := by decide +kernel
theorem dX7_sweep_95 : decode cX7_sweep 95 = .ok (.iload 4, 2) := by decide +kernel
theorem dX7_sweep_97 : decode cX7_sweep 97 = .ok (.laload, 1) := by decide +kernel
theorem dX7_sweep_98 : decode cX7_sweep 98 = .ok (.lconst 0, 1) := by decide +kernel
theorem dX7_sweep_99 : decode cX7_sweep 99 = .ok (.lcmp, 1) := by decide +kernel
theorem dX7_sweep_100 : decode cX7_sweep 100 = .ok (.ifCond .ne 7, 3) := by decide +kernel
theorem dX7_sweep_103 : decode cX7_sweep 103 = .ok (.iconst 0, 1) := by decide +kernel
theorem dX7_sweep_104 : decode cX7_sweep 104 = .ok (.goto 4, 3) := by decide +kernel
theorem dX7_sweep_107 : decode cX7_sweep 107 = .ok (.iconst 1, 1) := by decide +kernel
theorem dX7_sweep_108 : decode cX7_sweep 108 = .ok (.iadd, 1) := by decide +kernel
theorem dX7_sweep_109 : decode cX7_sweep 109 = .ok (.istore_n 3, 1) := by decide +kernel
theorem dX7_sweep_110 : decode cX7_sweep 110 = .ok (.aload_n 0, 1) := by decide +kernel
theorem dX7_sweep_111 : decode cX7_sweep 111 = .ok (.getfield 70, 3) := by decide +kernel
theorem dX7_sweep_114 : decode cX7_sweep 114 = .ok (.bipush 10, 2) := by decide +kernel
theorem dX7_sweep_116 : decode cX7_sweep 116 = .ok (.dup2, 1) := by decide +kernel
theorem dX7_sweep_117 : decode cX7_sweep 117 = .ok (.laload, 1) := by decide +kernel
theorem dX7_sweep_118 : decode cX7_sweep 118 = .ok (.aload_n 0, 1) := by decide +kernel
theorem dX7_sweep_119 : decode cX7_sweep 119 = .ok (.getfield 70, 3) := by decide +kernel
theorem dX7_sweep_122 : decode cX7_sweep 122 = .ok (.iload 4, 2) := by decide +kernel
theorem dX7_sweep_124 : decode cX7_sweep 124 = .ok (.laload, 1) := by decide +kernel
theorem dX7_sweep_125 : decode cX7_sweep 125 = .ok (.iload 4, 2) := by decide +kernel
theorem dX7_sweep_127 : decode cX7_sweep 127 = .ok (.invokestatic 93, 3) := by decide +kernel
theorem dX7_sweep_130 : decode cX7_sweep 130 = .ok (.iload 4, 2) := by decide +kernel
theorem dX7_sweep_132 : decode cX7_sweep 132 = .ok (.invokestatic 97, 3) := by decide +kernel
theorem dX7_sweep_135 : decode cX7_sweep 135 = .ok (.invokestatic 89, 3) := by decide +kernel
theorem dX7_sweep_138 : decode cX7_sweep 138 = .ok (.ladd, 1) := by decide +kernel
theorem dX7_sweep_139 : decode cX7_sweep 139 = .ok (.lastore, 1) := by decide +kernel
theorem dX7_sweep_140 : decode cX7_sweep 140 = .ok (.aload_n 0, 1) := by decide +kernel
theorem dX7_sweep_141 : decode cX7_sweep 141 = .ok (.getfield 70, 3) := by decide +kernel
theorem dX7_sweep_144 : decode cX7_sweep 144 = .ok (.bipush 11, 2) := by decide +kernel
theorem dX7_sweep_146 : decode cX7_sweep 146 = .ok (.dup2, 1) := by decide +kernel
theorem dX7_sweep_147 : decode cX7_sweep 147 = .ok (.laload, 1) := by decide +kernel
theorem dX7_sweep_148 : decode cX7_sweep 148 = .ok (.aload_n 0, 1) := by decide +kernel
theorem dX7_sweep_149 : decode cX7_sweep 149 = .ok (.getfield 70, 3) := by decide +kernel
theorem dX7_sweep_152 : decode cX7_sweep 152 = .ok (.iload 4, 2) := by decide +kernel
theorem dX7_sweep_154 : decode cX7_sweep 154 = .ok (.laload, 1) := by decide +kernel
theorem dX7_sweep_155 : decode cX7_sweep 155 = .ok (.iload 4, 2) := by decide +kernel
theorem dX7_sweep_157 : decode cX7_sweep 157 = .ok (.invokestatic 93, 3) := by decide +kernel
theorem dX7_sweep_160 : decode cX7_sweep 160 = .ok (.iload 4, 2) := by decide +kernel
theorem dX7_sweep_162 : decode cX7_sweep 162 = .ok (.invokestatic 97, 3) := by decide +kernel
theorem dX7_sweep_165 : decode cX7_sweep 165 = .ok (.invokestatic 100, 3) := by decide +kernel
theorem dX7_sweep_168 : decode cX7_sweep 168 = .ok (.ladd, 1) := by decide +kernel
theorem dX7_sweep_169 : decode cX7_sweep 169 = .ok (.lastore, 1) := by decide +kernel
theorem dX7_sweep_170 : decode cX7_sweep 170 = .ok (.aload_n 0, 1) := by decide +kernel
theorem dX7_sweep_171 : decode cX7_sweep 171 = .ok (.getfield 70, 3) := by decide +kernel
theorem dX7_sweep_174 : decode cX7_sweep 174 = .ok (.iload 4, 2) := by decide +kernel
theorem dX7_sweep_176 : decode cX7_sweep 176 = .ok (.lconst 0, 1) := by decide +kernel
theorem dX7_sweep_177 : decode cX7_sweep 177 = .ok (.lastore, 1) := by decide +kernel
theorem dX7_sweep_178 : decode cX7_sweep 178 = .ok (.iinc 4 1, 3) := by decide +kernel
theorem dX7_sweep_181 : decode cX7_sweep 181 = .ok (.goto (-125), 3) := by decide +kernel
theorem dX7_sweep_184 : decode cX7_sweep 184 = .ok (.aload_n 0, 1) := by decide +kernel
theorem dX7_sweep_185 : decode cX7_sweep 185 = .ok (.aload_n 0, 1) := by decide +kernel
theorem dX7_sweep_186 : decode cX7_sweep 186 = .ok (.getfield 70, 3) := by decide +kernel
theorem dX7_sweep_189 : decode cX7_sweep 189 = .ok (.invokestatic 118, 3) := by decide +kernel
theorem dX7_sweep_192 : decode cX7_sweep 192 = .ok (.ifCond .ne 7, 3) := by decide +kernel
theorem dX7_sweep_195 : decode cX7_sweep 195 = .ok (.iconst 1, 1) := by decide +kernel
theorem dX7_sweep_196 : decode cX7_sweep 196 = .ok (.goto 4, 3) := by decide +kernel
theorem dX7_sweep_199 : decode cX7_sweep 199 = .ok (.iconst 0, 1) := by decide +kernel
theorem dX7_sweep_200 : decode cX7_sweep 200 = .ok (.iconst 4, 1) := by decide +kernel
theorem dX7_sweep_201 : decode cX7_sweep 201 = .ok (.invokevirtual 287, 3) := by decide +kernel
theorem dX7_sweep_204 : decode cX7_sweep 204 = .ok (.ifCond .eq 5, 3) := by decide +kernel
theorem dX7_sweep_207 : decode cX7_sweep 207 = .ok (.iconst 0, 1) := by decide +kernel
theorem dX7_sweep_208 : decode cX7_sweep 208 = .ok (.ireturn, 1) := by decide +kernel
theorem dX7_sweep_209 : decode cX7_sweep 209 = .ok (.aload_n 0, 1) := by decide +kernel
theorem dX7_sweep_210 : decode cX7_sweep 210 = .ok (.iload_n 1, 1) := by decide +kernel
theorem dX7_sweep_211 : decode cX7_sweep 211 = .ok (.invokevirtual 325, 3) := by decide +kernel
theorem dX7_sweep_214 : decode cX7_sweep 214 = .ok (.istore 4, 2) := by decide +kernel
theorem dX7_sweep_216 : decode cX7_sweep 216 = .ok (.iload_n 3, 1) := by decide +kernel
theorem dX7_sweep_217 : decode cX7_sweep 217 = .ok (.ireturn, 1) := by decide +kernel
theorem dX7_wrap_0 : decode cX7_wrap 0 = .ok (.aload_n 0, 1) := by decide +kernel
theorem dX7_wrap_1 : decode cX7_wrap 1 = .ok (.iconst 0, 1) := by decide +kernel
theorem dX7_wrap_2 : decode cX7_wrap 2 = .ok (.putfield 79, 3) := by decide +kernel
theorem dX7_wrap_5 : decode cX7_wrap 5 = .ok (.aload_n 0, 1) := by decide +kernel
theorem dX7_wrap_6 : decode cX7_wrap 6 = .ok (.iload_n 1, 1) := by decide +kernel
theorem dX7_wrap_7 : decode cX7_wrap 7 = .ok (.invokevirtual 306, 3) := by decide +kernel
theorem dX7_wrap_10 : decode cX7_wrap 10 = .ok (.ifCond .ne 25, 3) := by decide +kernel
theorem dX7_wrap_13 : decode cX7_wrap 13 = .ok (.aload_n 0, 1) := by decide +kernel
theorem dX7_wrap_14 : decode cX7_wrap 14 = .ok (.iload_n 2, 1) := by decide +kernel
theorem dX7_wrap_15 : decode cX7_wrap 15 = .ok (.iconst 0, 1) := by decide +kernel
theorem dX7_wrap_16 : decode cX7_wrap 16 = .ok (.iconst 1, 1) := by decide +kernel
theorem dX7_wrap_17 : decode cX7_wrap 17 = .ok (.invokestatic 179, 3) := by decide +kernel
theorem dX7_wrap_20 : decode cX7_wrap 20 = .ok (.ifCond .ne 7, 3) := by decide +kernel
theorem dX7_wrap_23 : decode cX7_wrap 23 = .ok (.iconst 1, 1) := by decide +kernel
theorem dX7_wrap_24 : decode cX7_wrap 24 = .ok (.goto 4, 3) := by decide +kernel
theorem dX7_wrap_27 : decode cX7_wrap 27 = .ok (.iconst 0, 1) := by decide +kernel
theorem dX7_wrap_28 : decode cX7_wrap 28 = .ok (.iconst 3, 1) := by decide +kernel
theorem dX7_wrap_29 : decode cX7_wrap 29 = .ok (.invokevirtual 287, 3) := by decide +kernel
theorem dX7_wrap_32 : decode cX7_wrap 32 = .ok (.ifCond .eq 5, 3) := by decide +kernel
theorem dX7_wrap_35 : decode cX7_wrap 35 = .ok (.iconst 0, 1) := by decide +kernel
theorem dX7_wrap_36 : decode cX7_wrap 36 = .ok (.ireturn, 1) := by decide +kernel
theorem dX7_wrap_37 : decode cX7_wrap 37 = .ok (.aload_n 0, 1) := by decide +kernel
theorem dX7_wrap_38 : decode cX7_wrap 38 = .ok (.getfield 17, 3) := by decide +kernel
theorem dX7_wrap_41 : decode cX7_wrap 41 = .ok (.iload_n 1, 1) := by decide +kernel
theorem dX7_wrap_42 : decode cX7_wrap 42 = .ok (.aload_n 0, 1) := by decide +kernel
theorem dX7_wrap_43 : decode cX7_wrap 43 = .ok (.getfield 61, 3) := by decide +kernel
theorem dX7_wrap_46 : decode cX7_wrap 46 = .ok (.invokestatic 226, 3) := by decide +kernel
theorem dX7_wrap_49 : decode cX7_wrap 49 = .ok (.aload_n 0, 1) := by decide +kernel
theorem dX7_wrap_50 : decode cX7_wrap 50 = .ok (.getfield 61, 3) := by decide +kernel
theorem dX7_wrap_53 : decode cX7_wrap 53 = .ok (.invokestatic 107, 3) := by decide +kernel
theorem dX7_wrap_56 : decode cX7_wrap 56 = .ok (.aload_n 0, 1) := by decide +kernel
theorem dX7_wrap_57 : decode cX7_wrap 57 = .ok (.getfield 61, 3) := by decide +kernel
theorem dX7_wrap_60 : decode cX7_wrap 60 = .ok (.bipush 10, 2) := by decide +kernel
theorem dX7_wrap_62 : decode cX7_wrap 62 = .ok (.laload, 1) := by decide +kernel
theorem dX7_wrap_63 : decode cX7_wrap 63 = .ok (.ladd, 1) := by decide +kernel
theorem dX7_wrap_64 : decode cX7_wrap 64 = .ok (.lstore_n 3, 1) := by decide +kernel
theorem dX7_wrap_65 : decode cX7_wrap 65 = .ok (.aload_n 0, 1) := by decide +kernel
theorem dX7_wrap_66 : decode cX7_wrap 66 = .ok (.getfield 61, 3) := by decide +kernel
theorem dX7_wrap_69 : decode cX7_wrap 69 = .ok (.invokestatic 113, 3) := by decide +kernel
theorem dX7_wrap_72 : decode cX7_wrap 72 = .ok (.aload_n 0, 1) := by decide +kernel
theorem dX7_wrap_73 : decode cX7_wrap 73 = .ok (.getfield 61, 3) := by decide +kernel
theorem dX7_wrap_76 : decode cX7_wrap 76 = .ok (.bipush 11, 2) := by decide +kernel
theorem dX7_wrap_78 : decode cX7_wrap 78 = .ok (.laload, 1) := by decide +kernel
theorem dX7_wrap_79 : decode cX7_wrap 79 = .ok (.ladd, 1) := by decide +kernel
theorem dX7_wrap_80 : decode cX7_wrap 80 = .ok (.lstore 5, 2) := by decide +kernel
theorem dX7_wrap_82 : decode cX7_wrap 82 = .ok (.lload_n 3, 1) := by decide +kernel
theorem dX7_wrap_83 : decode cX7_wrap 83 = .ok (.lload 5, 2) := by decide +kernel
theorem dX7_wrap_85 : decode cX7_wrap 85 = .ok (.ladd, 1) := by decide +kernel
theorem dX7_wrap_86 : decode cX7_wrap 86 = .ok (.ldc2_w 333, 3) := by decide +kernel
theorem dX7_wrap_89 : decode cX7_wrap 89 = .ok (.invokestatic 82, 3) := by decide +kernel
theorem dX7_wrap_92 : decode cX7_wrap 92 = .ok (.lstore 7, 2) := by decide +kernel
theorem dX7_wrap_94 : decode cX7_wrap 94 = .ok (.aload_n 0, 1) := by decide +kernel
theorem dX7_wrap_95 : decode cX7_wrap 95 = .ok (.getfield 70, 3) := by decide +kernel
theorem dX7_wrap_98 : decode cX7_wrap 98 = .ok (.invokestatic 129, 3) := by decide +kernel
theorem dX7_wrap_101 : decode cX7_wrap 101 = .ok (.aload_n 0, 1) := by decide +kernel
theorem dX7_wrap_102 : decode cX7_wrap 102 = .ok (.getfield 70, 3) := by decide +kernel
theorem dX7_wrap_105 : decode cX7_wrap 105 = .ok (.iconst 0, 1) := by decide +kernel
theorem dX7_wrap_106 : decode cX7_wrap 106 = .ok (.lload 7, 2) := by decide +kernel
theorem dX7_wrap_108 : decode cX7_wrap 108 = .ok (.lastore, 1) := by decide +kernel
theorem dX7_wrap_109 : decode cX7_wrap 109 = .ok (.aload_n 0, 1) := by decide +kernel
theorem dX7_wrap_110 : decode cX7_wrap 110 = .ok (.getfield 70, 3) := by decide +kernel
theorem dX7_wrap_113 : decode cX7_wrap 113 = .ok (.iload_n 2, 1) := by decide +kernel
theorem dX7_wrap_114 : decode cX7_wrap 114 = .ok (.ifCond .ne 11, 3) := by decide +kernel
theorem dX7_wrap_117 : decode cX7_wrap 117 = .ok (.iconst 1, 1) := by decide +kernel
theorem dX7_wrap_118 : decode cX7_wrap 118 = .ok (.iconst 0, 1) := by decide +kernel
theorem dX7_wrap_119 : decode cX7_wrap 119 = .ok (.invokestatic 133, 3) := by decide +kernel
theorem dX7_wrap_122 : decode cX7_wrap 122 = .ok (.goto 8, 3) := by decide +kernel
theorem dX7_wrap_125 : decode cX7_wrap 125 = .ok (.iconst 0, 1) := by decide +kernel
theorem dX7_wrap_126 : decode cX7_wrap 126 = .ok (.iconst 1, 1) := by decide +kernel
theorem dX7_wrap_127 : decode cX7_wrap 127 = .ok (.invokestatic 133, 3) := by decide +kernel
theorem dX7_wrap_130 : decode cX7_wrap 130 = .ok (.lload 5, 2) := by decide +kernel
theorem dX7_wrap_132 : decode cX7_wrap 132 = .ok (.lload 7, 2) := by decide +kernel
theorem dX7_wrap_134 : decode cX7_wrap 134 = .ok (.lsub, 1) := by decide +kernel
theorem dX7_wrap_135 : decode cX7_wrap 135 = .ok (.lastore, 1) := by decide +kernel
theorem dX7_wrap_136 : decode cX7_wrap 136 = .ok (.aload_n 0, 1) := by decide +kernel
theorem dX7_wrap_137 : decode cX7_wrap 137 = .ok (.aload_n 0, 1) := by decide +kernel
theorem dX7_wrap_138 : decode cX7_wrap 138 = .ok (.getfield 70, 3) := by decide +kernel
theorem dX7_wrap_141 : decode cX7_wrap 141 = .ok (.invokestatic 118, 3) := by decide +kernel
theorem dX7_wrap_144 : decode cX7_wrap 144 = .ok (.ifCond .ne 7, 3) := by decide +kernel
theorem dX7_wrap_147 : decode cX7_wrap 147 = .ok (.iconst 1, 1) := by decide +kernel
theorem dX7_wrap_148 : decode cX7_wrap 148 = .ok (.goto 4, 3) := by decide +kernel
theorem dX7_wrap_151 : decode cX7_wrap 151 = .ok (.iconst 0, 1) := by decide +kernel
theorem dX7_wrap_152 : decode cX7_wrap 152 = .ok (.iconst 4, 1) := by decide +kernel
theorem dX7_wrap_153 : decode cX7_wrap 153 = .ok (.invokevirtual 287, 3) := by decide +kernel
theorem dX7_wrap_156 : decode cX7_wrap 156 = .ok (.ifCond .eq 5, 3) := by decide +kernel
theorem dX7_wrap_159 : decode cX7_wrap 159 = .ok (.iconst 0, 1) := by decide +kernel
theorem dX7_wrap_160 : decode cX7_wrap 160 = .ok (.ireturn, 1) := by decide +kernel
theorem dX7_wrap_161 : decode cX7_wrap 161 = .ok (.aload_n 0, 1) := by decide +kernel
theorem dX7_wrap_162 : decode cX7_wrap 162 = .ok (.iload_n 1, 1) := by decide +kernel
theorem dX7_wrap_163 : decode cX7_wrap 163 = .ok (.invokevirtual 325, 3) := by decide +kernel
theorem dX7_wrap_166 : decode cX7_wrap 166 = .ok (.istore 9, 2) := by decide +kernel
theorem dX7_wrap_168 : decode cX7_wrap 168 = .ok (.lload 5, 2) := by decide +kernel
theorem dX7_wrap_170 : decode cX7_wrap 170 = .ok (.lload 7, 2) := by decide +kernel
theorem dX7_wrap_172 : decode cX7_wrap 172 = .ok (.lsub, 1) := by decide +kernel
theorem dX7_wrap_173 : decode cX7_wrap 173 = .ok (.l2i, 1) := by decide +kernel
theorem dX7_wrap_174 : decode cX7_wrap 174 = .ok (.ireturn, 1) := by decide +kernel
theorem dX7_isValue_0 : decode cX7_isValue 0 = .ok (.iload_n 0, 1) := by decide +kernel
theorem dX7_isValue_1 : decode cX7_isValue 1 = .ok (.i2l, 1) := by decide +kernel
theorem dX7_isValue_2 : decode cX7_isValue 2 = .ok (.ldc2_w 103, 3) := by decide +kernel
theorem dX7_isValue_5 : decode cX7_isValue 5 = .ok (.lcmp, 1) := by decide +kernel
theorem dX7_isValue_6 : decode cX7_isValue 6 = .ok (.ifCond .lt 16, 3) := by decide +kernel
theorem dX7_isValue_9 : decode cX7_isValue 9 = .ok (.iload_n 0, 1) := by decide +kernel
theorem dX7_isValue_10 : decode cX7_isValue 10 = .ok (.i2l, 1) := by decide +kernel
theorem dX7_isValue_11 : decode cX7_isValue 11 = .ok (.ldc2_w 105, 3) := by decide +kernel
theorem dX7_isValue_14 : decode cX7_isValue 14 = .ok (.lcmp, 1) := by decide +kernel
theorem dX7_isValue_15 : decode cX7_isValue 15 = .ok (.ifCond .gt 7, 3) := by decide +kernel
theorem dX7_isValue_18 : decode cX7_isValue 18 = .ok (.iconst 1, 1) := by decide +kernel
theorem dX7_isValue_19 : decode cX7_isValue 19 = .ok (.goto 4, 3) := by decide +kernel
theorem dX7_isValue_22 : decode cX7_isValue 22 = .ok (.iconst 0, 1) := by decide +kernel
theorem dX7_isValue_23 : decode cX7_isValue 23 = .ok (.ireturn, 1) := by decide +kernel
theorem dX7_setCoefficient_0 : decode cX7_setCoefficient 0 = .ok (.aload_n 0, 1) := by decide +kernel
theorem dX7_setCoefficient_1 : decode cX7_setCoefficient 1 = .ok (.iconst 0, 1) := by decide +kernel
theorem dX7_setCoefficient_2 : decode cX7_setCoefficient 2 = .ok (.putfield 79, 3) := by decide +kernel
theorem dX7_setCoefficient_5 : decode cX7_setCoefficient 5 = .ok (.aload_n 0, 1) := by decide +kernel
theorem dX7_setCoefficient_6 : decode cX7_setCoefficient 6 = .ok (.iload_n 1, 1) := by decide +kernel
theorem dX7_setCoefficient_7 : decode cX7_setCoefficient 7 = .ok (.invokevirtual 306, 3) := by decide +kernel
theorem dX7_setCoefficient_10 : decode cX7_setCoefficient 10 = .ok (.ifCond .ne 32, 3) := by decide +kernel
theorem dX7_setCoefficient_13 : decode cX7_setCoefficient 13 = .ok (.aload_n 0, 1) := by decide +kernel
theorem dX7_setCoefficient_14 : decode cX7_setCoefficient 14 = .ok (.iload_n 2, 1) := by decide +kernel
theorem dX7_setCoefficient_15 : decode cX7_setCoefficient 15 = .ok (.iload_n 3, 1) := by decide +kernel
theorem dX7_setCoefficient_16 : decode cX7_setCoefficient 16 = .ok (.invokestatic 309, 3) := by decide +kernel
theorem dX7_setCoefficient_19 : decode cX7_setCoefficient 19 = .ok (.ifCond .eq 11, 3) := by decide +kernel
theorem dX7_setCoefficient_22 : decode cX7_setCoefficient 22 = .ok (.iload 4, 2) := by decide +kernel
theorem dX7_setCoefficient_24 : decode cX7_setCoefficient 24 = .ok (.invokestatic 335, 3) := by decide +kernel
theorem dX7_setCoefficient_27 : decode cX7_setCoefficient 27 = .ok (.ifCond .ne 7, 3) := by decide +kernel
theorem dX7_setCoefficient_30 : decode cX7_setCoefficient 30 = .ok (.iconst 1, 1) := by decide +kernel
theorem dX7_setCoefficient_31 : decode cX7_setCoefficient 31 = .ok (.goto 4, 3) := by decide +kernel
theorem dX7_setCoefficient_34 : decode cX7_setCoefficient 34 = .ok (.iconst 0, 1) := by decide +kernel
theorem dX7_setCoefficient_35 : decode cX7_setCoefficient 35 = .ok (.iconst 3, 1) := by decide +kernel
theorem dX7_setCoefficient_36 : decode cX7_setCoefficient 36 = .ok (.invokevirtual 287, 3) := by decide +kernel
theorem dX7_setCoefficient_39 : decode cX7_setCoefficient 39 = .ok (.ifCond .eq 5, 3) := by decide +kernel
theorem dX7_setCoefficient_42 : decode cX7_setCoefficient 42 = .ok (.iconst 0, 1) := by decide +kernel
theorem dX7_setCoefficient_43 : decode cX7_setCoefficient 43 = .ok (.ireturn, 1) := by decide +kernel
theorem dX7_setCoefficient_44 : decode cX7_setCoefficient 44 = .ok (.aload_n 0, 1) := by decide +kernel
theorem dX7_setCoefficient_45 : decode cX7_setCoefficient 45 = .ok (.invokevirtual 296, 3) := by decide +kernel
theorem dX7_setCoefficient_48 : decode cX7_setCoefficient 48 = .ok (.iconst 1, 1) := by decide +kernel
theorem dX7_setCoefficient_49 : decode cX7_setCoefficient 49 = .ok (.bipush 12, 2) := by decide +kernel
theorem dX7_setCoefficient_51 : decode cX7_setCoefficient 51 = .ok (.iload_n 1, 1) := by decide +kernel
theorem dX7_setCoefficient_52 : decode cX7_setCoefficient 52 = .ok (.imul, 1) := by decide +kernel
theorem dX7_setCoefficient_53 : decode cX7_setCoefficient 53 = .ok (.iadd, 1) := by decide +kernel
theorem dX7_setCoefficient_54 : decode cX7_setCoefficient 54 = .ok (.iload_n 2, 1) := by decide +kernel
theorem dX7_setCoefficient_55 : decode cX7_setCoefficient 55 = .ok (.iload_n 3, 1) := by decide +kernel
theorem dX7_setCoefficient_56 : decode cX7_setCoefficient 56 = .ok (.invokestatic 133, 3) := by decide +kernel
theorem dX7_setCoefficient_59 : decode cX7_setCoefficient 59 = .ok (.iadd, 1) := by decide +kernel
theorem dX7_setCoefficient_60 : decode cX7_setCoefficient 60 = .ok (.istore 5, 2) := by decide +kernel
theorem dX7_setCoefficient_62 : decode cX7_setCoefficient 62 = .ok (.aload_n 0, 1) := by decide +kernel
theorem dX7_setCoefficient_63 : decode cX7_setCoefficient 63 = .ok (.getfield 17, 3) := by decide +kernel
theorem dX7_setCoefficient_66 : decode cX7_setCoefficient 66 = .ok (.iload 5, 2) := by decide +kernel
theorem dX7_setCoefficient_68 : decode cX7_setCoefficient 68 = .ok (.iaload, 1) := by decide +kernel
theorem dX7_setCoefficient_69 : decode cX7_setCoefficient 69 = .ok (.istore 6, 2) := by decide +kernel
theorem dX7_setCoefficient_71 : decode cX7_setCoefficient 71 = .ok (.aload_n 0, 1) := by decide +kernel
theorem dX7_setCoefficient_72 : decode cX7_setCoefficient 72 = .ok (.getfield 17, 3) := by decide +kernel
theorem dX7_setCoefficient_75 : decode cX7_setCoefficient 75 = .ok (.iload 5, 2) := by decide +kernel
theorem dX7_setCoefficient_77 : decode cX7_setCoefficient 77 = .ok (.iload 4, 2) := by decide +kernel
theorem dX7_setCoefficient_79 : decode cX7_setCoefficient 79 = .ok (.iastore, 1) := by decide +kernel
theorem dX7_setCoefficient_80 : decode cX7_setCoefficient 80 = .ok (.iload 6, 2) := by decide +kernel
theorem dX7_setCoefficient_82 : decode cX7_setCoefficient 82 = .ok (.ireturn, 1) := by decide +kernel
theorem dX7_setRemainder_0 : decode cX7_setRemainder 0 = .ok (.aload_n 0, 1) := by decide +kernel
theorem dX7_setRemainder_1 : decode cX7_setRemainder 1 = .ok (.iconst 0, 1) := by decide +kernel
theorem dX7_setRemainder_2 : decode cX7_setRemainder 2 = .ok (.putfield 79, 3) := by decide +kernel
theorem dX7_setRemainder_5 : decode cX7_setRemainder 5 = .ok (.aload_n 0, 1) := by decide +kernel
theorem dX7_setRemainder_6 : decode cX7_setRemainder 6 = .ok (.iload_n 1, 1) := by decide +kernel
theorem dX7_setRemainder_7 : decode cX7_setRemainder 7 = .ok (.invokevirtual 306, 3) := by decide +kernel
theorem dX7_setRemainder_10 : decode cX7_setRemainder 10 = .ok (.ifCond .ne 35, 3) := by decide +kernel
theorem dX7_setRemainder_13 : decode cX7_setRemainder 13 = .ok (.aload_n 0, 1) := by decide +kernel
theorem dX7_setRemainder_14 : decode cX7_setRemainder 14 = .ok (.iload_n 2, 1) := by decide +kernel
theorem dX7_setRemainder_15 : decode cX7_setRemainder 15 = .ok (.invokestatic 335, 3) := by decide +kernel
theorem dX7_setRemainder_18 : decode cX7_setRemainder 18 = .ok (.ifCond .eq 15, 3) := by decide +kernel
theorem dX7_setRemainder_21 : decode cX7_setRemainder 21 = .ok (.iload_n 3, 1) := by decide +kernel
theorem dX7_setRemainder_22 : decode cX7_setRemainder 22 = .ok (.invokestatic 335, 3) := by decide +kernel
theorem dX7_setRemainder_25 : decode cX7_setRemainder 25 = .ok (.ifCond .eq 8, 3) := by decide +kernel
theorem dX7_setRemainder_28 : decode cX7_setRemainder 28 = .ok (.iload_n 3, 1) := by decide +kernel
theorem dX7_setRemainder_29 : decode cX7_setRemainder 29 = .ok (.iload_n 2, 1) := by decide +kernel
theorem dX7_setRemainder_30 : decode cX7_setRemainder 30 = .ok (.if_icmp .ge 7, 3) := by decide +kernel
theorem dX7_setRemainder_33 : decode cX7_setRemainder 33 = .ok (.iconst 1, 1) := by decide +kernel
theorem dX7_setRemainder_34 : decode cX7_setRemainder 34 = .ok (.goto 4, 3) := by decide +kernel
theorem dX7_setRemainder_37 : decode cX7_setRemainder 37 = .ok (.iconst 0, 1) := by decide +kernel
theorem dX7_setRemainder_38 : decode cX7_setRemainder 38 = .ok (.iconst 3, 1) := by decide +kernel
theorem dX7_setRemainder_39 : decode cX7_setRemainder 39 = .ok (.invokevirtual 287, 3) := by decide +kernel
theorem dX7_setRemainder_42 : decode cX7_setRemainder 42 = .ok (.ifCond .eq 5, 3) := by decide +kernel
theorem dX7_setRemainder_45 : decode cX7_setRemainder 45 = .ok (.iconst 0, 1) := by decide +kernel
theorem dX7_setRemainder_46 : decode cX7_setRemainder 46 = .ok (.ireturn, 1) := by decide +kernel
theorem dX7_setRemainder_47 : decode cX7_setRemainder 47 = .ok (.aload_n 0, 1) := by decide +kernel
theorem dX7_setRemainder_48 : decode cX7_setRemainder 48 = .ok (.invokevirtual 296, 3) := by decide +kernel
theorem dX7_setRemainder_51 : decode cX7_setRemainder 51 = .ok (.iconst 1, 1) := by decide +kernel
theorem dX7_setRemainder_52 : decode cX7_setRemainder 52 = .ok (.bipush 12, 2) := by decide +kernel
theorem dX7_setRemainder_54 : decode cX7_setRemainder 54 = .ok (.iload_n 1, 1) := by decide +kernel
theorem dX7_setRemainder_55 : decode cX7_setRemainder 55 = .ok (.imul, 1) := by decide +kernel
theorem dX7_setRemainder_56 : decode cX7_setRemainder 56 = .ok (.iadd, 1) := by decide +kernel
theorem dX7_setRemainder_57 : decode cX7_setRemainder 57 = .ok (.bipush 10, 2) := by decide +kernel
theorem dX7_setRemainder_59 : decode cX7_setRemainder 59 = .ok (.iadd, 1) := by decide +kernel
theorem dX7_setRemainder_60 : decode cX7_setRemainder 60 = .ok (.istore 4, 2) := by decide +kernel
theorem dX7_setRemainder_62 : decode cX7_setRemainder 62 = .ok (.aload_n 0, 1) := by decide +kernel
theorem dX7_setRemainder_63 : decode cX7_setRemainder 63 = .ok (.getfield 17, 3) := by decide +kernel
theorem dX7_setRemainder_66 : decode cX7_setRemainder 66 = .ok (.iload 4, 2) := by decide +kernel
theorem dX7_setRemainder_68 : decode cX7_setRemainder 68 = .ok (.iconst 1, 1) := by decide +kernel
theorem dX7_setRemainder_69 : decode cX7_setRemainder 69 = .ok (.iadd, 1) := by decide +kernel
theorem dX7_setRemainder_70 : decode cX7_setRemainder 70 = .ok (.iaload, 1) := by decide +kernel
theorem dX7_setRemainder_71 : decode cX7_setRemainder 71 = .ok (.aload_n 0, 1) := by decide +kernel
theorem dX7_setRemainder_72 : decode cX7_setRemainder 72 = .ok (.getfield 17, 3) := by decide +kernel
theorem dX7_setRemainder_75 : decode cX7_setRemainder 75 = .ok (.iload 4, 2) := by decide +kernel
theorem dX7_setRemainder_77 : decode cX7_setRemainder 77 = .ok (.iaload, 1) := by decide +kernel
theorem dX7_setRemainder_78 : decode cX7_setRemainder 78 = .ok (.isub, 1) := by decide +kernel
theorem dX7_setRemainder_79 : decode cX7_setRemainder 79 = .ok (.istore 5, 2) := by decide +kernel
theorem dX7_setRemainder_81 : decode cX7_setRemainder 81 = .ok (.aload_n 0, 1) := by decide +kernel
theorem dX7_setRemainder_82 : decode cX7_setRemainder 82 = .ok (.getfield 17, 3) := by decide +kernel
theorem dX7_setRemainder_85 : decode cX7_setRemainder 85 = .ok (.iload 4, 2) := by decide +kernel
theorem dX7_setRemainder_87 : decode cX7_setRemainder 87 = .ok (.iload_n 2, 1) := by decide +kernel
theorem dX7_setRemainder_88 : decode cX7_setRemainder 88 = .ok (.iastore, 1) := by decide +kernel
theorem dX7_setRemainder_89 : decode cX7_setRemainder 89 = .ok (.aload_n 0, 1) := by decide +kernel
theorem dX7_setRemainder_90 : decode cX7_setRemainder 90 = .ok (.getfield 17, 3) := by decide +kernel
theorem dX7_setRemainder_93 : decode cX7_setRemainder 93 = .ok (.iload 4, 2) := by decide +kernel
theorem dX7_setRemainder_95 : decode cX7_setRemainder 95 = .ok (.iconst 1, 1) := by decide +kernel
theorem dX7_setRemainder_96 : decode cX7_setRemainder 96 = .ok (.iadd, 1) := by decide +kernel
theorem dX7_setRemainder_97 : decode cX7_setRemainder 97 = .ok (.iload_n 3, 1) := by decide +kernel
theorem dX7_setRemainder_98 : decode cX7_setRemainder 98 = .ok (.iastore, 1) := by decide +kernel
theorem dX7_setRemainder_99 : decode cX7_setRemainder 99 = .ok (.iload 5, 2) := by decide +kernel
theorem dX7_setRemainder_101 : decode cX7_setRemainder 101 = .ok (.ireturn, 1) := by decide +kernel
theorem dX7_clear_0 : decode cX7_clear 0 = .ok (.aload_n 0, 1) := by decide +kernel
theorem dX7_clear_1 : decode cX7_clear 1 = .ok (.iconst 0, 1) := by decide +kernel
theorem dX7_clear_2 : decode cX7_clear 2 = .ok (.putfield 79, 3) := by decide +kernel
theorem dX7_clear_5 : decode cX7_clear 5 = .ok (.aload_n 0, 1) := by decide +kernel
theorem dX7_clear_6 : decode cX7_clear 6 = .ok (.iload_n 1, 1) := by decide +kernel
theorem dX7_clear_7 : decode cX7_clear 7 = .ok (.invokevirtual 303, 3) := by decide +kernel
theorem dX7_clear_10 : decode cX7_clear 10 = .ok (.ifCond .eq 5, 3) := by decide +kernel
theorem dX7_clear_13 : decode cX7_clear 13 = .ok (.iconst 0, 1) := by decide +kernel
theorem dX7_clear_14 : decode cX7_clear 14 = .ok (.ireturn, 1) := by decide +kernel
theorem dX7_clear_15 : decode cX7_clear 15 = .ok (.aload_n 0, 1) := by decide +kernel
theorem dX7_clear_16 : decode cX7_clear 16 = .ok (.invokevirtual 296, 3) := by decide +kernel
theorem dX7_clear_19 : decode cX7_clear 19 = .ok (.aload_n 0, 1) := by decide +kernel
theorem dX7_clear_20 : decode cX7_clear 20 = .ok (.getfield 17, 3) := by decide +kernel
theorem dX7_clear_23 : decode cX7_clear 23 = .ok (.iload_n 1, 1) := by decide +kernel
theorem dX7_clear_24 : decode cX7_clear 24 = .ok (.invokestatic 222, 3) := by decide +kernel
theorem dX7_clear_27 : decode cX7_clear 27 = .ok (.istore_n 2, 1) := by decide +kernel
theorem dX7_clear_28 : decode cX7_clear 28 = .ok (.aload_n 0, 1) := by decide +kernel
theorem dX7_clear_29 : decode cX7_clear 29 = .ok (.getfield 17, 3) := by decide +kernel
theorem dX7_clear_32 : decode cX7_clear 32 = .ok (.iconst 0, 1) := by decide +kernel
theorem dX7_clear_33 : decode cX7_clear 33 = .ok (.dup2, 1) := by decide +kernel
theorem dX7_clear_34 : decode cX7_clear 34 = .ok (.iaload, 1) := by decide +kernel
theorem dX7_clear_35 : decode cX7_clear 35 = .ok (.iconst 1, 1) := by decide +kernel
theorem dX7_clear_36 : decode cX7_clear 36 = .ok (.iload_n 1, 1) := by decide +kernel
theorem dX7_clear_37 : decode cX7_clear 37 = .ok (.ishl, 1) := by decide +kernel
theorem dX7_clear_38 : decode cX7_clear 38 = .ok (.iconst (-1), 1) := by decide +kernel
theorem dX7_clear_39 : decode cX7_clear 39 = .ok (.ixor, 1) := by decide +kernel
theorem dX7_clear_40 : decode cX7_clear 40 = .ok (.iand, 1) := by decide +kernel
theorem dX7_clear_41 : decode cX7_clear 41 = .ok (.iastore, 1) := by decide +kernel
theorem dX7_clear_42 : decode cX7_clear 42 = .ok (.iload_n 2, 1) := by decide +kernel
theorem dX7_clear_43 : decode cX7_clear 43 = .ok (.ireturn, 1) := by decide +kernel
theorem dX7_undo_0 : decode cX7_undo 0 = .ok (.aload_n 0, 1) := by decide +kernel
theorem dX7_undo_1 : decode cX7_undo 1 = .ok (.iconst 0, 1) := by decide +kernel
theorem dX7_undo_2 : decode cX7_undo 2 = .ok (.putfield 79, 3) := by decide +kernel
theorem dX7_undo_5 : decode cX7_undo 5 = .ok (.aload_n 0, 1) := by decide +kernel
theorem dX7_undo_6 : decode cX7_undo 6 = .ok (.getfield 322, 3) := by decide +kernel
theorem dX7_undo_9 : decode cX7_undo 9 = .ok (.ifCond .ne 5, 3) := by decide +kernel
theorem dX7_undo_12 : decode cX7_undo 12 = .ok (.iconst (-1), 1) := by decide +kernel
theorem dX7_undo_13 : decode cX7_undo 13 = .ok (.ireturn, 1) := by decide +kernel
theorem dX7_undo_14 : decode cX7_undo 14 = .ok (.aload_n 0, 1) := by decide +kernel
theorem dX7_undo_15 : decode cX7_undo 15 = .ok (.dup, 1) := by decide +kernel
theorem dX7_undo_16 : decode cX7_undo 16 = .ok (.getfield 322, 3) := by decide +kernel
theorem dX7_undo_19 : decode cX7_undo 19 = .ok (.iconst 1, 1) := by decide +kernel
theorem dX7_undo_20 : decode cX7_undo 20 = .ok (.isub, 1) := by decide +kernel
theorem dX7_undo_21 : decode cX7_undo 21 = .ok (.putfield 322, 3) := by decide +kernel
theorem dX7_undo_24 : decode cX7_undo 24 = .ok (.aload_n 0, 1) := by decide +kernel
theorem dX7_undo_25 : decode cX7_undo 25 = .ok (.getfield 25, 3) := by decide +kernel
theorem dX7_undo_28 : decode cX7_undo 28 = .ok (.aload_n 0, 1) := by decide +kernel
theorem dX7_undo_29 : decode cX7_undo 29 = .ok (.getfield 322, 3) := by decide +kernel
theorem dX7_undo_32 : decode cX7_undo 32 = .ok (.aaload, 1) := by decide +kernel
theorem dX7_undo_33 : decode cX7_undo 33 = .ok (.aload_n 0, 1) := by decide +kernel
theorem dX7_undo_34 : decode cX7_undo 34 = .ok (.getfield 17, 3) := by decide +kernel
theorem dX7_undo_37 : decode cX7_undo 37 = .ok (.invokestatic 299, 3) := by decide +kernel
theorem dX7_undo_40 : decode cX7_undo 40 = .ok (.aload_n 0, 1) := by decide +kernel
theorem dX7_undo_41 : decode cX7_undo 41 = .ok (.getfield 322, 3) := by decide +kernel
theorem dX7_undo_44 : decode cX7_undo 44 = .ok (.ireturn, 1) := by decide +kernel
theorem dX7_checksum_0 : decode cX7_checksum 0 = .ok (.aload_n 0, 1) := by decide +kernel
theorem dX7_checksum_1 : decode cX7_checksum 1 = .ok (.iconst 0, 1) := by decide +kernel
theorem dX7_checksum_2 : decode cX7_checksum 2 = .ok (.putfield 79, 3) := by decide +kernel
theorem dX7_checksum_5 : decode cX7_checksum 5 = .ok (.aload_n 0, 1) := by decide +kernel
theorem dX7_checksum_6 : decode cX7_checksum 6 = .ok (.getfield 17, 3) := by decide +kernel
theorem dX7_checksum_9 : decode cX7_checksum 9 = .ok (.iconst 0, 1) := by decide +kernel
theorem dX7_checksum_10 : decode cX7_checksum 10 = .ok (.iaload, 1) := by decide +kernel
theorem dX7_checksum_11 : decode cX7_checksum 11 = .ok (.i2l, 1) := by decide +kernel
theorem dX7_checksum_12 : decode cX7_checksum 12 = .ok (.lstore_n 1, 1) := by decide +kernel
theorem dX7_checksum_13 : decode cX7_checksum 13 = .ok (.iconst 0, 1) := by decide +kernel
theorem dX7_checksum_14 : decode cX7_checksum 14 = .ok (.istore_n 3, 1) := by decide +kernel
theorem dX7_checksum_15 : decode cX7_checksum 15 = .ok (.iload_n 3, 1) := by decide +kernel
theorem dX7_checksum_16 : decode cX7_checksum 16 = .ok (.bipush 8, 2) := by decide +kernel
theorem dX7_checksum_18 : decode cX7_checksum 18 = .ok (.if_icmp .ge 58, 3) := by decide +kernel
theorem dX7_checksum_21 : decode cX7_checksum 21 = .ok (.iconst 0, 1) := by decide +kernel
theorem dX7_checksum_22 : decode cX7_checksum 22 = .ok (.istore 4, 2) := by decide +kernel
theorem dX7_checksum_24 : decode cX7_checksum 24 = .ok (.iload 4, 2) := by decide +kernel
theorem dX7_checksum_26 : decode cX7_checksum 26 = .ok (.bipush 12, 2) := by decide +kernel
theorem dX7_checksum_28 : decode cX7_checksum 28 = .ok (.if_icmp .ge 42, 3) := by decide +kernel
theorem dX7_checksum_31 : decode cX7_checksum 31 = .ok (.aload_n 0, 1) := by decide +kernel
theorem dX7_checksum_32 : decode cX7_checksum 32 = .ok (.getfield 17, 3) := by decide +kernel
theorem dX7_checksum_35 : decode cX7_checksum 35 = .ok (.iload_n 3, 1) := by decide +kernel
theorem dX7_checksum_36 : decode cX7_checksum 36 = .ok (.invokestatic 222, 3) := by decide +kernel
theorem dX7_checksum_39 : decode cX7_checksum 39 = .ok (.ifCond .eq 31, 3) := by decide +kernel
theorem dX7_checksum_42 : decode cX7_checksum 42 = .ok (.ldc2_w 338, 3) := by decide +kernel
theorem dX7_checksum_45 : decode cX7_checksum 45 = .ok (.lload_n 1, 1) := by decide +kernel
theorem dX7_checksum_46 : decode cX7_checksum 46 = .ok (.lmul, 1) := by decide +kernel
theorem dX7_checksum_47 : decode cX7_checksum 47 = .ok (.aload_n 0, 1) := by decide +kernel
theorem dX7_checksum_48 : decode cX7_checksum 48 = .ok (.getfield 17, 3) := by decide +kernel
theorem dX7_checksum_51 : decode cX7_checksum 51 = .ok (.iconst 1, 1) := by decide +kernel
theorem dX7_checksum_52 : decode cX7_checksum 52 = .ok (.bipush 12, 2) := by decide +kernel
theorem dX7_checksum_54 : decode cX7_checksum 54 = .ok (.iload_n 3, 1) := by decide +kernel
theorem dX7_checksum_55 : decode cX7_checksum 55 = .ok (.imul, 1) := by decide +kernel
theorem dX7_checksum_56 : decode cX7_checksum 56 = .ok (.iadd, 1) := by decide +kernel
theorem dX7_checksum_57 : decode cX7_checksum 57 = .ok (.iload 4, 2) := by decide +kernel
theorem dX7_checksum_59 : decode cX7_checksum 59 = .ok (.iadd, 1) := by decide +kernel
theorem dX7_checksum_60 : decode cX7_checksum 60 = .ok (.iaload, 1) := by decide +kernel
theorem dX7_checksum_61 : decode cX7_checksum 61 = .ok (.i2l, 1) := by decide +kernel
theorem dX7_checksum_62 : decode cX7_checksum 62 = .ok (.ladd, 1) := by decide +kernel
theorem dX7_checksum_63 : decode cX7_checksum 63 = .ok (.lstore_n 1, 1) := by decide +kernel
theorem dX7_checksum_64 : decode cX7_checksum 64 = .ok (.iinc 4 1, 3) := by decide +kernel
theorem dX7_checksum_67 : decode cX7_checksum 67 = .ok (.goto (-43), 3) := by decide +kernel
theorem dX7_checksum_70 : decode cX7_checksum 70 = .ok (.iinc 3 1, 3) := by decide +kernel
theorem dX7_checksum_73 : decode cX7_checksum 73 = .ok (.goto (-58), 3) := by decide +kernel
theorem dX7_checksum_76 : decode cX7_checksum 76 = .ok (.lload_n 1, 1) := by decide +kernel
theorem dX7_checksum_77 : decode cX7_checksum 77 = .ok (.lreturn, 1) := by decide +kernel
theorem dJ6_bitCount_0f7a4_0 : decode cJ6_bitCount_0f7a4 0 = .ok (.iload_n 0, 1) := by decide +kernel
theorem dJ6_bitCount_0f7a4_1 : decode cJ6_bitCount_0f7a4 1 = .ok (.iload_n 0, 1) := by decide +kernel
theorem dJ6_bitCount_0f7a4_2 : decode cJ6_bitCount_0f7a4 2 = .ok (.iconst 1, 1) := by decide +kernel
theorem dJ6_bitCount_0f7a4_3 : decode cJ6_bitCount_0f7a4 3 = .ok (.iushr, 1) := by decide +kernel
theorem dJ6_bitCount_0f7a4_4 : decode cJ6_bitCount_0f7a4 4 = .ok (.ldc_w 265, 3) := by decide +kernel
theorem dJ6_bitCount_0f7a4_7 : decode cJ6_bitCount_0f7a4 7 = .ok (.iand, 1) := by decide +kernel
theorem dJ6_bitCount_0f7a4_8 : decode cJ6_bitCount_0f7a4 8 = .ok (.isub, 1) := by decide +kernel
theorem dJ6_bitCount_0f7a4_9 : decode cJ6_bitCount_0f7a4 9 = .ok (.istore_n 0, 1) := by decide +kernel
theorem dJ6_bitCount_0f7a4_10 : decode cJ6_bitCount_0f7a4 10 = .ok (.iload_n 0, 1) := by decide +kernel
theorem dJ6_bitCount_0f7a4_11 : decode cJ6_bitCount_0f7a4 11 = .ok (.ldc_w 266, 3) := by decide +kernel
theorem dJ6_bitCount_0f7a4_14 : decode cJ6_bitCount_0f7a4 14 = .ok (.iand, 1) := by decide +kernel
theorem dJ6_bitCount_0f7a4_15 : decode cJ6_bitCount_0f7a4 15 = .ok (.iload_n 0, 1) := by decide +kernel
theorem dJ6_bitCount_0f7a4_16 : decode cJ6_bitCount_0f7a4 16 = .ok (.iconst 2, 1) := by decide +kernel
theorem dJ6_bitCount_0f7a4_17 : decode cJ6_bitCount_0f7a4 17 = .ok (.iushr, 1) := by decide +kernel
theorem dJ6_bitCount_0f7a4_18 : decode cJ6_bitCount_0f7a4 18 = .ok (.ldc_w 266, 3) := by decide +kernel
theorem dJ6_bitCount_0f7a4_21 : decode cJ6_bitCount_0f7a4 21 = .ok (.iand, 1) := by decide +kernel
theorem dJ6_bitCount_0f7a4_22 : decode cJ6_bitCount_0f7a4 22 = .ok (.iadd, 1) := by decide +kernel
theorem dJ6_bitCount_0f7a4_23 : decode cJ6_bitCount_0f7a4 23 = .ok (.istore_n 0, 1) := by decide +kernel
theorem dJ6_bitCount_0f7a4_24 : decode cJ6_bitCount_0f7a4 24 = .ok (.iload_n 0, 1) := by decide +kernel
theorem dJ6_bitCount_0f7a4_25 : decode cJ6_bitCount_0f7a4 25 = .ok (.iload_n 0, 1) := by decide +kernel
theorem dJ6_bitCount_0f7a4_26 : decode cJ6_bitCount_0f7a4 26 = .ok (.iconst 4, 1) := by decide +kernel
theorem dJ6_bitCount_0f7a4_27 : decode cJ6_bitCount_0f7a4 27 = .ok (.iushr, 1) := by decide +kernel
theorem dJ6_bitCount_0f7a4_28 : decode cJ6_bitCount_0f7a4 28 = .ok (.iadd, 1) := by decide +kernel
theorem dJ6_bitCount_0f7a4_29 : decode cJ6_bitCount_0f7a4 29 = .ok (.ldc_w 267, 3) := by decide +kernel
theorem dJ6_bitCount_0f7a4_32 : decode cJ6_bitCount_0f7a4 32 = .ok (.iand, 1) := by decide +kernel
theorem dJ6_bitCount_0f7a4_33 : decode cJ6_bitCount_0f7a4 33 = .ok (.istore_n 0, 1) := by decide +kernel
theorem dJ6_bitCount_0f7a4_34 : decode cJ6_bitCount_0f7a4 34 = .ok (.iload_n 0, 1) := by decide +kernel
theorem dJ6_bitCount_0f7a4_35 : decode cJ6_bitCount_0f7a4 35 = .ok (.iload_n 0, 1) := by decide +kernel
theorem dJ6_bitCount_0f7a4_36 : decode cJ6_bitCount_0f7a4 36 = .ok (.bipush 8, 2) := by decide +kernel
theorem dJ6_bitCount_0f7a4_38 : decode cJ6_bitCount_0f7a4 38 = .ok (.iushr, 1) := by decide +kernel
theorem dJ6_bitCount_0f7a4_39 : decode cJ6_bitCount_0f7a4 39 = .ok (.iadd, 1) := by decide +kernel
theorem dJ6_bitCount_0f7a4_40 : decode cJ6_bitCount_0f7a4 40 = .ok (.istore_n 0, 1) := by decide +kernel
theorem dJ6_bitCount_0f7a4_41 : decode cJ6_bitCount_0f7a4 41 = .ok (.iload_n 0, 1) := by decide +kernel
theorem dJ6_bitCount_0f7a4_42 : decode cJ6_bitCount_0f7a4 42 = .ok (.iload_n 0, 1) := by decide +kernel
theorem dJ6_bitCount_0f7a4_43 : decode cJ6_bitCount_0f7a4 43 = .ok (.bipush 16, 2) := by decide +kernel
theorem dJ6_bitCount_0f7a4_45 : decode cJ6_bitCount_0f7a4 45 = .ok (.iushr, 1) := by decide +kernel
theorem dJ6_bitCount_0f7a4_46 : decode cJ6_bitCount_0f7a4 46 = .ok (.iadd, 1) := by decide +kernel
theorem dJ6_bitCount_0f7a4_47 : decode cJ6_bitCount_0f7a4 47 = .ok (.istore_n 0, 1) := by decide +kernel
theorem dJ6_bitCount_0f7a4_48 : decode cJ6_bitCount_0f7a4 48 = .ok (.iload_n 0, 1) := by decide +kernel
theorem dJ6_bitCount_0f7a4_49 : decode cJ6_bitCount_0f7a4 49 = .ok (.bipush 63, 2) := by decide +kernel
theorem dJ6_bitCount_0f7a4_51 : decode cJ6_bitCount_0f7a4 51 = .ok (.iand, 1) := by decide +kernel
theorem dJ6_bitCount_0f7a4_52 : decode cJ6_bitCount_0f7a4 52 = .ok (.ireturn, 1) := by decide +kernel
theorem dJ9_floorDiv_f86c9_0 : decode cJ9_floorDiv_f86c9 0 = .ok (.lload_n 0, 1) := by decide +kernel
theorem dJ9_floorDiv_f86c9_1 : decode cJ9_floorDiv_f86c9 1 = .ok (.lload_n 2, 1) := by decide +kernel
theorem dJ9_floorDiv_f86c9_2 : decode cJ9_floorDiv_f86c9 2 = .ok (.ldiv, 1) := by decide +kernel
theorem dJ9_floorDiv_f86c9_3 : decode cJ9_floorDiv_f86c9 3 = .ok (.lstore 4, 2) := by decide +kernel
theorem dJ9_floorDiv_f86c9_5 : decode cJ9_floorDiv_f86c9 5 = .ok (.lload_n 0, 1) := by decide +kernel
theorem dJ9_floorDiv_f86c9_6 : decode cJ9_floorDiv_f86c9 6 = .ok (.lload_n 2, 1) := by decide +kernel
theorem dJ9_floorDiv_f86c9_7 : decode cJ9_floorDiv_f86c9 7 = .ok (.lxor, 1) := by decide +kernel
theorem dJ9_floorDiv_f86c9_8 : decode cJ9_floorDiv_f86c9 8 = .ok (.lconst 0, 1) := by decide +kernel
theorem dJ9_floorDiv_f86c9_9 : decode cJ9_floorDiv_f86c9 9 = .ok (.lcmp, 1) := by decide +kernel
theorem dJ9_floorDiv_f86c9_10 : decode cJ9_floorDiv_f86c9 10 = .ok (.ifCond .ge 17, 3) := by decide +kernel
theorem dJ9_floorDiv_f86c9_13 : decode cJ9_floorDiv_f86c9 13 = .ok (.lload 4, 2) := by decide +kernel
theorem dJ9_floorDiv_f86c9_15 : decode cJ9_floorDiv_f86c9 15 = .ok (.lload_n 2, 1) := by decide +kernel
theorem dJ9_floorDiv_f86c9_16 : decode cJ9_floorDiv_f86c9 16 = .ok (.lmul, 1) := by decide +kernel
theorem dJ9_floorDiv_f86c9_17 : decode cJ9_floorDiv_f86c9 17 = .ok (.lload_n 0, 1) := by decide +kernel
theorem dJ9_floorDiv_f86c9_18 : decode cJ9_floorDiv_f86c9 18 = .ok (.lcmp, 1) := by decide +kernel
theorem dJ9_floorDiv_f86c9_19 : decode cJ9_floorDiv_f86c9 19 = .ok (.ifCond .eq 8, 3) := by decide +kernel
theorem dJ9_floorDiv_f86c9_22 : decode cJ9_floorDiv_f86c9 22 = .ok (.lload 4, 2) := by decide +kernel
theorem dJ9_floorDiv_f86c9_24 : decode cJ9_floorDiv_f86c9 24 = .ok (.lconst 1, 1) := by decide +kernel
theorem dJ9_floorDiv_f86c9_25 : decode cJ9_floorDiv_f86c9 25 = .ok (.lsub, 1) := by decide +kernel
theorem dJ9_floorDiv_f86c9_26 : decode cJ9_floorDiv_f86c9 26 = .ok (.lreturn, 1) := by decide +kernel
theorem dJ9_floorDiv_f86c9_27 : decode cJ9_floorDiv_f86c9 27 = .ok (.lload 4, 2) := by decide +kernel
theorem dJ9_floorDiv_f86c9_29 : decode cJ9_floorDiv_f86c9 29 = .ok (.lreturn, 1) := by decide +kernel
theorem dJ9_abs_067f4_0 : decode cJ9_abs_067f4 0 = .ok (.lload_n 0, 1) := by decide +kernel
theorem dJ9_abs_067f4_1 : decode cJ9_abs_067f4 1 = .ok (.lconst 0, 1) := by decide +kernel
theorem dJ9_abs_067f4_2 : decode cJ9_abs_067f4 2 = .ok (.lcmp, 1) := by decide +kernel
theorem dJ9_abs_067f4_3 : decode cJ9_abs_067f4 3 = .ok (.ifCond .ge 8, 3) := by decide +kernel
theorem dJ9_abs_067f4_6 : decode cJ9_abs_067f4 6 = .ok (.lload_n 0, 1) := by decide +kernel
theorem dJ9_abs_067f4_7 : decode cJ9_abs_067f4 7 = .ok (.lneg, 1) := by decide +kernel
theorem dJ9_abs_067f4_8 : decode cJ9_abs_067f4 8 = .ok (.goto 4, 3) := by decide +kernel
theorem dJ9_abs_067f4_11 : decode cJ9_abs_067f4 11 = .ok (.lload_n 0, 1) := by decide +kernel
theorem dJ9_abs_067f4_12 : decode cJ9_abs_067f4 12 = .ok (.lreturn, 1) := by decide +kernel
theorem dJ9_max_7cf53_0 : decode cJ9_max_7cf53 0 = .ok (.iload_n 0, 1) := by decide +kernel
theorem dJ9_max_7cf53_1 : decode cJ9_max_7cf53 1 = .ok (.iload_n 1, 1) := by decide +kernel
theorem dJ9_max_7cf53_2 : decode cJ9_max_7cf53 2 = .ok (.if_icmp .lt 7, 3) := by decide +kernel
theorem dJ9_max_7cf53_5 : decode cJ9_max_7cf53 5 = .ok (.iload_n 0, 1) := by decide +kernel
theorem dJ9_max_7cf53_6 : decode cJ9_max_7cf53 6 = .ok (.goto 4, 3) := by decide +kernel
theorem dJ9_max_7cf53_9 : decode cJ9_max_7cf53 9 = .ok (.iload_n 1, 1) := by decide +kernel
theorem dJ9_max_7cf53_10 : decode cJ9_max_7cf53 10 = .ok (.ireturn, 1) := by decide +kernel
theorem dJ9_max_f86c9_0 : decode cJ9_max_f86c9 0 = .ok (.lload_n 0, 1) := by decide +kernel
theorem dJ9_max_f86c9_1 : decode cJ9_max_f86c9 1 = .ok (.lload_n 2, 1) := by decide +kernel
theorem dJ9_max_f86c9_2 : decode cJ9_max_f86c9 2 = .ok (.lcmp, 1) := by decide +kernel
theorem dJ9_max_f86c9_3 : decode cJ9_max_f86c9 3 = .ok (.ifCond .lt 7, 3) := by decide +kernel
theorem dJ9_max_f86c9_6 : decode cJ9_max_f86c9 6 = .ok (.lload_n 0, 1) := by decide +kernel
theorem dJ9_max_f86c9_7 : decode cJ9_max_f86c9 7 = .ok (.goto 4, 3) := by decide +kernel
theorem dJ9_max_f86c9_10 : decode cJ9_max_f86c9 10 = .ok (.lload_n 2, 1) := by decide +kernel
theorem dJ9_max_f86c9_11 : decode cJ9_max_f86c9 11 = .ok (.lreturn, 1) := by decide +kernel
theorem dJ9_min_7cf53_0 : decode cJ9_min_7cf53 0 = .ok (.iload_n 0, 1) := by decide +kernel
theorem dJ9_min_7cf53_1 : decode cJ9_min_7cf53 1 = .ok (.iload_n 1, 1) := by decide +kernel
theorem dJ9_min_7cf53_2 : decode cJ9_min_7cf53 2 = .ok (.if_icmp .gt 7, 3) := by decide +kernel
theorem dJ9_min_7cf53_5 : decode cJ9_min_7cf53 5 = .ok (.iload_n 0, 1) := by decide +kernel
theorem dJ9_min_7cf53_6 : decode cJ9_min_7cf53 6 = .ok (.goto 4, 3) := by decide +kernel
theorem dJ9_min_7cf53_9 : decode cJ9_min_7cf53 9 = .ok (.iload_n 1, 1) := by decide +kernel
theorem dJ9_min_7cf53_10 : decode cJ9_min_7cf53 10 = .ok (.ireturn, 1) := by decide +kernel
theorem dJ9_min_f86c9_0 : decode cJ9_min_f86c9 0 = .ok (.lload_n 0, 1) := by decide +kernel
theorem dJ9_min_f86c9_1 : decode cJ9_min_f86c9 1 = .ok (.lload_n 2, 1) := by decide +kernel
theorem dJ9_min_f86c9_2 : decode cJ9_min_f86c9 2 = .ok (.lcmp, 1) := by decide +kernel
theorem dJ9_min_f86c9_3 : decode cJ9_min_f86c9 3 = .ok (.ifCond .gt 7, 3) := by decide +kernel
theorem dJ9_min_f86c9_6 : decode cJ9_min_f86c9 6 = .ok (.lload_n 0, 1) := by decide +kernel
theorem dJ9_min_f86c9_7 : decode cJ9_min_f86c9 7 = .ok (.goto 4, 3) := by decide +kernel
theorem dJ9_min_f86c9_10 : decode cJ9_min_f86c9 10 = .ok (.lload_n 2, 1) := by decide +kernel
theorem dJ9_min_f86c9_11 : decode cJ9_min_f86c9 11 = .ok (.lreturn, 1) := by decide +kernel
theorem dJ0_length_8abf5_0 : decode cJ0_length_8abf5 0 = .ok (.aload_n 0, 1) := by decide +kernel
theorem dJ0_length_8abf5_1 : decode cJ0_length_8abf5 1 = .ok (.getfield 9, 3) := by decide +kernel
theorem dJ0_length_8abf5_4 : decode cJ0_length_8abf5 4 = .ok (.arraylength, 1) := by decide +kernel
theorem dJ0_length_8abf5_5 : decode cJ0_length_8abf5 5 = .ok (.aload_n 0, 1) := by decide +kernel
theorem dJ0_length_8abf5_6 : decode cJ0_length_8abf5 6 = .ok (.invokevirtual 335, 3) := by decide +kernel
theorem dJ0_length_8abf5_9 : decode cJ0_length_8abf5 9 = .ok (.ishr, 1) := by decide +kernel
theorem dJ0_length_8abf5_10 : decode cJ0_length_8abf5 10 = .ok (.ireturn, 1) := by decide +kernel
theorem dJ0_charAt_5068e_0 : decode cJ0_charAt_5068e 0 = .ok (.aload_n 0, 1) := by decide +kernel
theorem dJ0_charAt_5068e_1 : decode cJ0_charAt_5068e 1 = .ok (.invokevirtual 492, 3) := by decide +kernel
theorem dJ0_charAt_5068e_4 : decode cJ0_charAt_5068e 4 = .ok (.ifCond .eq 12, 3) := by decide +kernel
theorem dJ0_charAt_5068e_7 : decode cJ0_charAt_5068e 7 = .ok (.aload_n 0, 1) := by decide +kernel
theorem dJ0_charAt_5068e_8 : decode cJ0_charAt_5068e 8 = .ok (.getfield 9, 3) := by decide +kernel
theorem dJ0_charAt_5068e_11 : decode cJ0_charAt_5068e 11 = .ok (.iload_n 1, 1) := by decide +kernel
theorem dJ0_charAt_5068e_12 : decode cJ0_charAt_5068e 12 = .ok (.invokestatic 495, 3) := by decide +kernel
theorem dJ0_charAt_5068e_15 : decode cJ0_charAt_5068e 15 = .ok (.ireturn, 1) := by decide +kernel
theorem dJ0_charAt_5068e_16 : decode cJ0_charAt_5068e 16 = .ok (.aload_n 0, 1) := by decide +kernel
theorem dJ0_charAt_5068e_17 : decode cJ0_charAt_5068e 17 = .ok (.getfield 9, 3) := by decide +kernel
theorem dJ0_charAt_5068e_20 : decode cJ0_charAt_5068e 20 = .ok (.iload_n 1, 1) := by decide +kernel
theorem dJ0_charAt_5068e_21 : decode cJ0_charAt_5068e 21 = .ok (.invokestatic 498, 3) := by decide +kernel
theorem dJ0_charAt_5068e_24 : decode cJ0_charAt_5068e 24 = .ok (.ireturn, 1) := by decide +kernel
theorem dJ0_coder_7d493_0 : decode cJ0_coder_7d493 0 = .ok (.getstatic 38, 3) := by decide +kernel
theorem dJ0_coder_7d493_3 : decode cJ0_coder_7d493 3 = .ok (.ifCond .eq 10, 3) := by decide +kernel
theorem dJ0_coder_7d493_6 : decode cJ0_coder_7d493 6 = .ok (.aload_n 0, 1) := by decide +kernel
theorem dJ0_coder_7d493_7 : decode cJ0_coder_7d493 7 = .ok (.getfield 15, 3) := by decide +kernel
theorem dJ0_coder_7d493_10 : decode cJ0_coder_7d493 10 = .ok (.goto 4, 3) := by decide +kernel
theorem dJ0_coder_7d493_13 : decode cJ0_coder_7d493 13 = .ok (.iconst 1, 1) := by decide +kernel
theorem dJ0_coder_7d493_14 : decode cJ0_coder_7d493 14 = .ok (.ireturn, 1) := by decide +kernel
theorem dJ0_isLatin1_aae02_0 : decode cJ0_isLatin1_aae02 0 = .ok (.getstatic 38, 3) := by decide +kernel
theorem dJ0_isLatin1_aae02_3 : decode cJ0_isLatin1_aae02 3 = .ok (.ifCond .eq 14, 3) := by decide +kernel
theorem dJ0_isLatin1_aae02_6 : decode cJ0_isLatin1_aae02 6 = .ok (.aload_n 0, 1) := by decide +kernel
theorem dJ0_isLatin1_aae02_7 : decode cJ0_isLatin1_aae02 7 = .ok (.getfield 15, 3) := by decide +kernel
theorem dJ0_isLatin1_aae02_10 : decode cJ0_isLatin1_aae02 10 = .ok (.ifCond .ne 7, 3) := by decide +kernel
theorem dJ0_isLatin1_aae02_13 : decode cJ0_isLatin1_aae02 13 = .ok (.iconst 1, 1) := by decide +kernel
theorem dJ0_isLatin1_aae02_14 : decode cJ0_isLatin1_aae02 14 = .ok (.goto 4, 3) := by decide +kernel
theorem dJ0_isLatin1_aae02_17 : decode cJ0_isLatin1_aae02 17 = .ok (.iconst 0, 1) := by decide +kernel
theorem dJ0_isLatin1_aae02_18 : decode cJ0_isLatin1_aae02 18 = .ok (.ireturn, 1) := by decide +kernel
theorem dJ0_checkIndex_df160_0 : decode cJ0_checkIndex_df160 0 = .ok (.iload_n 0, 1) := by decide +kernel
theorem dJ0_checkIndex_df160_1 : decode cJ0_checkIndex_df160 1 = .ok (.iload_n 1, 1) := by decide +kernel
theorem dJ0_checkIndex_df160_2 : decode cJ0_checkIndex_df160 2 = .ok (.getstatic 1053, 3) := by decide +kernel
theorem dJ0_checkIndex_df160_5 : decode cJ0_checkIndex_df160 5 = .ok (.invokestatic 1059, 3) := by decide +kernel
theorem dJ0_checkIndex_df160_8 : decode cJ0_checkIndex_df160 8 = .ok (.pop, 1) := by decide +kernel
theorem dJ0_checkIndex_df160_9 : decode cJ0_checkIndex_df160 9 = .ok (.return_, 1) := by decide +kernel
theorem dJ1_charAt_3b067_0 : decode cJ1_charAt_3b067 0 = .ok (.iload_n 1, 1) := by decide +kernel
theorem dJ1_charAt_3b067_1 : decode cJ1_charAt_3b067 1 = .ok (.aload_n 0, 1) := by decide +kernel
theorem dJ1_charAt_3b067_2 : decode cJ1_charAt_3b067 2 = .ok (.arraylength, 1) := by decide +kernel
theorem dJ1_charAt_3b067_3 : decode cJ1_charAt_3b067 3 = .ok (.invokestatic 9, 3) := by decide +kernel
theorem dJ1_charAt_3b067_6 : decode cJ1_charAt_3b067 6 = .ok (.aload_n 0, 1) := by decide +kernel
theorem dJ1_charAt_3b067_7 : decode cJ1_charAt_3b067 7 = .ok (.iload_n 1, 1) := by decide +kernel
theorem dJ1_charAt_3b067_8 : decode cJ1_charAt_3b067 8 = .ok (.baload, 1) := by decide +kernel
theorem dJ1_charAt_3b067_9 : decode cJ1_charAt_3b067 9 = .ok (.sipush 255, 3) := by decide +kernel
theorem dJ1_charAt_3b067_12 : decode cJ1_charAt_3b067 12 = .ok (.iand, 1) := by decide +kernel
theorem dJ1_charAt_3b067_13 : decode cJ1_charAt_3b067 13 = .ok (.i2c, 1) := by decide +kernel
theorem dJ1_charAt_3b067_14 : decode cJ1_charAt_3b067 14 = .ok (.ireturn, 1) := by decide +kernel
theorem dJ2_getChar_3b067_0 : decode cJ2_getChar_3b067 0 = .ok (.getstatic 44, 3) := by decide +kernel
theorem dJ2_getChar_3b067_3 : decode cJ2_getChar_3b067 3 = .ok (.ifCond .ne 25, 3) := by decide +kernel
theorem dJ2_getChar_3b067_6 : decode cJ2_getChar_3b067 6 = .ok (.iload_n 1, 1) := by decide +kernel
theorem dJ2_getChar_3b067_7 : decode cJ2_getChar_3b067 7 = .ok (.ifCond .lt 11, 3) := by decide +kernel
theorem dJ2_getChar_3b067_10 : decode cJ2_getChar_3b067 10 = .ok (.iload_n 1, 1) := by decide +kernel
theorem dJ2_getChar_3b067_11 : decode cJ2_getChar_3b067 11 = .ok (.aload_n 0, 1) := by decide +kernel
theorem dJ2_getChar_3b067_12 : decode cJ2_getChar_3b067 12 = .ok (.invokestatic 48, 3) := by decide +kernel
theorem dJ2_getChar_3b067_15 : decode cJ2_getChar_3b067 15 = .ok (.if_icmp .lt 13, 3) := by decide +kernel
theorem dJ2_getChar_3b067_18 : decode cJ2_getChar_3b067 18 = .ok (.new 52, 3) := by decide +kernel
theorem dJ2_getChar_3b067_21 : decode cJ2_getChar_3b067 21 = .ok (.dup, 1) := by decide +kernel
theorem dJ2_getChar_3b067_22 : decode cJ2_getChar_3b067 22 = .ok (.ldc 54, 2) := by decide +kernel
theorem dJ2_getChar_3b067_24 : decode cJ2_getChar_3b067 24 = .ok (.invokespecial 56, 3) := by decide +kernel
theorem dJ2_getChar_3b067_27 : decode cJ2_getChar_3b067 27 = .ok (.athrow, 1) := by decide +kernel
theorem dJ2_getChar_3b067_28 : decode cJ2_getChar_3b067 28 = .ok (.iload_n 1, 1) := by decide +kernel
theorem dJ2_getChar_3b067_29 : decode cJ2_getChar_3b067 29 = .ok (.iconst 1, 1) := by decide +kernel
theorem dJ2_getChar_3b067_30 : decode cJ2_getChar_3b067 30 = .ok (.ishl, 1) := by decide +kernel
theorem dJ2_getChar_3b067_31 : decode cJ2_getChar_3b067 31 = .ok (.istore_n 1, 1) := by decide +kernel
theorem dJ2_getChar_3b067_32 : decode cJ2_getChar_3b067 32 = .ok (.aload_n 0, 1) := by decide +kernel
theorem dJ2_getChar_3b067_33 : decode cJ2_getChar_3b067 33 = .ok (.iload_n 1, 1) := by decide +kernel
theorem dJ2_getChar_3b067_34 : decode cJ2_getChar_3b067 34 = .ok (.iinc 1 1, 3) := by decide +kernel
theorem dJ2_getChar_3b067_37 : decode cJ2_getChar_3b067 37 = .ok (.baload, 1) := by decide +kernel
theorem dJ2_getChar_3b067_38 : decode cJ2_getChar_3b067 38 = .ok (.sipush 255, 3) := by decide +kernel
theorem dJ2_getChar_3b067_41 : decode cJ2_getChar_3b067 41 = .ok (.iand, 1) := by decide +kernel
theorem dJ2_getChar_3b067_42 : decode cJ2_getChar_3b067 42 = .ok (.getstatic 59, 3) := by decide +kernel
theorem dJ2_getChar_3b067_45 : decode cJ2_getChar_3b067 45 = .ok (.ishl, 1) := by decide +kernel
theorem dJ2_getChar_3b067_46 : decode cJ2_getChar_3b067 46 = .ok (.aload_n 0, 1) := by decide +kernel
theorem dJ2_getChar_3b067_47 : decode cJ2_getChar_3b067 47 = .ok (.iload_n 1, 1) := by decide +kernel
theorem dJ2_getChar_3b067_48 : decode cJ2_getChar_3b067 48 = .ok (.baload, 1) := by decide +kernel
theorem dJ2_getChar_3b067_49 : decode cJ2_getChar_3b067 49 = .ok (.sipush 255, 3) := by decide +kernel
theorem dJ2_getChar_3b067_52 : decode cJ2_getChar_3b067 52 = .ok (.iand, 1) := by decide +kernel
theorem dJ2_getChar_3b067_53 : decode cJ2_getChar_3b067 53 = .ok (.getstatic 63, 3) := by decide +kernel
theorem dJ2_getChar_3b067_56 : decode cJ2_getChar_3b067 56 = .ok (.ishl, 1) := by decide +kernel
theorem dJ2_getChar_3b067_57 : decode cJ2_getChar_3b067 57 = .ok (.ior, 1) := by decide +kernel
theorem dJ2_getChar_3b067_58 : decode cJ2_getChar_3b067 58 = .ok (.i2c, 1) := by decide +kernel
theorem dJ2_getChar_3b067_59 : decode cJ2_getChar_3b067 59 = .ok (.ireturn, 1) := by decide +kernel
theorem dJ2_length_9d52b_0 : decode cJ2_length_9d52b 0 = .ok (.aload_n 0, 1) := by decide +kernel
theorem dJ2_length_9d52b_1 : decode cJ2_length_9d52b 1 = .ok (.arraylength, 1) := by decide +kernel
theorem dJ2_length_9d52b_2 : decode cJ2_length_9d52b 2 = .ok (.iconst 1, 1) := by decide +kernel
theorem dJ2_length_9d52b_3 : decode cJ2_length_9d52b 3 = .ok (.ishr, 1) := by decide +kernel
theorem dJ2_length_9d52b_4 : decode cJ2_length_9d52b 4 = .ok (.ireturn, 1) := by decide +kernel
theorem dJ2_charAt_3b067_0 : decode cJ2_charAt_3b067 0 = .ok (.iload_n 1, 1) := by decide +kernel
theorem dJ2_charAt_3b067_1 : decode cJ2_charAt_3b067 1 = .ok (.aload_n 0, 1) := by decide +kernel
theorem dJ2_charAt_3b067_2 : decode cJ2_charAt_3b067 2 = .ok (.invokestatic 67, 3) := by decide +kernel
theorem dJ2_charAt_3b067_5 : decode cJ2_charAt_3b067 5 = .ok (.aload_n 0, 1) := by decide +kernel
theorem dJ2_charAt_3b067_6 : decode cJ2_charAt_3b067 6 = .ok (.iload_n 1, 1) := by decide +kernel
theorem dJ2_charAt_3b067_7 : decode cJ2_charAt_3b067 7 = .ok (.invokestatic 71, 3) := by decide +kernel
theorem dJ2_charAt_3b067_10 : decode cJ2_charAt_3b067 10 = .ok (.ireturn, 1) := by decide +kernel
theorem dJ2_checkIndex_2214a_0 : decode cJ2_checkIndex_2214a 0 = .ok (.iload_n 0, 1) := by decide +kernel
theorem dJ2_checkIndex_2214a_1 : decode cJ2_checkIndex_2214a 1 = .ok (.aload_n 1, 1) := by decide +kernel
theorem dJ2_checkIndex_2214a_2 : decode cJ2_checkIndex_2214a 2 = .ok (.invokestatic 48, 3) := by decide +kernel
theorem dJ2_checkIndex_2214a_5 : decode cJ2_checkIndex_2214a 5 = .ok (.invokestatic 414, 3) := by decide +kernel
theorem dJ2_checkIndex_2214a_8 : decode cJ2_checkIndex_2214a 8 = .ok (.return_, 1) := by decide +kernel
theorem dJ7_fill_d0a16_0 : decode cJ7_fill_d0a16 0 = .ok (.iconst 0, 1) := by decide +kernel
theorem dJ7_fill_d0a16_1 : decode cJ7_fill_d0a16 1 = .ok (.istore_n 3, 1) := by decide +kernel
theorem dJ7_fill_d0a16_2 : decode cJ7_fill_d0a16 2 = .ok (.aload_n 0, 1) := by decide +kernel
theorem dJ7_fill_d0a16_3 : decode cJ7_fill_d0a16 3 = .ok (.arraylength, 1) := by decide +kernel
theorem dJ7_fill_d0a16_4 : decode cJ7_fill_d0a16 4 = .ok (.istore 4, 2) := by decide +kernel
theorem dJ7_fill_d0a16_6 : decode cJ7_fill_d0a16 6 = .ok (.iload_n 3, 1) := by decide +kernel
theorem dJ7_fill_d0a16_7 : decode cJ7_fill_d0a16 7 = .ok (.iload 4, 2) := by decide +kernel
theorem dJ7_fill_d0a16_9 : decode cJ7_fill_d0a16 9 = .ok (.if_icmp .ge 13, 3) := by decide +kernel
theorem dJ7_fill_d0a16_12 : decode cJ7_fill_d0a16 12 = .ok (.aload_n 0, 1) := by decide +kernel
theorem dJ7_fill_d0a16_13 : decode cJ7_fill_d0a16 13 = .ok (.iload_n 3, 1) := by decide +kernel
theorem dJ7_fill_d0a16_14 : decode cJ7_fill_d0a16 14 = .ok (.lload_n 1, 1) := by decide +kernel
theorem dJ7_fill_d0a16_15 : decode cJ7_fill_d0a16 15 = .ok (.lastore, 1) := by decide +kernel
theorem dJ7_fill_d0a16_16 : decode cJ7_fill_d0a16 16 = .ok (.iinc 3 1, 3) := by decide +kernel
theorem dJ7_fill_d0a16_19 : decode cJ7_fill_d0a16 19 = .ok (.goto (-13), 3) := by decide +kernel
theorem dJ7_fill_d0a16_22 : decode cJ7_fill_d0a16 22 = .ok (.return_, 1) := by decide +kernel
theorem dJ3_checkIndex_8e157_0 : decode cJ3_checkIndex_8e157 0 = .ok (.iload_n 0, 1) := by decide +kernel
theorem dJ3_checkIndex_8e157_1 : decode cJ3_checkIndex_8e157 1 = .ok (.ifCond .lt 8, 3) := by decide +kernel
theorem dJ3_checkIndex_8e157_4 : decode cJ3_checkIndex_8e157 4 = .ok (.iload_n 0, 1) := by decide +kernel
theorem dJ3_checkIndex_8e157_5 : decode cJ3_checkIndex_8e157 5 = .ok (.iload_n 1, 1) := by decide +kernel
theorem dJ3_checkIndex_8e157_6 : decode cJ3_checkIndex_8e157 6 = .ok (.if_icmp .lt 10, 3) := by decide +kernel
theorem dJ3_checkIndex_8e157_9 : decode cJ3_checkIndex_8e157 9 = .ok (.aload_n 2, 1) := by decide +kernel
theorem dJ3_checkIndex_8e157_10 : decode cJ3_checkIndex_8e157 10 = .ok (.iload_n 0, 1) := by decide +kernel
theorem dJ3_checkIndex_8e157_11 : decode cJ3_checkIndex_8e157 11 = .ok (.iload_n 1, 1) := by decide +kernel
theorem dJ3_checkIndex_8e157_12 : decode cJ3_checkIndex_8e157 12 = .ok (.invokestatic 95, 3) := by decide +kernel
theorem dJ3_checkIndex_8e157_15 : decode cJ3_checkIndex_8e157 15 = .ok (.athrow, 1) := by decide +kernel
theorem dJ3_checkIndex_8e157_16 : decode cJ3_checkIndex_8e157 16 = .ok (.iload_n 0, 1) := by decide +kernel
theorem dJ3_checkIndex_8e157_17 : decode cJ3_checkIndex_8e157 17 = .ok (.ireturn, 1) := by decide +kernel
theorem dL_load_0 : decode cL_load 0 = .ok (.aload_n 2, 1) := by decide +kernel
theorem dL_load_1 : decode cL_load 1 = .ok (.iconst 0, 1) := by decide +kernel
theorem dL_load_2 : decode cL_load 2 = .ok (.aload_n 0, 1) := by decide +kernel
theorem dL_load_3 : decode cL_load 3 = .ok (.iload_n 1, 1) := by decide +kernel
theorem dL_load_4 : decode cL_load 4 = .ok (.invokevirtual 7, 3) := by decide +kernel
theorem dL_load_7 : decode cL_load 7 = .ok (.i2l, 1) := by decide +kernel
theorem dL_load_8 : decode cL_load 8 = .ok (.lastore, 1) := by decide +kernel
theorem dL_load_9 : decode cL_load 9 = .ok (.goto 6, 3) := by decide +kernel
theorem dL_load_12 : decode cL_load 12 = .ok (.astore_n 3, 1) := by decide +kernel
theorem dL_load_13 : decode cL_load 13 = .ok (.iconst 1, 1) := by decide +kernel
theorem dL_load_14 : decode cL_load 14 = .ok (.ireturn, 1) := by decide +kernel
theorem dL_load_15 : decode cL_load 15 = .ok (.iconst 0, 1) := by decide +kernel
theorem dL_load_16 : decode cL_load 16 = .ok (.ireturn, 1) := by decide +kernel
theorem dL_coefficient_0 : decode cL_coefficient 0 = .ok (.aload 4, 2) := by decide +kernel
theorem dL_coefficient_2 : decode cL_coefficient 2 = .ok (.iconst 0, 1) := by decide +kernel
theorem dL_coefficient_3 : decode cL_coefficient 3 = .ok (.aload_n 0, 1) := by decide +kernel
theorem dL_coefficient_4 : decode cL_coefficient 4 = .ok (.iload_n 1, 1) := by decide +kernel
theorem dL_coefficient_5 : decode cL_coefficient 5 = .ok (.iload_n 2, 1) := by decide +kernel
theorem dL_coefficient_6 : decode cL_coefficient 6 = .ok (.iload_n 3, 1) := by decide +kernel
theorem dL_coefficient_7 : decode cL_coefficient 7 = .ok (.invokevirtual 15, 3) := by decide +kernel
theorem dL_coefficient_10 : decode cL_coefficient 10 = .ok (.i2l, 1) := by decide +kernel
theorem dL_coefficient_11 : decode cL_coefficient 11 = .ok (.lastore, 1) := by decide +kernel
theorem dL_coefficient_12 : decode cL_coefficient 12 = .ok (.goto 15, 3) := by decide +kernel
theorem dL_coefficient_15 : decode cL_coefficient 15 = .ok (.astore 5, 2) := by decide +kernel
theorem dL_coefficient_17 : decode cL_coefficient 17 = .ok (.iconst 1, 1) := by decide +kernel
theorem dL_coefficient_18 : decode cL_coefficient 18 = .ok (.ireturn, 1) := by decide +kernel
theorem dL_coefficient_19 : decode cL_coefficient 19 = .ok (.astore 5, 2) := by decide +kernel
theorem dL_coefficient_21 : decode cL_coefficient 21 = .ok (.iconst 2, 1) := by decide +kernel
theorem dL_coefficient_22 : decode cL_coefficient 22 = .ok (.ireturn, 1) := by decide +kernel
theorem dL_coefficient_23 : decode cL_coefficient 23 = .ok (.astore 5, 2) := by decide +kernel
theorem dL_coefficient_25 : decode cL_coefficient 25 = .ok (.iconst 3, 1) := by decide +kernel
theorem dL_coefficient_26 : decode cL_coefficient 26 = .ok (.ireturn, 1) := by decide +kernel
theorem dL_coefficient_27 : decode cL_coefficient 27 = .ok (.iconst 0, 1) := by decide +kernel
theorem dL_coefficient_28 : decode cL_coefficient 28 = .ok (.ireturn, 1) := by decide +kernel
theorem dL_remainder_0 : decode cL_remainder 0 = .ok (.aload_n 3, 1) := by decide +kernel
theorem dL_remainder_1 : decode cL_remainder 1 = .ok (.iconst 0, 1) := by decide +kernel
theorem dL_remainder_2 : decode cL_remainder 2 = .ok (.aload_n 0, 1) := by decide +kernel
theorem dL_remainder_3 : decode cL_remainder 3 = .ok (.iload_n 1, 1) := by decide +kernel
theorem dL_remainder_4 : decode cL_remainder 4 = .ok (.iload_n 2, 1) := by decide +kernel
theorem dL_remainder_5 : decode cL_remainder 5 = .ok (.invokevirtual 23, 3) := by decide +kernel
theorem dL_remainder_8 : decode cL_remainder 8 = .ok (.i2l, 1) := by decide +kernel
theorem dL_remainder_9 : decode cL_remainder 9 = .ok (.lastore, 1) := by decide +kernel
theorem dL_remainder_10 : decode cL_remainder 10 = .ok (.goto 15, 3) := by decide +kernel
theorem dL_remainder_13 : decode cL_remainder 13 = .ok (.astore 4, 2) := by decide +kernel
theorem dL_remainder_15 : decode cL_remainder 15 = .ok (.iconst 1, 1) := by decide +kernel
theorem dL_remainder_16 : decode cL_remainder 16 = .ok (.ireturn, 1) := by decide +kernel
theorem dL_remainder_17 : decode cL_remainder 17 = .ok (.astore 4, 2) := by decide +kernel
theorem dL_remainder_19 : decode cL_remainder 19 = .ok (.iconst 2, 1) := by decide +kernel
theorem dL_remainder_20 : decode cL_remainder 20 = .ok (.ireturn, 1) := by decide +kernel
theorem dL_remainder_21 : decode cL_remainder 21 = .ok (.astore 4, 2) := by decide +kernel
theorem dL_remainder_23 : decode cL_remainder 23 = .ok (.iconst 3, 1) := by decide +kernel
theorem dL_remainder_24 : decode cL_remainder 24 = .ok (.ireturn, 1) := by decide +kernel
theorem dL_remainder_25 : decode cL_remainder 25 = .ok (.iconst 0, 1) := by decide +kernel
theorem dL_remainder_26 : decode cL_remainder 26 = .ok (.ireturn, 1) := by decide +kernel
theorem dL_bound_0 : decode cL_bound 0 = .ok (.aload_n 3, 1) := by decide +kernel
theorem dL_bound_1 : decode cL_bound 1 = .ok (.iconst 0, 1) := by decide +kernel
theorem dL_bound_2 : decode cL_bound 2 = .ok (.aload_n 0, 1) := by decide +kernel
theorem dL_bound_3 : decode cL_bound 3 = .ok (.iload_n 1, 1) := by decide +kernel
theorem dL_bound_4 : decode cL_bound 4 = .ok (.iload_n 2, 1) := by decide +kernel
theorem dL_bound_5 : decode cL_bound 5 = .ok (.invokevirtual 27, 3) := by decide +kernel
theorem dL_bound_8 : decode cL_bound 8 = .ok (.i2l, 1) := by decide +kernel
theorem dL_bound_9 : decode cL_bound 9 = .ok (.lastore, 1) := by decide +kernel
theorem dL_bound_10 : decode cL_bound 10 = .ok (.goto 15, 3) := by decide +kernel
theorem dL_bound_13 : decode cL_bound 13 = .ok (.astore 4, 2) := by decide +kernel
theorem dL_bound_15 : decode cL_bound 15 = .ok (.iconst 1, 1) := by decide +kernel
theorem dL_bound_16 : decode cL_bound 16 = .ok (.ireturn, 1) := by decide +kernel
theorem dL_bound_17 : decode cL_bound 17 = .ok (.astore 4, 2) := by decide +kernel
theorem dL_bound_19 : decode cL_bound 19 = .ok (.iconst 2, 1) := by decide +kernel
theorem dL_bound_20 : decode cL_bound 20 = .ok (.ireturn, 1) := by decide +kernel
theorem dL_bound_21 : decode cL_bound 21 = .ok (.astore 4, 2) := by decide +kernel
theorem dL_bound_23 : decode cL_bound 23 = .ok (.iconst 3, 1) := by decide +kernel
theorem dL_bound_24 : decode cL_bound 24 = .ok (.ireturn, 1) := by decide +kernel
theorem dL_bound_25 : decode cL_bound 25 = .ok (.iconst 0, 1) := by decide +kernel
theorem dL_bound_26 : decode cL_bound 26 = .ok (.ireturn, 1) := by decide +kernel
theorem dL_value_0 : decode cL_value 0 = .ok (.aload 5, 2) := by decide +kernel
theorem dL_value_2 : decode cL_value 2 = .ok (.iconst 0, 1) := by decide +kernel
theorem dL_value_3 : decode cL_value 3 = .ok (.aload_n 0, 1) := by decide +kernel
theorem dL_value_4 : decode cL_value 4 = .ok (.iload_n 1, 1) := by decide +kernel
theorem dL_value_5 : decode cL_value 5 = .ok (.iload_n 2, 1) := by decide +kernel
theorem dL_value_6 : decode cL_value 6 = .ok (.iload_n 3, 1) := by decide +kernel
theorem dL_value_7 : decode cL_value 7 = .ok (.iload 4, 2) := by decide +kernel
theorem dL_value_9 : decode cL_value 9 = .ok (.invokevirtual 30, 3) := by decide +kernel
theorem dL_value_12 : decode cL_value 12 = .ok (.i2l, 1) := by decide +kernel
theorem dL_value_13 : decode cL_value 13 = .ok (.lastore, 1) := by decide +kernel
theorem dL_value_14 : decode cL_value 14 = .ok (.goto 15, 3) := by decide +kernel
theorem dL_value_17 : decode cL_value 17 = .ok (.astore 6, 2) := by decide +kernel
theorem dL_value_19 : decode cL_value 19 = .ok (.iconst 1, 1) := by decide +kernel
theorem dL_value_20 : decode cL_value 20 = .ok (.ireturn, 1) := by decide +kernel
theorem dL_value_21 : decode cL_value 21 = .ok (.astore 6, 2) := by decide +kernel
theorem dL_value_23 : decode cL_value 23 = .ok (.iconst 2, 1) := by decide +kernel
theorem dL_value_24 : decode cL_value 24 = .ok (.ireturn, 1) := by decide +kernel
theorem dL_value_25 : decode cL_value 25 = .ok (.astore 6, 2) := by decide +kernel
theorem dL_value_27 : decode cL_value 27 = .ok (.iconst 3, 1) := by decide +kernel
theorem dL_value_28 : decode cL_value 28 = .ok (.ireturn, 1) := by decide +kernel
theorem dL_value_29 : decode cL_value 29 = .ok (.iconst 0, 1) := by decide +kernel
theorem dL_value_30 : decode cL_value 30 = .ok (.ireturn, 1) := by decide +kernel
theorem dL_degree_0 : decode cL_degree 0 = .ok (.aload_n 2, 1) := by decide +kernel
theorem dL_degree_1 : decode cL_degree 1 = .ok (.iconst 0, 1) := by decide +kernel
theorem dL_degree_2 : decode cL_degree 2 = .ok (.aload_n 0, 1) := by decide +kernel
theorem dL_degree_3 : decode cL_degree 3 = .ok (.iload_n 1, 1) := by decide +kernel
theorem dL_degree_4 : decode cL_degree 4 = .ok (.invokevirtual 34, 3) := by decide +kernel
theorem dL_degree_7 : decode cL_degree 7 = .ok (.i2l, 1) := by decide +kernel
theorem dL_degree_8 : decode cL_degree 8 = .ok (.lastore, 1) := by decide +kernel
theorem dL_degree_9 : decode cL_degree 9 = .ok (.goto 9, 3) := by decide +kernel
theorem dL_degree_12 : decode cL_degree 12 = .ok (.astore_n 3, 1) := by decide +kernel
theorem dL_degree_13 : decode cL_degree 13 = .ok (.iconst 1, 1) := by decide +kernel
theorem dL_degree_14 : decode cL_degree 14 = .ok (.ireturn, 1) := by decide +kernel
theorem dL_degree_15 : decode cL_degree 15 = .ok (.astore_n 3, 1) := by decide +kernel
theorem dL_degree_16 : decode cL_degree 16 = .ok (.iconst 2, 1) := by decide +kernel
theorem dL_degree_17 : decode cL_degree 17 = .ok (.ireturn, 1) := by decide +kernel
theorem dL_degree_18 : decode cL_degree 18 = .ok (.iconst 0, 1) := by decide +kernel
theorem dL_degree_19 : decode cL_degree 19 = .ok (.ireturn, 1) := by decide +kernel
theorem dL_covers_0 : decode cL_covers 0 = .ok (.aload_n 3, 1) := by decide +kernel
theorem dL_covers_1 : decode cL_covers 1 = .ok (.iconst 0, 1) := by decide +kernel
theorem dL_covers_2 : decode cL_covers 2 = .ok (.aload_n 0, 1) := by decide +kernel
theorem dL_covers_3 : decode cL_covers 3 = .ok (.iload_n 1, 1) := by decide +kernel
theorem dL_covers_4 : decode cL_covers 4 = .ok (.iload_n 2, 1) := by decide +kernel
theorem dL_covers_5 : decode cL_covers 5 = .ok (.invokevirtual 37, 3) := by decide +kernel
theorem dL_covers_8 : decode cL_covers 8 = .ok (.ifCond .eq 7, 3) := by decide +kernel
theorem dL_covers_11 : decode cL_covers 11 = .ok (.lconst 1, 1) := by decide +kernel
theorem dL_covers_12 : decode cL_covers 12 = .ok (.goto 4, 3) := by decide +kernel
theorem dL_covers_15 : decode cL_covers 15 = .ok (.lconst 0, 1) := by decide +kernel
theorem dL_covers_16 : decode cL_covers 16 = .ok (.lastore, 1) := by decide +kernel
theorem dL_covers_17 : decode cL_covers 17 = .ok (.goto 11, 3) := by decide +kernel
theorem dL_covers_20 : decode cL_covers 20 = .ok (.astore 4, 2) := by decide +kernel
theorem dL_covers_22 : decode cL_covers 22 = .ok (.iconst 1, 1) := by decide +kernel
theorem dL_covers_23 : decode cL_covers 23 = .ok (.ireturn, 1) := by decide +kernel
theorem dL_covers_24 : decode cL_covers 24 = .ok (.astore 4, 2) := by decide +kernel
theorem dL_covers_26 : decode cL_covers 26 = .ok (.iconst 2, 1) := by decide +kernel
theorem dL_covers_27 : decode cL_covers 27 = .ok (.ireturn, 1) := by decide +kernel
theorem dL_covers_28 : decode cL_covers 28 = .ok (.iconst 0, 1) := by decide +kernel
theorem dL_covers_29 : decode cL_covers 29 = .ok (.ireturn, 1) := by decide +kernel
theorem dL_reason_0 : decode cL_reason 0 = .ok (.aload 4, 2) := by decide +kernel
theorem dL_reason_2 : decode cL_reason 2 = .ok (.iconst 0, 1) := by decide +kernel
theorem dL_reason_3 : decode cL_reason 3 = .ok (.aload_n 0, 1) := by decide +kernel
theorem dL_reason_4 : decode cL_reason 4 = .ok (.iload_n 1, 1) := by decide +kernel
theorem dL_reason_5 : decode cL_reason 5 = .ok (.iload_n 2, 1) := by decide +kernel
theorem dL_reason_6 : decode cL_reason 6 = .ok (.iload_n 3, 1) := by decide +kernel
theorem dL_reason_7 : decode cL_reason 7 = .ok (.invokevirtual 41, 3) := by decide +kernel
theorem dL_reason_10 : decode cL_reason 10 = .ok (.i2l, 1) := by decide +kernel
theorem dL_reason_11 : decode cL_reason 11 = .ok (.lastore, 1) := by decide +kernel
theorem dL_reason_12 : decode cL_reason 12 = .ok (.goto 11, 3) := by decide +kernel
theorem dL_reason_15 : decode cL_reason 15 = .ok (.astore 5, 2) := by decide +kernel
theorem dL_reason_17 : decode cL_reason 17 = .ok (.iconst 1, 1) := by decide +kernel
theorem dL_reason_18 : decode cL_reason 18 = .ok (.ireturn, 1) := by decide +kernel
theorem dL_reason_19 : decode cL_reason 19 = .ok (.astore 5, 2) := by decide +kernel
theorem dL_reason_21 : decode cL_reason 21 = .ok (.iconst 2, 1) := by decide +kernel
theorem dL_reason_22 : decode cL_reason 22 = .ok (.ireturn, 1) := by decide +kernel
theorem dL_reason_23 : decode cL_reason 23 = .ok (.iconst 0, 1) := by decide +kernel
theorem dL_reason_24 : decode cL_reason 24 = .ok (.ireturn, 1) := by decide +kernel
theorem dL_add_0 : decode cL_add 0 = .ok (.aload 4, 2) := by decide +kernel
theorem dL_add_2 : decode cL_add 2 = .ok (.iconst 0, 1) := by decide +kernel
theorem dL_add_3 : decode cL_add 3 = .ok (.aload_n 0, 1) := by decide +kernel
theorem dL_add_4 : decode cL_add 4 = .ok (.iload_n 1, 1) := by decide +kernel
theorem dL_add_5 : decode cL_add 5 = .ok (.iload_n 2, 1) := by decide +kernel
theorem dL_add_6 : decode cL_add 6 = .ok (.iload_n 3, 1) := by decide +kernel
theorem dL_add_7 : decode cL_add 7 = .ok (.invokevirtual 44, 3) := by decide +kernel
theorem dL_add_10 : decode cL_add 10 = .ok (.i2l, 1) := by decide +kernel
theorem dL_add_11 : decode cL_add 11 = .ok (.lastore, 1) := by decide +kernel
theorem dL_add_12 : decode cL_add 12 = .ok (.goto 15, 3) := by decide +kernel
theorem dL_add_15 : decode cL_add 15 = .ok (.astore 5, 2) := by decide +kernel
theorem dL_add_17 : decode cL_add 17 = .ok (.iconst 1, 1) := by decide +kernel
theorem dL_add_18 : decode cL_add 18 = .ok (.ireturn, 1) := by decide +kernel
theorem dL_add_19 : decode cL_add 19 = .ok (.astore 5, 2) := by decide +kernel
theorem dL_add_21 : decode cL_add 21 = .ok (.iconst 2, 1) := by decide +kernel
theorem dL_add_22 : decode cL_add 22 = .ok (.ireturn, 1) := by decide +kernel
theorem dL_add_23 : decode cL_add 23 = .ok (.astore 5, 2) := by decide +kernel
theorem dL_add_25 : decode cL_add 25 = .ok (.iconst 3, 1) := by decide +kernel
theorem dL_add_26 : decode cL_add 26 = .ok (.ireturn, 1) := by decide +kernel
theorem dL_add_27 : decode cL_add 27 = .ok (.iconst 0, 1) := by decide +kernel
theorem dL_add_28 : decode cL_add 28 = .ok (.ireturn, 1) := by decide +kernel
theorem dL_subtract_0 : decode cL_subtract 0 = .ok (.aload 4, 2) := by decide +kernel
theorem dL_subtract_2 : decode cL_subtract 2 = .ok (.iconst 0, 1) := by decide +kernel
theorem dL_subtract_3 : decode cL_subtract 3 = .ok (.aload_n 0, 1) := by decide +kernel
theorem dL_subtract_4 : decode cL_subtract 4 = .ok (.iload_n 1, 1) := by decide +kernel
theorem dL_subtract_5 : decode cL_subtract 5 = .ok (.iload_n 2, 1) := by decide +kernel
theorem dL_subtract_6 : decode cL_subtract 6 = .ok (.iload_n 3, 1) := by decide +kernel
theorem dL_subtract_7 : decode cL_subtract 7 = .ok (.invokevirtual 49, 3) := by decide +kernel
theorem dL_subtract_10 : decode cL_subtract 10 = .ok (.i2l, 1) := by decide +kernel
theorem dL_subtract_11 : decode cL_subtract 11 = .ok (.lastore, 1) := by decide +kernel
theorem dL_subtract_12 : decode cL_subtract 12 = .ok (.goto 15, 3) := by decide +kernel
theorem dL_subtract_15 : decode cL_subtract 15 = .ok (.astore 5, 2) := by decide +kernel
theorem dL_subtract_17 : decode cL_subtract 17 = .ok (.iconst 1, 1) := by decide +kernel
theorem dL_subtract_18 : decode cL_subtract 18 = .ok (.ireturn, 1) := by decide +kernel
theorem dL_subtract_19 : decode cL_subtract 19 = .ok (.astore 5, 2) := by decide +kernel
theorem dL_subtract_21 : decode cL_subtract 21 = .ok (.iconst 2, 1) := by decide +kernel
theorem dL_subtract_22 : decode cL_subtract 22 = .ok (.ireturn, 1) := by decide +kernel
theorem dL_subtract_23 : decode cL_subtract 23 = .ok (.astore 5, 2) := by decide +kernel
theorem dL_subtract_25 : decode cL_subtract 25 = .ok (.iconst 3, 1) := by decide +kernel
theorem dL_subtract_26 : decode cL_subtract 26 = .ok (.ireturn, 1) := by decide +kernel
theorem dL_subtract_27 : decode cL_subtract 27 = .ok (.iconst 0, 1) := by decide +kernel
theorem dL_subtract_28 : decode cL_subtract 28 = .ok (.ireturn, 1) := by decide +kernel
theorem dL_multiply_0 : decode cL_multiply 0 = .ok (.aload 4, 2) := by decide +kernel
theorem dL_multiply_2 : decode cL_multiply 2 = .ok (.iconst 0, 1) := by decide +kernel
theorem dL_multiply_3 : decode cL_multiply 3 = .ok (.aload_n 0, 1) := by decide +kernel
theorem dL_multiply_4 : decode cL_multiply 4 = .ok (.iload_n 1, 1) := by decide +kernel
theorem dL_multiply_5 : decode cL_multiply 5 = .ok (.iload_n 2, 1) := by decide +kernel
theorem dL_multiply_6 : decode cL_multiply 6 = .ok (.iload_n 3, 1) := by decide +kernel
theorem dL_multiply_7 : decode cL_multiply 7 = .ok (.invokevirtual 52, 3) := by decide +kernel
theorem dL_multiply_10 : decode cL_multiply 10 = .ok (.i2l, 1) := by decide +kernel
theorem dL_multiply_11 : decode cL_multiply 11 = .ok (.lastore, 1) := by decide +kernel
theorem dL_multiply_12 : decode cL_multiply 12 = .ok (.goto 15, 3) := by decide +kernel
theorem dL_multiply_15 : decode cL_multiply 15 = .ok (.astore 5, 2) := by decide +kernel
theorem dL_multiply_17 : decode cL_multiply 17 = .ok (.iconst 1, 1) := by decide +kernel
theorem dL_multiply_18 : decode cL_multiply 18 = .ok (.ireturn, 1) := by decide +kernel
theorem dL_multiply_19 : decode cL_multiply 19 = .ok (.astore 5, 2) := by decide +kernel
theorem dL_multiply_21 : decode cL_multiply 21 = .ok (.iconst 2, 1) := by decide +kernel
theorem dL_multiply_22 : decode cL_multiply 22 = .ok (.ireturn, 1) := by decide +kernel
theorem dL_multiply_23 : decode cL_multiply 23 = .ok (.astore 5, 2) := by decide +kernel
theorem dL_multiply_25 : decode cL_multiply 25 = .ok (.iconst 3, 1) := by decide +kernel
theorem dL_multiply_26 : decode cL_multiply 26 = .ok (.ireturn, 1) := by decide +kernel
theorem dL_multiply_27 : decode cL_multiply 27 = .ok (.iconst 0, 1) := by decide +kernel
theorem dL_multiply_28 : decode cL_multiply 28 = .ok (.ireturn, 1) := by decide +kernel
theorem dL_compose_0 : decode cL_compose 0 = .ok (.aload 5, 2) := by decide +kernel
theorem dL_compose_2 : decode cL_compose 2 = .ok (.iconst 0, 1) := by decide +kernel
theorem dL_compose_3 : decode cL_compose 3 = .ok (.aload_n 0, 1) := by decide +kernel
theorem dL_compose_4 : decode cL_compose 4 = .ok (.iload_n 1, 1) := by decide +kernel
theorem dL_compose_5 : decode cL_compose 5 = .ok (.iload_n 2, 1) := by decide +kernel
theorem dL_compose_6 : decode cL_compose 6 = .ok (.iload_n 3, 1) := by decide +kernel
theorem dL_compose_7 : decode cL_compose 7 = .ok (.iload 4, 2) := by decide +kernel
theorem dL_compose_9 : decode cL_compose 9 = .ok (.invokevirtual 55, 3) := by decide +kernel
theorem dL_compose_12 : decode cL_compose 12 = .ok (.i2l, 1) := by decide +kernel
theorem dL_compose_13 : decode cL_compose 13 = .ok (.lastore, 1) := by decide +kernel
theorem dL_compose_14 : decode cL_compose 14 = .ok (.goto 15, 3) := by decide +kernel
theorem dL_compose_17 : decode cL_compose 17 = .ok (.astore 6, 2) := by decide +kernel
theorem dL_compose_19 : decode cL_compose 19 = .ok (.iconst 1, 1) := by decide +kernel
theorem dL_compose_20 : decode cL_compose 20 = .ok (.ireturn, 1) := by decide +kernel
theorem dL_compose_21 : decode cL_compose 21 = .ok (.astore 6, 2) := by decide +kernel
theorem dL_compose_23 : decode cL_compose 23 = .ok (.iconst 2, 1) := by decide +kernel
theorem dL_compose_24 : decode cL_compose 24 = .ok (.ireturn, 1) := by decide +kernel
theorem dL_compose_25 : decode cL_compose 25 = .ok (.astore 6, 2) := by decide +kernel
theorem dL_compose_27 : decode cL_compose 27 = .ok (.iconst 3, 1) := by decide +kernel
theorem dL_compose_28 : decode cL_compose 28 = .ok (.ireturn, 1) := by decide +kernel
theorem dL_compose_29 : decode cL_compose 29 = .ok (.iconst 0, 1) := by decide +kernel
theorem dL_compose_30 : decode cL_compose 30 = .ok (.ireturn, 1) := by decide +kernel
theorem dL_integrate_0 : decode cL_integrate 0 = .ok (.aload 4, 2) := by decide +kernel
theorem dL_integrate_2 : decode cL_integrate 2 = .ok (.iconst 0, 1) := by decide +kernel
theorem dL_integrate_3 : decode cL_integrate 3 = .ok (.aload_n 0, 1) := by decide +kernel
theorem dL_integrate_4 : decode cL_integrate 4 = .ok (.iload_n 1, 1) := by decide +kernel
theorem dL_integrate_5 : decode cL_integrate 5 = .ok (.iload_n 2, 1) := by decide +kernel
theorem dL_integrate_6 : decode cL_integrate 6 = .ok (.iload_n 3, 1) := by decide +kernel
theorem dL_integrate_7 : decode cL_integrate 7 = .ok (.invokevirtual 58, 3) := by decide +kernel
theorem dL_integrate_10 : decode cL_integrate 10 = .ok (.i2l, 1) := by decide +kernel
theorem dL_integrate_11 : decode cL_integrate 11 = .ok (.lastore, 1) := by decide +kernel
theorem dL_integrate_12 : decode cL_integrate 12 = .ok (.goto 19, 3) := by decide +kernel
theorem dL_integrate_15 : decode cL_integrate 15 = .ok (.astore 5, 2) := by decide +kernel
theorem dL_integrate_17 : decode cL_integrate 17 = .ok (.iconst 1, 1) := by decide +kernel
theorem dL_integrate_18 : decode cL_integrate 18 = .ok (.ireturn, 1) := by decide +kernel
theorem dL_integrate_19 : decode cL_integrate 19 = .ok (.astore 5, 2) := by decide +kernel
theorem dL_integrate_21 : decode cL_integrate 21 = .ok (.iconst 2, 1) := by decide +kernel
theorem dL_integrate_22 : decode cL_integrate 22 = .ok (.ireturn, 1) := by decide +kernel
theorem dL_integrate_23 : decode cL_integrate 23 = .ok (.astore 5, 2) := by decide +kernel
theorem dL_integrate_25 : decode cL_integrate 25 = .ok (.iconst 3, 1) := by decide +kernel
theorem dL_integrate_26 : decode cL_integrate 26 = .ok (.ireturn, 1) := by decide +kernel
theorem dL_integrate_27 : decode cL_integrate 27 = .ok (.astore 5, 2) := by decide +kernel
theorem dL_integrate_29 : decode cL_integrate 29 = .ok (.iconst 4, 1) := by decide +kernel
theorem dL_integrate_30 : decode cL_integrate 30 = .ok (.ireturn, 1) := by decide +kernel
theorem dL_integrate_31 : decode cL_integrate 31 = .ok (.iconst 0, 1) := by decide +kernel
theorem dL_integrate_32 : decode cL_integrate 32 = .ok (.ireturn, 1) := by decide +kernel
theorem dL_step_0 : decode cL_step 0 = .ok (.aload_n 3, 1) := by decide +kernel
theorem dL_step_1 : decode cL_step 1 = .ok (.iconst 0, 1) := by decide +kernel
theorem dL_step_2 : decode cL_step 2 = .ok (.aload_n 0, 1) := by decide +kernel
theorem dL_step_3 : decode cL_step 3 = .ok (.iload_n 1, 1) := by decide +kernel
theorem dL_step_4 : decode cL_step 4 = .ok (.iload_n 2, 1) := by decide +kernel
theorem dL_step_5 : decode cL_step 5 = .ok (.invokevirtual 61, 3) := by decide +kernel
theorem dL_step_8 : decode cL_step 8 = .ok (.i2l, 1) := by decide +kernel
theorem dL_step_9 : decode cL_step 9 = .ok (.lastore, 1) := by decide +kernel
theorem dL_step_10 : decode cL_step 10 = .ok (.goto 11, 3) := by decide +kernel
theorem dL_step_13 : decode cL_step 13 = .ok (.astore 4, 2) := by decide +kernel
theorem dL_step_15 : decode cL_step 15 = .ok (.iconst 1, 1) := by decide +kernel
theorem dL_step_16 : decode cL_step 16 = .ok (.ireturn, 1) := by decide +kernel
theorem dL_step_17 : decode cL_step 17 = .ok (.astore 4, 2) := by decide +kernel
theorem dL_step_19 : decode cL_step 19 = .ok (.iconst 2, 1) := by decide +kernel
theorem dL_step_20 : decode cL_step 20 = .ok (.ireturn, 1) := by decide +kernel
theorem dL_step_21 : decode cL_step 21 = .ok (.iconst 0, 1) := by decide +kernel
theorem dL_step_22 : decode cL_step 22 = .ok (.ireturn, 1) := by decide +kernel
theorem dL_sweep_0 : decode cL_sweep 0 = .ok (.aload_n 3, 1) := by decide +kernel
theorem dL_sweep_1 : decode cL_sweep 1 = .ok (.iconst 0, 1) := by decide +kernel
theorem dL_sweep_2 : decode cL_sweep 2 = .ok (.aload_n 0, 1) := by decide +kernel
theorem dL_sweep_3 : decode cL_sweep 3 = .ok (.iload_n 1, 1) := by decide +kernel
theorem dL_sweep_4 : decode cL_sweep 4 = .ok (.iload_n 2, 1) := by decide +kernel
theorem dL_sweep_5 : decode cL_sweep 5 = .ok (.invokevirtual 64, 3) := by decide +kernel
theorem dL_sweep_8 : decode cL_sweep 8 = .ok (.i2l, 1) := by decide +kernel
theorem dL_sweep_9 : decode cL_sweep 9 = .ok (.lastore, 1) := by decide +kernel
theorem dL_sweep_10 : decode cL_sweep 10 = .ok (.goto 19, 3) := by decide +kernel
theorem dL_sweep_13 : decode cL_sweep 13 = .ok (.astore 4, 2) := by decide +kernel
theorem dL_sweep_15 : decode cL_sweep 15 = .ok (.iconst 1, 1) := by decide +kernel
theorem dL_sweep_16 : decode cL_sweep 16 = .ok (.ireturn, 1) := by decide +kernel
theorem dL_sweep_17 : decode cL_sweep 17 = .ok (.astore 4, 2) := by decide +kernel
theorem dL_sweep_19 : decode cL_sweep 19 = .ok (.iconst 2, 1) := by decide +kernel
theorem dL_sweep_20 : decode cL_sweep 20 = .ok (.ireturn, 1) := by decide +kernel
theorem dL_sweep_21 : decode cL_sweep 21 = .ok (.astore 4, 2) := by decide +kernel
theorem dL_sweep_23 : decode cL_sweep 23 = .ok (.iconst 3, 1) := by decide +kernel
theorem dL_sweep_24 : decode cL_sweep 24 = .ok (.ireturn, 1) := by decide +kernel
theorem dL_sweep_25 : decode cL_sweep 25 = .ok (.astore 4, 2) := by decide +kernel
theorem dL_sweep_27 : decode cL_sweep 27 = .ok (.iconst 4, 1) := by decide +kernel
theorem dL_sweep_28 : decode cL_sweep 28 = .ok (.ireturn, 1) := by decide +kernel
theorem dL_sweep_29 : decode cL_sweep 29 = .ok (.iconst 0, 1) := by decide +kernel
theorem dL_sweep_30 : decode cL_sweep 30 = .ok (.ireturn, 1) := by decide +kernel
theorem dL_wrap_0 : decode cL_wrap 0 = .ok (.aload_n 3, 1) := by decide +kernel
theorem dL_wrap_1 : decode cL_wrap 1 = .ok (.iconst 0, 1) := by decide +kernel
theorem dL_wrap_2 : decode cL_wrap 2 = .ok (.aload_n 0, 1) := by decide +kernel
theorem dL_wrap_3 : decode cL_wrap 3 = .ok (.iload_n 1, 1) := by decide +kernel
theorem dL_wrap_4 : decode cL_wrap 4 = .ok (.iload_n 2, 1) := by decide +kernel
theorem dL_wrap_5 : decode cL_wrap 5 = .ok (.invokevirtual 67, 3) := by decide +kernel
theorem dL_wrap_8 : decode cL_wrap 8 = .ok (.i2l, 1) := by decide +kernel
theorem dL_wrap_9 : decode cL_wrap 9 = .ok (.lastore, 1) := by decide +kernel
theorem dL_wrap_10 : decode cL_wrap 10 = .ok (.goto 19, 3) := by decide +kernel
theorem dL_wrap_13 : decode cL_wrap 13 = .ok (.astore 4, 2) := by decide +kernel
theorem dL_wrap_15 : decode cL_wrap 15 = .ok (.iconst 1, 1) := by decide +kernel
theorem dL_wrap_16 : decode cL_wrap 16 = .ok (.ireturn, 1) := by decide +kernel
theorem dL_wrap_17 : decode cL_wrap 17 = .ok (.astore 4, 2) := by decide +kernel
theorem dL_wrap_19 : decode cL_wrap 19 = .ok (.iconst 2, 1) := by decide +kernel
theorem dL_wrap_20 : decode cL_wrap 20 = .ok (.ireturn, 1) := by decide +kernel
theorem dL_wrap_21 : decode cL_wrap 21 = .ok (.astore 4, 2) := by decide +kernel
theorem dL_wrap_23 : decode cL_wrap 23 = .ok (.iconst 3, 1) := by decide +kernel
theorem dL_wrap_24 : decode cL_wrap 24 = .ok (.ireturn, 1) := by decide +kernel
theorem dL_wrap_25 : decode cL_wrap 25 = .ok (.astore 4, 2) := by decide +kernel
theorem dL_wrap_27 : decode cL_wrap 27 = .ok (.iconst 4, 1) := by decide +kernel
theorem dL_wrap_28 : decode cL_wrap 28 = .ok (.ireturn, 1) := by decide +kernel
theorem dL_wrap_29 : decode cL_wrap 29 = .ok (.iconst 0, 1) := by decide +kernel
theorem dL_wrap_30 : decode cL_wrap 30 = .ok (.ireturn, 1) := by decide +kernel
theorem dL_setCoefficient_0 : decode cL_setCoefficient 0 = .ok (.aload 5, 2) := by decide +kernel
theorem dL_setCoefficient_2 : decode cL_setCoefficient 2 = .ok (.iconst 0, 1) := by decide +kernel
theorem dL_setCoefficient_3 : decode cL_setCoefficient 3 = .ok (.aload_n 0, 1) := by decide +kernel
theorem dL_setCoefficient_4 : decode cL_setCoefficient 4 = .ok (.iload_n 1, 1) := by decide +kernel
theorem dL_setCoefficient_5 : decode cL_setCoefficient 5 = .ok (.iload_n 2, 1) := by decide +kernel
theorem dL_setCoefficient_6 : decode cL_setCoefficient 6 = .ok (.iload_n 3, 1) := by decide +kernel
theorem dL_setCoefficient_7 : decode cL_setCoefficient 7 = .ok (.iload 4, 2) := by decide +kernel
theorem dL_setCoefficient_9 : decode cL_setCoefficient 9 = .ok (.invokevirtual 70, 3) := by decide +kernel
theorem dL_setCoefficient_12 : decode cL_setCoefficient 12 = .ok (.i2l, 1) := by decide +kernel
theorem dL_setCoefficient_13 : decode cL_setCoefficient 13 = .ok (.lastore, 1) := by decide +kernel
theorem dL_setCoefficient_14 : decode cL_setCoefficient 14 = .ok (.goto 15, 3) := by decide +kernel
theorem dL_setCoefficient_17 : decode cL_setCoefficient 17 = .ok (.astore 6, 2) := by decide +kernel
theorem dL_setCoefficient_19 : decode cL_setCoefficient 19 = .ok (.iconst 1, 1) := by decide +kernel
theorem dL_setCoefficient_20 : decode cL_setCoefficient 20 = .ok (.ireturn, 1) := by decide +kernel
theorem dL_setCoefficient_21 : decode cL_setCoefficient 21 = .ok (.astore 6, 2) := by decide +kernel
theorem dL_setCoefficient_23 : decode cL_setCoefficient 23 = .ok (.iconst 2, 1) := by decide +kernel
theorem dL_setCoefficient_24 : decode cL_setCoefficient 24 = .ok (.ireturn, 1) := by decide +kernel
theorem dL_setCoefficient_25 : decode cL_setCoefficient 25 = .ok (.astore 6, 2) := by decide +kernel
theorem dL_setCoefficient_27 : decode cL_setCoefficient 27 = .ok (.iconst 3, 1) := by decide +kernel
theorem dL_setCoefficient_28 : decode cL_setCoefficient 28 = .ok (.ireturn, 1) := by decide +kernel
theorem dL_setCoefficient_29 : decode cL_setCoefficient 29 = .ok (.iconst 0, 1) := by decide +kernel
theorem dL_setCoefficient_30 : decode cL_setCoefficient 30 = .ok (.ireturn, 1) := by decide +kernel
theorem dL_setRemainder_0 : decode cL_setRemainder 0 = .ok (.aload 4, 2) := by decide +kernel
theorem dL_setRemainder_2 : decode cL_setRemainder 2 = .ok (.iconst 0, 1) := by decide +kernel
theorem dL_setRemainder_3 : decode cL_setRemainder 3 = .ok (.aload_n 0, 1) := by decide +kernel
theorem dL_setRemainder_4 : decode cL_setRemainder 4 = .ok (.iload_n 1, 1) := by decide +kernel
theorem dL_setRemainder_5 : decode cL_setRemainder 5 = .ok (.iload_n 2, 1) := by decide +kernel
theorem dL_setRemainder_6 : decode cL_setRemainder 6 = .ok (.iload_n 3, 1) := by decide +kernel
theorem dL_setRemainder_7 : decode cL_setRemainder 7 = .ok (.invokevirtual 73, 3) := by decide +kernel
theorem dL_setRemainder_10 : decode cL_setRemainder 10 = .ok (.i2l, 1) := by decide +kernel
theorem dL_setRemainder_11 : decode cL_setRemainder 11 = .ok (.lastore, 1) := by decide +kernel
theorem dL_setRemainder_12 : decode cL_setRemainder 12 = .ok (.goto 15, 3) := by decide +kernel
theorem dL_setRemainder_15 : decode cL_setRemainder 15 = .ok (.astore 5, 2) := by decide +kernel
theorem dL_setRemainder_17 : decode cL_setRemainder 17 = .ok (.iconst 1, 1) := by decide +kernel
theorem dL_setRemainder_18 : decode cL_setRemainder 18 = .ok (.ireturn, 1) := by decide +kernel
theorem dL_setRemainder_19 : decode cL_setRemainder 19 = .ok (.astore 5, 2) := by decide +kernel
theorem dL_setRemainder_21 : decode cL_setRemainder 21 = .ok (.iconst 2, 1) := by decide +kernel
theorem dL_setRemainder_22 : decode cL_setRemainder 22 = .ok (.ireturn, 1) := by decide +kernel
theorem dL_setRemainder_23 : decode cL_setRemainder 23 = .ok (.astore 5, 2) := by decide +kernel
theorem dL_setRemainder_25 : decode cL_setRemainder 25 = .ok (.iconst 3, 1) := by decide +kernel
theorem dL_setRemainder_26 : decode cL_setRemainder 26 = .ok (.ireturn, 1) := by decide +kernel
theorem dL_setRemainder_27 : decode cL_setRemainder 27 = .ok (.iconst 0, 1) := by decide +kernel
theorem dL_setRemainder_28 : decode cL_setRemainder 28 = .ok (.ireturn, 1) := by decide +kernel
theorem dL_clear_0 : decode cL_clear 0 = .ok (.aload_n 2, 1) := by decide +kernel
theorem dL_clear_1 : decode cL_clear 1 = .ok (.iconst 0, 1) := by decide +kernel
theorem dL_clear_2 : decode cL_clear 2 = .ok (.aload_n 0, 1) := by decide +kernel
theorem dL_clear_3 : decode cL_clear 3 = .ok (.iload_n 1, 1) := by decide +kernel
theorem dL_clear_4 : decode cL_clear 4 = .ok (.invokevirtual 76, 3) := by decide +kernel
theorem dL_clear_7 : decode cL_clear 7 = .ok (.ifCond .eq 7, 3) := by decide +kernel
theorem dL_clear_10 : decode cL_clear 10 = .ok (.lconst 1, 1) := by decide +kernel
theorem dL_clear_11 : decode cL_clear 11 = .ok (.goto 4, 3) := by decide +kernel
theorem dL_clear_14 : decode cL_clear 14 = .ok (.lconst 0, 1) := by decide +kernel
theorem dL_clear_15 : decode cL_clear 15 = .ok (.lastore, 1) := by decide +kernel
theorem dL_clear_16 : decode cL_clear 16 = .ok (.goto 6, 3) := by decide +kernel
theorem dL_clear_19 : decode cL_clear 19 = .ok (.astore_n 3, 1) := by decide +kernel
theorem dL_clear_20 : decode cL_clear 20 = .ok (.iconst 1, 1) := by decide +kernel
theorem dL_clear_21 : decode cL_clear 21 = .ok (.ireturn, 1) := by decide +kernel
theorem dL_clear_22 : decode cL_clear 22 = .ok (.iconst 0, 1) := by decide +kernel
theorem dL_clear_23 : decode cL_clear 23 = .ok (.ireturn, 1) := by decide +kernel
theorem dL_law_0 : decode cL_law 0 = .ok (.new 8, 3) := by decide +kernel
theorem dL_law_3 : decode cL_law 3 = .ok (.dup, 1) := by decide +kernel
theorem dL_law_4 : decode cL_law 4 = .ok (.invokespecial 80, 3) := by decide +kernel
theorem dL_law_7 : decode cL_law 7 = .ok (.astore_n 1, 1) := by decide +kernel
theorem dL_law_8 : decode cL_law 8 = .ok (.new 81, 3) := by decide +kernel
theorem dL_law_11 : decode cL_law 11 = .ok (.dup, 1) := by decide +kernel
theorem dL_law_12 : decode cL_law 12 = .ok (.invokespecial 83, 3) := by decide +kernel
theorem dL_law_15 : decode cL_law 15 = .ok (.astore_n 2, 1) := by decide +kernel
theorem dL_law_16 : decode cL_law 16 = .ok (.iconst 1, 1) := by decide +kernel
theorem dL_law_17 : decode cL_law 17 = .ok (.newarray .long, 2) := by decide +kernel
theorem dL_law_19 : decode cL_law 19 = .ok (.astore_n 3, 1) := by decide +kernel
theorem dL_law_20 : decode cL_law 20 = .ok (.iconst 0, 1) := by decide +kernel
theorem dL_law_21 : decode cL_law 21 = .ok (.istore 4, 2) := by decide +kernel
theorem dL_law_23 : decode cL_law 23 = .ok (.iload 4, 2) := by decide +kernel
theorem dL_law_25 : decode cL_law 25 = .ok (.aload_n 0, 1) := by decide +kernel
theorem dL_law_26 : decode cL_law 26 = .ok (.arraylength, 1) := by decide +kernel
theorem dL_law_27 : decode cL_law 27 = .ok (.bipush 6, 2) := by decide +kernel
theorem dL_law_29 : decode cL_law 29 = .ok (.isub, 1) := by decide +kernel
theorem dL_law_30 : decode cL_law 30 = .ok (.if_icmp .gt 1680, 3) := by decide +kernel
theorem dL_law_33 : decode cL_law 33 = .ok (.aload_n 0, 1) := by decide +kernel
theorem dL_law_34 : decode cL_law 34 = .ok (.iload 4, 2) := by decide +kernel
theorem dL_law_36 : decode cL_law 36 = .ok (.iaload, 1) := by decide +kernel
theorem dL_law_37 : decode cL_law 37 = .ok (.bipush 31, 2) := by decide +kernel
theorem dL_law_39 : decode cL_law 39 = .ok (.iand, 1) := by decide +kernel
theorem dL_law_40 : decode cL_law 40 = .ok (.tableswitch 1664 0 23 #[112, 185, 241, 254, 267, 347, 415, 483, 575, 631, 706, 786, 866, 946, 1026, 1118, 1198, 1266, 1334, 1402, 1494, 1574, 1637, 1650], 112) := by decide +kernel
theorem dL_law_152 : decode cL_law 152 = .ok (.aload_n 1, 1) := by decide +kernel
theorem dL_law_153 : decode cL_law 153 = .ok (.aload_n 0, 1) := by decide +kernel
theorem dL_law_154 : decode cL_law 154 = .ok (.iload 4, 2) := by decide +kernel
theorem dL_law_156 : decode cL_law 156 = .ok (.iconst 1, 1) := by decide +kernel
theorem dL_law_157 : decode cL_law 157 = .ok (.iadd, 1) := by decide +kernel
theorem dL_law_158 : decode cL_law 158 = .ok (.iaload, 1) := by decide +kernel
theorem dL_law_159 : decode cL_law 159 = .ok (.aload_n 0, 1) := by decide +kernel
theorem dL_law_160 : decode cL_law 160 = .ok (.iload 4, 2) := by decide +kernel
theorem dL_law_162 : decode cL_law 162 = .ok (.iconst 2, 1) := by decide +kernel
theorem dL_law_163 : decode cL_law 163 = .ok (.iadd, 1) := by decide +kernel
theorem dL_law_164 : decode cL_law 164 = .ok (.iaload, 1) := by decide +kernel
theorem dL_law_165 : decode cL_law 165 = .ok (.aload_n 0, 1) := by decide +kernel
theorem dL_law_166 : decode cL_law 166 = .ok (.iload 4, 2) := by decide +kernel
theorem dL_law_168 : decode cL_law 168 = .ok (.iconst 3, 1) := by decide +kernel
theorem dL_law_169 : decode cL_law 169 = .ok (.iadd, 1) := by decide +kernel
theorem dL_law_170 : decode cL_law 170 = .ok (.iaload, 1) := by decide +kernel
theorem dL_law_171 : decode cL_law 171 = .ok (.aload_n 0, 1) := by decide +kernel
theorem dL_law_172 : decode cL_law 172 = .ok (.iload 4, 2) := by decide +kernel
theorem dL_law_174 : decode cL_law 174 = .ok (.iconst 4, 1) := by decide +kernel
theorem dL_law_175 : decode cL_law 175 = .ok (.iadd, 1) := by decide +kernel
theorem dL_law_176 : decode cL_law 176 = .ok (.iaload, 1) := by decide +kernel
theorem dL_law_177 : decode cL_law 177 = .ok (.aload_n 0, 1) := by decide +kernel
theorem dL_law_178 : decode cL_law 178 = .ok (.iload 4, 2) := by decide +kernel
theorem dL_law_180 : decode cL_law 180 = .ok (.iconst 5, 1) := by decide +kernel
theorem dL_law_181 : decode cL_law 181 = .ok (.iadd, 1) := by decide +kernel
theorem dL_law_182 : decode cL_law 182 = .ok (.iaload, 1) := by decide +kernel
theorem dL_law_183 : decode cL_law 183 = .ok (.invokevirtual 84, 3) := by decide +kernel
theorem dL_law_186 : decode cL_law 186 = .ok (.aload_n 2, 1) := by decide +kernel
theorem dL_law_187 : decode cL_law 187 = .ok (.aload_n 0, 1) := by decide +kernel
theorem dL_law_188 : decode cL_law 188 = .ok (.iload 4, 2) := by decide +kernel
theorem dL_law_190 : decode cL_law 190 = .ok (.iconst 1, 1) := by decide +kernel
theorem dL_law_191 : decode cL_law 191 = .ok (.iadd, 1) := by decide +kernel
theorem dL_law_192 : decode cL_law 192 = .ok (.iaload, 1) := by decide +kernel
theorem dL_law_193 : decode cL_law 193 = .ok (.aload_n 0, 1) := by decide +kernel
theorem dL_law_194 : decode cL_law 194 = .ok (.iload 4, 2) := by decide +kernel
theorem dL_law_196 : decode cL_law 196 = .ok (.iconst 2, 1) := by decide +kernel
theorem dL_law_197 : decode cL_law 197 = .ok (.iadd, 1) := by decide +kernel
theorem dL_law_198 : decode cL_law 198 = .ok (.iaload, 1) := by decide +kernel
theorem dL_law_199 : decode cL_law 199 = .ok (.aload_n 0, 1) := by decide +kernel
theorem dL_law_200 : decode cL_law 200 = .ok (.iload 4, 2) := by decide +kernel
theorem dL_law_202 : decode cL_law 202 = .ok (.iconst 3, 1) := by decide +kernel
theorem dL_law_203 : decode cL_law 203 = .ok (.iadd, 1) := by decide +kernel
theorem dL_law_204 : decode cL_law 204 = .ok (.iaload, 1) := by decide +kernel
theorem dL_law_205 : decode cL_law 205 = .ok (.aload_n 0, 1) := by decide +kernel
theorem dL_law_206 : decode cL_law 206 = .ok (.iload 4, 2) := by decide +kernel
theorem dL_law_208 : decode cL_law 208 = .ok (.iconst 4, 1) := by decide +kernel
theorem dL_law_209 : decode cL_law 209 = .ok (.iadd, 1) := by decide +kernel
theorem dL_law_210 : decode cL_law 210 = .ok (.iaload, 1) := by decide +kernel
theorem dL_law_211 : decode cL_law 211 = .ok (.aload_n 0, 1) := by decide +kernel
theorem dL_law_212 : decode cL_law 212 = .ok (.iload 4, 2) := by decide +kernel
theorem dL_law_214 : decode cL_law 214 = .ok (.iconst 5, 1) := by decide +kernel
theorem dL_law_215 : decode cL_law 215 = .ok (.iadd, 1) := by decide +kernel
theorem dL_law_216 : decode cL_law 216 = .ok (.iaload, 1) := by decide +kernel
theorem dL_law_217 : decode cL_law 217 = .ok (.invokevirtual 88, 3) := by decide +kernel
theorem dL_law_220 : decode cL_law 220 = .ok (.if_icmp .eq 1484, 3) := by decide +kernel
theorem dL_law_223 : decode cL_law 223 = .ok (.iconst 0, 1) := by decide +kernel
theorem dL_law_224 : decode cL_law 224 = .ok (.ireturn, 1) := by decide +kernel
theorem dL_law_225 : decode cL_law 225 = .ok (.aload_n 1, 1) := by decide +kernel
theorem dL_law_226 : decode cL_law 226 = .ok (.aload_n 0, 1) := by decide +kernel
theorem dL_law_227 : decode cL_law 227 = .ok (.iload 4, 2) := by decide +kernel
theorem dL_law_229 : decode cL_law 229 = .ok (.iconst 1, 1) := by decide +kernel
theorem dL_law_230 : decode cL_law 230 = .ok (.iadd, 1) := by decide +kernel
theorem dL_law_231 : decode cL_law 231 = .ok (.iaload, 1) := by decide +kernel
theorem dL_law_232 : decode cL_law 232 = .ok (.aload_n 3, 1) := by decide +kernel
theorem dL_law_233 : decode cL_law 233 = .ok (.invokestatic 89, 3) := by decide +kernel
theorem dL_law_236 : decode cL_law 236 = .ok (.istore 5, 2) := by decide +kernel
theorem dL_law_238 : decode cL_law 238 = .ok (.aload_n 2, 1) := by decide +kernel
theorem dL_law_239 : decode cL_law 239 = .ok (.aload_n 0, 1) := by decide +kernel
theorem dL_law_240 : decode cL_law 240 = .ok (.iload 4, 2) := by decide +kernel
theorem dL_law_242 : decode cL_law 242 = .ok (.iconst 1, 1) := by decide +kernel
theorem dL_law_243 : decode cL_law 243 = .ok (.iadd, 1) := by decide +kernel
theorem dL_law_244 : decode cL_law 244 = .ok (.iaload, 1) := by decide +kernel
theorem dL_law_245 : decode cL_law 245 = .ok (.invokevirtual 94, 3) := by decide +kernel
theorem dL_law_248 : decode cL_law 248 = .ok (.istore 6, 2) := by decide +kernel
theorem dL_law_250 : decode cL_law 250 = .ok (.aload_n 2, 1) := by decide +kernel
theorem dL_law_251 : decode cL_law 251 = .ok (.invokevirtual 95, 3) := by decide +kernel
theorem dL_law_254 : decode cL_law 254 = .ok (.iload 5, 2) := by decide +kernel
theorem dL_law_256 : decode cL_law 256 = .ok (.if_icmp .eq 5, 3) := by decide +kernel
theorem dL_law_259 : decode cL_law 259 = .ok (.iconst 0, 1) := by decide +kernel
theorem dL_law_260 : decode cL_law 260 = .ok (.ireturn, 1) := by decide +kernel
theorem dL_law_261 : decode cL_law 261 = .ok (.iload 5, 2) := by decide +kernel
theorem dL_law_263 : decode cL_law 263 = .ok (.ifCond .ne 15, 3) := by decide +kernel
theorem dL_law_266 : decode cL_law 266 = .ok (.aload_n 3, 1) := by decide +kernel
theorem dL_law_267 : decode cL_law 267 = .ok (.iconst 0, 1) := by decide +kernel
theorem dL_law_268 : decode cL_law 268 = .ok (.laload, 1) := by decide +kernel
theorem dL_law_269 : decode cL_law 269 = .ok (.iload 6, 2) := by decide +kernel
theorem dL_law_271 : decode cL_law 271 = .ok (.i2l, 1) := by decide +kernel
theorem dL_law_272 : decode cL_law 272 = .ok (.lcmp, 1) := by decide +kernel
theorem dL_law_273 : decode cL_law 273 = .ok (.ifCond .eq 5, 3) := by decide +kernel
theorem dL_law_276 : decode cL_law 276 = .ok (.iconst 0, 1) := by decide +kernel
theorem dL_law_277 : decode cL_law 277 = .ok (.ireturn, 1) := by decide +kernel
theorem dL_law_278 : decode cL_law 278 = .ok (.goto 1426, 3) := by decide +kernel
theorem dL_law_281 : decode cL_law 281 = .ok (.aload_n 1, 1) := by decide +kernel
theorem dL_law_282 : decode cL_law 282 = .ok (.invokevirtual 99, 3) := by decide +kernel
theorem dL_law_285 : decode cL_law 285 = .ok (.aload_n 2, 1) := by decide +kernel
theorem dL_law_286 : decode cL_law 286 = .ok (.invokevirtual 102, 3) := by decide +kernel
theorem dL_law_289 : decode cL_law 289 = .ok (.if_icmp .eq 1415, 3) := by decide +kernel
theorem dL_law_292 : decode cL_law 292 = .ok (.iconst 0, 1) := by decide +kernel
theorem dL_law_293 : decode cL_law 293 = .ok (.ireturn, 1) := by decide +kernel
theorem dL_law_294 : decode cL_law 294 = .ok (.aload_n 1, 1) := by decide +kernel
theorem dL_law_295 : decode cL_law 295 = .ok (.invokevirtual 103, 3) := by decide +kernel
theorem dL_law_298 : decode cL_law 298 = .ok (.aload_n 2, 1) := by decide +kernel
theorem dL_law_299 : decode cL_law 299 = .ok (.invokevirtual 106, 3) := by decide +kernel
theorem dL_law_302 : decode cL_law 302 = .ok (.if_icmp .eq 1402, 3) := by decide +kernel
theorem dL_law_305 : decode cL_law 305 = .ok (.iconst 0, 1) := by decide +kernel
theorem dL_law_306 : decode cL_law 306 = .ok (.ireturn, 1) := by decide +kernel
theorem dL_law_307 : decode cL_law 307 = .ok (.aload_n 1, 1) := by decide +kernel
theorem dL_law_308 : decode cL_law 308 = .ok (.aload_n 0, 1) := by decide +kernel
theorem dL_law_309 : decode cL_law 309 = .ok (.iload 4, 2) := by decide +kernel
theorem dL_law_311 : decode cL_law 311 = .ok (.iconst 1, 1) := by decide +kernel
theorem dL_law_312 : decode cL_law 312 = .ok (.iadd, 1) := by decide +kernel
theorem dL_law_313 : decode cL_law 313 = .ok (.iaload, 1) := by decide +kernel
theorem dL_law_314 : decode cL_law 314 = .ok (.aload_n 0, 1) := by decide +kernel
theorem dL_law_315 : decode cL_law 315 = .ok (.iload 4, 2) := by decide +kernel
theorem dL_law_317 : decode cL_law 317 = .ok (.iconst 2, 1) := by decide +kernel
theorem dL_law_318 : decode cL_law 318 = .ok (.iadd, 1) := by decide +kernel
theorem dL_law_319 : decode cL_law 319 = .ok (.iaload, 1) := by decide +kernel
theorem dL_law_320 : decode cL_law 320 = .ok (.aload_n 0, 1) := by decide +kernel
theorem dL_law_321 : decode cL_law 321 = .ok (.iload 4, 2) := by decide +kernel
theorem dL_law_323 : decode cL_law 323 = .ok (.iconst 3, 1) := by decide +kernel
theorem dL_law_324 : decode cL_law 324 = .ok (.iadd, 1) := by decide +kernel
theorem dL_law_325 : decode cL_law 325 = .ok (.iaload, 1) := by decide +kernel
theorem dL_law_326 : decode cL_law 326 = .ok (.aload_n 3, 1) := by decide +kernel
theorem dL_law_327 : decode cL_law 327 = .ok (.invokestatic 107, 3) := by decide +kernel
theorem dL_law_330 : decode cL_law 330 = .ok (.istore 5, 2) := by decide +kernel
theorem dL_law_332 : decode cL_law 332 = .ok (.aload_n 2, 1) := by decide +kernel
theorem dL_law_333 : decode cL_law 333 = .ok (.aload_n 0, 1) := by decide +kernel
theorem dL_law_334 : decode cL_law 334 = .ok (.iload 4, 2) := by decide +kernel
theorem dL_law_336 : decode cL_law 336 = .ok (.iconst 1, 1) := by decide +kernel
theorem dL_law_337 : decode cL_law 337 = .ok (.iadd, 1) := by decide +kernel
theorem dL_law_338 : decode cL_law 338 = .ok (.iaload, 1) := by decide +kernel
theorem dL_law_339 : decode cL_law 339 = .ok (.aload_n 0, 1) := by decide +kernel
theorem dL_law_340 : decode cL_law 340 = .ok (.iload 4, 2) := by decide +kernel
theorem dL_law_342 : decode cL_law 342 = .ok (.iconst 2, 1) := by decide +kernel
theorem dL_law_343 : decode cL_law 343 = .ok (.iadd, 1) := by decide +kernel
theorem dL_law_344 : decode cL_law 344 = .ok (.iaload, 1) := by decide +kernel
theorem dL_law_345 : decode cL_law 345 = .ok (.aload_n 0, 1) := by decide +kernel
theorem dL_law_346 : decode cL_law 346 = .ok (.iload 4, 2) := by decide +kernel
theorem dL_law_348 : decode cL_law 348 = .ok (.iconst 3, 1) := by decide +kernel
theorem dL_law_349 : decode cL_law 349 = .ok (.iadd, 1) := by decide +kernel
theorem dL_law_350 : decode cL_law 350 = .ok (.iaload, 1) := by decide +kernel
theorem dL_law_351 : decode cL_law 351 = .ok (.invokevirtual 110, 3) := by decide +kernel
theorem dL_law_354 : decode cL_law 354 = .ok (.istore 6, 2) := by decide +kernel
theorem dL_law_356 : decode cL_law 356 = .ok (.aload_n 2, 1) := by decide +kernel
theorem dL_law_357 : decode cL_law 357 = .ok (.invokevirtual 95, 3) := by decide +kernel
theorem dL_law_360 : decode cL_law 360 = .ok (.iload 5, 2) := by decide +kernel
theorem dL_law_362 : decode cL_law 362 = .ok (.if_icmp .eq 5, 3) := by decide +kernel
theorem dL_law_365 : decode cL_law 365 = .ok (.iconst 0, 1) := by decide +kernel
theorem dL_law_366 : decode cL_law 366 = .ok (.ireturn, 1) := by decide +kernel
theorem dL_law_367 : decode cL_law 367 = .ok (.iload 5, 2) := by decide +kernel
theorem dL_law_369 : decode cL_law 369 = .ok (.ifCond .ne 15, 3) := by decide +kernel
theorem dL_law_372 : decode cL_law 372 = .ok (.aload_n 3, 1) := by decide +kernel
theorem dL_law_373 : decode cL_law 373 = .ok (.iconst 0, 1) := by decide +kernel
theorem dL_law_374 : decode cL_law 374 = .ok (.laload, 1) := by decide +kernel
theorem dL_law_375 : decode cL_law 375 = .ok (.iload 6, 2) := by decide +kernel
theorem dL_law_377 : decode cL_law 377 = .ok (.i2l, 1) := by decide +kernel
theorem dL_law_378 : decode cL_law 378 = .ok (.lcmp, 1) := by decide +kernel
theorem dL_law_379 : decode cL_law 379 = .ok (.ifCond .eq 5, 3) := by decide +kernel
theorem dL_law_382 : decode cL_law 382 = .ok (.iconst 0, 1) := by decide +kernel
theorem dL_law_383 : decode cL_law 383 = .ok (.ireturn, 1) := by decide +kernel
theorem dL_law_384 : decode cL_law 384 = .ok (.goto 1320, 3) := by decide +kernel
theorem dL_law_387 : decode cL_law 387 = .ok (.aload_n 1, 1) := by decide +kernel
theorem dL_law_388 : decode cL_law 388 = .ok (.aload_n 0, 1) := by decide +kernel
theorem dL_law_389 : decode cL_law 389 = .ok (.iload 4, 2) := by decide +kernel
theorem dL_law_391 : decode cL_law 391 = .ok (.iconst 1, 1) := by decide +kernel
theorem dL_law_392 : decode cL_law 392 = .ok (.iadd, 1) := by decide +kernel
theorem dL_law_393 : decode cL_law 393 = .ok (.iaload, 1) := by decide +kernel
theorem dL_law_394 : decode cL_law 394 = .ok (.aload_n 0, 1) := by decide +kernel
theorem dL_law_395 : decode cL_law 395 = .ok (.iload 4, 2) := by decide +kernel
theorem dL_law_397 : decode cL_law 397 = .ok (.iconst 2, 1) := by decide +kernel
theorem dL_law_398 : decode cL_law 398 = .ok (.iadd, 1) := by decide +kernel
theorem dL_law_399 : decode cL_law 399 = .ok (.iaload, 1) := by decide +kernel
theorem dL_law_400 : decode cL_law 400 = .ok (.aload_n 3, 1) := by decide +kernel
theorem dL_law_401 : decode cL_law 401 = .ok (.invokestatic 111, 3) := by decide +kernel
theorem dL_law_404 : decode cL_law 404 = .ok (.istore 5, 2) := by decide +kernel
theorem dL_law_406 : decode cL_law 406 = .ok (.aload_n 2, 1) := by decide +kernel
theorem dL_law_407 : decode cL_law 407 = .ok (.aload_n 0, 1) := by decide +kernel
theorem dL_law_408 : decode cL_law 408 = .ok (.iload 4, 2) := by decide +kernel
theorem dL_law_410 : decode cL_law 410 = .ok (.iconst 1, 1) := by decide +kernel
theorem dL_law_411 : decode cL_law 411 = .ok (.iadd, 1) := by decide +kernel
theorem dL_law_412 : decode cL_law 412 = .ok (.iaload, 1) := by decide +kernel
theorem dL_law_413 : decode cL_law 413 = .ok (.aload_n 0, 1) := by decide +kernel
theorem dL_law_414 : decode cL_law 414 = .ok (.iload 4, 2) := by decide +kernel
theorem dL_law_416 : decode cL_law 416 = .ok (.iconst 2, 1) := by decide +kernel
theorem dL_law_417 : decode cL_law 417 = .ok (.iadd, 1) := by decide +kernel
theorem dL_law_418 : decode cL_law 418 = .ok (.iaload, 1) := by decide +kernel
theorem dL_law_419 : decode cL_law 419 = .ok (.invokevirtual 114, 3) := by decide +kernel
theorem dL_law_422 : decode cL_law 422 = .ok (.istore 6, 2) := by decide +kernel
theorem dL_law_424 : decode cL_law 424 = .ok (.aload_n 2, 1) := by decide +kernel
theorem dL_law_425 : decode cL_law 425 = .ok (.invokevirtual 95, 3) := by decide +kernel
theorem dL_law_428 : decode cL_law 428 = .ok (.iload 5, 2) := by decide +kernel
theorem dL_law_430 : decode cL_law 430 = .ok (.if_icmp .eq 5, 3) := by decide +kernel
theorem dL_law_433 : decode cL_law 433 = .ok (.iconst 0, 1) := by decide +kernel
theorem dL_law_434 : decode cL_law 434 = .ok (.ireturn, 1) := by decide +kernel
theorem dL_law_435 : decode cL_law 435 = .ok (.iload 5, 2) := by decide +kernel
theorem dL_law_437 : decode cL_law 437 = .ok (.ifCond .ne 15, 3) := by decide +kernel
theorem dL_law_440 : decode cL_law 440 = .ok (.aload_n 3, 1) := by decide +kernel
theorem dL_law_441 : decode cL_law 441 = .ok (.iconst 0, 1) := by decide +kernel
theorem dL_law_442 : decode cL_law 442 = .ok (.laload, 1) := by decide +kernel
theorem dL_law_443 : decode cL_law 443 = .ok (.iload 6, 2) := by decide +kernel
theorem dL_law_445 : decode cL_law 445 = .ok (.i2l, 1) := by decide +kernel
theorem dL_law_446 : decode cL_law 446 = .ok (.lcmp, 1) := by decide +kernel
theorem dL_law_447 : decode cL_law 447 = .ok (.ifCond .eq 5, 3) := by decide +kernel
theorem dL_law_450 : decode cL_law 450 = .ok (.iconst 0, 1) := by decide +kernel
theorem dL_law_451 : decode cL_law 451 = .ok (.ireturn, 1) := by decide +kernel
theorem dL_law_452 : decode cL_law 452 = .ok (.goto 1252, 3) := by decide +kernel
theorem dL_law_455 : decode cL_law 455 = .ok (.aload_n 1, 1) := by decide +kernel
theorem dL_law_456 : decode cL_law 456 = .ok (.aload_n 0, 1) := by decide +kernel
theorem dL_law_457 : decode cL_law 457 = .ok (.iload 4, 2) := by decide +kernel
theorem dL_law_459 : decode cL_law 459 = .ok (.iconst 1, 1) := by decide +kernel
theorem dL_law_460 : decode cL_law 460 = .ok (.iadd, 1) := by decide +kernel
theorem dL_law_461 : decode cL_law 461 = .ok (.iaload, 1) := by decide +kernel
theorem dL_law_462 : decode cL_law 462 = .ok (.aload_n 0, 1) := by decide +kernel
theorem dL_law_463 : decode cL_law 463 = .ok (.iload 4, 2) := by decide +kernel
theorem dL_law_465 : decode cL_law 465 = .ok (.iconst 2, 1) := by decide +kernel
theorem dL_law_466 : decode cL_law 466 = .ok (.iadd, 1) := by decide +kernel
theorem dL_law_467 : decode cL_law 467 = .ok (.iaload, 1) := by decide +kernel
theorem dL_law_468 : decode cL_law 468 = .ok (.aload_n 3, 1) := by decide +kernel
theorem dL_law_469 : decode cL_law 469 = .ok (.invokestatic 115, 3) := by decide +kernel
theorem dL_law_472 : decode cL_law 472 = .ok (.istore 5, 2) := by decide +kernel
theorem dL_law_474 : decode cL_law 474 = .ok (.aload_n 2, 1) := by decide +kernel
theorem dL_law_475 : decode cL_law 475 = .ok (.aload_n 0, 1) := by decide +kernel
theorem dL_law_476 : decode cL_law 476 = .ok (.iload 4, 2) := by decide +kernel
theorem dL_law_478 : decode cL_law 478 = .ok (.iconst 1, 1) := by decide +kernel
theorem dL_law_479 : decode cL_law 479 = .ok (.iadd, 1) := by decide +kernel
theorem dL_law_480 : decode cL_law 480 = .ok (.iaload, 1) := by decide +kernel
theorem dL_law_481 : decode cL_law 481 = .ok (.aload_n 0, 1) := by decide +kernel
theorem dL_law_482 : decode cL_law 482 = .ok (.iload 4, 2) := by decide +kernel
theorem dL_law_484 : decode cL_law 484 = .ok (.iconst 2, 1) := by decide +kernel
theorem dL_law_485 : decode cL_law 485 = .ok (.iadd, 1) := by decide +kernel
theorem dL_law_486 : decode cL_law 486 = .ok (.iaload, 1) := by decide +kernel
theorem dL_law_487 : decode cL_law 487 = .ok (.invokevirtual 117, 3) := by decide +kernel
theorem dL_law_490 : decode cL_law 490 = .ok (.istore 6, 2) := by decide +kernel
theorem dL_law_492 : decode cL_law 492 = .ok (.aload_n 2, 1) := by decide +kernel
theorem dL_law_493 : decode cL_law 493 = .ok (.invokevirtual 95, 3) := by decide +kernel
theorem dL_law_496 : decode cL_law 496 = .ok (.iload 5, 2) := by decide +kernel
theorem dL_law_498 : decode cL_law 498 = .ok (.if_icmp .eq 5, 3) := by decide +kernel
theorem dL_law_501 : decode cL_law 501 = .ok (.iconst 0, 1) := by decide +kernel
theorem dL_law_502 : decode cL_law 502 = .ok (.ireturn, 1) := by decide +kernel
theorem dL_law_503 : decode cL_law 503 = .ok (.iload 5, 2) := by decide +kernel
theorem dL_law_505 : decode cL_law 505 = .ok (.ifCond .ne 15, 3) := by decide +kernel
theorem dL_law_508 : decode cL_law 508 = .ok (.aload_n 3, 1) := by decide +kernel
theorem dL_law_509 : decode cL_law 509 = .ok (.iconst 0, 1) := by decide +kernel
theorem dL_law_510 : decode cL_law 510 = .ok (.laload, 1) := by decide +kernel
theorem dL_law_511 : decode cL_law 511 = .ok (.iload 6, 2) := by decide +kernel
theorem dL_law_513 : decode cL_law 513 = .ok (.i2l, 1) := by decide +kernel
theorem dL_law_514 : decode cL_law 514 = .ok (.lcmp, 1) := by decide +kernel
theorem dL_law_515 : decode cL_law 515 = .ok (.ifCond .eq 5, 3) := by decide +kernel
theorem dL_law_518 : decode cL_law 518 = .ok (.iconst 0, 1) := by decide +kernel
theorem dL_law_519 : decode cL_law 519 = .ok (.ireturn, 1) := by decide +kernel
theorem dL_law_520 : decode cL_law 520 = .ok (.goto 1184, 3) := by decide +kernel
theorem dL_law_523 : decode cL_law 523 = .ok (.aload_n 1, 1) := by decide +kernel
theorem dL_law_524 : decode cL_law 524 = .ok (.aload_n 0, 1) := by decide +kernel
theorem dL_law_525 : decode cL_law 525 = .ok (.iload 4, 2) := by decide +kernel
theorem dL_law_527 : decode cL_law 527 = .ok (.iconst 1, 1) := by decide +kernel
theorem dL_law_528 : decode cL_law 528 = .ok (.iadd, 1) := by decide +kernel
theorem dL_law_529 : decode cL_law 529 = .ok (.iaload, 1) := by decide +kernel
theorem dL_law_530 : decode cL_law 530 = .ok (.aload_n 0, 1) := by decide +kernel
theorem dL_law_531 : decode cL_law 531 = .ok (.iload 4, 2) := by decide +kernel
theorem dL_law_533 : decode cL_law 533 = .ok (.iconst 2, 1) := by decide +kernel
theorem dL_law_534 : decode cL_law 534 = .ok (.iadd, 1) := by decide +kernel
theorem dL_law_535 : decode cL_law 535 = .ok (.iaload, 1) := by decide +kernel
theorem dL_law_536 : decode cL_law 536 = .ok (.aload_n 0, 1) := by decide +kernel
theorem dL_law_537 : decode cL_law 537 = .ok (.iload 4, 2) := by decide +kernel
theorem dL_law_539 : decode cL_law 539 = .ok (.iconst 3, 1) := by decide +kernel
theorem dL_law_540 : decode cL_law 540 = .ok (.iadd, 1) := by decide +kernel
theorem dL_law_541 : decode cL_law 541 = .ok (.iaload, 1) := by decide +kernel
theorem dL_law_542 : decode cL_law 542 = .ok (.aload_n 0, 1) := by decide +kernel
theorem dL_law_543 : decode cL_law 543 = .ok (.iload 4, 2) := by decide +kernel
theorem dL_law_545 : decode cL_law 545 = .ok (.iconst 4, 1) := by decide +kernel
theorem dL_law_546 : decode cL_law 546 = .ok (.iadd, 1) := by decide +kernel
theorem dL_law_547 : decode cL_law 547 = .ok (.iaload, 1) := by decide +kernel
theorem dL_law_548 : decode cL_law 548 = .ok (.aload_n 3, 1) := by decide +kernel
theorem dL_law_549 : decode cL_law 549 = .ok (.invokestatic 118, 3) := by decide +kernel
theorem dL_law_552 : decode cL_law 552 = .ok (.istore 5, 2) := by decide +kernel
theorem dL_law_554 : decode cL_law 554 = .ok (.aload_n 2, 1) := by decide +kernel
theorem dL_law_555 : decode cL_law 555 = .ok (.aload_n 0, 1) := by decide +kernel
theorem dL_law_556 : decode cL_law 556 = .ok (.iload 4, 2) := by decide +kernel
theorem dL_law_558 : decode cL_law 558 = .ok (.iconst 1, 1) := by decide +kernel
theorem dL_law_559 : decode cL_law 559 = .ok (.iadd, 1) := by decide +kernel
theorem dL_law_560 : decode cL_law 560 = .ok (.iaload, 1) := by decide +kernel
theorem dL_law_561 : decode cL_law 561 = .ok (.aload_n 0, 1) := by decide +kernel
theorem dL_law_562 : decode cL_law 562 = .ok (.iload 4, 2) := by decide +kernel
theorem dL_law_564 : decode cL_law 564 = .ok (.iconst 2, 1) := by decide +kernel
theorem dL_law_565 : decode cL_law 565 = .ok (.iadd, 1) := by decide +kernel
theorem dL_law_566 : decode cL_law 566 = .ok (.iaload, 1) := by decide +kernel
theorem dL_law_567 : decode cL_law 567 = .ok (.aload_n 0, 1) := by decide +kernel
theorem dL_law_568 : decode cL_law 568 = .ok (.iload 4, 2) := by decide +kernel
theorem dL_law_570 : decode cL_law 570 = .ok (.iconst 3, 1) := by decide +kernel
theorem dL_law_571 : decode cL_law 571 = .ok (.iadd, 1) := by decide +kernel
theorem dL_law_572 : decode cL_law 572 = .ok (.iaload, 1) := by decide +kernel
theorem dL_law_573 : decode cL_law 573 = .ok (.aload_n 0, 1) := by decide +kernel
theorem dL_law_574 : decode cL_law 574 = .ok (.iload 4, 2) := by decide +kernel
theorem dL_law_576 : decode cL_law 576 = .ok (.iconst 4, 1) := by decide +kernel
theorem dL_law_577 : decode cL_law 577 = .ok (.iadd, 1) := by decide +kernel
theorem dL_law_578 : decode cL_law 578 = .ok (.iaload, 1) := by decide +kernel
theorem dL_law_579 : decode cL_law 579 = .ok (.invokevirtual 121, 3) := by decide +kernel
theorem dL_law_582 : decode cL_law 582 = .ok (.istore 6, 2) := by decide +kernel
theorem dL_law_584 : decode cL_law 584 = .ok (.aload_n 2, 1) := by decide +kernel
theorem dL_law_585 : decode cL_law 585 = .ok (.invokevirtual 95, 3) := by decide +kernel
theorem dL_law_588 : decode cL_law 588 = .ok (.iload 5, 2) := by decide +kernel
theorem dL_law_590 : decode cL_law 590 = .ok (.if_icmp .eq 5, 3) := by decide +kernel
theorem dL_law_593 : decode cL_law 593 = .ok (.iconst 0, 1) := by decide +kernel
theorem dL_law_594 : decode cL_law 594 = .ok (.ireturn, 1) := by decide +kernel
theorem dL_law_595 : decode cL_law 595 = .ok (.iload 5, 2) := by decide +kernel
theorem dL_law_597 : decode cL_law 597 = .ok (.ifCond .ne 15, 3) := by decide +kernel
theorem dL_law_600 : decode cL_law 600 = .ok (.aload_n 3, 1) := by decide +kernel
theorem dL_law_601 : decode cL_law 601 = .ok (.iconst 0, 1) := by decide +kernel
theorem dL_law_602 : decode cL_law 602 = .ok (.laload, 1) := by decide +kernel
theorem dL_law_603 : decode cL_law 603 = .ok (.iload 6, 2) := by decide +kernel
theorem dL_law_605 : decode cL_law 605 = .ok (.i2l, 1) := by decide +kernel
theorem dL_law_606 : decode cL_law 606 = .ok (.lcmp, 1) := by decide +kernel
theorem dL_law_607 : decode cL_law 607 = .ok (.ifCond .eq 5, 3) := by decide +kernel
theorem dL_law_610 : decode cL_law 610 = .ok (.iconst 0, 1) := by decide +kernel
theorem dL_law_611 : decode cL_law 611 = .ok (.ireturn, 1) := by decide +kernel
theorem dL_law_612 : decode cL_law 612 = .ok (.goto 1092, 3) := by decide +kernel
theorem dL_law_615 : decode cL_law 615 = .ok (.aload_n 1, 1) := by decide +kernel
theorem dL_law_616 : decode cL_law 616 = .ok (.aload_n 0, 1) := by decide +kernel
theorem dL_law_617 : decode cL_law 617 = .ok (.iload 4, 2) := by decide +kernel
theorem dL_law_619 : decode cL_law 619 = .ok (.iconst 1, 1) := by decide +kernel
theorem dL_law_620 : decode cL_law 620 = .ok (.iadd, 1) := by decide +kernel
theorem dL_law_621 : decode cL_law 621 = .ok (.iaload, 1) := by decide +kernel
theorem dL_law_622 : decode cL_law 622 = .ok (.aload_n 3, 1) := by decide +kernel
theorem dL_law_623 : decode cL_law 623 = .ok (.invokestatic 122, 3) := by decide +kernel
theorem dL_law_626 : decode cL_law 626 = .ok (.istore 5, 2) := by decide +kernel
theorem dL_law_628 : decode cL_law 628 = .ok (.aload_n 2, 1) := by decide +kernel
theorem dL_law_629 : decode cL_law 629 = .ok (.aload_n 0, 1) := by decide +kernel
theorem dL_law_630 : decode cL_law 630 = .ok (.iload 4, 2) := by decide +kernel
theorem dL_law_632 : decode cL_law 632 = .ok (.iconst 1, 1) := by decide +kernel
theorem dL_law_633 : decode cL_law 633 = .ok (.iadd, 1) := by decide +kernel
theorem dL_law_634 : decode cL_law 634 = .ok (.iaload, 1) := by decide +kernel
theorem dL_law_635 : decode cL_law 635 = .ok (.invokevirtual 124, 3) := by decide +kernel
theorem dL_law_638 : decode cL_law 638 = .ok (.istore 6, 2) := by decide +kernel
theorem dL_law_640 : decode cL_law 640 = .ok (.aload_n 2, 1) := by decide +kernel
theorem dL_law_641 : decode cL_law 641 = .ok (.invokevirtual 95, 3) := by decide +kernel
theorem dL_law_644 : decode cL_law 644 = .ok (.iload 5, 2) := by decide +kernel
theorem dL_law_646 : decode cL_law 646 = .ok (.if_icmp .eq 5, 3) := by decide +kernel
theorem dL_law_649 : decode cL_law 649 = .ok (.iconst 0, 1) := by decide +kernel
theorem dL_law_650 : decode cL_law 650 = .ok (.ireturn, 1) := by decide +kernel
theorem dL_law_651 : decode cL_law 651 = .ok (.iload 5, 2) := by decide +kernel
theorem dL_law_653 : decode cL_law 653 = .ok (.ifCond .ne 15, 3) := by decide +kernel
theorem dL_law_656 : decode cL_law 656 = .ok (.aload_n 3, 1) := by decide +kernel
theorem dL_law_657 : decode cL_law 657 = .ok (.iconst 0, 1) := by decide +kernel
theorem dL_law_658 : decode cL_law 658 = .ok (.laload, 1) := by decide +kernel
theorem dL_law_659 : decode cL_law 659 = .ok (.iload 6, 2) := by decide +kernel
theorem dL_law_661 : decode cL_law 661 = .ok (.i2l, 1) := by decide +kernel
theorem dL_law_662 : decode cL_law 662 = .ok (.lcmp, 1) := by decide +kernel
theorem dL_law_663 : decode cL_law 663 = .ok (.ifCond .eq 5, 3) := by decide +kernel
theorem dL_law_666 : decode cL_law 666 = .ok (.iconst 0, 1) := by decide +kernel
theorem dL_law_667 : decode cL_law 667 = .ok (.ireturn, 1) := by decide +kernel
theorem dL_law_668 : decode cL_law 668 = .ok (.goto 1036, 3) := by decide +kernel
theorem dL_law_671 : decode cL_law 671 = .ok (.aload_n 1, 1) := by decide +kernel
theorem dL_law_672 : decode cL_law 672 = .ok (.aload_n 0, 1) := by decide +kernel
theorem dL_law_673 : decode cL_law 673 = .ok (.iload 4, 2) := by decide +kernel
theorem dL_law_675 : decode cL_law 675 = .ok (.iconst 1, 1) := by decide +kernel
theorem dL_law_676 : decode cL_law 676 = .ok (.iadd, 1) := by decide +kernel
theorem dL_law_677 : decode cL_law 677 = .ok (.iaload, 1) := by decide +kernel
theorem dL_law_678 : decode cL_law 678 = .ok (.aload_n 0, 1) := by decide +kernel
theorem dL_law_679 : decode cL_law 679 = .ok (.iload 4, 2) := by decide +kernel
theorem dL_law_681 : decode cL_law 681 = .ok (.iconst 2, 1) := by decide +kernel
theorem dL_law_682 : decode cL_law 682 = .ok (.iadd, 1) := by decide +kernel
theorem dL_law_683 : decode cL_law 683 = .ok (.iaload, 1) := by decide +kernel
theorem dL_law_684 : decode cL_law 684 = .ok (.aload_n 3, 1) := by decide +kernel
theorem dL_law_685 : decode cL_law 685 = .ok (.invokestatic 125, 3) := by decide +kernel
theorem dL_law_688 : decode cL_law 688 = .ok (.istore 5, 2) := by decide +kernel
theorem dL_law_690 : decode cL_law 690 = .ok (.aload_n 2, 1) := by decide +kernel
theorem dL_law_691 : decode cL_law 691 = .ok (.aload_n 0, 1) := by decide +kernel
theorem dL_law_692 : decode cL_law 692 = .ok (.iload 4, 2) := by decide +kernel
theorem dL_law_694 : decode cL_law 694 = .ok (.iconst 1, 1) := by decide +kernel
theorem dL_law_695 : decode cL_law 695 = .ok (.iadd, 1) := by decide +kernel
theorem dL_law_696 : decode cL_law 696 = .ok (.iaload, 1) := by decide +kernel
theorem dL_law_697 : decode cL_law 697 = .ok (.aload_n 0, 1) := by decide +kernel
theorem dL_law_698 : decode cL_law 698 = .ok (.iload 4, 2) := by decide +kernel
theorem dL_law_700 : decode cL_law 700 = .ok (.iconst 2, 1) := by decide +kernel
theorem dL_law_701 : decode cL_law 701 = .ok (.iadd, 1) := by decide +kernel
theorem dL_law_702 : decode cL_law 702 = .ok (.iaload, 1) := by decide +kernel
theorem dL_law_703 : decode cL_law 703 = .ok (.invokevirtual 127, 3) := by decide +kernel
theorem dL_law_706 : decode cL_law 706 = .ok (.istore 6, 2) := by decide +kernel
theorem dL_law_708 : decode cL_law 708 = .ok (.aload_n 2, 1) := by decide +kernel
theorem dL_law_709 : decode cL_law 709 = .ok (.invokevirtual 95, 3) := by decide +kernel
theorem dL_law_712 : decode cL_law 712 = .ok (.iload 5, 2) := by decide +kernel
theorem dL_law_714 : decode cL_law 714 = .ok (.if_icmp .eq 5, 3) := by decide +kernel
theorem dL_law_717 : decode cL_law 717 = .ok (.iconst 0, 1) := by decide +kernel
theorem dL_law_718 : decode cL_law 718 = .ok (.ireturn, 1) := by decide +kernel
theorem dL_law_719 : decode cL_law 719 = .ok (.iload 5, 2) := by decide +kernel
theorem dL_law_721 : decode cL_law 721 = .ok (.ifCond .ne 22, 3) := by decide +kernel
theorem dL_law_724 : decode cL_law 724 = .ok (.aload_n 3, 1) := by decide +kernel
theorem dL_law_725 : decode cL_law 725 = .ok (.iconst 0, 1) := by decide +kernel
theorem dL_law_726 : decode cL_law 726 = .ok (.laload, 1) := by decide +kernel
theorem dL_law_727 : decode cL_law 727 = .ok (.iload 6, 2) := by decide +kernel
theorem dL_law_729 : decode cL_law 729 = .ok (.ifCond .eq 7, 3) := by decide +kernel
theorem dL_law_732 : decode cL_law 732 = .ok (.lconst 1, 1) := by decide +kernel
theorem dL_law_733 : decode cL_law 733 = .ok (.goto 4, 3) := by decide +kernel
theorem dL_law_736 : decode cL_law 736 = .ok (.lconst 0, 1) := by decide +kernel
theorem dL_law_737 : decode cL_law 737 = .ok (.lcmp, 1) := by decide +kernel
theorem dL_law_738 : decode cL_law 738 = .ok (.ifCond .eq 5, 3) := by decide +kernel
theorem dL_law_741 : decode cL_law 741 = .ok (.iconst 0, 1) := by decide +kernel
theorem dL_law_742 : decode cL_law 742 = .ok (.ireturn, 1) := by decide +kernel
theorem dL_law_743 : decode cL_law 743 = .ok (.goto 961, 3) := by decide +kernel
theorem dL_law_746 : decode cL_law 746 = .ok (.aload_n 1, 1) := by decide +kernel
theorem dL_law_747 : decode cL_law 747 = .ok (.aload_n 0, 1) := by decide +kernel
theorem dL_law_748 : decode cL_law 748 = .ok (.iload 4, 2) := by decide +kernel
theorem dL_law_750 : decode cL_law 750 = .ok (.iconst 1, 1) := by decide +kernel
theorem dL_law_751 : decode cL_law 751 = .ok (.iadd, 1) := by decide +kernel
theorem dL_law_752 : decode cL_law 752 = .ok (.iaload, 1) := by decide +kernel
theorem dL_law_753 : decode cL_law 753 = .ok (.aload_n 0, 1) := by decide +kernel
theorem dL_law_754 : decode cL_law 754 = .ok (.iload 4, 2) := by decide +kernel
theorem dL_law_756 : decode cL_law 756 = .ok (.iconst 2, 1) := by decide +kernel
theorem dL_law_757 : decode cL_law 757 = .ok (.iadd, 1) := by decide +kernel
theorem dL_law_758 : decode cL_law 758 = .ok (.iaload, 1) := by decide +kernel
theorem dL_law_759 : decode cL_law 759 = .ok (.aload_n 0, 1) := by decide +kernel
theorem dL_law_760 : decode cL_law 760 = .ok (.iload 4, 2) := by decide +kernel
theorem dL_law_762 : decode cL_law 762 = .ok (.iconst 3, 1) := by decide +kernel
theorem dL_law_763 : decode cL_law 763 = .ok (.iadd, 1) := by decide +kernel
theorem dL_law_764 : decode cL_law 764 = .ok (.iaload, 1) := by decide +kernel
theorem dL_law_765 : decode cL_law 765 = .ok (.aload_n 3, 1) := by decide +kernel
theorem dL_law_766 : decode cL_law 766 = .ok (.invokestatic 128, 3) := by decide +kernel
theorem dL_law_769 : decode cL_law 769 = .ok (.istore 5, 2) := by decide +kernel
theorem dL_law_771 : decode cL_law 771 = .ok (.aload_n 2, 1) := by decide +kernel
theorem dL_law_772 : decode cL_law 772 = .ok (.aload_n 0, 1) := by decide +kernel
theorem dL_law_773 : decode cL_law 773 = .ok (.iload 4, 2) := by decide +kernel
theorem dL_law_775 : decode cL_law 775 = .ok (.iconst 1, 1) := by decide +kernel
theorem dL_law_776 : decode cL_law 776 = .ok (.iadd, 1) := by decide +kernel
theorem dL_law_777 : decode cL_law 777 = .ok (.iaload, 1) := by decide +kernel
theorem dL_law_778 : decode cL_law 778 = .ok (.aload_n 0, 1) := by decide +kernel
theorem dL_law_779 : decode cL_law 779 = .ok (.iload 4, 2) := by decide +kernel
theorem dL_law_781 : decode cL_law 781 = .ok (.iconst 2, 1) := by decide +kernel
theorem dL_law_782 : decode cL_law 782 = .ok (.iadd, 1) := by decide +kernel
theorem dL_law_783 : decode cL_law 783 = .ok (.iaload, 1) := by decide +kernel
theorem dL_law_784 : decode cL_law 784 = .ok (.aload_n 0, 1) := by decide +kernel
theorem dL_law_785 : decode cL_law 785 = .ok (.iload 4, 2) := by decide +kernel
theorem dL_law_787 : decode cL_law 787 = .ok (.iconst 3, 1) := by decide +kernel
theorem dL_law_788 : decode cL_law 788 = .ok (.iadd, 1) := by decide +kernel
theorem dL_law_789 : decode cL_law 789 = .ok (.iaload, 1) := by decide +kernel
theorem dL_law_790 : decode cL_law 790 = .ok (.invokevirtual 130, 3) := by decide +kernel
theorem dL_law_793 : decode cL_law 793 = .ok (.istore 6, 2) := by decide +kernel
theorem dL_law_795 : decode cL_law 795 = .ok (.aload_n 2, 1) := by decide +kernel
theorem dL_law_796 : decode cL_law 796 = .ok (.invokevirtual 95, 3) := by decide +kernel
theorem dL_law_799 : decode cL_law 799 = .ok (.iload 5, 2) := by decide +kernel
theorem dL_law_801 : decode cL_law 801 = .ok (.if_icmp .eq 5, 3) := by decide +kernel
theorem dL_law_804 : decode cL_law 804 = .ok (.iconst 0, 1) := by decide +kernel
theorem dL_law_805 : decode cL_law 805 = .ok (.ireturn, 1) := by decide +kernel
theorem dL_law_806 : decode cL_law 806 = .ok (.iload 5, 2) := by decide +kernel
theorem dL_law_808 : decode cL_law 808 = .ok (.ifCond .ne 15, 3) := by decide +kernel
theorem dL_law_811 : decode cL_law 811 = .ok (.aload_n 3, 1) := by decide +kernel
theorem dL_law_812 : decode cL_law 812 = .ok (.iconst 0, 1) := by decide +kernel
theorem dL_law_813 : decode cL_law 813 = .ok (.laload, 1) := by decide +kernel
theorem dL_law_814 : decode cL_law 814 = .ok (.iload 6, 2) := by decide +kernel
theorem dL_law_816 : decode cL_law 816 = .ok (.i2l, 1) := by decide +kernel
theorem dL_law_817 : decode cL_law 817 = .ok (.lcmp, 1) := by decide +kernel
theorem dL_law_818 : decode cL_law 818 = .ok (.ifCond .eq 5, 3) := by decide +kernel
theorem dL_law_821 : decode cL_law 821 = .ok (.iconst 0, 1) := by decide +kernel
theorem dL_law_822 : decode cL_law 822 = .ok (.ireturn, 1) := by decide +kernel
theorem dL_law_823 : decode cL_law 823 = .ok (.goto 881, 3) := by decide +kernel
theorem dL_law_826 : decode cL_law 826 = .ok (.aload_n 1, 1) := by decide +kernel
theorem dL_law_827 : decode cL_law 827 = .ok (.aload_n 0, 1) := by decide +kernel
theorem dL_law_828 : decode cL_law 828 = .ok (.iload 4, 2) := by decide +kernel
theorem dL_law_830 : decode cL_law 830 = .ok (.iconst 1, 1) := by decide +kernel
theorem dL_law_831 : decode cL_law 831 = .ok (.iadd, 1) := by decide +kernel
theorem dL_law_832 : decode cL_law 832 = .ok (.iaload, 1) := by decide +kernel
theorem dL_law_833 : decode cL_law 833 = .ok (.aload_n 0, 1) := by decide +kernel
theorem dL_law_834 : decode cL_law 834 = .ok (.iload 4, 2) := by decide +kernel
theorem dL_law_836 : decode cL_law 836 = .ok (.iconst 2, 1) := by decide +kernel
theorem dL_law_837 : decode cL_law 837 = .ok (.iadd, 1) := by decide +kernel
theorem dL_law_838 : decode cL_law 838 = .ok (.iaload, 1) := by decide +kernel
theorem dL_law_839 : decode cL_law 839 = .ok (.aload_n 0, 1) := by decide +kernel
theorem dL_law_840 : decode cL_law 840 = .ok (.iload 4, 2) := by decide +kernel
theorem dL_law_842 : decode cL_law 842 = .ok (.iconst 3, 1) := by decide +kernel
theorem dL_law_843 : decode cL_law 843 = .ok (.iadd, 1) := by decide +kernel
theorem dL_law_844 : decode cL_law 844 = .ok (.iaload, 1) := by decide +kernel
theorem dL_law_845 : decode cL_law 845 = .ok (.aload_n 3, 1) := by decide +kernel
theorem dL_law_846 : decode cL_law 846 = .ok (.invokestatic 131, 3) := by decide +kernel
theorem dL_law_849 : decode cL_law 849 = .ok (.istore 5, 2) := by decide +kernel
theorem dL_law_851 : decode cL_law 851 = .ok (.aload_n 2, 1) := by decide +kernel
theorem dL_law_852 : decode cL_law 852 = .ok (.aload_n 0, 1) := by decide +kernel
theorem dL_law_853 : decode cL_law 853 = .ok (.iload 4, 2) := by decide +kernel
theorem dL_law_855 : decode cL_law 855 = .ok (.iconst 1, 1) := by decide +kernel
theorem dL_law_856 : decode cL_law 856 = .ok (.iadd, 1) := by decide +kernel
theorem dL_law_857 : decode cL_law 857 = .ok (.iaload, 1) := by decide +kernel
theorem dL_law_858 : decode cL_law 858 = .ok (.aload_n 0, 1) := by decide +kernel
theorem dL_law_859 : decode cL_law 859 = .ok (.iload 4, 2) := by decide +kernel
theorem dL_law_861 : decode cL_law 861 = .ok (.iconst 2, 1) := by decide +kernel
theorem dL_law_862 : decode cL_law 862 = .ok (.iadd, 1) := by decide +kernel
theorem dL_law_863 : decode cL_law 863 = .ok (.iaload, 1) := by decide +kernel
theorem dL_law_864 : decode cL_law 864 = .ok (.aload_n 0, 1) := by decide +kernel
theorem dL_law_865 : decode cL_law 865 = .ok (.iload 4, 2) := by decide +kernel
theorem dL_law_867 : decode cL_law 867 = .ok (.iconst 3, 1) := by decide +kernel
theorem dL_law_868 : decode cL_law 868 = .ok (.iadd, 1) := by decide +kernel
theorem dL_law_869 : decode cL_law 869 = .ok (.iaload, 1) := by decide +kernel
theorem dL_law_870 : decode cL_law 870 = .ok (.invokevirtual 133, 3) := by decide +kernel
theorem dL_law_873 : decode cL_law 873 = .ok (.istore 6, 2) := by decide +kernel
theorem dL_law_875 : decode cL_law 875 = .ok (.aload_n 2, 1) := by decide +kernel
theorem dL_law_876 : decode cL_law 876 = .ok (.invokevirtual 95, 3) := by decide +kernel
theorem dL_law_879 : decode cL_law 879 = .ok (.iload 5, 2) := by decide +kernel
theorem dL_law_881 : decode cL_law 881 = .ok (.if_icmp .eq 5, 3) := by decide +kernel
theorem dL_law_884 : decode cL_law 884 = .ok (.iconst 0, 1) := by decide +kernel
theorem dL_law_885 : decode cL_law 885 = .ok (.ireturn, 1) := by decide +kernel
theorem dL_law_886 : decode cL_law 886 = .ok (.iload 5, 2) := by decide +kernel
theorem dL_law_888 : decode cL_law 888 = .ok (.ifCond .ne 15, 3) := by decide +kernel
theorem dL_law_891 : decode cL_law 891 = .ok (.aload_n 3, 1) := by decide +kernel
theorem dL_law_892 : decode cL_law 892 = .ok (.iconst 0, 1) := by decide +kernel
theorem dL_law_893 : decode cL_law 893 = .ok (.laload, 1) := by decide +kernel
theorem dL_law_894 : decode cL_law 894 = .ok (.iload 6, 2) := by decide +kernel
theorem dL_law_896 : decode cL_law 896 = .ok (.i2l, 1) := by decide +kernel
theorem dL_law_897 : decode cL_law 897 = .ok (.lcmp, 1) := by decide +kernel
theorem dL_law_898 : decode cL_law 898 = .ok (.ifCond .eq 5, 3) := by decide +kernel
theorem dL_law_901 : decode cL_law 901 = .ok (.iconst 0, 1) := by decide +kernel
theorem dL_law_902 : decode cL_law 902 = .ok (.ireturn, 1) := by decide +kernel
theorem dL_law_903 : decode cL_law 903 = .ok (.goto 801, 3) := by decide +kernel
theorem dL_law_906 : decode cL_law 906 = .ok (.aload_n 1, 1) := by decide +kernel
theorem dL_law_907 : decode cL_law 907 = .ok (.aload_n 0, 1) := by decide +kernel
theorem dL_law_908 : decode cL_law 908 = .ok (.iload 4, 2) := by decide +kernel
theorem dL_law_910 : decode cL_law 910 = .ok (.iconst 1, 1) := by decide +kernel
theorem dL_law_911 : decode cL_law 911 = .ok (.iadd, 1) := by decide +kernel
theorem dL_law_912 : decode cL_law 912 = .ok (.iaload, 1) := by decide +kernel
theorem dL_law_913 : decode cL_law 913 = .ok (.aload_n 0, 1) := by decide +kernel
theorem dL_law_914 : decode cL_law 914 = .ok (.iload 4, 2) := by decide +kernel
theorem dL_law_916 : decode cL_law 916 = .ok (.iconst 2, 1) := by decide +kernel
theorem dL_law_917 : decode cL_law 917 = .ok (.iadd, 1) := by decide +kernel
theorem dL_law_918 : decode cL_law 918 = .ok (.iaload, 1) := by decide +kernel
theorem dL_law_919 : decode cL_law 919 = .ok (.aload_n 0, 1) := by decide +kernel
theorem dL_law_920 : decode cL_law 920 = .ok (.iload 4, 2) := by decide +kernel
theorem dL_law_922 : decode cL_law 922 = .ok (.iconst 3, 1) := by decide +kernel
theorem dL_law_923 : decode cL_law 923 = .ok (.iadd, 1) := by decide +kernel
theorem dL_law_924 : decode cL_law 924 = .ok (.iaload, 1) := by decide +kernel
theorem dL_law_925 : decode cL_law 925 = .ok (.aload_n 3, 1) := by decide +kernel
theorem dL_law_926 : decode cL_law 926 = .ok (.invokestatic 134, 3) := by decide +kernel
theorem dL_law_929 : decode cL_law 929 = .ok (.istore 5, 2) := by decide +kernel
theorem dL_law_931 : decode cL_law 931 = .ok (.aload_n 2, 1) := by decide +kernel
theorem dL_law_932 : decode cL_law 932 = .ok (.aload_n 0, 1) := by decide +kernel
theorem dL_law_933 : decode cL_law 933 = .ok (.iload 4, 2) := by decide +kernel
theorem dL_law_935 : decode cL_law 935 = .ok (.iconst 1, 1) := by decide +kernel
theorem dL_law_936 : decode cL_law 936 = .ok (.iadd, 1) := by decide +kernel
theorem dL_law_937 : decode cL_law 937 = .ok (.iaload, 1) := by decide +kernel
theorem dL_law_938 : decode cL_law 938 = .ok (.aload_n 0, 1) := by decide +kernel
theorem dL_law_939 : decode cL_law 939 = .ok (.iload 4, 2) := by decide +kernel
theorem dL_law_941 : decode cL_law 941 = .ok (.iconst 2, 1) := by decide +kernel
theorem dL_law_942 : decode cL_law 942 = .ok (.iadd, 1) := by decide +kernel
theorem dL_law_943 : decode cL_law 943 = .ok (.iaload, 1) := by decide +kernel
theorem dL_law_944 : decode cL_law 944 = .ok (.aload_n 0, 1) := by decide +kernel
theorem dL_law_945 : decode cL_law 945 = .ok (.iload 4, 2) := by decide +kernel
theorem dL_law_947 : decode cL_law 947 = .ok (.iconst 3, 1) := by decide +kernel
theorem dL_law_948 : decode cL_law 948 = .ok (.iadd, 1) := by decide +kernel
theorem dL_law_949 : decode cL_law 949 = .ok (.iaload, 1) := by decide +kernel
theorem dL_law_950 : decode cL_law 950 = .ok (.invokevirtual 136, 3) := by decide +kernel
theorem dL_law_953 : decode cL_law 953 = .ok (.istore 6, 2) := by decide +kernel
theorem dL_law_955 : decode cL_law 955 = .ok (.aload_n 2, 1) := by decide +kernel
theorem dL_law_956 : decode cL_law 956 = .ok (.invokevirtual 95, 3) := by decide +kernel
theorem dL_law_959 : decode cL_law 959 = .ok (.iload 5, 2) := by decide +kernel
theorem dL_law_961 : decode cL_law 961 = .ok (.if_icmp .eq 5, 3) := by decide +kernel
theorem dL_law_964 : decode cL_law 964 = .ok (.iconst 0, 1) := by decide +kernel
theorem dL_law_965 : decode cL_law 965 = .ok (.ireturn, 1) := by decide +kernel
theorem dL_law_966 : decode cL_law 966 = .ok (.iload 5, 2) := by decide +kernel
theorem dL_law_968 : decode cL_law 968 = .ok (.ifCond .ne 15, 3) := by decide +kernel
theorem dL_law_971 : decode cL_law 971 = .ok (.aload_n 3, 1) := by decide +kernel
theorem dL_law_972 : decode cL_law 972 = .ok (.iconst 0, 1) := by decide +kernel
theorem dL_law_973 : decode cL_law 973 = .ok (.laload, 1) := by decide +kernel
theorem dL_law_974 : decode cL_law 974 = .ok (.iload 6, 2) := by decide +kernel
theorem dL_law_976 : decode cL_law 976 = .ok (.i2l, 1) := by decide +kernel
theorem dL_law_977 : decode cL_law 977 = .ok (.lcmp, 1) := by decide +kernel
theorem dL_law_978 : decode cL_law 978 = .ok (.ifCond .eq 5, 3) := by decide +kernel
theorem dL_law_981 : decode cL_law 981 = .ok (.iconst 0, 1) := by decide +kernel
theorem dL_law_982 : decode cL_law 982 = .ok (.ireturn, 1) := by decide +kernel
theorem dL_law_983 : decode cL_law 983 = .ok (.goto 721, 3) := by decide +kernel
theorem dL_law_986 : decode cL_law 986 = .ok (.aload_n 1, 1) := by decide +kernel
theorem dL_law_987 : decode cL_law 987 = .ok (.aload_n 0, 1) := by decide +kernel
theorem dL_law_988 : decode cL_law 988 = .ok (.iload 4, 2) := by decide +kernel
theorem dL_law_990 : decode cL_law 990 = .ok (.iconst 1, 1) := by decide +kernel
theorem dL_law_991 : decode cL_law 991 = .ok (.iadd, 1) := by decide +kernel
theorem dL_law_992 : decode cL_law 992 = .ok (.iaload, 1) := by decide +kernel
theorem dL_law_993 : decode cL_law 993 = .ok (.aload_n 0, 1) := by decide +kernel
theorem dL_law_994 : decode cL_law 994 = .ok (.iload 4, 2) := by decide +kernel
theorem dL_law_996 : decode cL_law 996 = .ok (.iconst 2, 1) := by decide +kernel
theorem dL_law_997 : decode cL_law 997 = .ok (.iadd, 1) := by decide +kernel
theorem dL_law_998 : decode cL_law 998 = .ok (.iaload, 1) := by decide +kernel
theorem dL_law_999 : decode cL_law 999 = .ok (.aload_n 0, 1) := by decide +kernel
theorem dL_law_1000 : decode cL_law 1000 = .ok (.iload 4, 2) := by decide +kernel
theorem dL_law_1002 : decode cL_law 1002 = .ok (.iconst 3, 1) := by decide +kernel
theorem dL_law_1003 : decode cL_law 1003 = .ok (.iadd, 1) := by decide +kernel
theorem dL_law_1004 : decode cL_law 1004 = .ok (.iaload, 1) := by decide +kernel
theorem dL_law_1005 : decode cL_law 1005 = .ok (.aload_n 3, 1) := by decide +kernel
theorem dL_law_1006 : decode cL_law 1006 = .ok (.invokestatic 137, 3) := by decide +kernel
theorem dL_law_1009 : decode cL_law 1009 = .ok (.istore 5, 2) := by decide +kernel
theorem dL_law_1011 : decode cL_law 1011 = .ok (.aload_n 2, 1) := by decide +kernel
theorem dL_law_1012 : decode cL_law 1012 = .ok (.aload_n 0, 1) := by decide +kernel
theorem dL_law_1013 : decode cL_law 1013 = .ok (.iload 4, 2) := by decide +kernel
theorem dL_law_1015 : decode cL_law 1015 = .ok (.iconst 1, 1) := by decide +kernel
theorem dL_law_1016 : decode cL_law 1016 = .ok (.iadd, 1) := by decide +kernel
theorem dL_law_1017 : decode cL_law 1017 = .ok (.iaload, 1) := by decide +kernel
theorem dL_law_1018 : decode cL_law 1018 = .ok (.aload_n 0, 1) := by decide +kernel
theorem dL_law_1019 : decode cL_law 1019 = .ok (.iload 4, 2) := by decide +kernel
theorem dL_law_1021 : decode cL_law 1021 = .ok (.iconst 2, 1) := by decide +kernel
theorem dL_law_1022 : decode cL_law 1022 = .ok (.iadd, 1) := by decide +kernel
theorem dL_law_1023 : decode cL_law 1023 = .ok (.iaload, 1) := by decide +kernel
theorem dL_law_1024 : decode cL_law 1024 = .ok (.aload_n 0, 1) := by decide +kernel
theorem dL_law_1025 : decode cL_law 1025 = .ok (.iload 4, 2) := by decide +kernel
theorem dL_law_1027 : decode cL_law 1027 = .ok (.iconst 3, 1) := by decide +kernel
theorem dL_law_1028 : decode cL_law 1028 = .ok (.iadd, 1) := by decide +kernel
theorem dL_law_1029 : decode cL_law 1029 = .ok (.iaload, 1) := by decide +kernel
theorem dL_law_1030 : decode cL_law 1030 = .ok (.invokevirtual 139, 3) := by decide +kernel
theorem dL_law_1033 : decode cL_law 1033 = .ok (.istore 6, 2) := by decide +kernel
theorem dL_law_1035 : decode cL_law 1035 = .ok (.aload_n 2, 1) := by decide +kernel
theorem dL_law_1036 : decode cL_law 1036 = .ok (.invokevirtual 95, 3) := by decide +kernel
theorem dL_law_1039 : decode cL_law 1039 = .ok (.iload 5, 2) := by decide +kernel
theorem dL_law_1041 : decode cL_law 1041 = .ok (.if_icmp .eq 5, 3) := by decide +kernel
theorem dL_law_1044 : decode cL_law 1044 = .ok (.iconst 0, 1) := by decide +kernel
theorem dL_law_1045 : decode cL_law 1045 = .ok (.ireturn, 1) := by decide +kernel
theorem dL_law_1046 : decode cL_law 1046 = .ok (.iload 5, 2) := by decide +kernel
theorem dL_law_1048 : decode cL_law 1048 = .ok (.ifCond .ne 15, 3) := by decide +kernel
theorem dL_law_1051 : decode cL_law 1051 = .ok (.aload_n 3, 1) := by decide +kernel
theorem dL_law_1052 : decode cL_law 1052 = .ok (.iconst 0, 1) := by decide +kernel
theorem dL_law_1053 : decode cL_law 1053 = .ok (.laload, 1) := by decide +kernel
theorem dL_law_1054 : decode cL_law 1054 = .ok (.iload 6, 2) := by decide +kernel
theorem dL_law_1056 : decode cL_law 1056 = .ok (.i2l, 1) := by decide +kernel
theorem dL_law_1057 : decode cL_law 1057 = .ok (.lcmp, 1) := by decide +kernel
theorem dL_law_1058 : decode cL_law 1058 = .ok (.ifCond .eq 5, 3) := by decide +kernel
theorem dL_law_1061 : decode cL_law 1061 = .ok (.iconst 0, 1) := by decide +kernel
theorem dL_law_1062 : decode cL_law 1062 = .ok (.ireturn, 1) := by decide +kernel
theorem dL_law_1063 : decode cL_law 1063 = .ok (.goto 641, 3) := by decide +kernel
theorem dL_law_1066 : decode cL_law 1066 = .ok (.aload_n 1, 1) := by decide +kernel
theorem dL_law_1067 : decode cL_law 1067 = .ok (.aload_n 0, 1) := by decide +kernel
theorem dL_law_1068 : decode cL_law 1068 = .ok (.iload 4, 2) := by decide +kernel
theorem dL_law_1070 : decode cL_law 1070 = .ok (.iconst 1, 1) := by decide +kernel
theorem dL_law_1071 : decode cL_law 1071 = .ok (.iadd, 1) := by decide +kernel
theorem dL_law_1072 : decode cL_law 1072 = .ok (.iaload, 1) := by decide +kernel
theorem dL_law_1073 : decode cL_law 1073 = .ok (.aload_n 0, 1) := by decide +kernel
theorem dL_law_1074 : decode cL_law 1074 = .ok (.iload 4, 2) := by decide +kernel
theorem dL_law_1076 : decode cL_law 1076 = .ok (.iconst 2, 1) := by decide +kernel
theorem dL_law_1077 : decode cL_law 1077 = .ok (.iadd, 1) := by decide +kernel
theorem dL_law_1078 : decode cL_law 1078 = .ok (.iaload, 1) := by decide +kernel
theorem dL_law_1079 : decode cL_law 1079 = .ok (.aload_n 0, 1) := by decide +kernel
theorem dL_law_1080 : decode cL_law 1080 = .ok (.iload 4, 2) := by decide +kernel
theorem dL_law_1082 : decode cL_law 1082 = .ok (.iconst 3, 1) := by decide +kernel
theorem dL_law_1083 : decode cL_law 1083 = .ok (.iadd, 1) := by decide +kernel
theorem dL_law_1084 : decode cL_law 1084 = .ok (.iaload, 1) := by decide +kernel
theorem dL_law_1085 : decode cL_law 1085 = .ok (.aload_n 0, 1) := by decide +kernel
theorem dL_law_1086 : decode cL_law 1086 = .ok (.iload 4, 2) := by decide +kernel
theorem dL_law_1088 : decode cL_law 1088 = .ok (.iconst 4, 1) := by decide +kernel
theorem dL_law_1089 : decode cL_law 1089 = .ok (.iadd, 1) := by decide +kernel
theorem dL_law_1090 : decode cL_law 1090 = .ok (.iaload, 1) := by decide +kernel
theorem dL_law_1091 : decode cL_law 1091 = .ok (.aload_n 3, 1) := by decide +kernel
theorem dL_law_1092 : decode cL_law 1092 = .ok (.invokestatic 140, 3) := by decide +kernel
theorem dL_law_1095 : decode cL_law 1095 = .ok (.istore 5, 2) := by decide +kernel
theorem dL_law_1097 : decode cL_law 1097 = .ok (.aload_n 2, 1) := by decide +kernel
theorem dL_law_1098 : decode cL_law 1098 = .ok (.aload_n 0, 1) := by decide +kernel
theorem dL_law_1099 : decode cL_law 1099 = .ok (.iload 4, 2) := by decide +kernel
theorem dL_law_1101 : decode cL_law 1101 = .ok (.iconst 1, 1) := by decide +kernel
theorem dL_law_1102 : decode cL_law 1102 = .ok (.iadd, 1) := by decide +kernel
theorem dL_law_1103 : decode cL_law 1103 = .ok (.iaload, 1) := by decide +kernel
theorem dL_law_1104 : decode cL_law 1104 = .ok (.aload_n 0, 1) := by decide +kernel
theorem dL_law_1105 : decode cL_law 1105 = .ok (.iload 4, 2) := by decide +kernel
theorem dL_law_1107 : decode cL_law 1107 = .ok (.iconst 2, 1) := by decide +kernel
theorem dL_law_1108 : decode cL_law 1108 = .ok (.iadd, 1) := by decide +kernel
theorem dL_law_1109 : decode cL_law 1109 = .ok (.iaload, 1) := by decide +kernel
theorem dL_law_1110 : decode cL_law 1110 = .ok (.aload_n 0, 1) := by decide +kernel
theorem dL_law_1111 : decode cL_law 1111 = .ok (.iload 4, 2) := by decide +kernel
theorem dL_law_1113 : decode cL_law 1113 = .ok (.iconst 3, 1) := by decide +kernel
theorem dL_law_1114 : decode cL_law 1114 = .ok (.iadd, 1) := by decide +kernel
theorem dL_law_1115 : decode cL_law 1115 = .ok (.iaload, 1) := by decide +kernel
theorem dL_law_1116 : decode cL_law 1116 = .ok (.aload_n 0, 1) := by decide +kernel
theorem dL_law_1117 : decode cL_law 1117 = .ok (.iload 4, 2) := by decide +kernel
theorem dL_law_1119 : decode cL_law 1119 = .ok (.iconst 4, 1) := by decide +kernel
theorem dL_law_1120 : decode cL_law 1120 = .ok (.iadd, 1) := by decide +kernel
theorem dL_law_1121 : decode cL_law 1121 = .ok (.iaload, 1) := by decide +kernel
theorem dL_law_1122 : decode cL_law 1122 = .ok (.invokevirtual 142, 3) := by decide +kernel
theorem dL_law_1125 : decode cL_law 1125 = .ok (.istore 6, 2) := by decide +kernel
theorem dL_law_1127 : decode cL_law 1127 = .ok (.aload_n 2, 1) := by decide +kernel
theorem dL_law_1128 : decode cL_law 1128 = .ok (.invokevirtual 95, 3) := by decide +kernel
theorem dL_law_1131 : decode cL_law 1131 = .ok (.iload 5, 2) := by decide +kernel
theorem dL_law_1133 : decode cL_law 1133 = .ok (.if_icmp .eq 5, 3) := by decide +kernel
theorem dL_law_1136 : decode cL_law 1136 = .ok (.iconst 0, 1) := by decide +kernel
theorem dL_law_1137 : decode cL_law 1137 = .ok (.ireturn, 1) := by decide +kernel
theorem dL_law_1138 : decode cL_law 1138 = .ok (.iload 5, 2) := by decide +kernel
theorem dL_law_1140 : decode cL_law 1140 = .ok (.ifCond .ne 15, 3) := by decide +kernel
theorem dL_law_1143 : decode cL_law 1143 = .ok (.aload_n 3, 1) := by decide +kernel
theorem dL_law_1144 : decode cL_law 1144 = .ok (.iconst 0, 1) := by decide +kernel
theorem dL_law_1145 : decode cL_law 1145 = .ok (.laload, 1) := by decide +kernel
theorem dL_law_1146 : decode cL_law 1146 = .ok (.iload 6, 2) := by decide +kernel
theorem dL_law_1148 : decode cL_law 1148 = .ok (.i2l, 1) := by decide +kernel
theorem dL_law_1149 : decode cL_law 1149 = .ok (.lcmp, 1) := by decide +kernel
theorem dL_law_1150 : decode cL_law 1150 = .ok (.ifCond .eq 5, 3) := by decide +kernel
theorem dL_law_1153 : decode cL_law 1153 = .ok (.iconst 0, 1) := by decide +kernel
theorem dL_law_1154 : decode cL_law 1154 = .ok (.ireturn, 1) := by decide +kernel
theorem dL_law_1155 : decode cL_law 1155 = .ok (.goto 549, 3) := by decide +kernel
theorem dL_law_1158 : decode cL_law 1158 = .ok (.aload_n 1, 1) := by decide +kernel
theorem dL_law_1159 : decode cL_law 1159 = .ok (.aload_n 0, 1) := by decide +kernel
theorem dL_law_1160 : decode cL_law 1160 = .ok (.iload 4, 2) := by decide +kernel
theorem dL_law_1162 : decode cL_law 1162 = .ok (.iconst 1, 1) := by decide +kernel
theorem dL_law_1163 : decode cL_law 1163 = .ok (.iadd, 1) := by decide +kernel
theorem dL_law_1164 : decode cL_law 1164 = .ok (.iaload, 1) := by decide +kernel
theorem dL_law_1165 : decode cL_law 1165 = .ok (.aload_n 0, 1) := by decide +kernel
theorem dL_law_1166 : decode cL_law 1166 = .ok (.iload 4, 2) := by decide +kernel
theorem dL_law_1168 : decode cL_law 1168 = .ok (.iconst 2, 1) := by decide +kernel
theorem dL_law_1169 : decode cL_law 1169 = .ok (.iadd, 1) := by decide +kernel
theorem dL_law_1170 : decode cL_law 1170 = .ok (.iaload, 1) := by decide +kernel
theorem dL_law_1171 : decode cL_law 1171 = .ok (.aload_n 0, 1) := by decide +kernel
theorem dL_law_1172 : decode cL_law 1172 = .ok (.iload 4, 2) := by decide +kernel
theorem dL_law_1174 : decode cL_law 1174 = .ok (.iconst 3, 1) := by decide +kernel
theorem dL_law_1175 : decode cL_law 1175 = .ok (.iadd, 1) := by decide +kernel
theorem dL_law_1176 : decode cL_law 1176 = .ok (.iaload, 1) := by decide +kernel
theorem dL_law_1177 : decode cL_law 1177 = .ok (.aload_n 3, 1) := by decide +kernel
theorem dL_law_1178 : decode cL_law 1178 = .ok (.invokestatic 143, 3) := by decide +kernel
theorem dL_law_1181 : decode cL_law 1181 = .ok (.istore 5, 2) := by decide +kernel
theorem dL_law_1183 : decode cL_law 1183 = .ok (.aload_n 2, 1) := by decide +kernel
theorem dL_law_1184 : decode cL_law 1184 = .ok (.aload_n 0, 1) := by decide +kernel
theorem dL_law_1185 : decode cL_law 1185 = .ok (.iload 4, 2) := by decide +kernel
theorem dL_law_1187 : decode cL_law 1187 = .ok (.iconst 1, 1) := by decide +kernel
theorem dL_law_1188 : decode cL_law 1188 = .ok (.iadd, 1) := by decide +kernel
theorem dL_law_1189 : decode cL_law 1189 = .ok (.iaload, 1) := by decide +kernel
theorem dL_law_1190 : decode cL_law 1190 = .ok (.aload_n 0, 1) := by decide +kernel
theorem dL_law_1191 : decode cL_law 1191 = .ok (.iload 4, 2) := by decide +kernel
theorem dL_law_1193 : decode cL_law 1193 = .ok (.iconst 2, 1) := by decide +kernel
theorem dL_law_1194 : decode cL_law 1194 = .ok (.iadd, 1) := by decide +kernel
theorem dL_law_1195 : decode cL_law 1195 = .ok (.iaload, 1) := by decide +kernel
theorem dL_law_1196 : decode cL_law 1196 = .ok (.aload_n 0, 1) := by decide +kernel
theorem dL_law_1197 : decode cL_law 1197 = .ok (.iload 4, 2) := by decide +kernel
theorem dL_law_1199 : decode cL_law 1199 = .ok (.iconst 3, 1) := by decide +kernel
theorem dL_law_1200 : decode cL_law 1200 = .ok (.iadd, 1) := by decide +kernel
theorem dL_law_1201 : decode cL_law 1201 = .ok (.iaload, 1) := by decide +kernel
theorem dL_law_1202 : decode cL_law 1202 = .ok (.invokevirtual 145, 3) := by decide +kernel
theorem dL_law_1205 : decode cL_law 1205 = .ok (.istore 6, 2) := by decide +kernel
theorem dL_law_1207 : decode cL_law 1207 = .ok (.aload_n 2, 1) := by decide +kernel
theorem dL_law_1208 : decode cL_law 1208 = .ok (.invokevirtual 95, 3) := by decide +kernel
theorem dL_law_1211 : decode cL_law 1211 = .ok (.iload 5, 2) := by decide +kernel
theorem dL_law_1213 : decode cL_law 1213 = .ok (.if_icmp .eq 5, 3) := by decide +kernel
theorem dL_law_1216 : decode cL_law 1216 = .ok (.iconst 0, 1) := by decide +kernel
theorem dL_law_1217 : decode cL_law 1217 = .ok (.ireturn, 1) := by decide +kernel
theorem dL_law_1218 : decode cL_law 1218 = .ok (.iload 5, 2) := by decide +kernel
theorem dL_law_1220 : decode cL_law 1220 = .ok (.ifCond .ne 15, 3) := by decide +kernel
theorem dL_law_1223 : decode cL_law 1223 = .ok (.aload_n 3, 1) := by decide +kernel
theorem dL_law_1224 : decode cL_law 1224 = .ok (.iconst 0, 1) := by decide +kernel
theorem dL_law_1225 : decode cL_law 1225 = .ok (.laload, 1) := by decide +kernel
theorem dL_law_1226 : decode cL_law 1226 = .ok (.iload 6, 2) := by decide +kernel
theorem dL_law_1228 : decode cL_law 1228 = .ok (.i2l, 1) := by decide +kernel
theorem dL_law_1229 : decode cL_law 1229 = .ok (.lcmp, 1) := by decide +kernel
theorem dL_law_1230 : decode cL_law 1230 = .ok (.ifCond .eq 5, 3) := by decide +kernel
theorem dL_law_1233 : decode cL_law 1233 = .ok (.iconst 0, 1) := by decide +kernel
theorem dL_law_1234 : decode cL_law 1234 = .ok (.ireturn, 1) := by decide +kernel
theorem dL_law_1235 : decode cL_law 1235 = .ok (.goto 469, 3) := by decide +kernel
theorem dL_law_1238 : decode cL_law 1238 = .ok (.aload_n 1, 1) := by decide +kernel
theorem dL_law_1239 : decode cL_law 1239 = .ok (.aload_n 0, 1) := by decide +kernel
theorem dL_law_1240 : decode cL_law 1240 = .ok (.iload 4, 2) := by decide +kernel
theorem dL_law_1242 : decode cL_law 1242 = .ok (.iconst 1, 1) := by decide +kernel
theorem dL_law_1243 : decode cL_law 1243 = .ok (.iadd, 1) := by decide +kernel
theorem dL_law_1244 : decode cL_law 1244 = .ok (.iaload, 1) := by decide +kernel
theorem dL_law_1245 : decode cL_law 1245 = .ok (.aload_n 0, 1) := by decide +kernel
theorem dL_law_1246 : decode cL_law 1246 = .ok (.iload 4, 2) := by decide +kernel
theorem dL_law_1248 : decode cL_law 1248 = .ok (.iconst 2, 1) := by decide +kernel
theorem dL_law_1249 : decode cL_law 1249 = .ok (.iadd, 1) := by decide +kernel
theorem dL_law_1250 : decode cL_law 1250 = .ok (.iaload, 1) := by decide +kernel
theorem dL_law_1251 : decode cL_law 1251 = .ok (.aload_n 3, 1) := by decide +kernel
theorem dL_law_1252 : decode cL_law 1252 = .ok (.invokestatic 146, 3) := by decide +kernel
theorem dL_law_1255 : decode cL_law 1255 = .ok (.istore 5, 2) := by decide +kernel
theorem dL_law_1257 : decode cL_law 1257 = .ok (.aload_n 2, 1) := by decide +kernel
theorem dL_law_1258 : decode cL_law 1258 = .ok (.aload_n 0, 1) := by decide +kernel
theorem dL_law_1259 : decode cL_law 1259 = .ok (.iload 4, 2) := by decide +kernel
theorem dL_law_1261 : decode cL_law 1261 = .ok (.iconst 1, 1) := by decide +kernel
theorem dL_law_1262 : decode cL_law 1262 = .ok (.iadd, 1) := by decide +kernel
theorem dL_law_1263 : decode cL_law 1263 = .ok (.iaload, 1) := by decide +kernel
theorem dL_law_1264 : decode cL_law 1264 = .ok (.aload_n 0, 1) := by decide +kernel
theorem dL_law_1265 : decode cL_law 1265 = .ok (.iload 4, 2) := by decide +kernel
theorem dL_law_1267 : decode cL_law 1267 = .ok (.iconst 2, 1) := by decide +kernel
theorem dL_law_1268 : decode cL_law 1268 = .ok (.iadd, 1) := by decide +kernel
theorem dL_law_1269 : decode cL_law 1269 = .ok (.iaload, 1) := by decide +kernel
theorem dL_law_1270 : decode cL_law 1270 = .ok (.invokevirtual 148, 3) := by decide +kernel
theorem dL_law_1273 : decode cL_law 1273 = .ok (.istore 6, 2) := by decide +kernel
theorem dL_law_1275 : decode cL_law 1275 = .ok (.aload_n 2, 1) := by decide +kernel
theorem dL_law_1276 : decode cL_law 1276 = .ok (.invokevirtual 95, 3) := by decide +kernel
theorem dL_law_1279 : decode cL_law 1279 = .ok (.iload 5, 2) := by decide +kernel
theorem dL_law_1281 : decode cL_law 1281 = .ok (.if_icmp .eq 5, 3) := by decide +kernel
theorem dL_law_1284 : decode cL_law 1284 = .ok (.iconst 0, 1) := by decide +kernel
theorem dL_law_1285 : decode cL_law 1285 = .ok (.ireturn, 1) := by decide +kernel
theorem dL_law_1286 : decode cL_law 1286 = .ok (.iload 5, 2) := by decide +kernel
theorem dL_law_1288 : decode cL_law 1288 = .ok (.ifCond .ne 15, 3) := by decide +kernel
theorem dL_law_1291 : decode cL_law 1291 = .ok (.aload_n 3, 1) := by decide +kernel
theorem dL_law_1292 : decode cL_law 1292 = .ok (.iconst 0, 1) := by decide +kernel
theorem dL_law_1293 : decode cL_law 1293 = .ok (.laload, 1) := by decide +kernel
theorem dL_law_1294 : decode cL_law 1294 = .ok (.iload 6, 2) := by decide +kernel
theorem dL_law_1296 : decode cL_law 1296 = .ok (.i2l, 1) := by decide +kernel
theorem dL_law_1297 : decode cL_law 1297 = .ok (.lcmp, 1) := by decide +kernel
theorem dL_law_1298 : decode cL_law 1298 = .ok (.ifCond .eq 5, 3) := by decide +kernel
theorem dL_law_1301 : decode cL_law 1301 = .ok (.iconst 0, 1) := by decide +kernel
theorem dL_law_1302 : decode cL_law 1302 = .ok (.ireturn, 1) := by decide +kernel
theorem dL_law_1303 : decode cL_law 1303 = .ok (.goto 401, 3) := by decide +kernel
theorem dL_law_1306 : decode cL_law 1306 = .ok (.aload_n 1, 1) := by decide +kernel
theorem dL_law_1307 : decode cL_law 1307 = .ok (.aload_n 0, 1) := by decide +kernel
theorem dL_law_1308 : decode cL_law 1308 = .ok (.iload 4, 2) := by decide +kernel
theorem dL_law_1310 : decode cL_law 1310 = .ok (.iconst 1, 1) := by decide +kernel
theorem dL_law_1311 : decode cL_law 1311 = .ok (.iadd, 1) := by decide +kernel
theorem dL_law_1312 : decode cL_law 1312 = .ok (.iaload, 1) := by decide +kernel
theorem dL_law_1313 : decode cL_law 1313 = .ok (.aload_n 0, 1) := by decide +kernel
theorem dL_law_1314 : decode cL_law 1314 = .ok (.iload 4, 2) := by decide +kernel
theorem dL_law_1316 : decode cL_law 1316 = .ok (.iconst 2, 1) := by decide +kernel
theorem dL_law_1317 : decode cL_law 1317 = .ok (.iadd, 1) := by decide +kernel
theorem dL_law_1318 : decode cL_law 1318 = .ok (.iaload, 1) := by decide +kernel
theorem dL_law_1319 : decode cL_law 1319 = .ok (.aload_n 3, 1) := by decide +kernel
theorem dL_law_1320 : decode cL_law 1320 = .ok (.invokestatic 149, 3) := by decide +kernel
theorem dL_law_1323 : decode cL_law 1323 = .ok (.istore 5, 2) := by decide +kernel
theorem dL_law_1325 : decode cL_law 1325 = .ok (.aload_n 2, 1) := by decide +kernel
theorem dL_law_1326 : decode cL_law 1326 = .ok (.aload_n 0, 1) := by decide +kernel
theorem dL_law_1327 : decode cL_law 1327 = .ok (.iload 4, 2) := by decide +kernel
theorem dL_law_1329 : decode cL_law 1329 = .ok (.iconst 1, 1) := by decide +kernel
theorem dL_law_1330 : decode cL_law 1330 = .ok (.iadd, 1) := by decide +kernel
theorem dL_law_1331 : decode cL_law 1331 = .ok (.iaload, 1) := by decide +kernel
theorem dL_law_1332 : decode cL_law 1332 = .ok (.aload_n 0, 1) := by decide +kernel
theorem dL_law_1333 : decode cL_law 1333 = .ok (.iload 4, 2) := by decide +kernel
theorem dL_law_1335 : decode cL_law 1335 = .ok (.iconst 2, 1) := by decide +kernel
theorem dL_law_1336 : decode cL_law 1336 = .ok (.iadd, 1) := by decide +kernel
theorem dL_law_1337 : decode cL_law 1337 = .ok (.iaload, 1) := by decide +kernel
theorem dL_law_1338 : decode cL_law 1338 = .ok (.invokevirtual 151, 3) := by decide +kernel
theorem dL_law_1341 : decode cL_law 1341 = .ok (.istore 6, 2) := by decide +kernel
theorem dL_law_1343 : decode cL_law 1343 = .ok (.aload_n 2, 1) := by decide +kernel
theorem dL_law_1344 : decode cL_law 1344 = .ok (.invokevirtual 95, 3) := by decide +kernel
theorem dL_law_1347 : decode cL_law 1347 = .ok (.iload 5, 2) := by decide +kernel
theorem dL_law_1349 : decode cL_law 1349 = .ok (.if_icmp .eq 5, 3) := by decide +kernel
theorem dL_law_1352 : decode cL_law 1352 = .ok (.iconst 0, 1) := by decide +kernel
theorem dL_law_1353 : decode cL_law 1353 = .ok (.ireturn, 1) := by decide +kernel
theorem dL_law_1354 : decode cL_law 1354 = .ok (.iload 5, 2) := by decide +kernel
theorem dL_law_1356 : decode cL_law 1356 = .ok (.ifCond .ne 15, 3) := by decide +kernel
theorem dL_law_1359 : decode cL_law 1359 = .ok (.aload_n 3, 1) := by decide +kernel
theorem dL_law_1360 : decode cL_law 1360 = .ok (.iconst 0, 1) := by decide +kernel
theorem dL_law_1361 : decode cL_law 1361 = .ok (.laload, 1) := by decide +kernel
theorem dL_law_1362 : decode cL_law 1362 = .ok (.iload 6, 2) := by decide +kernel
theorem dL_law_1364 : decode cL_law 1364 = .ok (.i2l, 1) := by decide +kernel
theorem dL_law_1365 : decode cL_law 1365 = .ok (.lcmp, 1) := by decide +kernel
theorem dL_law_1366 : decode cL_law 1366 = .ok (.ifCond .eq 5, 3) := by decide +kernel
theorem dL_law_1369 : decode cL_law 1369 = .ok (.iconst 0, 1) := by decide +kernel
theorem dL_law_1370 : decode cL_law 1370 = .ok (.ireturn, 1) := by decide +kernel
theorem dL_law_1371 : decode cL_law 1371 = .ok (.goto 333, 3) := by decide +kernel
theorem dL_law_1374 : decode cL_law 1374 = .ok (.aload_n 1, 1) := by decide +kernel
theorem dL_law_1375 : decode cL_law 1375 = .ok (.aload_n 0, 1) := by decide +kernel
theorem dL_law_1376 : decode cL_law 1376 = .ok (.iload 4, 2) := by decide +kernel
theorem dL_law_1378 : decode cL_law 1378 = .ok (.iconst 1, 1) := by decide +kernel
theorem dL_law_1379 : decode cL_law 1379 = .ok (.iadd, 1) := by decide +kernel
theorem dL_law_1380 : decode cL_law 1380 = .ok (.iaload, 1) := by decide +kernel
theorem dL_law_1381 : decode cL_law 1381 = .ok (.aload_n 0, 1) := by decide +kernel
theorem dL_law_1382 : decode cL_law 1382 = .ok (.iload 4, 2) := by decide +kernel
theorem dL_law_1384 : decode cL_law 1384 = .ok (.iconst 2, 1) := by decide +kernel
theorem dL_law_1385 : decode cL_law 1385 = .ok (.iadd, 1) := by decide +kernel
theorem dL_law_1386 : decode cL_law 1386 = .ok (.iaload, 1) := by decide +kernel
theorem dL_law_1387 : decode cL_law 1387 = .ok (.aload_n 3, 1) := by decide +kernel
theorem dL_law_1388 : decode cL_law 1388 = .ok (.invokestatic 152, 3) := by decide +kernel
theorem dL_law_1391 : decode cL_law 1391 = .ok (.istore 5, 2) := by decide +kernel
theorem dL_law_1393 : decode cL_law 1393 = .ok (.aload_n 2, 1) := by decide +kernel
theorem dL_law_1394 : decode cL_law 1394 = .ok (.aload_n 0, 1) := by decide +kernel
theorem dL_law_1395 : decode cL_law 1395 = .ok (.iload 4, 2) := by decide +kernel
theorem dL_law_1397 : decode cL_law 1397 = .ok (.iconst 1, 1) := by decide +kernel
theorem dL_law_1398 : decode cL_law 1398 = .ok (.iadd, 1) := by decide +kernel
theorem dL_law_1399 : decode cL_law 1399 = .ok (.iaload, 1) := by decide +kernel
theorem dL_law_1400 : decode cL_law 1400 = .ok (.aload_n 0, 1) := by decide +kernel
theorem dL_law_1401 : decode cL_law 1401 = .ok (.iload 4, 2) := by decide +kernel
theorem dL_law_1403 : decode cL_law 1403 = .ok (.iconst 2, 1) := by decide +kernel
theorem dL_law_1404 : decode cL_law 1404 = .ok (.iadd, 1) := by decide +kernel
theorem dL_law_1405 : decode cL_law 1405 = .ok (.iaload, 1) := by decide +kernel
theorem dL_law_1406 : decode cL_law 1406 = .ok (.invokevirtual 154, 3) := by decide +kernel
theorem dL_law_1409 : decode cL_law 1409 = .ok (.istore 6, 2) := by decide +kernel
theorem dL_law_1411 : decode cL_law 1411 = .ok (.aload_n 2, 1) := by decide +kernel
theorem dL_law_1412 : decode cL_law 1412 = .ok (.invokevirtual 95, 3) := by decide +kernel
theorem dL_law_1415 : decode cL_law 1415 = .ok (.iload 5, 2) := by decide +kernel
theorem dL_law_1417 : decode cL_law 1417 = .ok (.if_icmp .eq 5, 3) := by decide +kernel
theorem dL_law_1420 : decode cL_law 1420 = .ok (.iconst 0, 1) := by decide +kernel
theorem dL_law_1421 : decode cL_law 1421 = .ok (.ireturn, 1) := by decide +kernel
theorem dL_law_1422 : decode cL_law 1422 = .ok (.iload 5, 2) := by decide +kernel
theorem dL_law_1424 : decode cL_law 1424 = .ok (.ifCond .ne 15, 3) := by decide +kernel
theorem dL_law_1427 : decode cL_law 1427 = .ok (.aload_n 3, 1) := by decide +kernel
theorem dL_law_1428 : decode cL_law 1428 = .ok (.iconst 0, 1) := by decide +kernel
theorem dL_law_1429 : decode cL_law 1429 = .ok (.laload, 1) := by decide +kernel
theorem dL_law_1430 : decode cL_law 1430 = .ok (.iload 6, 2) := by decide +kernel
theorem dL_law_1432 : decode cL_law 1432 = .ok (.i2l, 1) := by decide +kernel
theorem dL_law_1433 : decode cL_law 1433 = .ok (.lcmp, 1) := by decide +kernel
theorem dL_law_1434 : decode cL_law 1434 = .ok (.ifCond .eq 5, 3) := by decide +kernel
theorem dL_law_1437 : decode cL_law 1437 = .ok (.iconst 0, 1) := by decide +kernel
theorem dL_law_1438 : decode cL_law 1438 = .ok (.ireturn, 1) := by decide +kernel
theorem dL_law_1439 : decode cL_law 1439 = .ok (.goto 265, 3) := by decide +kernel
theorem dL_law_1442 : decode cL_law 1442 = .ok (.aload_n 1, 1) := by decide +kernel
theorem dL_law_1443 : decode cL_law 1443 = .ok (.aload_n 0, 1) := by decide +kernel
theorem dL_law_1444 : decode cL_law 1444 = .ok (.iload 4, 2) := by decide +kernel
theorem dL_law_1446 : decode cL_law 1446 = .ok (.iconst 1, 1) := by decide +kernel
theorem dL_law_1447 : decode cL_law 1447 = .ok (.iadd, 1) := by decide +kernel
theorem dL_law_1448 : decode cL_law 1448 = .ok (.iaload, 1) := by decide +kernel
theorem dL_law_1449 : decode cL_law 1449 = .ok (.aload_n 0, 1) := by decide +kernel
theorem dL_law_1450 : decode cL_law 1450 = .ok (.iload 4, 2) := by decide +kernel
theorem dL_law_1452 : decode cL_law 1452 = .ok (.iconst 2, 1) := by decide +kernel
theorem dL_law_1453 : decode cL_law 1453 = .ok (.iadd, 1) := by decide +kernel
theorem dL_law_1454 : decode cL_law 1454 = .ok (.iaload, 1) := by decide +kernel
theorem dL_law_1455 : decode cL_law 1455 = .ok (.aload_n 0, 1) := by decide +kernel
theorem dL_law_1456 : decode cL_law 1456 = .ok (.iload 4, 2) := by decide +kernel
theorem dL_law_1458 : decode cL_law 1458 = .ok (.iconst 3, 1) := by decide +kernel
theorem dL_law_1459 : decode cL_law 1459 = .ok (.iadd, 1) := by decide +kernel
theorem dL_law_1460 : decode cL_law 1460 = .ok (.iaload, 1) := by decide +kernel
theorem dL_law_1461 : decode cL_law 1461 = .ok (.aload_n 0, 1) := by decide +kernel
theorem dL_law_1462 : decode cL_law 1462 = .ok (.iload 4, 2) := by decide +kernel
theorem dL_law_1464 : decode cL_law 1464 = .ok (.iconst 4, 1) := by decide +kernel
theorem dL_law_1465 : decode cL_law 1465 = .ok (.iadd, 1) := by decide +kernel
theorem dL_law_1466 : decode cL_law 1466 = .ok (.iaload, 1) := by decide +kernel
theorem dL_law_1467 : decode cL_law 1467 = .ok (.aload_n 3, 1) := by decide +kernel
theorem dL_law_1468 : decode cL_law 1468 = .ok (.invokestatic 155, 3) := by decide +kernel
theorem dL_law_1471 : decode cL_law 1471 = .ok (.istore 5, 2) := by decide +kernel
theorem dL_law_1473 : decode cL_law 1473 = .ok (.aload_n 2, 1) := by decide +kernel
theorem dL_law_1474 : decode cL_law 1474 = .ok (.aload_n 0, 1) := by decide +kernel
theorem dL_law_1475 : decode cL_law 1475 = .ok (.iload 4, 2) := by decide +kernel
theorem dL_law_1477 : decode cL_law 1477 = .ok (.iconst 1, 1) := by decide +kernel
theorem dL_law_1478 : decode cL_law 1478 = .ok (.iadd, 1) := by decide +kernel
theorem dL_law_1479 : decode cL_law 1479 = .ok (.iaload, 1) := by decide +kernel
theorem dL_law_1480 : decode cL_law 1480 = .ok (.aload_n 0, 1) := by decide +kernel
theorem dL_law_1481 : decode cL_law 1481 = .ok (.iload 4, 2) := by decide +kernel
theorem dL_law_1483 : decode cL_law 1483 = .ok (.iconst 2, 1) := by decide +kernel
theorem dL_law_1484 : decode cL_law 1484 = .ok (.iadd, 1) := by decide +kernel
theorem dL_law_1485 : decode cL_law 1485 = .ok (.iaload, 1) := by decide +kernel
theorem dL_law_1486 : decode cL_law 1486 = .ok (.aload_n 0, 1) := by decide +kernel
theorem dL_law_1487 : decode cL_law 1487 = .ok (.iload 4, 2) := by decide +kernel
theorem dL_law_1489 : decode cL_law 1489 = .ok (.iconst 3, 1) := by decide +kernel
theorem dL_law_1490 : decode cL_law 1490 = .ok (.iadd, 1) := by decide +kernel
theorem dL_law_1491 : decode cL_law 1491 = .ok (.iaload, 1) := by decide +kernel
theorem dL_law_1492 : decode cL_law 1492 = .ok (.aload_n 0, 1) := by decide +kernel
theorem dL_law_1493 : decode cL_law 1493 = .ok (.iload 4, 2) := by decide +kernel
theorem dL_law_1495 : decode cL_law 1495 = .ok (.iconst 4, 1) := by decide +kernel
theorem dL_law_1496 : decode cL_law 1496 = .ok (.iadd, 1) := by decide +kernel
theorem dL_law_1497 : decode cL_law 1497 = .ok (.iaload, 1) := by decide +kernel
theorem dL_law_1498 : decode cL_law 1498 = .ok (.invokevirtual 157, 3) := by decide +kernel
theorem dL_law_1501 : decode cL_law 1501 = .ok (.istore 6, 2) := by decide +kernel
theorem dL_law_1503 : decode cL_law 1503 = .ok (.aload_n 2, 1) := by decide +kernel
theorem dL_law_1504 : decode cL_law 1504 = .ok (.invokevirtual 95, 3) := by decide +kernel
theorem dL_law_1507 : decode cL_law 1507 = .ok (.iload 5, 2) := by decide +kernel
theorem dL_law_1509 : decode cL_law 1509 = .ok (.if_icmp .eq 5, 3) := by decide +kernel
theorem dL_law_1512 : decode cL_law 1512 = .ok (.iconst 0, 1) := by decide +kernel
theorem dL_law_1513 : decode cL_law 1513 = .ok (.ireturn, 1) := by decide +kernel
theorem dL_law_1514 : decode cL_law 1514 = .ok (.iload 5, 2) := by decide +kernel
theorem dL_law_1516 : decode cL_law 1516 = .ok (.ifCond .ne 15, 3) := by decide +kernel
theorem dL_law_1519 : decode cL_law 1519 = .ok (.aload_n 3, 1) := by decide +kernel
theorem dL_law_1520 : decode cL_law 1520 = .ok (.iconst 0, 1) := by decide +kernel
theorem dL_law_1521 : decode cL_law 1521 = .ok (.laload, 1) := by decide +kernel
theorem dL_law_1522 : decode cL_law 1522 = .ok (.iload 6, 2) := by decide +kernel
theorem dL_law_1524 : decode cL_law 1524 = .ok (.i2l, 1) := by decide +kernel
theorem dL_law_1525 : decode cL_law 1525 = .ok (.lcmp, 1) := by decide +kernel
theorem dL_law_1526 : decode cL_law 1526 = .ok (.ifCond .eq 5, 3) := by decide +kernel
theorem dL_law_1529 : decode cL_law 1529 = .ok (.iconst 0, 1) := by decide +kernel
theorem dL_law_1530 : decode cL_law 1530 = .ok (.ireturn, 1) := by decide +kernel
theorem dL_law_1531 : decode cL_law 1531 = .ok (.goto 173, 3) := by decide +kernel
theorem dL_law_1534 : decode cL_law 1534 = .ok (.aload_n 1, 1) := by decide +kernel
theorem dL_law_1535 : decode cL_law 1535 = .ok (.aload_n 0, 1) := by decide +kernel
theorem dL_law_1536 : decode cL_law 1536 = .ok (.iload 4, 2) := by decide +kernel
theorem dL_law_1538 : decode cL_law 1538 = .ok (.iconst 1, 1) := by decide +kernel
theorem dL_law_1539 : decode cL_law 1539 = .ok (.iadd, 1) := by decide +kernel
theorem dL_law_1540 : decode cL_law 1540 = .ok (.iaload, 1) := by decide +kernel
theorem dL_law_1541 : decode cL_law 1541 = .ok (.aload_n 0, 1) := by decide +kernel
theorem dL_law_1542 : decode cL_law 1542 = .ok (.iload 4, 2) := by decide +kernel
theorem dL_law_1544 : decode cL_law 1544 = .ok (.iconst 2, 1) := by decide +kernel
theorem dL_law_1545 : decode cL_law 1545 = .ok (.iadd, 1) := by decide +kernel
theorem dL_law_1546 : decode cL_law 1546 = .ok (.iaload, 1) := by decide +kernel
theorem dL_law_1547 : decode cL_law 1547 = .ok (.aload_n 0, 1) := by decide +kernel
theorem dL_law_1548 : decode cL_law 1548 = .ok (.iload 4, 2) := by decide +kernel
theorem dL_law_1550 : decode cL_law 1550 = .ok (.iconst 3, 1) := by decide +kernel
theorem dL_law_1551 : decode cL_law 1551 = .ok (.iadd, 1) := by decide +kernel
theorem dL_law_1552 : decode cL_law 1552 = .ok (.iaload, 1) := by decide +kernel
theorem dL_law_1553 : decode cL_law 1553 = .ok (.aload_n 3, 1) := by decide +kernel
theorem dL_law_1554 : decode cL_law 1554 = .ok (.invokestatic 158, 3) := by decide +kernel
theorem dL_law_1557 : decode cL_law 1557 = .ok (.istore 5, 2) := by decide +kernel
theorem dL_law_1559 : decode cL_law 1559 = .ok (.aload_n 2, 1) := by decide +kernel
theorem dL_law_1560 : decode cL_law 1560 = .ok (.aload_n 0, 1) := by decide +kernel
theorem dL_law_1561 : decode cL_law 1561 = .ok (.iload 4, 2) := by decide +kernel
theorem dL_law_1563 : decode cL_law 1563 = .ok (.iconst 1, 1) := by decide +kernel
theorem dL_law_1564 : decode cL_law 1564 = .ok (.iadd, 1) := by decide +kernel
theorem dL_law_1565 : decode cL_law 1565 = .ok (.iaload, 1) := by decide +kernel
theorem dL_law_1566 : decode cL_law 1566 = .ok (.aload_n 0, 1) := by decide +kernel
theorem dL_law_1567 : decode cL_law 1567 = .ok (.iload 4, 2) := by decide +kernel
theorem dL_law_1569 : decode cL_law 1569 = .ok (.iconst 2, 1) := by decide +kernel
theorem dL_law_1570 : decode cL_law 1570 = .ok (.iadd, 1) := by decide +kernel
theorem dL_law_1571 : decode cL_law 1571 = .ok (.iaload, 1) := by decide +kernel
theorem dL_law_1572 : decode cL_law 1572 = .ok (.aload_n 0, 1) := by decide +kernel
theorem dL_law_1573 : decode cL_law 1573 = .ok (.iload 4, 2) := by decide +kernel
theorem dL_law_1575 : decode cL_law 1575 = .ok (.iconst 3, 1) := by decide +kernel
theorem dL_law_1576 : decode cL_law 1576 = .ok (.iadd, 1) := by decide +kernel
theorem dL_law_1577 : decode cL_law 1577 = .ok (.iaload, 1) := by decide +kernel
theorem dL_law_1578 : decode cL_law 1578 = .ok (.invokevirtual 160, 3) := by decide +kernel
theorem dL_law_1581 : decode cL_law 1581 = .ok (.istore 6, 2) := by decide +kernel
theorem dL_law_1583 : decode cL_law 1583 = .ok (.aload_n 2, 1) := by decide +kernel
theorem dL_law_1584 : decode cL_law 1584 = .ok (.invokevirtual 95, 3) := by decide +kernel
theorem dL_law_1587 : decode cL_law 1587 = .ok (.iload 5, 2) := by decide +kernel
theorem dL_law_1589 : decode cL_law 1589 = .ok (.if_icmp .eq 5, 3) := by decide +kernel
theorem dL_law_1592 : decode cL_law 1592 = .ok (.iconst 0, 1) := by decide +kernel
theorem dL_law_1593 : decode cL_law 1593 = .ok (.ireturn, 1) := by decide +kernel
theorem dL_law_1594 : decode cL_law 1594 = .ok (.iload 5, 2) := by decide +kernel
theorem dL_law_1596 : decode cL_law 1596 = .ok (.ifCond .ne 15, 3) := by decide +kernel
theorem dL_law_1599 : decode cL_law 1599 = .ok (.aload_n 3, 1) := by decide +kernel
theorem dL_law_1600 : decode cL_law 1600 = .ok (.iconst 0, 1) := by decide +kernel
theorem dL_law_1601 : decode cL_law 1601 = .ok (.laload, 1) := by decide +kernel
theorem dL_law_1602 : decode cL_law 1602 = .ok (.iload 6, 2) := by decide +kernel
theorem dL_law_1604 : decode cL_law 1604 = .ok (.i2l, 1) := by decide +kernel
theorem dL_law_1605 : decode cL_law 1605 = .ok (.lcmp, 1) := by decide +kernel
theorem dL_law_1606 : decode cL_law 1606 = .ok (.ifCond .eq 5, 3) := by decide +kernel
theorem dL_law_1609 : decode cL_law 1609 = .ok (.iconst 0, 1) := by decide +kernel
theorem dL_law_1610 : decode cL_law 1610 = .ok (.ireturn, 1) := by decide +kernel
theorem dL_law_1611 : decode cL_law 1611 = .ok (.goto 93, 3) := by decide +kernel
theorem dL_law_1614 : decode cL_law 1614 = .ok (.aload_n 1, 1) := by decide +kernel
theorem dL_law_1615 : decode cL_law 1615 = .ok (.aload_n 0, 1) := by decide +kernel
theorem dL_law_1616 : decode cL_law 1616 = .ok (.iload 4, 2) := by decide +kernel
theorem dL_law_1618 : decode cL_law 1618 = .ok (.iconst 1, 1) := by decide +kernel
theorem dL_law_1619 : decode cL_law 1619 = .ok (.iadd, 1) := by decide +kernel
theorem dL_law_1620 : decode cL_law 1620 = .ok (.iaload, 1) := by decide +kernel
theorem dL_law_1621 : decode cL_law 1621 = .ok (.aload_n 3, 1) := by decide +kernel
theorem dL_law_1622 : decode cL_law 1622 = .ok (.invokestatic 161, 3) := by decide +kernel
theorem dL_law_1625 : decode cL_law 1625 = .ok (.istore 5, 2) := by decide +kernel
theorem dL_law_1627 : decode cL_law 1627 = .ok (.aload_n 2, 1) := by decide +kernel
theorem dL_law_1628 : decode cL_law 1628 = .ok (.aload_n 0, 1) := by decide +kernel
theorem dL_law_1629 : decode cL_law 1629 = .ok (.iload 4, 2) := by decide +kernel
theorem dL_law_1631 : decode cL_law 1631 = .ok (.iconst 1, 1) := by decide +kernel
theorem dL_law_1632 : decode cL_law 1632 = .ok (.iadd, 1) := by decide +kernel
theorem dL_law_1633 : decode cL_law 1633 = .ok (.iaload, 1) := by decide +kernel
theorem dL_law_1634 : decode cL_law 1634 = .ok (.invokevirtual 163, 3) := by decide +kernel
theorem dL_law_1637 : decode cL_law 1637 = .ok (.istore 6, 2) := by decide +kernel
theorem dL_law_1639 : decode cL_law 1639 = .ok (.aload_n 2, 1) := by decide +kernel
theorem dL_law_1640 : decode cL_law 1640 = .ok (.invokevirtual 95, 3) := by decide +kernel
theorem dL_law_1643 : decode cL_law 1643 = .ok (.iload 5, 2) := by decide +kernel
theorem dL_law_1645 : decode cL_law 1645 = .ok (.if_icmp .eq 5, 3) := by decide +kernel
theorem dL_law_1648 : decode cL_law 1648 = .ok (.iconst 0, 1) := by decide +kernel
theorem dL_law_1649 : decode cL_law 1649 = .ok (.ireturn, 1) := by decide +kernel
theorem dL_law_1650 : decode cL_law 1650 = .ok (.iload 5, 2) := by decide +kernel
theorem dL_law_1652 : decode cL_law 1652 = .ok (.ifCond .ne 22, 3) := by decide +kernel
theorem dL_law_1655 : decode cL_law 1655 = .ok (.aload_n 3, 1) := by decide +kernel
theorem dL_law_1656 : decode cL_law 1656 = .ok (.iconst 0, 1) := by decide +kernel
theorem dL_law_1657 : decode cL_law 1657 = .ok (.laload, 1) := by decide +kernel
theorem dL_law_1658 : decode cL_law 1658 = .ok (.iload 6, 2) := by decide +kernel
theorem dL_law_1660 : decode cL_law 1660 = .ok (.ifCond .eq 7, 3) := by decide +kernel
theorem dL_law_1663 : decode cL_law 1663 = .ok (.lconst 1, 1) := by decide +kernel
theorem dL_law_1664 : decode cL_law 1664 = .ok (.goto 4, 3) := by decide +kernel
theorem dL_law_1667 : decode cL_law 1667 = .ok (.lconst 0, 1) := by decide +kernel
theorem dL_law_1668 : decode cL_law 1668 = .ok (.lcmp, 1) := by decide +kernel
theorem dL_law_1669 : decode cL_law 1669 = .ok (.ifCond .eq 5, 3) := by decide +kernel
theorem dL_law_1672 : decode cL_law 1672 = .ok (.iconst 0, 1) := by decide +kernel
theorem dL_law_1673 : decode cL_law 1673 = .ok (.ireturn, 1) := by decide +kernel
theorem dL_law_1674 : decode cL_law 1674 = .ok (.goto 30, 3) := by decide +kernel
theorem dL_law_1677 : decode cL_law 1677 = .ok (.aload_n 1, 1) := by decide +kernel
theorem dL_law_1678 : decode cL_law 1678 = .ok (.invokevirtual 164, 3) := by decide +kernel
theorem dL_law_1681 : decode cL_law 1681 = .ok (.aload_n 2, 1) := by decide +kernel
theorem dL_law_1682 : decode cL_law 1682 = .ok (.invokevirtual 167, 3) := by decide +kernel
theorem dL_law_1685 : decode cL_law 1685 = .ok (.if_icmp .eq 19, 3) := by decide +kernel
theorem dL_law_1688 : decode cL_law 1688 = .ok (.iconst 0, 1) := by decide +kernel
theorem dL_law_1689 : decode cL_law 1689 = .ok (.ireturn, 1) := by decide +kernel
theorem dL_law_1690 : decode cL_law 1690 = .ok (.aload_n 1, 1) := by decide +kernel
theorem dL_law_1691 : decode cL_law 1691 = .ok (.invokevirtual 168, 3) := by decide +kernel
theorem dL_law_1694 : decode cL_law 1694 = .ok (.aload_n 2, 1) := by decide +kernel
theorem dL_law_1695 : decode cL_law 1695 = .ok (.invokevirtual 172, 3) := by decide +kernel
theorem dL_law_1698 : decode cL_law 1698 = .ok (.lcmp, 1) := by decide +kernel
theorem dL_law_1699 : decode cL_law 1699 = .ok (.ifCond .eq 5, 3) := by decide +kernel
theorem dL_law_1702 : decode cL_law 1702 = .ok (.iconst 0, 1) := by decide +kernel
theorem dL_law_1703 : decode cL_law 1703 = .ok (.ireturn, 1) := by decide +kernel
theorem dL_law_1704 : decode cL_law 1704 = .ok (.iinc 4 6, 3) := by decide +kernel
theorem dL_law_1707 : decode cL_law 1707 = .ok (.goto (-1684), 3) := by decide +kernel
theorem dL_law_1710 : decode cL_law 1710 = .ok (.iconst 1, 1) := by decide +kernel
theorem dL_law_1711 : decode cL_law 1711 = .ok (.ireturn, 1) := by decide +kernel
end
section
/-! THE STORE: a world of objects at the addresses b, b + 1, ..; what each place is (sk) stands fast; its ints and longs are the store σ -/
abbrev St : Type := (Nat → Nat → Int32) × (Nat → Nat → Int64)
abbrev Sk : Type := Nat × (Nat → Nat × Nat) × (Nat → Nat → Nat)
def sI (σ : St) (p k : Nat) (v : Int32) : St := (fun q j => if q = p ∧ j = k then v else σ.1 q j, σ.2)
def sJ (σ : St) (p k : Nat) (v : Int64) : St := (σ.1, fun q j => if q = p ∧ j = k then v else σ.2 q j)
def sC (σ : St) (p : Nat) (f : Nat → Int64) : St := (σ.1, fun q => if q = p then f else σ.2 q)
/-- the fields of a class, by its place in vwCl: 0 int, 1 long, 2 a reference -/
def tgL : List (List Nat) := [[2, 1, 1, 2, 2, 2, 2, 2], [2, 0, 0], [2, 1, 1], [2, 0], [2, 2, 2, 2, 2, 2, 2, 0], [2, 0, 2, 2, 0, 0, 0, 0, 0], [2, 2, 2, 2, 2, 0], [0, 2, 0, 0, 0, 0, 0, 0, 2, 2, 2, 0, 2, 2, 2, 2, 2, 0, 2, 2, 2, 2, 2, 0, 2, 2, 2, 2, 2, 2]]
def nF (ci : Nat) : Nat := (tgL.getD ci []).length
def tgF (ci k : Nat) : Nat := (tgL.getD ci []).getD k 0
def fV (sk : Sk) (b : Nat) (fl : Nat → Nat → Bool) (σ : St) (p ci k : Nat) : Value := if tgF ci k = 0 then .int (σ.1 p k) else if tgF ci k = 1 then .long (σ.2 p k) else if fl p k = true then .ref (b + sk.2.2 p k) else .null
def rE (sk : Sk) (b : Nat) (fl : Nat → Nat → Bool) (p : Nat) : Nat → Option Nat := fun j => if fl p j = true then some (b + sk.2.2 p j) else none
def cE (cy : Nat → ClassId) (sk : Sk) (b : Nat) (fl : Nat → Nat → Bool) (σ : St) (p : Nat) : va_E :=
  if (sk.2.1 p).1 = 0 then .inr ((sk.2.1 p).2, (List.range (nF (sk.2.1 p).2)).map (fV sk b fl σ p (sk.2.1 p).2))
  else if (sk.2.1 p).1 = 1 then .inl (cy 1, (sk.2.1 p).2, .inl (σ.1 p))
  else if (sk.2.1 p).1 = 2 then .inl (cy 2, (sk.2.1 p).2, .inr (.inl (σ.2 p)))
  else .inl (cy (sk.2.1 p).1, (sk.2.1 p).2, .inr (.inr (.inr (.inr (rE sk b fl p)))))
def cel (cy : Nat → ClassId) (sk : Sk) (b : Nat) (fl : Nat → Nat → Bool) (N : Nat) (σ : St) : va_W := (List.range N).map (fun p => (b + p, cE cy sk b fl σ p))
abbrev yes : Nat → Nat → Bool := fun _ _ => true
section CELLS
variable {cy : Nat → ClassId} {sk : Sk} {b : Nat} {fl fl' : Nat → Nat → Bool} {N : Nat} {σ σ' : St} {p : Nat}
theorem cE_obj {ci : Nat} (h : sk.2.1 p = (0, ci)) : cE cy sk b fl σ p = .inr (ci, (List.range (nF ci)).map (fV sk b fl σ p ci)) := by
  unfold cE; rw [h]; rfl
theorem cE_int {n : Nat} (h : sk.2.1 p = (1, n)) : cE cy sk b fl σ p = .inl (cy 1, n, .inl (σ.1 p)) := by
  unfold cE; rw [h]; rfl
theorem cE_long {n : Nat} (h : sk.2.1 p = (2, n)) : cE cy sk b fl σ p = .inl (cy 2, n, .inr (.inl (σ.2 p))) := by
  unfold cE; rw [h]; rfl
theorem cE_ref {t n : Nat} (h : sk.2.1 p = (t + 3, n)) : cE cy sk b fl σ p = .inl (cy (t + 3), n, .inr (.inr (.inr (.inr (rE sk b fl p))))) := by
  unfold cE; rw [h]; simp
theorem cel_get (hp : p < N) : (cel cy sk b fl N σ)[p]? = some (b + p, cE cy sk b fl σ p) := by
  simp [cel, hp]
theorem cel_at {k : Nat} {q : Nat × va_E} (h : (cel cy sk b fl N σ)[k]? = some q) : k < N ∧ q = (b + k, cE cy sk b fl σ k) := by
  have hl := (List.getElem?_eq_some_iff.mp h).1
  have hN : k < N := by simpa [cel] using hl
  rw [cel_get hN] at h
  exact ⟨hN, (Option.some.inj h).symm⟩
theorem cel_set {e : va_E} (hp : p < N) (he : cE cy sk b fl' σ' p = e) (ho : ∀ q, q < N → q ≠ p → cE cy sk b fl' σ' q = cE cy sk b fl σ q) : (cel cy sk b fl N σ).set p (b + p, e) = cel cy sk b fl' N σ' := by
  apply List.ext_getElem?
  intro i
  by_cases hi : i < N
  · rw [cel_get hi]
    by_cases hip : i = p
    · subst hip
      rw [List.getElem?_set_self (by simpa [cel] using hi), he]
    · rw [List.getElem?_set_ne (Ne.symm hip), cel_get hi, ho i hi hip]
  · rw [List.getElem?_eq_none (by simpa [cel] using Nat.le_of_not_lt hi), List.getElem?_eq_none (by simpa [cel] using Nat.le_of_not_lt hi)]
theorem cel_D {A : Nat → Prop} (h : ∀ q, q < N → A (b + q)) : va_D A (cel cy sk b fl N σ) := by
  refine ⟨fun i j x y hi hj hxy => ?_, fun k q hk => ?_⟩
  · obtain ⟨-, rfl⟩ := cel_at hi
    obtain ⟨-, rfl⟩ := cel_at hj
    dsimp only at hxy
    omega
  · obtain ⟨h1, rfl⟩ := cel_at hk
    exact h k h1
theorem cel_succ : cel cy sk b fl (N + 1) σ = cel cy sk b fl N σ ++ [(b + N, cE cy sk b fl σ N)] := by
  simp [cel, List.range_succ]
theorem cE_congr (h1 : ∀ k, σ'.1 p k = σ.1 p k) (h2 : ∀ k, σ'.2 p k = σ.2 p k) (h3 : ∀ k, fl' p k = fl p k) : cE cy sk b fl' σ' p = cE cy sk b fl σ p := by
  have e1 : σ'.1 p = σ.1 p := funext h1
  have e2 : σ'.2 p = σ.2 p := funext h2
  have e3 : rE sk b fl' p = rE sk b fl p := by funext j; simp only [rE, h3]
  have e4 : ∀ ci, fV sk b fl' σ' p ci = fV sk b fl σ p ci := by intro ci; funext k; simp only [fV, h1, h2, h3]
  unfold cE
  rw [e1, e2, e3, e4]
theorem cel_congr (h : ∀ q, q < N → cE cy sk b fl' σ' q = cE cy sk b fl σ q) : cel cy sk b fl' N σ' = cel cy sk b fl N σ := by
  apply List.ext_getElem?
  intro i
  by_cases hi : i < N
  · rw [cel_get hi, cel_get hi, h i hi]
  · rw [List.getElem?_eq_none (by simpa [cel] using Nat.le_of_not_lt hi), List.getElem?_eq_none (by simpa [cel] using Nat.le_of_not_lt hi)]
theorem sI_same {k : Nat} {v : Int32} : (sI σ p k v).1 p k = v := by simp [sI]
theorem sI_objset {ci k : Nat} {v : Int32} (h : sk.2.1 p = (0, ci)) (ht : tgF ci k = 0) : cE cy sk b fl (sI σ p k v) p = .inr (ci, ((List.range (nF ci)).map (fV sk b fl σ p ci)).set k (.int v)) := by
  rw [cE_obj h]
  congr 2
  apply List.ext_getElem?
  intro i
  by_cases hi : i < nF ci
  · by_cases hik : i = k
    · subst hik
      rw [List.getElem?_set_self (by simpa using hi)]
      simp [hi, fV, ht, sI]
    · rw [List.getElem?_set_ne (Ne.symm hik)]
      simp [hi, fV, sI, hik]
  · rw [List.getElem?_eq_none (by simpa using Nat.le_of_not_lt hi), List.getElem?_eq_none (by simpa using Nat.le_of_not_lt hi)]
theorem sJ_objset {ci k : Nat} {v : Int64} (h : sk.2.1 p = (0, ci)) (ht : tgF ci k = 1) : cE cy sk b fl (sJ σ p k v) p = .inr (ci, ((List.range (nF ci)).map (fV sk b fl σ p ci)).set k (.long v)) := by
  rw [cE_obj h]
  congr 2
  apply List.ext_getElem?
  intro i
  by_cases hi : i < nF ci
  · by_cases hik : i = k
    · subst hik
      rw [List.getElem?_set_self (by simpa using hi)]
      simp [hi, fV, ht, sJ]
    · rw [List.getElem?_set_ne (Ne.symm hik)]
      simp [hi, fV, sJ, hik]
  · rw [List.getElem?_eq_none (by simpa using Nat.le_of_not_lt hi), List.getElem?_eq_none (by simpa using Nat.le_of_not_lt hi)]
theorem sI_other {k q : Nat} {v : Int32} (h : q ≠ p) : cE cy sk b fl (sI σ p k v) q = cE cy sk b fl σ q := cE_congr (fun j => by simp [sI, h]) (fun j => rfl) (fun _ => rfl)
theorem sJ_other {k q : Nat} {v : Int64} (h : q ≠ p) : cE cy sk b fl (sJ σ p k v) q = cE cy sk b fl σ q := cE_congr (fun j => rfl) (fun j => by simp [sJ, h]) (fun _ => rfl)
theorem sC_other {q : Nat} {f : Nat → Int64} (h : q ≠ p) : cE cy sk b fl (sC σ p f) q = cE cy sk b fl σ q := cE_congr (fun j => rfl) (fun j => by simp [sC, h]) (fun _ => rfl)
theorem sI_arr {n k : Nat} {v : Int32} (h : sk.2.1 p = (1, n)) : cE cy sk b fl (sI σ p k v) p = .inl (cy 1, n, .inl (upd (σ.1 p) k v)) := by
  rw [cE_int h]
  congr 3
  congr 1
  funext j
  simp [sI, upd]
theorem sJ_arr {n k : Nat} {v : Int64} (h : sk.2.1 p = (2, n)) : cE cy sk b fl (sJ σ p k v) p = .inl (cy 2, n, .inr (.inl (vp_updL (σ.2 p) k v))) := by
  rw [cE_long h]
  congr 4
  congr 1
  funext j
  simp [sJ, vp_updL]
theorem sC_arr {n : Nat} {f : Nat → Int64} (h : sk.2.1 p = (2, n)) : cE cy sk b fl (sC σ p f) p = .inl (cy 2, n, .inr (.inl f)) := by
  rw [cE_long h]
  simp [sC]
end CELLS
end
section
/-! THE WORLD OF A METHOD: the tables' words, the fixed things (statics, literals), the store -/
/-- the words that stay under warmer tables -/
def fw_ok (w : Cond) : Bool := w.onTables && (w.keepsFace || w.keepsH)
def FW : List Cond := lw_tbl.filter fw_ok
theorem fw_in {w : Cond} (h : w ∈ lw_tbl) (k : fw_ok w = true) : w ∈ FW := List.mem_filter.mpr ⟨h, k⟩
theorem fw_ix {w : Cond} (i : Nat) (h : lw_tbl[i]? = some w) (k : fw_ok w = true) : w ∈ FW := fw_in (List.mem_of_getElem? h) k
def TB (U : State) : Prop := ∀ w ∈ FW, ∀ a : Array Value, w.before a U = true
theorem TB.warm {s U : State} (hW : s.WarmedH U.vm) (h : TB s) : TB U := by
  intro w hw a
  have hk := (List.mem_filter.mp hw).2
  simp only [fw_ok, Bool.and_eq_true, Bool.or_eq_true] at hk
  obtain ⟨hc, hk⟩ := hk
  have h1 := h w hw a
  rcases hk with hk | hk
  · have h2 := Cond.before_shiftedFace (State.Shifted.of_warmed hW) w hk h1
    rwa [Cond.onTables_vm (A' := a) (U' := U) U.vm w hc, State.setVm_self] at h2
  · have h2 := Cond.onTables_warmH (T := U) (args' := a) hW hc hk h1
    rwa [State.setVm_self] at h2
/-- literals: the class that loads it, its place there, its text -/
def strL : List (String × Nat × String) := [("TaylorModels$SetupReader", 56, "models"), ("TaylorModels$SetupReader", 130, "x"), ("TaylorModels$SetupReader", 132, "y"), ("TaylorModels$SetupReader", 137, "intx"), ("TaylorModels$SetupReader", 139, "inty"), ("TaylorModelsModel", 291, "models"), ("TaylorModelsModel", 255, "x"), ("TaylorModelsModel", 261, "y"), ("TaylorModelsModel", 263, "intx"), ("TaylorModelsModel", 268, "inty"), ("TaylorModels", 63, "length is not within the buffer"), ("TaylorModels", 234, "there is no such model"), ("TaylorModels", 239, "the model is not defined"), ("TaylorModels", 245, "there is no such coefficient"), ("TaylorModels", 247, "neither 0 nor 1"), ("TaylorModels", 249, "a number is out of its range"), ("TaylorModels", 253, "something is too large, or the composition is not possible")]
def strAt (i : Nat) : String × Nat × String := strL.getD i ("", 0, "")
def strB (i : Nat) : List Int32 := ([[109, 111, 100, 101, 108, 115], [120], [121], [105, 110, 116, 120], [105, 110, 116, 121], [109, 111, 100, 101, 108, 115], [120], [121], [105, 110, 116, 120], [105, 110, 116, 121]] : List (List Int32)).getD i []
/-- the static tables of the class -/
def stN (i : Nat) : String := ["X_POWER", "Y_POWER", "FIRST_SLOT_OF_X_POWER", "LOWEST"].getD i ""
def stL (i : Nat) : List Int32 := ([[0, 0, 0, 0, 1, 1, 1, 2, 2, 3], [0, 1, 2, 3, 0, 1, 2, 0, 1, 0], [0, 4, 7, 9], [1, -1, 0, -1, -1, -1, -1, 0, -1, -1]] : List (List Int32)).getD i []
abbrev GP : Type := va_G × (Nat → ClassId) × (Nat → Nat) × Nat
def tyG (cy : Nat → ClassId) : List (ClassId × FieldType) := [(cy 1, .int), (cy 2, .long), (cy 3, .object "TaylorModels$Model"), (cy 4, .object "TaylorModels$Models"), (cy 5, .array .int), (cy 6, .array .long)]
def FxS (sr : Nat → Nat) (A : Nat → Prop) (U : State) (H : Heap) (i : Nat) : Prop := va_O "java/lang/String" (sr i) A U H ∧ va_OF "java/lang/String" "coder" "B" (.int 0) (sr i) A U H ∧ va_OF "java/lang/String" "value" "[B" (.ref (sr (100 + i))) (sr i) A U H ∧ va_T .byte (sr (100 + i)) (strB i).length (fun j => .int ((strB i).getD j 0)) A U H
def FxT (A : Nat → Prop) (U : State) (H : Heap) (i : Nat) : Prop := ∃ t : Nat, va_Z "TaylorModels" (stN i) "[I" (.ref t) A U H ∧ va_T .int t (stL i).length (fun j => .int ((stL i).getD j 0)) A U H
def Fx (G : GP) (A : Nat → Prop) (U : State) (H : Heap) : Prop :=
  TB U ∧ va_K G.1 vwCl (tyG G.2.1) U ∧ ((∀ a : Array Value, (Cond.arrayClass .int).before a U = true) ∧ (∀ a : Array Value, (Cond.arrayClass .long).before a U = true) ∧ (∀ a : Array Value, (Cond.arrayClass .byte).before a U = true)) ∧
  (∀ i, i < 17 → vk_R (strAt i).1 (strAt i).2.1 (strAt i).2.2 (G.2.2.1 i) U) ∧ (∀ i, i < 10 → FxS G.2.2.1 A U H i) ∧ (∀ i, i < 4 → FxT A U H i) ∧ vx_Zq Bundle.tN "UNASSIGNED_STACK" Bundle.steD A U H ∧ vx_Zq Bundle.tN "SUPPRESSED_SENTINEL" Bundle.listD A U H ∧ va_Z "java/lang/String" "COMPACT_STRINGS" "Z" (.int 1) A U H ∧ (∃ v : Option Nat, va_Z "jdk/internal/util/Preconditions" "SIOOBE_FORMATTER" "Ljava/util/function/BiFunction;" (va_rf v) A U H)
theorem ac_any {ty : FieldType} {s U : State} (hW : s.WarmedH U.vm) (h : ∀ a : Array Value, (Cond.arrayClass ty).before a s = true) : ∀ a : Array Value, (Cond.arrayClass ty).before a U = true := fun a => word_at hW (Or.inr ⟨ty, rfl⟩) (h a)
theorem Fx.go {G : GP} {A B : Nat → Prop} {s U : State} {H0 H : Heap} (hW : s.WarmedH U.vm) (hk : ∀ a : Nat, a < H0.size → ¬ A a → H[a]? = H0[a]?) (hAB : ∀ q, B q → A q) (h : Fx G A s H0) : Fx G B U H := by
  obtain ⟨h1, h2, ⟨h3, h4, h5⟩, h6, h7, h8, h9, h10, h11, v, h12⟩ := h
  have hv := hW.alike
  refine ⟨h1.warm hW, va_K.moved hv h2, ⟨ac_any hW h3, ac_any hW h4, ac_any hW h5⟩, fun i hi => vk_R.warm hW (h6 i hi), fun i hi => ?_, fun i hi => ?_, ((h9.moved hv).kept hk).narrow hAB, ((h10.moved hv).kept hk).narrow hAB, ((h11.moved hv).kept hk).narrow hAB, v, ((h12.moved hv).kept hk).narrow hAB⟩
  · obtain ⟨a1, a2, a3, a4⟩ := h7 i hi
    exact ⟨((a1.moved hv).kept hk).narrow hAB, ((va_OF.moved hv a2).kept hk).narrow hAB, ((va_OF.moved hv a3).kept hk).narrow hAB, ((a4.moved hv).kept hk).narrow hAB⟩
  · obtain ⟨t, a1, a2⟩ := h8 i hi
    exact ⟨t, ((a1.moved hv).kept hk).narrow hAB, ((a2.moved hv).kept hk).narrow hAB⟩
/-- which cells a method may change: the store's, and those that it makes -/
def Aw (b N sz : Nat) : Nat → Prop := fun q => (b ≤ q ∧ q < b + N) ∨ sz ≤ q
def SkOK (sk : Sk) : Prop := ∀ q, sk.1 ≤ q → (sk.2.1 q).1 = 9
theorem SkOK.lt {sk : Sk} (h : SkOK sk) {q t n : Nat} (hk : sk.2.1 q = (t, n)) (ht : t ≠ 9) : q < sk.1 := by
  rcases Nat.lt_or_ge q sk.1 with h1 | h1
  · exact h1
  · have := h q h1
    rw [hk] at this
    exact absurd this ht
/-- what holds at a method's start, but its code -/
def En (p : Program) (m : MethodId) (c : Code) (s : State) (cc : ByteArray) (nL : Nat) (own : String) (G : GP) (A0 : Nat → Prop) : Prop :=
  p.tables.exec = Jvm.exec ∧ c.code = cc ∧ c.maxLocals = nL ∧ s.vm.findClass own = some m.cls ∧ Fx G A0 s s.heap
def Wo (G : GP) (sk : Sk) (A0 : Nat → Prop) (s : State) (σ : St) (H : Heap) (locs : List Loc) : Prop :=
  va_P G.1 vwCl (cel G.2.1 sk G.2.2.2 yes sk.1 σ) H ∧ va_S A0 s.heap H locs ∧ (∀ q, q < sk.1 → A0 (G.2.2.2 + q)) ∧ SkOK sk ∧ ∀ q, s.heap.size ≤ q → A0 q
def PreC (G : GP) (sk : Sk) (sz : Nat) (σ : St) (U : State) : Prop := U.heap.size = sz ∧ va_P G.1 vwCl (cel G.2.1 sk G.2.2.2 yes sk.1 σ) U.heap ∧ Fx G (Aw G.2.2.2 sk.1 sz) U U.heap
def PoC (G : GP) (sk : Sk) (σ : St) (U : State) : Prop := va_P G.1 vwCl (cel G.2.1 sk G.2.2.2 yes sk.1 σ) U.heap
def QO (P : State → Prop) (A : Nat → Prop) (rv : Option Value) : Array Value → State → Outcome → State → Prop := fun _ st oc t => (oc = .returned rv ∧ P t) ∧ va_F A st t
def QX (P : State → Prop) (A : Nat → Prop) (rv : Nat ⊕ Option Value) : Array Value → State → Outcome → State → Prop := fun _ st oc t => ((∃ v, rv = .inr v ∧ oc = .returned v) ∧ P t) ∧ va_F A st t
def exN (e : Nat) : String := ["", "java/lang/IndexOutOfBoundsException", "java/util/NoSuchElementException", "java/lang/IllegalArgumentException", "java/lang/IllegalStateException"].getD e ""
def XX (P : State → Prop) (A : Nat → Prop) (rv : Nat ⊕ Option Value) : String → State → State → Prop := fun E st t => ((∃ e, rv = .inl e ∧ E = exN e) ∧ P t) ∧ va_F A st t
theorem PreC.blind {G : GP} {sk : Sk} {sz : Nat} {σ : St} {as : List Value} : FrameBlind (va_Pc as (PreC G sk sz σ)) := by
  rintro a U g mk ⟨h0, h1, h2, h3⟩
  exact ⟨h0, h1, h2, Fx.go (State.WarmedH.refl U) (fun _ _ _ => rfl) (fun _ h => h) h3⟩
theorem PreC.of {G : GP} {sk : Sk} {A0 : Nat → Prop} {s : State} {σ : St} {H : Heap} {locs : List Loc} (hF : Fx G A0 s s.heap) (hW : Wo G sk A0 s σ H locs) {U : State} (hU : U.heap = H) (hV : s.WarmedH U.vm) : PreC G sk H.size σ U := by
  obtain ⟨hP, hS, hA, -, hN⟩ := hW
  refine ⟨by rw [hU], by rw [hU]; exact hP, ?_⟩
  rw [hU]
  refine Fx.go hV (fun a h1 h2 => hS.2.1 a h1 h2) (fun q h => ?_) hF
  rcases h with ⟨h1, h2⟩ | h
  · have := hA (q - G.2.2.2) (by omega)
    rwa [Nat.add_sub_cancel' h1] at this
  · exact hN q (Nat.le_trans hS.1 h)
theorem Wo.aw {G : GP} {sk : Sk} {A0 : Nat → Prop} {s : State} {σ : St} {H : Heap} {locs : List Loc} (hW : Wo G sk A0 s σ H locs) : ∀ q, Aw G.2.2.2 sk.1 H.size q → A0 q := by
  obtain ⟨-, hS, hA, -, hN⟩ := hW
  rintro q (⟨h1, h2⟩ | h)
  · have := hA (q - G.2.2.2) (by omega)
    rwa [Nat.add_sub_cancel' h1] at this
  · exact hN q (Nat.le_trans hS.1 h)
end
section
/-! ROWS: an instruction over the store -/
section ROWS
variable {p : Program} {l : Launch} {e : Env} {R : Room} {s : State} {m : MethodId} {args : Array Value} {below : List Frame} {meth : Method} {c : Code} {H : Heap} {locs : List Loc} {cells slots : Nat} {Q : State → Prop}
variable {cc : ByteArray} {nL : Nat} {own : String} {G : GP} {A0 : Nat → Prop} {sk : Sk} {σ : St} {pc : Nat} {ls : Array Slot} {rest : List Value}
theorem En.wd (E : En p m c s cc nL own G A0) {w : Cond} (h : w ∈ FW) : w.before args s = true := E.2.2.2.2.1 w h args
theorem r_get (E : En p m c s cc nL own G A0) (hW : Wo G sk A0 s σ H locs) {q ci k idx n : Nat} {C : String} {T : u_T} {ref nm ds : String} (hk : sk.2.1 q = (0, ci)) (hc : vwCl[ci]? = some (C, T, n)) (hin : ∀ w ∈ u_ws C T n, w ∈ FW) (hkn : k < n) (hn : nF ci = n)
    (hT : (T k).1 = ref ∧ (T k).2.1 = nm ∧ (T k).2.2.1 = ds) (hlink : Cond.fieldLink own idx ref nm ds ∈ FW) (hdg : decode cc pc = .ok (.getfield idx, 3))
    (kk : W p l e R s m args below meth c H locs cells slots Q (F0 m (pc + 3) ls (fV sk G.2.2.2 yes σ q ci k :: rest))) : W p l e R s m args below meth c H locs cells slots Q (F0 m pc ls (.ref (G.2.2.2 + q) :: rest)) := by
  obtain ⟨h1, h2, h3⟩ := hT
  subst h1; subst h2; subst h3; subst hn
  refine va_get E.1 E.2.1 (fun w hw => E.wd hw) hin E.2.2.2.1 E.2.2.2.2.2.1 hW.1 q (fs := (List.range (nF ci)).map (fV sk G.2.2.2 yes σ q ci)) (by rw [cel_get (hW.2.2.2.1.lt hk (by decide)), cE_obj hk]) hc k hkn (E.wd hlink) (fun x h => h) (by simp [hkn]) hdg kk
theorem r_putI (E : En p m c s cc nL own G A0) (hW : Wo G sk A0 s σ H locs) {q ci k idx n : Nat} {C : String} {T : u_T} {ty0 : Nat → FieldType} {ref nm : String} {v : Int32} (hk : sk.2.1 q = (0, ci)) (hc : vwCl[ci]? = some (C, T, n)) (hin : ∀ w ∈ u_ws C T n, w ∈ FW) (hkn : k < n) (hn : nF ci = n) (htg : tgF ci k = 0)
    (hty : ∀ k, k < n → parseFieldDescriptor (T k).2.2.1 = some (ty0 k)) (hnm : ∀ a, a < n → ∀ b, b < n → a ≠ b → (T a).2.1 ≠ (T b).2.1)
    (hT : (T k).1 = ref ∧ (T k).2.1 = nm ∧ (T k).2.2.1 = "I" ∧ (T k).2.2.2 = false) (hlink : Cond.fieldLink own idx ref nm "I" ∈ FW) (hdg : decode cc pc = .ok (.putfield idx, 3))
    (kk : ∀ (σ' : St) (H1 : Heap) (locs1 : List Loc), σ' = sI σ q k v → Wo G sk A0 s σ' H1 locs1 → W p l e R s m args below meth c H1 locs1 cells slots Q (F0 m (pc + 3) ls rest)) : W p l e R s m args below meth c H locs cells slots Q (F0 m pc ls (.int v :: .ref (G.2.2.2 + q) :: rest)) := by
  obtain ⟨h1, h2, h3, h4⟩ := hT
  subst h1; subst h2; subst hn
  obtain ⟨hP, hS, hA, hsk, hN⟩ := hW
  have hq := hsk.lt hk (by decide)
  refine va_put E.1 E.2.1 (fun w hw => E.wd hw) hin ty0 hty hnm E.2.2.2.1 E.2.2.2.2.2.1 hP (cel_D hA) hS q (fs := (List.range (nF ci)).map (fV sk G.2.2.2 yes σ q ci)) (by rw [cel_get hq, cE_obj hk]) hc k hkn (by rw [h3]; exact E.wd hlink) (fun x h => h) h4 (ty := .int) (v := .int v) (by rw [h3]; decide +kernel) rfl rfl (by simpa using hkn) hdg (fun H1 locs1 hP1 _ hS1 => kk _ _ _ rfl ⟨?_, hS1, hA, hsk, hN⟩)
  rw [← sI_objset hk htg (cy := G.2.1) (fl := yes), cel_set hq rfl (fun x _ hx => sI_other hx)] at hP1
  exact hP1
theorem r_putJ (E : En p m c s cc nL own G A0) (hW : Wo G sk A0 s σ H locs) {q ci k idx n : Nat} {C : String} {T : u_T} {ty0 : Nat → FieldType} {ref nm : String} {v : Int64} (hk : sk.2.1 q = (0, ci)) (hc : vwCl[ci]? = some (C, T, n)) (hin : ∀ w ∈ u_ws C T n, w ∈ FW) (hkn : k < n) (hn : nF ci = n) (htg : tgF ci k = 1)
    (hty : ∀ k, k < n → parseFieldDescriptor (T k).2.2.1 = some (ty0 k)) (hnm : ∀ a, a < n → ∀ b, b < n → a ≠ b → (T a).2.1 ≠ (T b).2.1)
    (hT : (T k).1 = ref ∧ (T k).2.1 = nm ∧ (T k).2.2.1 = "J" ∧ (T k).2.2.2 = false) (hlink : Cond.fieldLink own idx ref nm "J" ∈ FW) (hdg : decode cc pc = .ok (.putfield idx, 3))
    (kk : ∀ (σ' : St) (H1 : Heap) (locs1 : List Loc), σ' = sJ σ q k v → Wo G sk A0 s σ' H1 locs1 → W p l e R s m args below meth c H1 locs1 cells slots Q (F0 m (pc + 3) ls rest)) : W p l e R s m args below meth c H locs cells slots Q (F0 m pc ls (.long v :: .ref (G.2.2.2 + q) :: rest)) := by
  obtain ⟨h1, h2, h3, h4⟩ := hT
  subst h1; subst h2; subst hn
  obtain ⟨hP, hS, hA, hsk, hN⟩ := hW
  have hq := hsk.lt hk (by decide)
  refine va_put E.1 E.2.1 (fun w hw => E.wd hw) hin ty0 hty hnm E.2.2.2.1 E.2.2.2.2.2.1 hP (cel_D hA) hS q (fs := (List.range (nF ci)).map (fV sk G.2.2.2 yes σ q ci)) (by rw [cel_get hq, cE_obj hk]) hc k hkn (by rw [h3]; exact E.wd hlink) (fun x h => h) h4 (ty := .long) (v := .long v) (by rw [h3]; decide +kernel) rfl rfl (by simpa using hkn) hdg (fun H1 locs1 hP1 _ hS1 => kk _ _ _ rfl ⟨?_, hS1, hA, hsk, hN⟩)
  rw [← sJ_objset hk htg (cy := G.2.1) (fl := yes), cel_set hq rfl (fun x _ hx => sJ_other hx)] at hP1
  exact hP1
theorem r_iald (E : En p m c s cc nL own G A0) (hW : Wo G sk A0 s σ H locs) {q n : Nat} {i : Int32} (hk : sk.2.1 q = (1, n)) (hi : vp_in i n) (hdg : decode cc pc = .ok (.iaload, 1))
    (kk : W p l e R s m args below meth c H locs cells slots Q (F0 m (pc + 1) ls (.int (σ.1 q i.toNatClampNeg) :: rest))) : W p l e R s m args below meth c H locs cells slots Q (F0 m pc ls (.int i :: .ref (G.2.2.2 + q) :: rest)) :=
  va_iald E.1 E.2.1 E.2.2.2.2.2.1 hW.1 q 0 (by rw [cel_get (hW.2.2.2.1.lt hk (by decide)), cE_int hk]) rfl hi hdg kk
theorem r_lald (E : En p m c s cc nL own G A0) (hW : Wo G sk A0 s σ H locs) {q n : Nat} {i : Int32} (hk : sk.2.1 q = (2, n)) (hi : vp_in i n) (hdg : decode cc pc = .ok (.laload, 1))
    (kk : W p l e R s m args below meth c H locs cells slots Q (F0 m (pc + 1) ls (.long (σ.2 q i.toNatClampNeg) :: rest))) : W p l e R s m args below meth c H locs cells slots Q (F0 m pc ls (.int i :: .ref (G.2.2.2 + q) :: rest)) :=
  va_lald E.1 E.2.1 E.2.2.2.2.2.1 hW.1 q 1 (by rw [cel_get (hW.2.2.2.1.lt hk (by decide)), cE_long hk]) rfl hi hdg kk
theorem r_aald (E : En p m c s cc nL own G A0) (hW : Wo G sk A0 s σ H locs) {q t n : Nat} {ty : FieldType} {i : Int32} (hk : sk.2.1 q = (t + 3, n)) (hi : vp_in i n) (ht : (tyG G.2.1)[t + 2]? = some (G.2.1 (t + 3), ty)) (hty : ty.isReference = true) (hne : t < 6) (hdg : decode cc pc = .ok (.aaload, 1))
    (kk : W p l e R s m args below meth c H locs cells slots Q (F0 m (pc + 1) ls (.ref (G.2.2.2 + sk.2.2 q i.toNatClampNeg) :: rest))) : W p l e R s m args below meth c H locs cells slots Q (F0 m pc ls (.int i :: .ref (G.2.2.2 + q) :: rest)) := by
  have hlt : i.toNatClampNeg < n := Nat.not_le.mp fun x => hi (Or.inr x)
  have h := hW.1 q _ (cel_get (hW.2.2.2.1.lt hk (by omega)))
  rw [cE_ref hk] at h
  exact W.aald (v := va_rf (rE sk G.2.2.2 yes q i.toNatClampNeg)) (ty := ty) E.1 E.2.1 h ((E.2.2.2.2.2.1.2 (t + 2) _ ht).1 n (fun j => va_rf (rE sk G.2.2.2 yes q j))) hty (fun x => by cases x) (by show ¬ (i < 0 ∨ (arrV _ _ _).slots.size ≤ _); rw [arrV_size]; exact hi) (by show (arrV _ _ _).slots[_]? = _; rw [arrV_read _ _ hlt]) rfl rfl hdg kk
theorem r_iast (E : En p m c s cc nL own G A0) (hW : Wo G sk A0 s σ H locs) {q n : Nat} {i v : Int32} (hk : sk.2.1 q = (1, n)) (hi : vp_in i n) (hdg : decode cc pc = .ok (.iastore, 1))
    (kk : ∀ (σ' : St) (H1 : Heap) (locs1 : List Loc), σ' = sI σ q i.toNatClampNeg v → Wo G sk A0 s σ' H1 locs1 → W p l e R s m args below meth c H1 locs1 cells slots Q (F0 m (pc + 1) ls rest)) : W p l e R s m args below meth c H locs cells slots Q (F0 m pc ls (.int v :: .int i :: .ref (G.2.2.2 + q) :: rest)) := by
  obtain ⟨hP, hS, hA, hsk, hN⟩ := hW
  have hq := hsk.lt hk (by decide)
  refine va_iast E.1 E.2.1 E.2.2.2.2.2.1 hP (cel_D hA) hS q 0 (by rw [cel_get hq, cE_int hk]) rfl hi hdg (fun H1 locs1 hP1 _ hS1 => kk _ _ _ rfl ⟨?_, hS1, hA, hsk, hN⟩)
  rw [← sI_arr hk (cy := G.2.1) (b := G.2.2.2) (fl := yes), cel_set hq rfl (fun x _ hx => sI_other hx)] at hP1
  exact hP1
theorem r_last (E : En p m c s cc nL own G A0) (hW : Wo G sk A0 s σ H locs) {q n : Nat} {i : Int32} {v : Int64} (hk : sk.2.1 q = (2, n)) (hi : vp_in i n) (hdg : decode cc pc = .ok (.lastore, 1))
    (kk : ∀ (σ' : St) (H1 : Heap) (locs1 : List Loc), σ' = sJ σ q i.toNatClampNeg v → Wo G sk A0 s σ' H1 locs1 → W p l e R s m args below meth c H1 locs1 cells slots Q (F0 m (pc + 1) ls rest)) : W p l e R s m args below meth c H locs cells slots Q (F0 m pc ls (.long v :: .int i :: .ref (G.2.2.2 + q) :: rest)) := by
  obtain ⟨hP, hS, hA, hsk, hN⟩ := hW
  have hq := hsk.lt hk (by decide)
  refine va_last E.1 E.2.1 E.2.2.2.2.2.1 hP (cel_D hA) hS q 1 (by rw [cel_get hq, cE_long hk]) rfl hi hdg (fun H1 locs1 hP1 _ hS1 => kk _ _ _ rfl ⟨?_, hS1, hA, hsk, hN⟩)
  rw [← sJ_arr hk (cy := G.2.1) (b := G.2.2.2) (fl := yes), cel_set hq rfl (fun x _ hx => sJ_other hx)] at hP1
  exact hP1
theorem r_alenJ (E : En p m c s cc nL own G A0) (hW : Wo G sk A0 s σ H locs) {q n : Nat} (hk : sk.2.1 q = (2, n)) (hdg : decode cc pc = .ok (.arraylength, 1))
    (kk : W p l e R s m args below meth c H locs cells slots Q (F0 m (pc + 1) ls (.int (nI n) :: rest))) : W p l e R s m args below meth c H locs cells slots Q (F0 m pc ls (.ref (G.2.2.2 + q) :: rest)) :=
  va_alen (x := (n, .inr (.inl (σ.2 q)))) E.1 E.2.1 E.2.2.2.2.2.1 hW.1 q 1 (by rw [cel_get (hW.2.2.2.1.lt hk (by decide)), cE_long hk]) rfl rfl hdg kk
theorem r_gets (E : En p m c s cc nL own G A0) (hW : Wo G sk A0 s σ H locs) (i : Nat) {idx : Nat} {nm : String} (hi : i < 4) (hn : stN i = nm) (hlink : Cond.fieldLink own idx "TaylorModels" nm "[I" ∈ FW) (hdg : decode cc pc = .ok (.getstatic idx, 3))
    (kk : ∀ t : Nat, va_T .int t (stL i).length (fun j => .int ((stL i).getD j 0)) A0 s s.heap → W p l e R s m args below meth c H locs cells slots Q (F0 m (pc + 3) ls (.ref t :: rest))) : W p l e R s m args below meth c H locs cells slots Q (F0 m pc ls rest) := by
  subst hn
  obtain ⟨t, h1, h2⟩ := E.2.2.2.2.2.2.2.2.2.1 i hi
  exact va_gets E.1 E.2.1 h1 hW.2.1 E.2.2.2.1 (E.wd hlink) (fun x h => h) hdg (kk t h2)
theorem r_getsN (E : En p m c s cc nL own G A0) (hW : Wo G sk A0 s σ H locs) (i : Nat) {idx : Nat} {nm host : String} (hi : i < 4) (hn : stN i = nm) (hlink : Cond.fieldLinkNest own idx "TaylorModels" nm "[I" host ∈ FW) (hdg : decode cc pc = .ok (.getstatic idx, 3))
    (kk : ∀ t : Nat, va_T .int t (stL i).length (fun j => .int ((stL i).getD j 0)) A0 s s.heap → W p l e R s m args below meth c H locs cells slots Q (F0 m (pc + 3) ls (.ref t :: rest))) : W p l e R s m args below meth c H locs cells slots Q (F0 m pc ls rest) := by
  subst hn
  obtain ⟨t, h1, h2⟩ := E.2.2.2.2.2.2.2.2.2.1 i hi
  exact va_getsN E.1 E.2.1 h1 hW.2.1 E.2.2.2.1 (E.wd hlink) (fun x h => h) hdg (kk t h2)
theorem r_tald (E : En p m c s cc nL own G A0) (hW : Wo G sk A0 s σ H locs) {t : Nat} (i : Nat) (hT : va_T .int t (stL i).length (fun j => .int ((stL i).getD j 0)) A0 s s.heap) {x : Int32} (hx : vp_in x (stL i).length) (hdg : decode cc pc = .ok (.iaload, 1))
    (kk : W p l e R s m args below meth c H locs cells slots Q (F0 m (pc + 1) ls (.int ((stL i).getD x.toNatClampNeg 0) :: rest))) : W p l e R s m args below meth c H locs cells slots Q (F0 m pc ls (.int x :: .ref t :: rest)) :=
  va_ti E.1 E.2.1 hT hW.2.1 hx rfl hdg kk
theorem r_ldcS (E : En p m c s cc nL own G A0) (i : Nat) {idx : Nat} (hi : i < 17) (hn : (strAt i).1 = own ∧ (strAt i).2.1 = idx) (hdg : decode cc pc = .ok (.ldc idx, 2))
    (kk : W p l e R s m args below meth c H locs cells slots Q (F0 m (pc + 2) ls (.ref (G.2.2.1 i) :: rest))) : W p l e R s m args below meth c H locs cells slots Q (F0 m pc ls rest) := by
  obtain ⟨h1, h2⟩ := hn
  have h := E.2.2.2.2.2.2.2.1 i hi
  rw [h1, h2] at h
  exact va_ldcS E.1 E.2.1 E.2.2.2.1 h hdg kk
theorem r_ldcSW (E : En p m c s cc nL own G A0) (i : Nat) {idx : Nat} (hi : i < 17) (hn : (strAt i).1 = own ∧ (strAt i).2.1 = idx) (hdg : decode cc pc = .ok (.ldc_w idx, 3))
    (kk : W p l e R s m args below meth c H locs cells slots Q (F0 m (pc + 3) ls (.ref (G.2.2.1 i) :: rest))) : W p l e R s m args below meth c H locs cells slots Q (F0 m pc ls rest) := by
  obtain ⟨h1, h2⟩ := hn
  have h := E.2.2.2.2.2.2.2.1 i hi
  rw [h1, h2] at h
  intro T hT X
  obtain ⟨t, a1, b1⟩ := kk T hT X
  exact ⟨t, X.ldcStringW E.1 E.2.2.2.1 (text := (strAt i).2.2) (a := G.2.2.1 i) h.1 h.2 (g := F0 m pc ls rest) rfl (by rw [E.2.1]; exact hdg) t a1, b1⟩
theorem r_copy (E : En p m c s cc nL own G A0) (hW : Wo G sk A0 s σ H locs) (hls : ls.size = nL) {q0 q1 n0 n1 idx : Nat} {sp dp n : Int32} (h0 : sk.2.1 q0 = (2, n0)) (h1 : sk.2.1 q1 = (2, n1)) (hg : ¬ sp < 0 ∧ ¬ dp < 0 ∧ ¬ n < 0 ∧ sp.toNatClampNeg + n.toNatClampNeg ≤ n0 ∧ dp.toNatClampNeg + n.toNatClampNeg ≤ n1)
    (hw : Cond.methodLink own idx arraycopyName ∈ FW ∧ Cond.native arraycopyName ∈ FW ∧ Cond.static arraycopyName ∈ FW ∧ Cond.initialized "java/lang/System" ∈ FW) (hR : 1 ≤ R.frames ∧ (rest.map fun v => v.category).sum + (nativeFrameWords "java/lang/System" "arraycopy" 5 + 11) ≤ R.locals) (hdg : decode cc pc = .ok (.invokestatic idx, 3))
    (kk : ∀ (σ' : St) (H1 : Heap) (locs1 : List Loc), σ' = sC σ q1 (va_cpy (σ.2 q0) (σ.2 q1) sp.toNatClampNeg dp.toNatClampNeg n.toNatClampNeg) → Wo G sk A0 s σ' H1 locs1 → W p l e R s m args below meth c H1 locs1 cells slots Q (F0 m (pc + 3) ls rest)) : W p l e R s m args below meth c H locs cells slots Q (F0 m pc ls (.int n :: .int dp :: .ref (G.2.2.2 + q1) :: .int sp :: .ref (G.2.2.2 + q0) :: rest)) := by
  obtain ⟨hP, hS, hA, hsk, hN⟩ := hW
  obtain ⟨g1, g2, g3, g4, g5⟩ := hg
  have hq0 := hsk.lt h0 (by decide)
  have hq1 := hsk.lt h1 (by decide)
  refine va_copyl E.1 E.2.1 (E.2.2.1.trans hls.symm) E.2.2.2.1 (E.wd hw.1) (E.wd hw.2.1) (E.wd hw.2.2.1) (E.wd hw.2.2.2) E.2.2.2.2.2.1 hP (cel_D hA) hS q0 q1 1 1 (ty := .long) (by rw [cel_get hq0, cE_long h0]) (by rw [cel_get hq1, cE_long h1]) rfl rfl rfl g1 g2 g3 g4 g5 (fun _ _ => rfl) hR.1 hR.2 hdg (fun H1 locs1 hP1 _ hS1 => kk _ _ _ rfl ⟨?_, hS1, hA, hsk, hN⟩)
  rw [← sC_arr h1 (cy := G.2.1) (b := G.2.2.2) (fl := yes), cel_set hq1 rfl (fun x _ hx => sC_other hx)] at hP1
  exact hP1
/-- long compares with the branch behind them -/
theorem cmp_lt {x y : Int64} : lg_cmp x y < 0 ↔ x < y := by
  unfold lg_cmp; split
  · rename_i h
    exact ⟨fun q => absurd q (by decide), fun q => absurd (Int64.lt_trans q h) Int64.lt_irrefl⟩
  · rename_i h
    split
    · rename_i h2; subst h2
      exact ⟨fun q => absurd q (by decide), fun q => absurd q Int64.lt_irrefl⟩
    · rename_i h2
      refine ⟨fun _ => ?_, fun _ => by decide⟩
      rcases Int64.lt_or_le x y with q | q
      · exact q
      · rcases Int64.lt_or_eq_of_le q with q | q
        · exact absurd q h
        · exact absurd q.symm h2
theorem cmp_eq {x y : Int64} : lg_cmp x y = 0 ↔ x = y := by
  unfold lg_cmp; split
  · rename_i h
    exact ⟨fun q => absurd q (by decide), fun q => absurd h (by rw [q]; exact Int64.lt_irrefl)⟩
  · split
    · rename_i h2; exact ⟨fun _ => h2, fun _ => rfl⟩
    · rename_i h2; exact ⟨fun q => absurd q (by decide), fun q => absurd q h2⟩
theorem cmp_gt {x y : Int64} : 0 < lg_cmp x y ↔ y < x := by
  unfold lg_cmp; split
  · rename_i h; exact ⟨fun _ => h, fun _ => by decide⟩
  · rename_i h
    split
    · exact ⟨fun q => absurd q (by decide), fun q => absurd q h⟩
    · exact ⟨fun q => absurd q (by decide), fun q => absurd q h⟩
end ROWS
end
section
/-! A METHOD'S START AND END, AND CALLS -/
/-- choices that a method's function makes, and their way back -/
def bnd {α β : Type} (a : α) (f : α → β) : β := f a
theorem bnd_r {α β : Type} {a b : α} {f : α → β} {y : β} (e : b = a) (h : bnd a f = y) : f b = y := by rw [e]; exact h
def obn {α β : Type} (x : Option (α × St)) (f : α → St → Option β) : Option β := match x with
  | some (a, s) => f a s
  | none => none
theorem obn_r {α β : Type} {x : Option (α × St)} {f : α → St → Option β} {y : β} (h : obn x f = some y) : ∃ a s, x = some (a, s) ∧ f a s = some y := by
  match x, h with
  | some (a, s), h => exact ⟨a, s, rfl, h⟩
def obx {α β : Type} (x : Option ((Nat ⊕ α) × St)) (g : Nat → St → Option β) (f : α → St → Option β) : Option β := match x with
  | some (.inr a, s) => f a s
  | some (.inl e, s) => g e s
  | none => none
theorem obx_r {α β : Type} {x : Option ((Nat ⊕ α) × St)} {g : Nat → St → Option β} {f : α → St → Option β} {y : β} (h : obx x g f = some y) : ∃ r s, x = some (r, s) ∧ ((∃ e, r = .inl e ∧ g e s = some y) ∨ ∃ a, r = .inr a ∧ f a s = some y) := by
  match x, h with
  | some (.inr a, s), h => exact ⟨.inr a, s, rfl, Or.inr ⟨a, rfl, h⟩⟩
  | some (.inl e, s), h => exact ⟨.inl e, s, rfl, Or.inl ⟨e, rfl, h⟩⟩
def gd {β : Type} (c : Prop) [Decidable c] (x : Option β) : Option β := if c then x else none
theorem gd_r {β : Type} {c : Prop} [Decidable c] {x : Option β} {y : β} (h : gd c x = some y) : c ∧ x = some y := by
  unfold gd at h
  split at h
  · rename_i hc
    exact ⟨hc, h⟩
  · cases h
theorem some_r {α : Type} {v r : α} {σ τ : St} (h : some (v, σ) = some (r, τ)) : v = r ∧ σ = τ := by cases h; exact ⟨rfl, rfl⟩
def rvI : Nat ⊕ Int32 → Nat ⊕ Option Value
  | .inl e => .inl e
  | .inr v => .inr (some (.int v))
def rvJ : Nat ⊕ Int64 → Nat ⊕ Option Value
  | .inl e => .inl e
  | .inr v => .inr (some (.long v))
def rvV : Nat ⊕ Unit → Nat ⊕ Option Value
  | .inl e => .inl e
  | .inr _ => .inr none
def rvR (b : Nat) : Nat ⊕ Nat → Nat ⊕ Option Value
  | .inl e => .inl e
  | .inr q => .inr (some (.ref (b + q)))
section STARTS
variable {l : Launch} {y : MethodName} {cc : ByteArray} {n : Nat} {ret : Option FieldType} {rm : Room} {G : GP} {sk : Sk} {sz : Nat} {as : List Value} {σ σ0 : St}
theorem mkMet {rv : Option Value} (hy : plainName y.cls = true) (hn : (lg_sl as).length ≤ n) (hsk : SkOK sk)
    (body : ∀ {p : Program} {e : Env} {s : State} {m : MethodId} {below : List Frame} {meth : Method} {c : Code} {ls : Array Slot}, En p m c s cc n y.cls G (Aw G.2.2.2 sk.1 s.heap.size) → Wo G sk (Aw G.2.2.2 sk.1 s.heap.size) s σ s.heap [] → lv_has ls n (lv_args 0 as) → meth.sig.returnType = ret → meth.locks = false →
      W p l e rm s m as.toArray below meth c s.heap [] 0 0 (MQ below (QO (PoC G sk σ0) (Aw G.2.2.2 sk.1 s.heap.size) rv) as.toArray s 0 0 (Aw G.2.2.2 sk.1 s.heap.size)) (F0 m 0 ls [])) :
    Met l y [.code y cc n ret] rm (va_Pc as (PreC G sk sz σ)) (QO (PoC G sk σ0) (Aw G.2.2.2 sk.1 sz) rv) 0 0 (Aw G.2.2.2 sk.1 sz) := by
  refine Met.ofW (cc := cc) (maxL := n) (ret := ret) hy rfl ?_
  intro p e s m args below meth c s₁ B hml hv
  obtain ⟨rfl, hsz, hP, hF⟩ := hv
  subst hsz
  rw [lg_entry_eq]
  exact body ⟨B.exec, B.bytes, hml, findClass_of_methodNamed B.named, hF⟩ ⟨hP, va_S.rf, fun q hq => Or.inl ⟨Nat.le_add_right _ _, by omega⟩, hsk, fun q h => Or.inr h⟩ (lv_entry as hn) B.returns B.notSynchronized
theorem mkMetX {mc ms : Nat} {rv : Nat ⊕ Option Value} (hy : plainName y.cls = true) (hn : (lg_sl as).length ≤ n) (hsk : SkOK sk)
    (body : ∀ {p : Program} {e : Env} {s : State} {m : MethodId} {below : List Frame} {meth : Method} {c : Code} {ls : Array Slot}, En p m c s cc n y.cls G (Aw G.2.2.2 sk.1 s.heap.size) → Wo G sk (Aw G.2.2.2 sk.1 s.heap.size) s σ s.heap [] → lv_has ls n (lv_args 0 as) → meth.sig.returnType = ret → meth.locks = false → (∀ x ∈ c.exceptionTable.toList, False) →
      W p l e rm s m as.toArray below meth c s.heap [] 0 0 (vx_MQ below (QX (PoC G sk σ0) (Aw G.2.2.2 sk.1 s.heap.size) rv) (XX (PoC G sk σ0) (Aw G.2.2.2 sk.1 s.heap.size) rv) as.toArray s mc ms (Aw G.2.2.2 sk.1 s.heap.size)) (F0 m 0 ls [])) :
    vx_Met l y [.code y cc n ret] rm (va_Pc as (PreC G sk sz σ)) (QX (PoC G sk σ0) (Aw G.2.2.2 sk.1 sz) rv) (XX (PoC G sk σ0) (Aw G.2.2.2 sk.1 sz) rv) mc ms (Aw G.2.2.2 sk.1 sz) := by
  refine vx_ofW (cc := cc) (maxL := n) (ret := ret) hy rfl ?_
  intro p e s m args below meth c s₁ B hml ht hv
  obtain ⟨rfl, hsz, hP, hF⟩ := hv
  subst hsz
  rw [lg_entry_eq]
  exact body ⟨B.exec, B.bytes, hml, findClass_of_methodNamed B.named, hF⟩ ⟨hP, va_S.rf, fun q hq => Or.inl ⟨Nat.le_add_right _ _, by omega⟩, hsk, fun q h => Or.inr h⟩ (lv_entry as hn) B.returns B.notSynchronized ht
end STARTS
section ENDS
variable {p : Program} {l : Launch} {e : Env} {R : Room} {s : State} {m : MethodId} {args : Array Value} {below : List Frame} {meth : Method} {c : Code} {H : Heap} {locs : List Loc} {cells slots : Nat} {Q : State → Prop}
variable {cc : ByteArray} {nL : Nat} {own : String} {G : GP} {A0 : Nat → Prop} {sk : Sk} {σ σ0 : St} {pc mc ms : Nat} {ls : Array Slot} {rest : List Value}
theorem Wo.po (hW : Wo G sk A0 s σ H locs) {t : State} (ht : t.heap = H) : PoC G sk σ t := by unfold PoC; rw [ht]; exact hW.1
theorem e_i (E : En p m c s cc nL own G A0) (hW : Wo G sk A0 s σ H locs) (hr : meth.sig.returnType = some .int) (hlk : meth.locks = false) {v r0 : Int32} (h : some (v, σ) = some (r0, σ0)) (hdg : decode cc pc = .ok (.ireturn, 1)) :
    W p l e R s m args below meth c H locs 0 0 (MQ below (QO (PoC G sk σ0) A0 (some (.int r0))) args s 0 0 A0) (F0 m pc ls [.int v]) := by
  cases h
  exact W.iret E.1 E.2.1 hr (fun t ht _ => ⟨⟨rfl, hW.po ht⟩, hW.2.1.F ht⟩) hW.2.1.2.2 hdg hlk
theorem e_z (E : En p m c s cc nL own G A0) (hW : Wo G sk A0 s σ H locs) (hr : meth.sig.returnType = some .boolean) (hlk : meth.locks = false) {v r0 : Int32} (hv : v = 0 ∨ v = 1) (h : some (v, σ) = some (r0, σ0)) (hdg : decode cc pc = .ok (.ireturn, 1)) :
    W p l e R s m args below meth c H locs 0 0 (MQ below (QO (PoC G sk σ0) A0 (some (.int r0))) args s 0 0 A0) (F0 m pc ls [.int v]) := by
  cases h
  exact W.zret E.1 E.2.1 hr (by rcases hv with q | q <;> (rw [q]; decide)) (fun t ht _ => ⟨⟨rfl, hW.po ht⟩, hW.2.1.F ht⟩) hW.2.1.2.2 hdg hlk
theorem e_j (E : En p m c s cc nL own G A0) (hW : Wo G sk A0 s σ H locs) (hr : meth.sig.returnType = some .long) (hlk : meth.locks = false) {v r0 : Int64} (h : some (v, σ) = some (r0, σ0)) (hdg : decode cc pc = .ok (.lreturn, 1)) :
    W p l e R s m args below meth c H locs 0 0 (MQ below (QO (PoC G sk σ0) A0 (some (.long r0))) args s 0 0 A0) (F0 m pc ls [.long v]) := by
  cases h
  exact W.lret E.1 E.2.1 hr (fun t ht _ => ⟨⟨rfl, hW.po ht⟩, hW.2.1.F ht⟩) hW.2.1.2.2 hdg hlk
theorem e_v (E : En p m c s cc nL own G A0) (hW : Wo G sk A0 s σ H locs) (hr : meth.sig.returnType = none) (hlk : meth.locks = false) {r0 : Unit} (h : some ((), σ) = some (r0, σ0)) (hdg : decode cc pc = .ok (.return_, 1)) :
    W p l e R s m args below meth c H locs 0 0 (MQ below (QO (PoC G sk σ0) A0 none) args s 0 0 A0) (F0 m pc ls []) := by
  cases h
  exact W.vret E.1 E.2.1 hr (fun t ht _ => ⟨⟨rfl, hW.po ht⟩, hW.2.1.F ht⟩) hW.2.1.2.2 hdg hlk
theorem x_i (E : En p m c s cc nL own G A0) (hW : Wo G sk A0 s σ H locs) (hr : meth.sig.returnType = some .int) (hlk : meth.locks = false) {v : Int32} {r0 : Nat ⊕ Int32} (h : some (Sum.inr v, σ) = some (r0, σ0)) (hc : cells ≤ mc) (hs : slots ≤ ms) (hdg : decode cc pc = .ok (.ireturn, 1)) :
    W p l e R s m args below meth c H locs cells slots (vx_MQ below (QX (PoC G sk σ0) A0 (rvI r0)) (XX (PoC G sk σ0) A0 (rvI r0)) args s mc ms A0) (F0 m pc ls [.int v]) := by
  cases h
  exact vx_ret (W.widen hc hs (W.iret E.1 E.2.1 hr (fun t ht _ => ⟨⟨⟨_, rfl, rfl⟩, hW.po ht⟩, hW.2.1.F ht⟩) hW.2.1.2.2 hdg hlk))
theorem x_z (E : En p m c s cc nL own G A0) (hW : Wo G sk A0 s σ H locs) (hr : meth.sig.returnType = some .boolean) (hlk : meth.locks = false) {v : Int32} {r0 : Nat ⊕ Int32} (hv : v = 0 ∨ v = 1) (h : some (Sum.inr v, σ) = some (r0, σ0)) (hc : cells ≤ mc) (hs : slots ≤ ms) (hdg : decode cc pc = .ok (.ireturn, 1)) :
    W p l e R s m args below meth c H locs cells slots (vx_MQ below (QX (PoC G sk σ0) A0 (rvI r0)) (XX (PoC G sk σ0) A0 (rvI r0)) args s mc ms A0) (F0 m pc ls [.int v]) := by
  cases h
  exact vx_ret (W.widen hc hs (W.zret E.1 E.2.1 hr (by rcases hv with q | q <;> (rw [q]; decide)) (fun t ht _ => ⟨⟨⟨_, rfl, rfl⟩, hW.po ht⟩, hW.2.1.F ht⟩) hW.2.1.2.2 hdg hlk))
theorem x_v (E : En p m c s cc nL own G A0) (hW : Wo G sk A0 s σ H locs) (hr : meth.sig.returnType = none) (hlk : meth.locks = false) {r0 : Nat ⊕ Unit} (h : some (Sum.inr (), σ) = some (r0, σ0)) (hc : cells ≤ mc) (hs : slots ≤ ms) (hdg : decode cc pc = .ok (.return_, 1)) :
    W p l e R s m args below meth c H locs cells slots (vx_MQ below (QX (PoC G sk σ0) A0 (rvV r0)) (XX (PoC G sk σ0) A0 (rvV r0)) args s mc ms A0) (F0 m pc ls []) := by
  cases h
  exact vx_ret (W.widen hc hs (W.vret E.1 E.2.1 hr (fun t ht _ => ⟨⟨⟨_, rfl, rfl⟩, hW.po ht⟩, hW.2.1.F ht⟩) hW.2.1.2.2 hdg hlk))
theorem x_r (E : En p m c s cc nL own G A0) (hW : Wo G sk A0 s σ H locs) {nm : String} (hr : meth.sig.returnType = some (.object nm)) (hlk : meth.locks = false) {v : Nat} {r0 : Nat ⊕ Nat} (h : some (Sum.inr v, σ) = some (r0, σ0)) (hc : cells ≤ mc) (hs : slots ≤ ms) (hdg : decode cc pc = .ok (.areturn, 1)) :
    W p l e R s m args below meth c H locs cells slots (vx_MQ below (QX (PoC G sk σ0) A0 (rvR G.2.2.2 r0)) (XX (PoC G sk σ0) A0 (rvR G.2.2.2 r0)) args s mc ms A0) (F0 m pc ls [.ref (G.2.2.2 + v)]) := by
  cases h
  exact vx_ret (W.widen hc hs (W.aret E.1 E.2.1 hr (Or.inl ⟨_, rfl⟩) (Or.inr ⟨_, rfl⟩) (fun t ht _ => ⟨⟨⟨_, rfl, rfl⟩, hW.po ht⟩, hW.2.1.F ht⟩) hW.2.1.2.2 hdg hlk))
/-- behind a call -/
theorem c_run {mc1 ms1 : Nat} {free : Addr → Prop} {P : State → Prop} {A1 : Nat → Prop} {rv : Option Value} {a : Array Value} {st0 : List Value} (hr : va_Run p l e R s m args below meth c H locs cells slots mc1 ms1 (F0 m pc ls st0) rest (QO P A1 rv a) free) (hS : va_S A0 s.heap H locs) (hA : ∀ q, A1 q → A0 q) (hf : ∀ q, free q → A0 q)
    (kk : ∀ (t : State) (H1 : Heap) (locs1 : List Loc), t.heap = H1 → P t → va_S A0 s.heap H1 locs1 → W p l e R s m args below meth c H1 locs1 (cells + mc1) (slots + ms1) Q (F0 m (pc + 3) ls (rv.toList ++ rest))) : W p l e R s m args below meth c H locs cells slots Q (F0 m pc ls st0) := by
  intro T hT X
  obtain ⟨v, st₀, t, T', L, h0, X', hL, e1, e2, ⟨⟨hv, hp⟩, hz, hk⟩, st⟩ := hr T hT X
  cases hv
  rw [h0] at hz hk
  obtain ⟨t2, a1, b1⟩ := kk t T'.heap (locs ++ L) e1.symm hp
    ⟨Nat.le_trans hS.1 (by rw [e1]; exact hz), fun q h1 h2 => by rw [e1, hk q (Nat.lt_of_lt_of_le h1 hS.1) (fun z => h2 (hA q z))]; exact hS.2.1 q h1 h2, fun q hq => by
      rcases List.mem_append.mp hq with h | h
      · exact hS.2.2 q h
      · exact hf _ (hL q h)⟩ T' rfl X'
  exact ⟨t2, st t2 a1, b1⟩
theorem c_runX {mc1 ms1 : Nat} {free : Addr → Prop} {P : State → Prop} {A1 : Nat → Prop} {rv : Nat ⊕ Option Value} {a : Array Value} {st0 : List Value} (hr : vx_Run p l e R s m args below meth c H locs cells slots mc1 ms1 (F0 m pc ls st0) rest (QX P A1 rv a) (XX P A1 rv) free) (hS : va_S A0 s.heap H locs) (hA : ∀ q, A1 q → A0 q) (hf : ∀ q, free q → A0 q)
    (kx : ∀ (ex : Nat) (ce : Cell) (q9 : Addr) (t : State) (H1 : Heap) (locs1 : List Loc), rv = .inl ex → t.heap = H1 → P t → va_S A0 s.heap H1 locs1 → H1[q9]? = some ce → ce.vm = .none → s.vm.findClass (exN ex) = some ce.cls → vx_W p l e R s m args below meth c H1 locs1 (cells + mc1) (slots + ms1) Q (F0 m pc ls rest) q9)
    (kk : ∀ (v : Option Value) (t : State) (H1 : Heap) (locs1 : List Loc), rv = .inr v → t.heap = H1 → P t → va_S A0 s.heap H1 locs1 → W p l e R s m args below meth c H1 locs1 (cells + mc1) (slots + ms1) Q (F0 m (pc + 3) ls (v.toList ++ rest))) : W p l e R s m args below meth c H locs cells slots Q (F0 m pc ls st0) := by
  have keep : ∀ {st₀ t T' : State} {L : List Loc}, st₀.heap = H → T'.heap = t.heap → (∀ q ∈ L, free q.base) → va_F A1 st₀ t → va_S A0 s.heap T'.heap (locs ++ L) := by
    intro st₀ t T' L h0 e1 hL hF
    obtain ⟨hz, hk⟩ := hF
    rw [h0] at hz hk
    exact ⟨Nat.le_trans hS.1 (by rw [e1]; exact hz), fun q h1 h2 => by rw [e1, hk q (Nat.lt_of_lt_of_le h1 hS.1) (fun z => h2 (hA q z))]; exact hS.2.1 q h1 h2, fun q hq => by
      rcases List.mem_append.mp hq with h | h
      · exact hS.2.2 q h
      · exact hf _ (hL q h)⟩
  intro T hT X
  rcases hr T hT X with ⟨v, st₀, t, T', L, h0, X', hL, e1, e2, ⟨⟨⟨w, hw, hv⟩, hp⟩, hF⟩, st⟩ | ⟨q, st₀, t, T', L, E9, ce, h0, X', hL, e1, e2, ⟨⟨⟨ex, hw, hE⟩, hp⟩, hF⟩, hce, hcv, hcl, st⟩
  · cases hv
    obtain ⟨t2, a1, b1⟩ := kk v t T'.heap (locs ++ L) hw e1.symm hp (keep h0 e1 hL hF) T' rfl X'
    exact ⟨t2, st t2 a1, b1⟩
  · obtain ⟨t2, a1, b1⟩ := kx ex ce q t T'.heap (locs ++ L) hw e1.symm hp (keep h0 e1 hL hF) (by rw [e1]; exact hce) hcv (by rw [← hE]; exact hcl) T' rfl X'
    exact ⟨t2, st.trans a1, b1⟩
theorem Wo.next (hW : Wo G sk A0 s σ H locs) {σ1 : St} {t : State} {H1 : Heap} {locs1 : List Loc} (ht : t.heap = H1) (hp : PoC G sk σ1 t) (hS : va_S A0 s.heap H1 locs1) : Wo G sk A0 s σ1 H1 locs1 := by
  unfold PoC at hp
  rw [ht] at hp
  exact ⟨hp, hS, hW.2.2⟩
/-- not caught here -/
theorem x_out {q9 : Addr} {ce : Cell} {ex : Nat} {rv : Nat ⊕ Option Value} (hW : Wo G sk A0 s σ H locs) (ht : ∀ x ∈ c.exceptionTable.toList, False) (hlk : meth.locks = false) (hce : H[q9]? = some ce) (hcv : ce.vm = .none) (hcl : s.vm.findClass (exN ex) = some ce.cls) (hrv : rv = .inl ex) (hσ : σ = σ0) (hc : cells ≤ mc) (hs : slots ≤ ms) :
    vx_W p l e R s m args below meth c H locs cells slots (vx_MQ below (QX (PoC G sk σ0) A0 rv) (XX (PoC G sk σ0) A0 rv) args s mc ms A0) (F0 m pc ls rest) q9 := by
  subst hσ
  exact vx_out (fun x hx => absurd hx (fun z => ht x z)) hlk hce hcv hcl (fun t h1 _ => ⟨⟨⟨ex, hrv, rfl⟩, hW.po h1⟩, hW.2.1.F h1⟩) hW.2.1.2.2 hc hs
end ENDS
end
section
def mnI (x z : Int32) : Int32 := if z < x then z else x
def mxI (x z : Int32) : Int32 := if x < z then z else x
def mnJ (x z : Int64) : Int64 := if z < x then z else x
def mxJ (x z : Int64) : Int64 := if z < x then x else z
def abJ (x : Int64) : Int64 := if 0 < x then x else -x
section CALLS
variable {p : Program} {l : Launch} {e : Env} {R : Room} {s : State} {m : MethodId} {args : Array Value} {below : List Frame} {meth : Method} {c : Code} {H : Heap} {locs : List Loc} {cells slots : Nat} {Q : State → Prop}
variable {cc : ByteArray} {nL : Nat} {own : String} {G : GP} {A0 : Nat → Prop} {sk : Sk} {σ σ1 : St} {pc mc ms : Nat} {ls : Array Slot} {rest st0 As : List Value}
variable {q ci idx maxL k9 : Nat} {T9 : u_T} {y : MethodName} {cc' : ByteArray} {ret : Option FieldType} {rm : Room} {host : String}
/-- the words of a method of this name: 0 by its object, 1 static -/
def yOK (y : MethodName) (n : Nat) : Prop := (y.cls ≠ "java/lang/invoke/MethodHandle" ∧ y.cls ≠ "java/lang/invoke/VarHandle") ∧ (parseMethodDescriptor y.desc).map (fun d => d.parameters.length) = some n
def wV (y : MethodName) (cc' : ByteArray) (maxL : Nat) (ret : Option FieldType) : Prop := Cond.instanceMethod y ∈ FW ∧ Cond.selects y.cls y y ∈ FW ∧ Cond.initialized y.cls ∈ FW ∧ Cond.code y cc' maxL ret ∈ FW
def wS (y : MethodName) (cc' : ByteArray) (maxL : Nat) (ret : Option FieldType) : Prop := Cond.static y ∈ FW ∧ Cond.initialized y.cls ∈ FW ∧ Cond.code y cc' maxL ret ∈ FW
theorem code_ws {s : State} {args : Array Value} {y : MethodName} {cc' : ByteArray} {maxL : Nat} {ret : Option FieldType} (h : (Cond.code y cc' maxL ret).before args s = true) : ∀ w ∈ [Cond.code y cc' maxL ret], ∀ (a' : Array Value) (U : State), s.WarmedH U.vm → w.before a' U = true := by
  intro w hw a' U hW
  rw [List.mem_singleton] at hw
  subst hw
  exact word_at hW (Or.inl rfl) h
theorem len_of {y : MethodName} {n : Nat} (h : (parseMethodDescriptor y.desc).map (fun d => d.parameters.length) = some n) : ∀ sig, parseMethodDescriptor y.desc = some sig → n = sig.parameters.length := by
  intro sig hs
  rw [hs] at h
  exact (Option.some.inj h).symm
theorem c_V {rv : Option Value} (E : En p m c s cc nL own G A0) (hW : Wo G sk A0 s σ H locs)
    (hM : Met l y [.code y cc' maxL ret] rm (va_Pc (.ref (G.2.2.2 + q) :: As) (PreC G sk H.size σ)) (QO (PoC G sk σ1) (Aw G.2.2.2 sk.1 H.size) rv) 0 0 (Aw G.2.2.2 sk.1 H.size))
    (hk : sk.2.1 q = (0, ci)) (hc : vwCl[ci]? = some (y.cls, T9, k9)) (hl : Cond.methodLink own idx y ∈ FW) (hw : wV y cc' maxL ret) (hy : yOK y As.length) (hrm : rm.cells = 0 ∧ rm.slots = 0) (hR : rm.frames + 1 ≤ R.frames ∧ 8 + (maxL + 11) + rm.locals ≤ R.locals) (hls : ls.size = nL) (hst : (rest.map fun v => v.category).sum ≤ 8) (hcs : cells ≤ R.cells ∧ slots ≤ R.slots)
    (hstack : st0 = As.reverse ++ .ref (G.2.2.2 + q) :: rest) (hdg : decode cc pc = .ok (.invokevirtual idx, 3))
    (kk : ∀ (H1 : Heap) (locs1 : List Loc), Wo G sk A0 s σ1 H1 locs1 → W p l e R s m args below meth c H1 locs1 cells slots Q (F0 m (pc + 3) ls (rv.toList ++ rest))) : W p l e R s m args below meth c H locs cells slots Q (F0 m pc ls st0) := by
  subst hstack
  have hcode := E.wd (args := args) hw.2.2.2
  refine c_run (va_runV (Ts := FW) (C := y.cls) ⟨E.1, E.2.1, E.2.2.1, E.2.2.2.1, fun w h => E.wd h⟩ hM ⟨⟨hrm.1, hrm.2, hR.1, hR.2, code_ws hcode, List.mem_singleton.mpr rfl, hcode, E.wd hw.2.2.1, hy.1, len_of hy.2, E.wd hl⟩, E.wd hw.1, E.wd hw.2.1⟩ ⟨PreC.blind, va_recv E.2.2.2.2.2.1 hW.1 hc (q0 := q) (by rw [cel_get (hW.2.2.2.1.lt hk (by decide)), cE_obj hk]), fun U hU hV => ⟨rfl, PreC.of E.2.2.2.2 hW hU hV⟩⟩ rfl rfl hls rfl (lv_room hst) hdg hcs) hW.2.1 hW.aw hW.aw (fun t H1 locs1 ht hp hS => kk H1 locs1 (hW.next ht hp hS))
theorem c_S {rv : Option Value} (E : En p m c s cc nL own G A0) (hW : Wo G sk A0 s σ H locs)
    (hM : Met l y [.code y cc' maxL ret] rm (va_Pc As (PreC G sk H.size σ)) (QO (PoC G sk σ1) (Aw G.2.2.2 sk.1 H.size) rv) 0 0 (Aw G.2.2.2 sk.1 H.size))
    (hl : Cond.methodLink own idx y ∈ FW) (hw : wS y cc' maxL ret) (hy : yOK y As.length) (hrm : rm.cells = 0 ∧ rm.slots = 0) (hR : rm.frames + 1 ≤ R.frames ∧ 8 + (maxL + 11) + rm.locals ≤ R.locals) (hls : ls.size = nL) (hst : (rest.map fun v => v.category).sum ≤ 8) (hcs : cells ≤ R.cells ∧ slots ≤ R.slots)
    (hstack : st0 = As.reverse ++ rest) (hdg : decode cc pc = .ok (.invokestatic idx, 3))
    (kk : ∀ (H1 : Heap) (locs1 : List Loc), Wo G sk A0 s σ1 H1 locs1 → W p l e R s m args below meth c H1 locs1 cells slots Q (F0 m (pc + 3) ls (rv.toList ++ rest))) : W p l e R s m args below meth c H locs cells slots Q (F0 m pc ls st0) := by
  subst hstack
  have hcode := E.wd (args := args) hw.2.2
  refine c_run (va_runS (Ts := FW) ⟨E.1, E.2.1, E.2.2.1, E.2.2.2.1, fun w h => E.wd h⟩ hM ⟨⟨hrm.1, hrm.2, hR.1, hR.2, code_ws hcode, List.mem_singleton.mpr rfl, hcode, E.wd hw.2.1, hy.1, len_of hy.2, E.wd hl⟩, E.wd hw.1⟩ ⟨PreC.blind, fun U hU hV => ⟨rfl, PreC.of E.2.2.2.2 hW hU hV⟩⟩ rfl rfl hls rfl (lv_room hst) hdg hcs) hW.2.1 hW.aw hW.aw (fun t H1 locs1 ht hp hS => kk H1 locs1 (hW.next ht hp hS))
theorem c_SN {rv : Option Value} (E : En p m c s cc nL own G A0) (hW : Wo G sk A0 s σ H locs)
    (hM : Met l y [.code y cc' maxL ret] rm (va_Pc As (PreC G sk H.size σ)) (QO (PoC G sk σ1) (Aw G.2.2.2 sk.1 H.size) rv) 0 0 (Aw G.2.2.2 sk.1 H.size))
    (hl : Cond.methodLinkNest own idx y host ∈ FW) (hw : wS y cc' maxL ret) (hy : yOK y As.length) (hrm : rm.cells = 0 ∧ rm.slots = 0) (hR : rm.frames + 1 ≤ R.frames ∧ 8 + (maxL + 11) + rm.locals ≤ R.locals) (hls : ls.size = nL) (hst : (rest.map fun v => v.category).sum ≤ 8) (hcs : cells ≤ R.cells ∧ slots ≤ R.slots)
    (hstack : st0 = As.reverse ++ rest) (hdg : decode cc pc = .ok (.invokestatic idx, 3))
    (kk : ∀ (H1 : Heap) (locs1 : List Loc), Wo G sk A0 s σ1 H1 locs1 → W p l e R s m args below meth c H1 locs1 cells slots Q (F0 m (pc + 3) ls (rv.toList ++ rest))) : W p l e R s m args below meth c H locs cells slots Q (F0 m pc ls st0) := by
  subst hstack
  have hcode := E.wd (args := args) hw.2.2
  refine c_run (va_runSN (Ts := FW) ⟨E.1, E.2.1, E.2.2.1, E.2.2.2.1, fun w h => E.wd h⟩ hM ⟨⟨⟨hrm.1, hrm.2, hR.1, hR.2, code_ws hcode, List.mem_singleton.mpr rfl⟩, hcode, E.wd hw.2.1, hy.1, len_of hy.2, E.wd hl⟩, E.wd hw.1, trivial⟩ ⟨PreC.blind, fun U hU hV => ⟨rfl, PreC.of E.2.2.2.2 hW hU hV⟩⟩ rfl rfl hls rfl (lv_room hst) hdg hcs) hW.2.1 hW.aw hW.aw (fun t H1 locs1 ht hp hS => kk H1 locs1 (hW.next ht hp hS))
theorem c_VX {rv : Nat ⊕ Option Value} {mc1 ms1 : Nat} (E : En p m c s cc nL own G A0) (hW : Wo G sk A0 s σ H locs)
    (hM : vx_Met l y [.code y cc' maxL ret] rm (va_Pc (.ref (G.2.2.2 + q) :: As) (PreC G sk H.size σ)) (QX (PoC G sk σ1) (Aw G.2.2.2 sk.1 H.size) rv) (XX (PoC G sk σ1) (Aw G.2.2.2 sk.1 H.size) rv) mc1 ms1 (Aw G.2.2.2 sk.1 H.size))
    (hk : sk.2.1 q = (0, ci)) (hc : vwCl[ci]? = some (y.cls, T9, k9)) (hl : Cond.methodLink own idx y ∈ FW) (hw : wV y cc' maxL ret) (hy : yOK y As.length) (hrm : rm.cells = mc1 ∧ rm.slots = ms1) (hR : rm.frames + 1 ≤ R.frames ∧ 8 + (maxL + 11) + rm.locals ≤ R.locals) (hls : ls.size = nL) (hst : (rest.map fun v => v.category).sum ≤ 8) (hcs : cells + mc1 ≤ R.cells ∧ slots + ms1 ≤ R.slots)
    (hstack : st0 = As.reverse ++ .ref (G.2.2.2 + q) :: rest) (hdg : decode cc pc = .ok (.invokevirtual idx, 3))
    (kx : ∀ (ex : Nat) (ce : Cell) (q9 : Addr) (H1 : Heap) (locs1 : List Loc), rv = .inl ex → Wo G sk A0 s σ1 H1 locs1 → H1[q9]? = some ce → ce.vm = .none → s.vm.findClass (exN ex) = some ce.cls → vx_W p l e R s m args below meth c H1 locs1 (cells + mc1) (slots + ms1) Q (F0 m pc ls rest) q9)
    (kk : ∀ (v : Option Value) (H1 : Heap) (locs1 : List Loc), rv = .inr v → Wo G sk A0 s σ1 H1 locs1 → W p l e R s m args below meth c H1 locs1 (cells + mc1) (slots + ms1) Q (F0 m (pc + 3) ls (v.toList ++ rest))) : W p l e R s m args below meth c H locs cells slots Q (F0 m pc ls st0) := by
  subst hstack
  have hcode := E.wd (args := args) hw.2.2.2
  refine c_runX (vx_runV (Ts := FW) (C := y.cls) ⟨E.1, E.2.1, E.2.2.1, E.2.2.2.1, fun w h => E.wd h⟩ hM ⟨⟨hrm.1, hrm.2, hR.1, hR.2, code_ws hcode, List.mem_singleton.mpr rfl, hcode, E.wd hw.2.2.1, hy.1, len_of hy.2, E.wd hl⟩, E.wd hw.1, E.wd hw.2.1⟩ ⟨PreC.blind, va_recv E.2.2.2.2.2.1 hW.1 hc (q0 := q) (by rw [cel_get (hW.2.2.2.1.lt hk (by decide)), cE_obj hk]), fun U hU hV => ⟨rfl, PreC.of E.2.2.2.2 hW hU hV⟩⟩ rfl rfl hls rfl (lv_room hst) hdg hcs) hW.2.1 hW.aw hW.aw (fun ex ce q9 t H1 locs1 hrv ht hp hS h1 h2 h3 => kx ex ce q9 H1 locs1 hrv (hW.next ht hp hS) h1 h2 h3) (fun v t H1 locs1 hrv ht hp hS => kk v H1 locs1 hrv (hW.next ht hp hS))
theorem c_SX {rv : Nat ⊕ Option Value} {mc1 ms1 : Nat} (E : En p m c s cc nL own G A0) (hW : Wo G sk A0 s σ H locs)
    (hM : vx_Met l y [.code y cc' maxL ret] rm (va_Pc As (PreC G sk H.size σ)) (QX (PoC G sk σ1) (Aw G.2.2.2 sk.1 H.size) rv) (XX (PoC G sk σ1) (Aw G.2.2.2 sk.1 H.size) rv) mc1 ms1 (Aw G.2.2.2 sk.1 H.size))
    (hl : Cond.methodLink own idx y ∈ FW) (hw : wS y cc' maxL ret) (hy : yOK y As.length) (hrm : rm.cells = mc1 ∧ rm.slots = ms1) (hR : rm.frames + 1 ≤ R.frames ∧ 8 + (maxL + 11) + rm.locals ≤ R.locals) (hls : ls.size = nL) (hst : (rest.map fun v => v.category).sum ≤ 8) (hcs : cells + mc1 ≤ R.cells ∧ slots + ms1 ≤ R.slots)
    (hstack : st0 = As.reverse ++ rest) (hdg : decode cc pc = .ok (.invokestatic idx, 3))
    (kx : ∀ (ex : Nat) (ce : Cell) (q9 : Addr) (H1 : Heap) (locs1 : List Loc), rv = .inl ex → Wo G sk A0 s σ1 H1 locs1 → H1[q9]? = some ce → ce.vm = .none → s.vm.findClass (exN ex) = some ce.cls → vx_W p l e R s m args below meth c H1 locs1 (cells + mc1) (slots + ms1) Q (F0 m pc ls rest) q9)
    (kk : ∀ (v : Option Value) (H1 : Heap) (locs1 : List Loc), rv = .inr v → Wo G sk A0 s σ1 H1 locs1 → W p l e R s m args below meth c H1 locs1 (cells + mc1) (slots + ms1) Q (F0 m (pc + 3) ls (v.toList ++ rest))) : W p l e R s m args below meth c H locs cells slots Q (F0 m pc ls st0) := by
  subst hstack
  have hcode := E.wd (args := args) hw.2.2
  refine c_runX (vx_runS (Ts := FW) ⟨E.1, E.2.1, E.2.2.1, E.2.2.2.1, fun w h => E.wd h⟩ hM ⟨⟨hrm.1, hrm.2, hR.1, hR.2, code_ws hcode, List.mem_singleton.mpr rfl, hcode, E.wd hw.2.1, hy.1, len_of hy.2, E.wd hl⟩, E.wd hw.1⟩ ⟨PreC.blind, fun U hU hV => ⟨rfl, PreC.of E.2.2.2.2 hW hU hV⟩⟩ rfl rfl hls rfl (lv_room hst) hdg hcs) hW.2.1 hW.aw hW.aw (fun ex ce q9 t H1 locs1 hrv ht hp hS h1 h2 h3 => kx ex ce q9 H1 locs1 hrv (hW.next ht hp hS) h1 h2 h3) (fun v t H1 locs1 hrv ht hp hS => kk v H1 locs1 hrv (hW.next ht hp hS))
/-- Math's own -/
theorem r_minI (E : En p m c s cc nL own G A0) (hls : ls.size = nL) {x z : Int32} (hw : Cond.methodLink own idx Lib.Math.min.name ∈ FW ∧ Cond.static Lib.Math.min.name ∈ FW ∧ Cond.initialized "java/lang/Math" ∈ FW ∧ Cond.code Lib.Math.min.name Lib.Math.min.code 2 (some .int) ∈ FW) (hR : 1 ≤ R.frames ∧ (rest.map fun v => v.category).sum + 13 ≤ R.locals) (hcs : cells ≤ R.cells ∧ slots ≤ R.slots) (hdg : decode cc pc = .ok (.invokestatic idx, 3))
    (kk : W p l e R s m args below meth c H locs cells slots Q (F0 m (pc + 3) ls (.int (mnI x z) :: rest))) : W p l e R s m args below meth c H locs cells slots Q (F0 m pc ls (.int z :: .int x :: rest)) :=
  va_mmin E.1 E.2.1 (E.2.2.1.trans hls.symm) E.2.2.2.1 (E.wd hw.1) (E.wd hw.2.1) (E.wd hw.2.2.1) (E.wd hw.2.2.2) hR.1 hR.2 hcs.1 hcs.2 hdg kk
theorem r_maxI (E : En p m c s cc nL own G A0) (hls : ls.size = nL) {x z : Int32} (hw : Cond.methodLink own idx Lib.Math.max.name ∈ FW ∧ Cond.static Lib.Math.max.name ∈ FW ∧ Cond.initialized "java/lang/Math" ∈ FW ∧ Cond.code Lib.Math.max.name Lib.Math.max.code 2 (some .int) ∈ FW) (hR : 1 ≤ R.frames ∧ (rest.map fun v => v.category).sum + 13 ≤ R.locals) (hcs : cells ≤ R.cells ∧ slots ≤ R.slots) (hdg : decode cc pc = .ok (.invokestatic idx, 3))
    (kk : W p l e R s m args below meth c H locs cells slots Q (F0 m (pc + 3) ls (.int (mxI x z) :: rest))) : W p l e R s m args below meth c H locs cells slots Q (F0 m pc ls (.int z :: .int x :: rest)) :=
  va_mmax E.1 E.2.1 (E.2.2.1.trans hls.symm) E.2.2.2.1 (E.wd hw.1) (E.wd hw.2.1) (E.wd hw.2.2.1) (E.wd hw.2.2.2) hR.1 hR.2 hcs.1 hcs.2 hdg kk
theorem r_minJ (E : En p m c s cc nL own G A0) (hls : ls.size = nL) {x z : Int64} (hw : Cond.methodLink own idx Lib.MathLoose.min_long.x ∈ FW ∧ Cond.static Lib.MathLoose.min_long.x ∈ FW ∧ Cond.initialized "java/lang/Math" ∈ FW ∧ Cond.code Lib.MathLoose.min_long.x Lib.MathLoose.min_long.code 4 (some .long) ∈ FW) (hR : 1 ≤ R.frames ∧ (rest.map fun v => v.category).sum + 15 ≤ R.locals) (hcs : cells ≤ R.cells ∧ slots ≤ R.slots) (hdg : decode cc pc = .ok (.invokestatic idx, 3))
    (kk : W p l e R s m args below meth c H locs cells slots Q (F0 m (pc + 3) ls (.long (mnJ x z) :: rest))) : W p l e R s m args below meth c H locs cells slots Q (F0 m pc ls (.long z :: .long x :: rest)) :=
  va_mmin_long E.1 E.2.1 (E.2.2.1.trans hls.symm) E.2.2.2.1 (E.wd hw.1) (E.wd hw.2.1) (E.wd hw.2.2.1) (E.wd hw.2.2.2) hR.1 hR.2 hcs.1 hcs.2 hdg kk
theorem r_maxJ (E : En p m c s cc nL own G A0) (hls : ls.size = nL) {x z : Int64} (hw : Cond.methodLink own idx Lib.MathLoose.max_long.x ∈ FW ∧ Cond.static Lib.MathLoose.max_long.x ∈ FW ∧ Cond.initialized "java/lang/Math" ∈ FW ∧ Cond.code Lib.MathLoose.max_long.x Lib.MathLoose.max_long.code 4 (some .long) ∈ FW) (hR : 1 ≤ R.frames ∧ (rest.map fun v => v.category).sum + 15 ≤ R.locals) (hcs : cells ≤ R.cells ∧ slots ≤ R.slots) (hdg : decode cc pc = .ok (.invokestatic idx, 3))
    (kk : W p l e R s m args below meth c H locs cells slots Q (F0 m (pc + 3) ls (.long (mxJ x z) :: rest))) : W p l e R s m args below meth c H locs cells slots Q (F0 m pc ls (.long z :: .long x :: rest)) :=
  va_mmax_long E.1 E.2.1 (E.2.2.1.trans hls.symm) E.2.2.2.1 (E.wd hw.1) (E.wd hw.2.1) (E.wd hw.2.2.1) (E.wd hw.2.2.2) hR.1 hR.2 hcs.1 hcs.2 hdg kk
theorem r_absJ (E : En p m c s cc nL own G A0) (hls : ls.size = nL) {x : Int64} (hw : Cond.methodLink own idx Lib.MathLoose.abs_long.x ∈ FW ∧ Cond.static Lib.MathLoose.abs_long.x ∈ FW ∧ Cond.initialized "java/lang/Math" ∈ FW ∧ Cond.code Lib.MathLoose.abs_long.x Lib.MathLoose.abs_long.code 2 (some .long) ∈ FW) (hR : 1 ≤ R.frames ∧ (rest.map fun v => v.category).sum + 13 ≤ R.locals) (hcs : cells ≤ R.cells ∧ slots ≤ R.slots) (hdg : decode cc pc = .ok (.invokestatic idx, 3))
    (kk : W p l e R s m args below meth c H locs cells slots Q (F0 m (pc + 3) ls (.long (abJ x) :: rest))) : W p l e R s m args below meth c H locs cells slots Q (F0 m pc ls (.long x :: rest)) :=
  va_mabs_long E.1 E.2.1 (E.2.2.1.trans hls.symm) E.2.2.2.1 (E.wd hw.1) (E.wd hw.2.1) (E.wd hw.2.2.1) (E.wd hw.2.2.2) hR.1 hR.2 hcs.1 hcs.2 hdg kk
/-- long compares and the branch behind them -/
theorem r_lc_lt (E : En p m c s cc nL own G A0) {x z : Int64} {off : Int} {tgt : Nat} (d1 : decode cc pc = .ok (.lcmp, 1)) (d2 : decode cc (pc + 1) = .ok (.ifCond .lt off, 3)) (ht : ((pc + 1 : Nat) : Int) + off = (tgt : Int))
    (kt : x < z → W p l e R s m args below meth c H locs cells slots Q (F0 m tgt ls rest)) (kf : ¬ x < z → W p l e R s m args below meth c H locs cells slots Q (F0 m (pc + 4) ls rest)) : W p l e R s m args below meth c H locs cells slots Q (F0 m pc ls (.long z :: .long x :: rest)) :=
  W.lcmp E.1 E.2.1 d1 (lv_if_lt E.1 E.2.1 d2 ht (fun g => kt (cmp_lt.mp g)) (fun g => kf (fun q => g (cmp_lt.mpr q))))
theorem r_lc_gt (E : En p m c s cc nL own G A0) {x z : Int64} {off : Int} {tgt : Nat} (d1 : decode cc pc = .ok (.lcmp, 1)) (d2 : decode cc (pc + 1) = .ok (.ifCond .gt off, 3)) (ht : ((pc + 1 : Nat) : Int) + off = (tgt : Int))
    (kt : z < x → W p l e R s m args below meth c H locs cells slots Q (F0 m tgt ls rest)) (kf : ¬ z < x → W p l e R s m args below meth c H locs cells slots Q (F0 m (pc + 4) ls rest)) : W p l e R s m args below meth c H locs cells slots Q (F0 m pc ls (.long z :: .long x :: rest)) :=
  W.lcmp E.1 E.2.1 d1 (lv_if_gt E.1 E.2.1 d2 ht (fun g => kt (cmp_gt.mp g)) (fun g => kf (fun q => g (cmp_gt.mpr q))))
theorem cmp_ge {x y : Int64} : 0 ≤ lg_cmp x y ↔ ¬ x < y := by
  rw [← cmp_lt, Int32.not_lt]
theorem cmp_le {x y : Int64} : lg_cmp x y ≤ 0 ↔ ¬ y < x := by
  rw [← cmp_gt, Int32.not_lt]
theorem r_lc_ge (E : En p m c s cc nL own G A0) {x z : Int64} {off : Int} {tgt : Nat} (d1 : decode cc pc = .ok (.lcmp, 1)) (d2 : decode cc (pc + 1) = .ok (.ifCond .ge off, 3)) (ht : ((pc + 1 : Nat) : Int) + off = (tgt : Int))
    (kt : ¬ x < z → W p l e R s m args below meth c H locs cells slots Q (F0 m tgt ls rest)) (kf : x < z → W p l e R s m args below meth c H locs cells slots Q (F0 m (pc + 4) ls rest)) : W p l e R s m args below meth c H locs cells slots Q (F0 m pc ls (.long z :: .long x :: rest)) :=
  W.lcmp E.1 E.2.1 d1 (lv_if_ge E.1 E.2.1 d2 ht (fun g => kt (cmp_ge.mp g)) (fun g => kf (Decidable.not_not.mp (fun q => g (cmp_ge.mpr q)))))
theorem r_lc_le (E : En p m c s cc nL own G A0) {x z : Int64} {off : Int} {tgt : Nat} (d1 : decode cc pc = .ok (.lcmp, 1)) (d2 : decode cc (pc + 1) = .ok (.ifCond .le off, 3)) (ht : ((pc + 1 : Nat) : Int) + off = (tgt : Int))
    (kt : ¬ z < x → W p l e R s m args below meth c H locs cells slots Q (F0 m tgt ls rest)) (kf : z < x → W p l e R s m args below meth c H locs cells slots Q (F0 m (pc + 4) ls rest)) : W p l e R s m args below meth c H locs cells slots Q (F0 m pc ls (.long z :: .long x :: rest)) :=
  W.lcmp E.1 E.2.1 d1 (lv_if_le E.1 E.2.1 d2 ht (fun g => kt (cmp_le.mp g)) (fun g => kf (Decidable.not_not.mp (fun q => g (cmp_le.mpr q)))))
theorem r_lc_eq (E : En p m c s cc nL own G A0) {x z : Int64} {off : Int} {tgt : Nat} (d1 : decode cc pc = .ok (.lcmp, 1)) (d2 : decode cc (pc + 1) = .ok (.ifCond .eq off, 3)) (ht : ((pc + 1 : Nat) : Int) + off = (tgt : Int))
    (kt : x = z → W p l e R s m args below meth c H locs cells slots Q (F0 m tgt ls rest)) (kf : ¬ x = z → W p l e R s m args below meth c H locs cells slots Q (F0 m (pc + 4) ls rest)) : W p l e R s m args below meth c H locs cells slots Q (F0 m pc ls (.long z :: .long x :: rest)) :=
  W.lcmp E.1 E.2.1 d1 (lv_if_eq E.1 E.2.1 d2 ht (fun g => kt (cmp_eq.mp g)) (fun g => kf (fun q => g (cmp_eq.mpr q))))
theorem r_lc_ne (E : En p m c s cc nL own G A0) {x z : Int64} {off : Int} {tgt : Nat} (d1 : decode cc pc = .ok (.lcmp, 1)) (d2 : decode cc (pc + 1) = .ok (.ifCond .ne off, 3)) (ht : ((pc + 1 : Nat) : Int) + off = (tgt : Int))
    (kt : ¬ x = z → W p l e R s m args below meth c H locs cells slots Q (F0 m tgt ls rest)) (kf : x = z → W p l e R s m args below meth c H locs cells slots Q (F0 m (pc + 4) ls rest)) : W p l e R s m args below meth c H locs cells slots Q (F0 m pc ls (.long z :: .long x :: rest)) :=
  W.lcmp E.1 E.2.1 d1 (lv_if_ne E.1 E.2.1 d2 ht (fun g => kt (fun q => g (cmp_eq.mpr q))) (fun g => kf (cmp_eq.mp g)))
end CALLS
end
section
/-! WHAT EACH PLACE IS: the class, the reference -/
set_option maxRecDepth 20000 in
def kCL : List (Nat × Nat) := [(0, 6), (0, 3), (3, 8), (0, 2), (2, 10), (0, 2), (2, 10), (0, 2), (2, 10), (0, 2), (2, 10), (0, 2), (2, 10), (0, 2), (2, 10), (0, 2), (2, 10), (0, 2), (2, 10), (0, 1), (4, 8), (0, 3), (3, 8), (0, 2), (2, 10), (0, 2), (2, 10), (0, 2), (2, 10), (0, 2), (2, 10), (0, 2), (2, 10), (0, 2), (2, 10), (0, 2), (2, 10), (0, 2), (2, 10), (0, 3), (3, 8), (0, 2), (2, 10), (0, 2), (2, 10), (0, 2), (2, 10), (0, 2), (2, 10), (0, 2), (2, 10), (0, 2), (2, 10), (0, 2), (2, 10), (0, 2), (2, 10), (0, 3), (3, 8), (0, 2), (2, 10), (0, 2), (2, 10), (0, 2), (2, 10), (0, 2), (2, 10), (0, 2), (2, 10), (0, 2), (2, 10), (0, 2), (2, 10), (0, 2), (2, 10), (0, 3), (3, 8), (0, 2), (2, 10), (0, 2), (2, 10), (0, 2), (2, 10), (0, 2), (2, 10), (0, 2), (2, 10), (0, 2), (2, 10), (0, 2), (2, 10), (0, 2), (2, 10), (0, 3), (3, 8), (0, 2), (2, 10), (0, 2), (2, 10), (0, 2), (2, 10), (0, 2), (2, 10), (0, 2), (2, 10), (0, 2), (2, 10), (0, 2), (2, 10), (0, 2), (2, 10), (0, 3), (3, 8), (0, 2), (2, 10), (0, 2), (2, 10), (0, 2), (2, 10), (0, 2), (2, 10), (0, 2), (2, 10), (0, 2), (2, 10), (0, 2), (2, 10), (0, 2), (2, 10), (0, 3), (3, 8), (0, 2), (2, 10), (0, 2), (2, 10), (0, 2), (2, 10), (0, 2), (2, 10), (0, 2), (2, 10), (0, 2), (2, 10), (0, 2), (2, 10), (0, 2), (2, 10), (0, 3), (3, 8), (0, 2), (2, 10), (0, 2), (2, 10), (0, 2), (2, 10), (0, 2), (2, 10), (0, 2), (2, 10), (0, 2), (2, 10), (0, 2), (2, 10), (0, 2), (2, 10), (0, 0), (2, 49), (0, 2), (2, 10), (0, 2), (2, 10), (0, 2), (2, 10), (0, 2), (2, 10), (0, 2), (2, 10), (0, 4), (0, 5), (1, 700), (1, 701), (1, 701), (0, 3), (3, 8), (0, 2), (2, 10), (0, 2), (2, 10), (0, 2), (2, 10), (0, 2), (2, 10), (0, 2), (2, 10), (0, 2), (2, 10), (0, 2), (2, 10), (0, 2), (2, 10), (0, 0), (2, 49), (0, 2), (2, 10), (0, 2), (2, 10), (0, 2), (2, 10), (0, 2), (2, 10), (0, 2), (2, 10), (3, 5), (3, 5), (3, 5), (3, 5), (0, 2), (2, 10), (0, 2), (2, 10), (0, 2), (2, 10), (0, 2), (2, 10), (0, 2), (2, 10), (0, 2), (2, 10), (0, 2), (2, 10), (0, 2), (2, 10), (0, 2), (2, 10), (0, 2), (2, 10), (0, 2), (2, 10), (0, 2), (2, 10), (0, 2), (2, 10), (0, 2), (2, 10), (0, 2), (2, 10), (0, 2), (2, 10), (0, 2), (2, 10), (0, 2), (2, 10), (0, 2), (2, 10), (0, 2), (2, 10), (0, 2), (2, 10)]
set_option maxRecDepth 20000 in
def rCL : List (List Nat) := [[1, 19, 165, 177, 256, 0], [2, 0], [3, 5, 7, 9, 11, 13, 15, 17], [4, 0, 0], [], [6, 0, 0], [], [8, 0, 0], [], [10, 0, 0], [], [12, 0, 0], [], [14, 0, 0], [], [16, 0, 0], [], [18, 0, 0], [], [20, 0, 0], [21, 39, 57, 75, 93, 111, 129, 147], [22, 0], [23, 25, 27, 29, 31, 33, 35, 37], [24, 0, 0], [], [26, 0, 0], [], [28, 0, 0], [], [30, 0, 0], [], [32, 0, 0], [], [34, 0, 0], [], [36, 0, 0], [], [38, 0, 0], [], [40, 0], [41, 43, 45, 47, 49, 51, 53, 55], [42, 0, 0], [], [44, 0, 0], [], [46, 0, 0], [], [48, 0, 0], [], [50, 0, 0], [], [52, 0, 0], [], [54, 0, 0], [], [56, 0, 0], [], [58, 0], [59, 61, 63, 65, 67, 69, 71, 73], [60, 0, 0], [], [62, 0, 0], [], [64, 0, 0], [], [66, 0, 0], [], [68, 0, 0], [], [70, 0, 0], [], [72, 0, 0], [], [74, 0, 0], [], [76, 0], [77, 79, 81, 83, 85, 87, 89, 91], [78, 0, 0], [], [80, 0, 0], [], [82, 0, 0], [], [84, 0, 0], [], [86, 0, 0], [], [88, 0, 0], [], [90, 0, 0], [], [92, 0, 0], [], [94, 0], [95, 97, 99, 101, 103, 105, 107, 109], [96, 0, 0], [], [98, 0, 0], [], [100, 0, 0], [], [102, 0, 0], [], [104, 0, 0], [], [106, 0, 0], [], [108, 0, 0], [], [110, 0, 0], [], [112, 0], [113, 115, 117, 119, 121, 123, 125, 127], [114, 0, 0], [], [116, 0, 0], [], [118, 0, 0], [], [120, 0, 0], [], [122, 0, 0], [], [124, 0, 0], [], [126, 0, 0], [], [128, 0, 0], [], [130, 0], [131, 133, 135, 137, 139, 141, 143, 145], [132, 0, 0], [], [134, 0, 0], [], [136, 0, 0], [], [138, 0, 0], [], [140, 0, 0], [], [142, 0, 0], [], [144, 0, 0], [], [146, 0, 0], [], [148, 0], [149, 151, 153, 155, 157, 159, 161, 163], [150, 0, 0], [], [152, 0, 0], [], [154, 0, 0], [], [156, 0, 0], [], [158, 0, 0], [], [160, 0, 0], [], [162, 0, 0], [], [164, 0, 0], [], [166, 0, 0, 167, 169, 171, 173, 175], [], [168, 0, 0], [], [170, 0, 0], [], [172, 0, 0], [], [174, 0, 0], [], [176, 0, 0], [], [178, 182, 200, 212, 213, 214, 215, 0], [179, 0, 180, 181, 0, 0, 0, 0, 0], [], [], [], [183, 0], [184, 186, 188, 190, 192, 194, 196, 198], [185, 0, 0], [], [187, 0, 0], [], [189, 0, 0], [], [191, 0, 0], [], [193, 0, 0], [], [195, 0, 0], [], [197, 0, 0], [], [199, 0, 0], [], [201, 0, 0, 202, 204, 206, 208, 210], [], [203, 0, 0], [], [205, 0, 0], [], [207, 0, 0], [], [209, 0, 0], [], [211, 0, 0], [], [216, 224, 232, 240, 248], [218, 226, 234, 242, 250], [220, 228, 236, 244, 252], [222, 230, 238, 246, 254], [217, 0, 0], [], [219, 0, 0], [], [221, 0, 0], [], [223, 0, 0], [], [225, 0, 0], [], [227, 0, 0], [], [229, 0, 0], [], [231, 0, 0], [], [233, 0, 0], [], [235, 0, 0], [], [237, 0, 0], [], [239, 0, 0], [], [241, 0, 0], [], [243, 0, 0], [], [245, 0, 0], [], [247, 0, 0], [], [249, 0, 0], [], [251, 0, 0], [], [253, 0, 0], [], [255, 0, 0], [], [257, 0, 0], []]
def kC (q : Nat) : Nat × Nat := kCL.getD q (9, 0)
def rC (q k : Nat) : Nat := (rCL.getD q []).getD k 0
def skC : Sk := (258, kC, rC)
theorem kC_len : kCL.length = 258 := by decide +kernel
theorem skC_ok : SkOK skC := by
  intro q hq
  show (kCL.getD q (9, 0)).1 = 9
  rw [List.getD_eq_getElem?_getD, List.getElem?_eq_none (by rw [kC_len]; exact hq)]
  rfl
set_option maxRecDepth 20000 in
def kRL : List (Nat × Nat) := [(0, 7), (1, 700), (1, 97), (1, 97), (5, 8), (1, 97), (1, 97), (1, 97), (1, 97), (1, 97), (1, 97), (1, 97), (1, 97), (2, 49), (2, 12), (2, 12), (2, 12), (2, 12), (6, 6), (2, 12), (2, 12), (2, 12), (2, 12), (2, 12), (2, 12), (6, 6), (2, 12), (2, 12), (2, 12), (2, 12), (2, 12), (2, 12), (6, 6), (2, 12), (2, 12), (2, 12), (2, 12), (2, 12), (2, 12), (6, 6), (2, 12), (2, 12), (2, 12), (2, 12), (2, 12), (2, 12), (2, 12), (2, 12), (2, 12), (2, 12), (2, 12), (2, 12), (2, 12)]
set_option maxRecDepth 20000 in
def rRL : List (List Nat) := [[0, 1, 0, 0, 0, 0, 0, 0, 2, 3, 4, 0, 13, 14, 15, 16, 17, 0, 18, 25, 32, 39, 46, 0, 47, 48, 49, 50, 51, 52], [], [], [], [5, 6, 7, 8, 9, 10, 11, 12], [], [], [], [], [], [], [], [], [], [], [], [], [], [19, 20, 21, 22, 23, 24], [], [], [], [], [], [], [26, 27, 28, 29, 30, 31], [], [], [], [], [], [], [33, 34, 35, 36, 37, 38], [], [], [], [], [], [], [40, 41, 42, 43, 44, 45], [], [], [], [], [], [], [], [], [], [], [], [], []]
def kR (q : Nat) : Nat × Nat := kRL.getD q (9, 0)
def rR (q k : Nat) : Nat := (rRL.getD q []).getD k 0
def skR : Sk := (53, kR, rR)
theorem kR_len : kRL.length = 53 := by decide +kernel
theorem skR_ok : SkOK skR := by
  intro q hq
  show (kRL.getD q (9, 0)).1 = 9
  rw [List.getD_eq_getElem?_getD, List.getElem?_eq_none (by rw [kR_len]; exact hq)]
  rfl
theorem jr1 {A0 β : Type} {J F : A0 → β} {a0 : A0} {y : β} (e : J = F) (h : J a0 = y) : F a0 = y := by rw [← e]; exact h
theorem jr2 {A0 A1 β : Type} {J F : A0 → A1 → β} {a0 : A0} {a1 : A1} {y : β} (e : J = F) (h : J a0 a1 = y) : F a0 a1 = y := by rw [← e]; exact h
theorem jr3 {A0 A1 A2 β : Type} {J F : A0 → A1 → A2 → β} {a0 : A0} {a1 : A1} {a2 : A2} {y : β} (e : J = F) (h : J a0 a1 a2 = y) : F a0 a1 a2 = y := by rw [← e]; exact h
theorem jr4 {A0 A1 A2 A3 β : Type} {J F : A0 → A1 → A2 → A3 → β} {a0 : A0} {a1 : A1} {a2 : A2} {a3 : A3} {y : β} (e : J = F) (h : J a0 a1 a2 a3 = y) : F a0 a1 a2 a3 = y := by rw [← e]; exact h
theorem jr5 {A0 A1 A2 A3 A4 β : Type} {J F : A0 → A1 → A2 → A3 → A4 → β} {a0 : A0} {a1 : A1} {a2 : A2} {a3 : A3} {a4 : A4} {y : β} (e : J = F) (h : J a0 a1 a2 a3 a4 = y) : F a0 a1 a2 a3 a4 = y := by rw [← e]; exact h
theorem jr6 {A0 A1 A2 A3 A4 A5 β : Type} {J F : A0 → A1 → A2 → A3 → A4 → A5 → β} {a0 : A0} {a1 : A1} {a2 : A2} {a3 : A3} {a4 : A4} {a5 : A5} {y : β} (e : J = F) (h : J a0 a1 a2 a3 a4 a5 = y) : F a0 a1 a2 a3 a4 a5 = y := by rw [← e]; exact h
theorem jr7 {A0 A1 A2 A3 A4 A5 A6 β : Type} {J F : A0 → A1 → A2 → A3 → A4 → A5 → A6 → β} {a0 : A0} {a1 : A1} {a2 : A2} {a3 : A3} {a4 : A4} {a5 : A5} {a6 : A6} {y : β} (e : J = F) (h : J a0 a1 a2 a3 a4 a5 a6 = y) : F a0 a1 a2 a3 a4 a5 a6 = y := by rw [← e]; exact h
theorem jr8 {A0 A1 A2 A3 A4 A5 A6 A7 β : Type} {J F : A0 → A1 → A2 → A3 → A4 → A5 → A6 → A7 → β} {a0 : A0} {a1 : A1} {a2 : A2} {a3 : A3} {a4 : A4} {a5 : A5} {a6 : A6} {a7 : A7} {y : β} (e : J = F) (h : J a0 a1 a2 a3 a4 a5 a6 a7 = y) : F a0 a1 a2 a3 a4 a5 a6 a7 = y := by rw [← e]; exact h
theorem jr9 {A0 A1 A2 A3 A4 A5 A6 A7 A8 β : Type} {J F : A0 → A1 → A2 → A3 → A4 → A5 → A6 → A7 → A8 → β} {a0 : A0} {a1 : A1} {a2 : A2} {a3 : A3} {a4 : A4} {a5 : A5} {a6 : A6} {a7 : A7} {a8 : A8} {y : β} (e : J = F) (h : J a0 a1 a2 a3 a4 a5 a6 a7 a8 = y) : F a0 a1 a2 a3 a4 a5 a6 a7 a8 = y := by rw [← e]; exact h
theorem jr10 {A0 A1 A2 A3 A4 A5 A6 A7 A8 A9 β : Type} {J F : A0 → A1 → A2 → A3 → A4 → A5 → A6 → A7 → A8 → A9 → β} {a0 : A0} {a1 : A1} {a2 : A2} {a3 : A3} {a4 : A4} {a5 : A5} {a6 : A6} {a7 : A7} {a8 : A8} {a9 : A9} {y : β} (e : J = F) (h : J a0 a1 a2 a3 a4 a5 a6 a7 a8 a9 = y) : F a0 a1 a2 a3 a4 a5 a6 a7 a8 a9 = y := by rw [← e]; exact h
theorem jr11 {A0 A1 A2 A3 A4 A5 A6 A7 A8 A9 A10 β : Type} {J F : A0 → A1 → A2 → A3 → A4 → A5 → A6 → A7 → A8 → A9 → A10 → β} {a0 : A0} {a1 : A1} {a2 : A2} {a3 : A3} {a4 : A4} {a5 : A5} {a6 : A6} {a7 : A7} {a8 : A8} {a9 : A9} {a10 : A10} {y : β} (e : J = F) (h : J a0 a1 a2 a3 a4 a5 a6 a7 a8 a9 a10 = y) : F a0 a1 a2 a3 a4 a5 a6 a7 a8 a9 a10 = y := by rw [← e]; exact h
theorem jr12 {A0 A1 A2 A3 A4 A5 A6 A7 A8 A9 A10 A11 β : Type} {J F : A0 → A1 → A2 → A3 → A4 → A5 → A6 → A7 → A8 → A9 → A10 → A11 → β} {a0 : A0} {a1 : A1} {a2 : A2} {a3 : A3} {a4 : A4} {a5 : A5} {a6 : A6} {a7 : A7} {a8 : A8} {a9 : A9} {a10 : A10} {a11 : A11} {y : β} (e : J = F) (h : J a0 a1 a2 a3 a4 a5 a6 a7 a8 a9 a10 a11 = y) : F a0 a1 a2 a3 a4 a5 a6 a7 a8 a9 a10 a11 = y := by rw [← e]; exact h
theorem jr13 {A0 A1 A2 A3 A4 A5 A6 A7 A8 A9 A10 A11 A12 β : Type} {J F : A0 → A1 → A2 → A3 → A4 → A5 → A6 → A7 → A8 → A9 → A10 → A11 → A12 → β} {a0 : A0} {a1 : A1} {a2 : A2} {a3 : A3} {a4 : A4} {a5 : A5} {a6 : A6} {a7 : A7} {a8 : A8} {a9 : A9} {a10 : A10} {a11 : A11} {a12 : A12} {y : β} (e : J = F) (h : J a0 a1 a2 a3 a4 a5 a6 a7 a8 a9 a10 a11 a12 = y) : F a0 a1 a2 a3 a4 a5 a6 a7 a8 a9 a10 a11 a12 = y := by rw [← e]; exact h
theorem ifp {α : Type} {c : Prop} {_ : Decidable c} {a b y : α} (h : (if c then a else b) = y) (g : c) : a = y := by rw [if_pos g] at h; exact h
theorem ifn {α : Type} {c : Prop} {_ : Decidable c} {a b y : α} (h : (if c then a else b) = y) (g : ¬ c) : b = y := by rw [if_neg g] at h; exact h
def FU : Nat := 4096
theorem bnd_x {α β : Type} {a : α} {f : α → β} {y : β} (h : bnd a f = y) : ∃ b, b = a ∧ f b = y := ⟨a, rfl, h⟩
theorem obx_r2 {α β : Type} {x : Option ((Nat ⊕ α) × St)} {g : Nat → St → Option β} {f : α → St → Option β} {y : β} (h : obx x g f = some y) : ∃ r s, x = some (r, s) ∧ (∀ e, r = .inl e → g e s = some y) ∧ (∀ a, r = .inr a → f a s = some y) := by
  match x, h with
  | some (.inr a, s), h => exact ⟨.inr a, s, rfl, (fun e q => nomatch q), (fun b q => by cases q; exact h)⟩
  | some (.inl e, s), h => exact ⟨.inl e, s, rfl, (fun b q => by cases q; exact h), (fun e q => nomatch q)⟩
theorem rvI_inl {r : Nat ⊕ Int32} {e : Nat} (h : rvI r = .inl e) : r = .inl e := by cases r <;> cases h; rfl
theorem rvJ_inl {r : Nat ⊕ Int64} {e : Nat} (h : rvJ r = .inl e) : r = .inl e := by cases r <;> cases h; rfl
theorem rvV_inl {r : Nat ⊕ Unit} {e : Nat} (h : rvV r = .inl e) : r = .inl e := by cases r <;> cases h; rfl
theorem rvR_inl {b : Nat} {r : Nat ⊕ Nat} {e : Nat} (h : rvR b r = .inl e) : r = .inl e := by cases r <;> cases h; rfl
theorem rvI_inr {r : Nat ⊕ Int32} {v : Option Value} {P : Int32 → Prop} (h : rvI r = .inr v) (hN : ∀ a, r = .inr a → P a) : ∃ a, v = some (.int a) ∧ P a := by
  cases r <;> cases h; exact ⟨_, rfl, hN _ rfl⟩
theorem rvJ_inr {r : Nat ⊕ Int64} {v : Option Value} {P : Int64 → Prop} (h : rvJ r = .inr v) (hN : ∀ a, r = .inr a → P a) : ∃ a, v = some (.long a) ∧ P a := by
  cases r <;> cases h; exact ⟨_, rfl, hN _ rfl⟩
theorem rvV_inr {r : Nat ⊕ Unit} {v : Option Value} {P : Unit → Prop} (h : rvV r = .inr v) (hN : ∀ a, r = .inr a → P a) : ∃ a, v = none ∧ P a := by
  cases r <;> cases h; exact ⟨_, rfl, hN _ rfl⟩
theorem rvR_inr {b : Nat} {r : Nat ⊕ Nat} {v : Option Value} {P : Nat → Prop} (h : rvR b r = .inr v) (hN : ∀ a, r = .inr a → P a) : ∃ a, v = some (.ref (b + a)) ∧ P a := by
  cases r <;> cases h; exact ⟨_, rfl, hN _ rfl⟩
theorem x_inI {e : Nat} {σ σ0 : St} {r0 : Nat ⊕ Int32} (h : some ((Sum.inl e : Nat ⊕ Int32), σ) = some (r0, σ0)) : rvI r0 = .inl e := by cases h; rfl
theorem x_inJ {e : Nat} {σ σ0 : St} {r0 : Nat ⊕ Int64} (h : some ((Sum.inl e : Nat ⊕ Int64), σ) = some (r0, σ0)) : rvJ r0 = .inl e := by cases h; rfl
theorem x_inV {e : Nat} {σ σ0 : St} {r0 : Nat ⊕ Unit} (h : some ((Sum.inl e : Nat ⊕ Unit), σ) = some (r0, σ0)) : rvV r0 = .inl e := by cases h; rfl
theorem x_inR {b e : Nat} {σ σ0 : St} {r0 : Nat ⊕ Nat} (h : some ((Sum.inl e : Nat ⊕ Nat), σ) = some (r0, σ0)) : rvR b r0 = .inl e := by cases h; rfl
theorem pr_eq {x : Nat × Nat} {t : Nat} (h : x.1 = t) : x = (t, x.2) := by rw [← h]
theorem lv_size {ls : Array Slot} {n : Nat} {l : List (Nat × Value)} (h : lv_has ls n l) : ls.size = n := h.1
section OUTS
variable {p : Program} {l : Launch} {e : Env} {R : Room} {s : State} {m : MethodId} {args : Array Value} {below : List Frame} {meth : Method} {c : Code} {H : Heap} {locs : List Loc} {cells slots : Nat} {G : GP} {A0 : Nat → Prop} {sk : Sk} {σ σ0 : St} {pc mc ms : Nat} {ls : Array Slot} {rest : List Value} {q9 : Addr} {ce : Cell} {ex : Nat}
theorem x_outI {r0 : Nat ⊕ Int32} (hW : Wo G sk A0 s σ H locs) (ht : ∀ x ∈ c.exceptionTable.toList, False) (hlk : meth.locks = false) (hce : H[q9]? = some ce) (hcv : ce.vm = .none) (hcl : s.vm.findClass (exN ex) = some ce.cls) (h : some ((Sum.inl ex : Nat ⊕ Int32), σ) = some (r0, σ0)) (hc : cells ≤ mc) (hs : slots ≤ ms) :
    vx_W p l e R s m args below meth c H locs cells slots (vx_MQ below (QX (PoC G sk σ0) A0 (rvI r0)) (XX (PoC G sk σ0) A0 (rvI r0)) args s mc ms A0) (F0 m pc ls rest) q9 := x_out hW ht hlk hce hcv hcl (x_inI h) (some_r h).2 hc hs
theorem x_outJ {r0 : Nat ⊕ Int64} (hW : Wo G sk A0 s σ H locs) (ht : ∀ x ∈ c.exceptionTable.toList, False) (hlk : meth.locks = false) (hce : H[q9]? = some ce) (hcv : ce.vm = .none) (hcl : s.vm.findClass (exN ex) = some ce.cls) (h : some ((Sum.inl ex : Nat ⊕ Int64), σ) = some (r0, σ0)) (hc : cells ≤ mc) (hs : slots ≤ ms) :
    vx_W p l e R s m args below meth c H locs cells slots (vx_MQ below (QX (PoC G sk σ0) A0 (rvJ r0)) (XX (PoC G sk σ0) A0 (rvJ r0)) args s mc ms A0) (F0 m pc ls rest) q9 := x_out hW ht hlk hce hcv hcl (x_inJ h) (some_r h).2 hc hs
theorem x_outV {r0 : Nat ⊕ Unit} (hW : Wo G sk A0 s σ H locs) (ht : ∀ x ∈ c.exceptionTable.toList, False) (hlk : meth.locks = false) (hce : H[q9]? = some ce) (hcv : ce.vm = .none) (hcl : s.vm.findClass (exN ex) = some ce.cls) (h : some ((Sum.inl ex : Nat ⊕ Unit), σ) = some (r0, σ0)) (hc : cells ≤ mc) (hs : slots ≤ ms) :
    vx_W p l e R s m args below meth c H locs cells slots (vx_MQ below (QX (PoC G sk σ0) A0 (rvV r0)) (XX (PoC G sk σ0) A0 (rvV r0)) args s mc ms A0) (F0 m pc ls rest) q9 := x_out hW ht hlk hce hcv hcl (x_inV h) (some_r h).2 hc hs
theorem x_outR {r0 : Nat ⊕ Nat} (hW : Wo G sk A0 s σ H locs) (ht : ∀ x ∈ c.exceptionTable.toList, False) (hlk : meth.locks = false) (hce : H[q9]? = some ce) (hcv : ce.vm = .none) (hcl : s.vm.findClass (exN ex) = some ce.cls) (h : some ((Sum.inl ex : Nat ⊕ Nat), σ) = some (r0, σ0)) (hc : cells ≤ mc) (hs : slots ≤ ms) :
    vx_W p l e R s m args below meth c H locs cells slots (vx_MQ below (QX (PoC G sk σ0) A0 (rvR G.2.2.2 r0)) (XX (PoC G sk σ0) A0 (rvR G.2.2.2 r0)) args s mc ms A0) (F0 m pc ls rest) q9 := x_out hW ht hlk hce hcv hcl (x_inR h) (some_r h).2 hc hs
variable {cc : ByteArray} {nL : Nat} {own : String}
def exUp : List String := ["java/lang/RuntimeException", "java/lang/Exception"]
theorem x_throw {rv : Nat ⊕ Option Value} (E : En p m c s cc nL own G A0) (hW : Wo G sk A0 s σ H locs) (hl9 : l.stackTraces = false) (i ex : Nat) {ik is ic : Nat} (hi : i < 17) (hn : (strAt i).1 = own ∧ (strAt i).2.1 = is) (hcls : Bundle.fit (exN ex) = true) (hk : Cond.classLink own ik (exN ex) ∈ FW) (hini : Cond.initialized (exN ex) ∈ FW) (hat : ∀ w ∈ vx_atS own ic (exN ex) exUp, w ∈ FW)
    (ht : ∀ x ∈ c.exceptionTable.toList, False) (hlk : meth.locks = false) (hrv : rv = .inl ex) (hσ : σ = σ0) (hc : cells + 1 ≤ mc) (hs : slots + 6 ≤ ms) (hRf : 5 < R.frames) (hRl : (rest.map fun v => v.category).sum + 82 ≤ R.locals) (hRc : cells + 1 ≤ R.cells) (hRs : slots + 6 ≤ R.slots) (hls : ls.size = nL)
    (d0 : decode cc pc = .ok (.new ik, 3)) (d3 : decode cc (pc + 3) = .ok (.dup, 1)) (d4 : decode cc (pc + 4) = .ok (.ldc is, 2)) (d6 : decode cc (pc + 6) = .ok (.invokespecial ic, 3)) (d9 : decode cc (pc + 9) = .ok (.athrow, 1)) :
    W p l e R s m args below meth c H locs cells slots (vx_MQ below (QX (PoC G sk σ0) A0 rv) (XX (PoC G sk σ0) A0 rv) args s mc ms A0) (F0 m pc ls rest) := by
  subst hσ
  obtain ⟨h1, h2⟩ := hn
  have hR := E.2.2.2.2.2.2.2.1 i hi
  rw [h1, h2] at hR
  have ot : ∀ w ∈ FW, vx_ot w = true := fun w hw => by
    have h := (List.mem_filter.mp hw).2
    simp only [fw_ok, Bool.and_eq_true] at h
    simp [vx_ot, h.1]
  refine vx_throwS (names := exUp) E.1 E.2.1 hl9 E.2.2.2.1 hcls (by decide +kernel) (E.wd hk) (E.wd hini) hR (fun w h => E.wd (hat w h)) (fun w hw => ?_) E.2.2.2.2.2.2.2.2.2.2.1 E.2.2.2.2.2.2.2.2.2.2.2.1 hW.2.1 (hls.trans E.2.2.1.symm) d0 d3 d4 d6 d9 (fun x hx => absurd hx (fun z => ht x z)) (by show 2 + 3 < _; exact hRf) (by show _ + (13 * (2 + 1) + 43) ≤ _; exact hRl) hRc hRs hlk (fun t hv h3 h4 => ⟨⟨⟨ex, hrv, rfl⟩, ?_⟩, ?_⟩) hW.2.1.2.2 hc hs
  · rcases List.mem_cons.mp hw with rfl | hw
    · exact ot _ hk
    · rcases List.mem_cons.mp hw with rfl | hw
      · exact ot _ hini
      · exact ot _ (hat w hw)
  · exact hW.1.kept (fun k q hq => h4 q.1 ((hW.1 k q hq).lt))
  · exact ⟨Nat.le_trans hW.2.1.1 h3, fun q h5 h6 => by rw [h4 q (Nat.lt_of_lt_of_le h5 hW.2.1.1)]; exact hW.2.1.2.1 q h5 h6⟩
end OUTS
end
